section L1A
variable {mi pc n : Nat} {M : am_M} {i : Instr} {lo : List (Nat × Value)} {st : List Value} {h : am_H}
theorem l1_one0 {u : Nat × List (Nat × Value) × List Value} (hM : am_tab[mi]? = some M) (hc : M.1.2.2.2.2.2 pc = some (i, n)) (hr : am_retv i M.2.2.1 st = none) (ht : am_tgt M.1.1 i st h = none) (h0 : am_s0 M.1.2.1 i pc lo st = some u) : am_one mi pc lo st h = some (u.1, u.2.1, u.2.2, h) := by
  unfold am_one
  rw [hM]; dsimp only
  rw [hc]; dsimp only
  rw [hr]; dsimp only
  rw [ht]; dsimp only
  rw [h0]
theorem l1_one1 {u : Nat × List Value × am_H} (hM : am_tab[mi]? = some M) (hc : M.1.2.2.2.2.2 pc = some (i, n)) (hr : am_retv i M.2.2.1 st = none) (ht : am_tgt M.1.1 i st h = none) (h0 : am_s0 M.1.2.1 i pc lo st = none) (h1 : am_s1 M.1.1 M.1.2.2.1 i pc st h = some u) : am_one mi pc lo st h = some (u.1, lo, u.2.1, u.2.2) := by
  unfold am_one
  rw [hM]; dsimp only
  rw [hc]; dsimp only
  rw [hr]; dsimp only
  rw [ht]; dsimp only
  rw [h0]; dsimp only
  rw [h1]
theorem l1_one2 {u : Nat × List Value} (hM : am_tab[mi]? = some M) (hc : M.1.2.2.2.2.2 pc = some (i, n)) (hr : am_retv i M.2.2.1 st = none) (ht : am_tgt M.1.1 i st h = none) (h0 : am_s0 M.1.2.1 i pc lo st = none) (h1 : am_s1 M.1.1 M.1.2.2.1 i pc st h = none) (h2 : am_s2 M.1.1 M.1.2.2.2.1 M.1.2.2.2.2.1 i pc st = some u) : am_one mi pc lo st h = some (u.1, lo, u.2, h) := by
  unfold am_one
  rw [hM]; dsimp only
  rw [hc]; dsimp only
  rw [hr]; dsimp only
  rw [ht]; dsimp only
  rw [h0]; dsimp only
  rw [h1]; dsimp only
  rw [h2]
end L1A
theorem l1_ld_s0 {nL pc : Nat} {i : Instr} {u : Nat × Nat × Nat} {v : Value} {lo : List (Nat × Value)} {st : List Value} (hl : l1_ld i = some u) (hg : am_get lo u.2.1 = some v) (hi : l1_is u.1 v = true) : am_s0 nL i pc lo st = some (pc + u.2.2, lo, v :: st) ∧ ∀ ret own h, am_retv i ret st = none ∧ am_tgt own i st h = none := by
  cases i <;> first
    | (exfalso; cases hl; done)
    | (cases hl; refine ⟨?_, fun _ _ _ => ⟨rfl, rfl⟩⟩; cases v <;> first | (cases hi; done) | (simp only [am_s0, hg]; done))
theorem l1_sto_s0 {nL pc : Nat} {i : Instr} {u : Nat × Nat × Nat} {v : Value} {lo : List (Nat × Value)} {r : List Value} (hl : l1_sto i = some u) (hi : l1_is u.1 v = true) (hb : Nat.blt (u.2.1 + l1_two u.1) nL = true) : ∃ lo', am_s0 nL i pc lo (v :: r) = some (pc + u.2.2, lo', r) ∧ (∀ L, l1_ag L lo → l1_ag (l1_set u.1 u.2.1 L v) lo') ∧ ∀ ret own h, am_retv i ret (v :: r) = none ∧ am_tgt own i (v :: r) h = none := by
  cases i <;> first
    | (exfalso; cases hl; done)
    | (cases hl; cases v <;> first
        | (cases hi; done)
        | (refine ⟨_, ?_, fun L ha => l1_ag_set ha, fun _ _ _ => ⟨rfl, rfl⟩⟩; simp only [l1_two, Nat.add_zero] at hb; simp only [am_s0, hb, cond_true]; done)
        | (refine ⟨_, ?_, fun L ha => l1_ag_setL ha, fun _ _ _ => ⟨rfl, rfl⟩⟩; simp only [l1_two] at hb; simp only [am_s0, hb, cond_true]; done))
theorem l1_ps_ok {mi pc : Nat} {M : am_M} {L L' : List (Option Value)} {st st' : List Value} {pc' : Nat} {lo : List (Nat × Value)} {h : am_H} (hM : am_tab[mi]? = some M) (hs : l1_ps M pc L st = some (pc', L', st')) (ha : l1_ag L lo) : ∃ lo', am_one mi pc lo st h = some (pc', lo', st', h) ∧ l1_ag L' lo' := by
  unfold l1_ps at hs
  split at hs
  · cases hs
  · rename_i x hx
    obtain ⟨i, n⟩ := x
    dsimp only at hs
    split at hs
    · rename_i u hu
      split at hs
      · rename_i v hv
        obtain ⟨hb, hs⟩ := am_cg hs
        cases hs
        obtain ⟨h0, h1⟩ := l1_ld_s0 (nL := M.1.2.1) (pc := pc) (st := st) hu (ha _ _ hv) hb
        exact ⟨lo, l1_one0 (u := (pc + u.2.2, lo, v :: st)) hM hx (h1 _ M.1.1 h).1 (h1 M.2.2.1 _ h).2 h0, ha⟩
      · cases hs
    · rename_i hl
      split at hs
      · rename_i u hu
        split at hs
        · rename_i v r
          obtain ⟨hb, hs⟩ := am_cg hs
          cases hs
          obtain ⟨hb1, hb2⟩ := am_b2 hb
          obtain ⟨lo', h0, h1, h2⟩ := l1_sto_s0 (nL := M.1.2.1) (pc := pc) (lo := lo) (r := st') hu hb1 hb2
          exact ⟨lo', l1_one0 (u := (pc + u.2.2, lo', st')) hM hx (h2 _ M.1.1 h).1 (h2 M.2.2.1 _ h).2 h0, h1 L ha⟩
        · cases hs
      · rename_i hsto
        split at hs
        · rename_i k d
          split at hs
          · rename_i y hy
            obtain ⟨hb, hs⟩ := am_cg hs
            cases hs
            refine ⟨am_set lo k (.int (y + Int32.ofInt d)), l1_one0 (u := (pc + 3, am_set lo k (.int (y + Int32.ofInt d)), st)) hM hx rfl rfl ?_, l1_ag_set ha⟩
            simp only [am_s0, ha _ _ hy, hb, cond_true]
          · cases hs
        · rename_i idx
          split at hs
          · rename_i v hv
            cases hs
            exact ⟨lo, l1_one1 (u := (pc + 2, .int v :: st, h)) hM hx rfl rfl rfl (by simp only [am_s1, hv]), ha⟩
          · rename_i hn
            split at hs
            · rename_i j hj
              cases hs
              exact ⟨lo, l1_one2 (u := (pc + 2, .ref (1000000100 + j) :: st)) hM hx rfl rfl rfl (by simp only [am_s1, hn]) (by simp only [am_s2, hj]), ha⟩
            · cases hs
        · rename_i idx
          split at hs
          · rename_i v hv
            cases hs
            exact ⟨lo, l1_one1 (u := (pc + 3, .int v :: st, h)) hM hx rfl rfl rfl (by simp only [am_s1, hv]), ha⟩
          · cases hs
        · rename_i idx
          split at hs
          · rename_i v hv
            cases hs
            exact ⟨lo, l1_one1 (u := (pc + 3, .long v :: st, h)) hM hx rfl rfl rfl (by simp only [am_s1, hv]), ha⟩
          · cases hs
        · rename_i idx
          split at hs
          · rename_i j hj
            cases hs
            exact ⟨lo, l1_one2 (u := (pc + 3, .ref (1000000000 + j) :: st)) hM hx rfl rfl rfl rfl (by simp only [am_s2, hj]), ha⟩
          · cases hs
        · split at hs
          · rename_i u hu
            cases hs
            have hf : l1_fr i = true := by
              clear hu
              cases i <;> first
                | rfl
                | (exfalso; cases hl; done)
                | (exfalso; cases hsto; done)
                | (exfalso; simp_all; done)
            obtain ⟨h0, h1⟩ := l1_s0_fr hf hu lo
            exact ⟨lo, l1_one0 (u := (u.1, lo, u.2.2)) hM hx (h1 _ M.1.1 h).1 (h1 M.2.2.1 _ h).2 h0, ha⟩
          · cases hs
noncomputable def l1_pm (M : am_M) : Nat → Nat → List (Option Value) → List Value → Option (Nat × List (Option Value) × List Value)
  | 0, pc, L, st => some (pc, L, st)
  | k + 1, pc, L, st => match l1_ps M pc L st with
    | some u => l1_pm M k u.1 u.2.1 u.2.2
    | none => none
theorem l1_pm_E {mi : Nat} {M : am_M} (hM : am_tab[mi]? = some M) : ∀ {k pc pc' : Nat} {L L' : List (Option Value)} {st st' : List Value} {lo : List (Nat × Value)}, l1_pm M k pc L st = some (pc', L', st') → l1_ag L lo → ∀ h, ∃ lo', l1_ag L' lo' ∧ ∀ o h', l1_E mi pc' lo' st' h o h' → l1_E mi pc lo st h o h' := by
  intro k
  induction k with
  | zero => intro pc pc' L L' st st' lo hs ha h; cases hs; exact ⟨lo, ha, fun _ _ q => q⟩
  | succ k ih =>
    intro pc pc' L L' st st' lo hs ha h
    unfold l1_pm at hs
    split at hs
    · rename_i u hu
      obtain ⟨p1, L1, s1⟩ := u
      obtain ⟨lo1, h1, a1⟩ := l1_ps_ok (h := h) hM hu ha
      obtain ⟨lo2, a2, h2⟩ := ih hs a1 h
      exact ⟨lo2, a2, fun o h' q => l1_E.one h1 (h2 o h' q)⟩
    · cases hs
/-! what stands in the heap -/
noncomputable def l1_ty (ci j : Nat) : Nat := match ci with
  | 0 => 2
  | 1 => bif Nat.beq j 0 then 2 else 0
  | 2 => bif Nat.blt j 3 then 2 else 0
  | 3 => 2
  | 4 => bif Nat.blt j 6 then 2 else 0
  | 6 => bif Nat.blt j 2 then 2 else 0
  | 7 => bif Nat.beq j 0 then 2 else 0
  | 8 => bif Nat.beq j 0 then 2 else 0
  | 9 => bif Nat.blt j 9 then 2 else 0
  | 10 => bif Nat.blt j 8 then 2 else 3
  | 11 => bif Nat.beq j 21 then 1 else bif [1, 3, 9, 10, 11, 12, 13, 15, 17, 22, 27, 28, 29, 31, 36, 37, 38].contains j then 2 else 0
  | 21 => 1
  | 23 => 2
  | 24 => 3
  | _ => 0
noncomputable def l1_rf (o ci j : Nat) : Nat := match ci with
  | 1 => o + 1
  | 2 => o + (1 + j)
  | 6 => o + (1 + 2 * j)
  | 7 => 3
  | 8 => o + 1
  | 9 => [3, 7, 9, 12, 16, 20, 24, 28, 32].getD j 0
  | 10 => [1, 3, 5, 7, 9, 10, 11, 33].getD j 0
  | 11 => [0, 202, 0, 203, 0, 0, 0, 0, 0, 204, 205, 206, 207, 208, 0, 209, 0, 210, 0, 0, 0, 0, 211, 0, 0, 0, 0, 212, 213, 214, 0, 215, 0, 0, 0, 0, 216, 217, 218].getD j 0
  | 23 => 34 + j
  | _ => [3, 5, 9, 10, 11, 7].getD j 0
noncomputable def l1_ct (c : hS) (o ci j : Nat) : Value := match l1_ty ci j with
  | 0 => .int (c.1 o j)
  | 1 => .long (c.2.1 o j)
  | 2 => .ref (l1_rf o ci j)
  | _ => .ref (c.2.2 o j)
noncomputable def l1_wd (ci o : Nat) : Nat := bif Nat.blt ci 20 then am_nf ci else ln o
noncomputable def l1_R (kf : Nat → Nat) (c : hS) (h : am_H) : Prop := ∀ o, kf o < 99 → o < h.1 ∧ (h.2.2.2 o).1 = kf o ∧ (h.2.2.2 o).2.1 = ln o ∧ ∀ j, j < l1_wd (kf o) o → (h.2.2.2 o).2.2 j = l1_ct c o (kf o) j
noncomputable def l1_em (kf : Nat → Nat) (Q : hS → am_H → Prop) : Prop := ∀ c h, Q c h → h.1 = 220 ∧ l1_R kf c h ∧ ∀ (o : Nat) (f : Nat → Value) (c' : hS), kf o < 99 → (∀ q, q ≠ o → ∀ j, l1_ct c' q (kf q) j = l1_ct c q (kf q) j) → (∀ j, j < l1_wd (kf o) o → f j = l1_ct c' o (kf o) j) → Q c' (am_put h o (kf o, ln o, f))
noncomputable def l1_G {α : Type} (w : α → Option Value ⊕ Nat) (Q : hS → am_H → Prop) (mi pc : Nat) (L : List (Option Value)) (st : List Value) (c : hS) (X : Option (α × hS)) : Prop := ∀ a c', X = some (a, c') → ∀ h lo, Q c h → l1_ag L lo → ∃ h', l1_E mi pc lo st h (w a) h' ∧ Q c' h'
noncomputable def l1_T {α : Type} (w : α → Option Value) (Q : hS → am_H → Prop) (mi : Nat) (av : List Value) (c : hS) (X : Option (α × hS)) : Prop := ∀ a c', X = some (a, c') → ∀ h, Q c h → ∃ h', am_T mi av h (w a) h' ∧ Q c' h'
noncomputable def l1_OA (q : Nat) (a : List Int32) : Prop := am_fnd am_oal q = some a ∧ 1000 ≤ q
noncomputable def l1_OT (q : Nat) (a : List Int32) : Prop := am_fnd am_otl q = some a ∧ 1000 ≤ q
theorem l1_b99 {a : Nat} (h : Nat.blt a 99 = true) : a < 99 := Nat.blt_eq.mp h
section L1B
variable {α β : Type} {w : α → Option Value ⊕ Nat} {Q : hS → am_H → Prop} {kf : Nat → Nat} {mi pc n : Nat} {M M' : am_M} {L L' : List (Option Value)} {st st' : List Value} {c : hS} {X Y : Option (α × hS)}
theorem l1_of {w : α → Option Value} {av : List Value} (hG : l1_G (wN w) Q mi 0 L [] c X) (ha : l1_agl 0 L (lv_args 0 av)) : l1_T w Q mi av c X := fun a c' hX h hq => hG a c' hX h _ hq (l1_ag_of ha)
theorem l1_none : l1_G w Q mi pc L st c none := fun _ _ hX => by cases hX
theorem l1_many {pc' : Nat} (hM : am_tab[mi]? = some M) (k : Nat) (hp : l1_pm M k pc L st = some (pc', L', st')) (hG : l1_G w Q mi pc' L' st' c X) : l1_G w Q mi pc L st c X := by
  intro a c' hX h lo hq ha
  obtain ⟨lo', a', hE⟩ := l1_pm_E hM hp ha h
  obtain ⟨h', e', q'⟩ := hG a c' hX h lo' hq a'
  exact ⟨h', hE _ _ e', q'⟩
theorem l1_weak {m : List Bool} (hm : l1_trim (l1_msk m L) = L') (hG : l1_G w Q mi pc L' st c X) : l1_G w Q mi pc L st c X := by
  intro a c' hX h lo hq ha
  exact hG a c' hX h lo hq (fun k v hk => ha k v (l1_msk_at (l1_trim_at (by rw [hm]; exact hk))))
theorem l1_ite {p : Prop} [Decidable p] (h1 : p → l1_G w Q mi pc L st c X) (h2 : ¬ p → l1_G w Q mi pc L st c Y) : l1_G w Q mi pc L st c (if p then X else Y) := by
  by_cases hp : p
  · rw [if_pos hp]; exact h1 hp
  · rw [if_neg hp]; exact h2 hp
theorem l1_bif {b : Bool} {t f : Nat} {p : Prop} [Decidable p] (hb : b = decide p) (h1 : l1_G w Q mi t L st c X) (h2 : l1_G w Q mi f L st c Y) : l1_G w Q mi (bif b then t else f) L st c (if p then X else Y) := by
  subst hb
  by_cases hp : p
  · rw [if_pos hp, decide_eq_true hp]; exact h1
  · rw [if_neg hp, decide_eq_false hp]; exact h2
theorem l1_bin {b : Bool} {t f : Nat} {p : Prop} [Decidable p] (hb : b = !decide p) (h1 : l1_G w Q mi f L st c X) (h2 : l1_G w Q mi t L st c Y) : l1_G w Q mi (bif b then t else f) L st c (if p then X else Y) := by
  subst hb
  by_cases hp : p
  · rw [if_pos hp, decide_eq_true hp]; exact h1
  · rw [if_neg hp, decide_eq_false hp]; exact h2
theorem l1_ck {b : Bool} (hG : b = true → l1_G w Q mi pc L st c X) : l1_G w Q mi pc L st c (bif b then X else none) := by
  cases b with
  | true => exact hG rfl
  | false => exact l1_none
theorem l1_opt {x : Option Nat} {K : Nat → Option (α × hS)} (h0 : l1_G w Q mi pc L (.null :: st) c X) (h1 : ∀ y, l1_G w Q mi pc L (.ref y :: st) c (K y)) : l1_G w Q mi pc L (l1_mv x :: st) c (opt x X K) := by
  cases x with
  | none => exact h0
  | some y => exact h1 y
/-- one step that leaves the state -/
theorem l1_step {pc' : Nat} (hs : ∀ h lo, Q c h → l1_ag L lo → am_one mi pc lo st h = some (pc', lo, st', h)) (hG : l1_G w Q mi pc' L st' c X) : l1_G w Q mi pc L st c X := by
  intro a c' hX h lo hq ha
  obtain ⟨h', e', q'⟩ := hG a c' hX h lo hq ha
  exact ⟨h', l1_E.one (hs h lo hq ha) e', q'⟩
/-- one step that changes it -/
theorem l1_stepS {pc' : Nat} {c1 : hS} {K : hS → Option (α × hS)} (hs : ∀ h lo, Q c h → l1_ag L lo → ∃ h1, am_one mi pc lo st h = some (pc', lo, st', h1) ∧ Q c1 h1) (hG : ∀ c1, l1_G w Q mi pc' L st' c1 (K c1)) : l1_G w Q mi pc L st c (st1 c1 K) := by
  intro a c' hX h lo hq ha
  obtain ⟨h1, e1, q1⟩ := hs h lo hq ha
  obtain ⟨h', e', q'⟩ := hG c1 a c' hX h1 lo q1 ha
  exact ⟨h', l1_E.one e1 e', q'⟩
theorem l1_sw {i : Instr} {pc' : Nat} (hM : am_tab[mi]? = some M) (hc : M.1.2.2.2.2.2 pc = some (i, n)) (hf : l1_fr i = true) (h0 : am_s0 M.1.2.1 i pc [] st = some (pc', [], st')) (hG : l1_G w Q mi pc' L st' c X) : l1_G w Q mi pc L st c X := by
  refine l1_step (fun h lo _ _ => ?_) hG
  obtain ⟨h0, h1⟩ := l1_s0_fr hf h0 lo
  exact l1_one0 (u := (pc', lo, st')) hM hc (h1 _ M.1.1 h).1 (h1 M.2.2.1 _ h).2 h0
theorem l1_rem {x y : Int32} (hM : am_tab[mi]? = some M) (hc : M.1.2.2.2.2.2 pc = some (.irem, n)) (hG : l1_G w Q mi (pc + 1) L (.int (j_rem x y) :: st) c X) : l1_G w Q mi pc L (.int y :: .int x :: st) c (if y = 0 then none else X) := by
  refine l1_ite (fun _ => l1_none) (fun hy => ?_)
  refine l1_step (fun h lo _ _ => ?_) hG
  exact l1_one0 (u := (pc + 1, lo, .int (j_rem x y) :: st)) hM hc rfl rfl (by simp only [am_s0, if_neg hy]; rfl)
theorem l1_ret {i : Instr} {a : α} {v : Option Value} (hM : am_tab[mi]? = some M) (hc : M.1.2.2.2.2.2 pc = some (i, n)) (hr : am_retv i M.2.2.1 st = some v) (hw : w a = .inl v) : l1_G w Q mi pc L st c (some (a, c)) := by
  intro a' c' hX h lo hq ha
  cases hX
  refine ⟨h, ?_, hq⟩
  rw [hw]
  exact am_P.ret hM hc hr
theorem l1_retZ {a : α} {x : Int32} (hM : am_tab[mi]? = some M) (hc : M.1.2.2.2.2.2 pc = some (.ireturn, n)) (hr : M.2.2.1 = some .boolean) (hw : w a = .inl (some (.int x))) (hz : j_b x = true) : l1_G w Q mi pc L [.int x] c (some (a, c)) := by
  refine l1_ret hM hc (v := some (.int x)) ?_ hw
  rw [hr]
  show (bif am_rok (some .boolean) x then some (some (Value.int x)) else none) = _
  rw [show am_rok (some .boolean) x = true from hz]
  rfl
theorem l1_thr {w : α → Option Value} {Q : hS → am_H → Prop} : l1_G (wT w) Q mi pc L [] c (some (.inr pc, c)) := by
  intro a' c' hX h lo hq ha
  cases hX
  exact ⟨h, ⟨0, 0, lo, rfl⟩, hq⟩
/-! the heap -/
theorem l1_at (hQ : l1_em kf Q) {o ci : Nat} {h : am_H} (hq : Q c h) (hk : kf o = ci) (hci : ci < 99) : o < h.1 ∧ (h.2.2.2 o).1 = ci ∧ (h.2.2.2 o).2.1 = ln o ∧ ∀ j, j < l1_wd ci o → (h.2.2.2 o).2.2 j = l1_ct c o ci j := by
  have := (hQ c h hq).2.1 o (by rw [hk]; exact hci)
  rw [hk] at this
  exact this
theorem l1_20 {ci o k : Nat} (h : Nat.blt ci 20 = true) (hw : Nat.blt k (am_nf ci) = true) : k < l1_wd ci o ∧ ci < 99 := by
  unfold l1_wd
  rw [h]
  exact ⟨Nat.blt_eq.mp hw, Nat.lt_trans (Nat.blt_eq.mp h) (by decide)⟩
theorem l1_getf (hQ : l1_em kf Q) (hM : am_tab[mi]? = some M) {idx o ci k a b : Nat} (hc : M.1.2.2.2.2.2 pc = some (.getfield idx, n)) (hk : kf o = ci) (h20 : Nat.blt ci 20 = true) (hf : am_find (am_ft M.1.1) idx ci = some (k, a, b)) (hw : Nat.blt k (am_nf ci) = true) (hG : l1_G w Q mi (pc + 3) L (l1_ct c o ci k :: st) c X) : l1_G w Q mi pc L (.ref o :: st) c X := by
  refine l1_step (fun h lo hq ha => ?_) hG
  obtain ⟨w1, w2⟩ := l1_20 (o := o) h20 hw
  obtain ⟨o1, o2, o3, o4⟩ := l1_at hQ hq hk w2
  refine l1_one1 (u := (pc + 3, l1_ct c o ci k :: st, h)) hM hc rfl rfl rfl ?_
  simp only [am_s1, am_bt o1, cond_true, o2, hf]
  rw [o4 k w1]
theorem l1_getI (hQ : l1_em kf Q) (hM : am_tab[mi]? = some M) {idx o ci k a b : Nat} (hc : M.1.2.2.2.2.2 pc = some (.getfield idx, n)) (hk : kf o = ci) (h20 : Nat.blt ci 20 = true) (hf : am_find (am_ft M.1.1) idx ci = some (k, a, b)) (ht : l1_ty ci k = 0) (hw : Nat.blt k (am_nf ci) = true) (hG : l1_G w Q mi (pc + 3) L (.int (c.1 o k) :: st) c X) : l1_G w Q mi pc L (.ref o :: st) c X :=
  l1_getf hQ hM hc hk h20 hf hw (by unfold l1_ct; rw [ht]; exact hG)
theorem l1_getJ (hQ : l1_em kf Q) (hM : am_tab[mi]? = some M) {idx o ci k a b : Nat} (hc : M.1.2.2.2.2.2 pc = some (.getfield idx, n)) (hk : kf o = ci) (h20 : Nat.blt ci 20 = true) (hf : am_find (am_ft M.1.1) idx ci = some (k, a, b)) (ht : l1_ty ci k = 1) (hw : Nat.blt k (am_nf ci) = true) (hG : l1_G w Q mi (pc + 3) L (.long (c.2.1 o k) :: st) c X) : l1_G w Q mi pc L (.ref o :: st) c X :=
  l1_getf hQ hM hc hk h20 hf hw (by unfold l1_ct; rw [ht]; exact hG)
theorem l1_getR (hQ : l1_em kf Q) (hM : am_tab[mi]? = some M) {idx o ci k a b q : Nat} (hc : M.1.2.2.2.2.2 pc = some (.getfield idx, n)) (hk : kf o = ci) (h20 : Nat.blt ci 20 = true) (hf : am_find (am_ft M.1.1) idx ci = some (k, a, b)) (ht : l1_ty ci k = 2) (hw : Nat.blt k (am_nf ci) = true) (hr : l1_rf o ci k = q) (hG : l1_G w Q mi (pc + 3) L (.ref q :: st) c X) : l1_G w Q mi pc L (.ref o :: st) c X :=
  l1_getf hQ hM hc hk h20 hf hw (by unfold l1_ct; rw [ht, hr]; exact hG)
theorem l1_getM (hQ : l1_em kf Q) (hM : am_tab[mi]? = some M) {idx o ci k a b : Nat} (hc : M.1.2.2.2.2.2 pc = some (.getfield idx, n)) (hk : kf o = ci) (h20 : Nat.blt ci 20 = true) (hf : am_find (am_ft M.1.1) idx ci = some (k, a, b)) (ht : l1_ty ci k = 3) (hw : Nat.blt k (am_nf ci) = true) (hG : kc (c.2.2 o k) = 8 → l1_G w Q mi (pc + 3) L (.ref (c.2.2 o k) :: st) c X) : l1_G w Q mi pc L (.ref o :: st) c (bif Nat.beq (kc (c.2.2 o k)) 8 then X else none) :=
  l1_ck (fun hx => l1_getf hQ hM hc hk h20 hf hw (by unfold l1_ct; rw [ht]; exact hG (Nat.eq_of_beq_eq_true hx)))
theorem l1_upI (hQ : l1_em kf Q) {o ci k : Nat} {x : Int32} {h : am_H} (hq : Q c h) (hk : kf o = ci) (hci : ci < 99) (ht : l1_ty ci k = 0) : Q (sI c o k x) (am_put h o (ci, ln o, am_up (h.2.2.2 o).2.2 k (.int x))) := by
  obtain ⟨o1, o2, o3, o4⟩ := l1_at hQ hq hk hci
  subst hk
  refine (hQ c h hq).2.2 o _ _ hci (fun q hqo j => ?_) (fun j hj => ?_)
  · unfold l1_ct
    split <;> first | rfl | (simp only [sI]; rw [if_neg (fun e => hqo e.1)])
  · by_cases e : j = k
    · subst e
      rw [am_up_s]
      unfold l1_ct
      rw [ht]
      simp [sI]
    · rw [am_up_n e, o4 j hj]
      unfold l1_ct
      split <;> first | rfl | (simp only [sI]; rw [if_neg (fun q => e q.2)])
theorem l1_upJ (hQ : l1_em kf Q) {o ci k : Nat} {x : Int64} {h : am_H} (hq : Q c h) (hk : kf o = ci) (hci : ci < 99) (ht : l1_ty ci k = 1) : Q (sJ c o k x) (am_put h o (ci, ln o, am_up (h.2.2.2 o).2.2 k (.long x))) := by
  obtain ⟨o1, o2, o3, o4⟩ := l1_at hQ hq hk hci
  subst hk
  refine (hQ c h hq).2.2 o _ _ hci (fun q hqo j => ?_) (fun j hj => ?_)
  · unfold l1_ct
    split <;> first | rfl | (simp only [sJ]; rw [if_neg (fun e => hqo e.1)])
  · by_cases e : j = k
    · subst e
      rw [am_up_s]
      unfold l1_ct
      rw [ht]
      simp [sJ]
    · rw [am_up_n e, o4 j hj]
      unfold l1_ct
      split <;> first | rfl | (simp only [sJ]; rw [if_neg (fun q => e q.2)])
theorem l1_upR (hQ : l1_em kf Q) {o ci k : Nat} {x : Nat} {h : am_H} (hq : Q c h) (hk : kf o = ci) (hci : ci < 99) (ht : l1_ty ci k = 3) : Q (sR c o k x) (am_put h o (ci, ln o, am_up (h.2.2.2 o).2.2 k (.ref x))) := by
  obtain ⟨o1, o2, o3, o4⟩ := l1_at hQ hq hk hci
  subst hk
  refine (hQ c h hq).2.2 o _ _ hci (fun q hqo j => ?_) (fun j hj => ?_)
  · unfold l1_ct
    split <;> first | rfl | (simp only [sR]; rw [if_neg (fun e => hqo e.1)])
  · by_cases e : j = k
    · subst e
      rw [am_up_s]
      unfold l1_ct
      rw [ht]
      simp [sR]
    · rw [am_up_n e, o4 j hj]
      unfold l1_ct
      split <;> first | rfl | (simp only [sR]; rw [if_neg (fun q => e q.2)])
theorem l1_fz {ci j : Nat} {x : Int32} (ht : am_ty0 ci j = .boolean) (hz : j_b x = true) : am_fit (am_ty0 ci j) (.int x) = true := by
  rw [ht]
  exact hz
theorem l1_putI (hQ : l1_em kf Q) (hM : am_tab[mi]? = some M) {idx o ci k a : Nat} {x : Int32} {K : hS → Option (α × hS)} (hc : M.1.2.2.2.2.2 pc = some (.putfield idx, n)) (hk : kf o = ci) (h20 : Nat.blt ci 20 = true) (hf : am_find (am_ft M.1.1) idx ci = some (k, a, 0)) (ht : l1_ty ci k = 0) (hw : Nat.blt k (am_nf ci) = true) (hfit : am_fit (am_ty0 ci k) (.int x) = true) (hG : ∀ c1, l1_G w Q mi (pc + 3) L st c1 (K c1)) : l1_G w Q mi pc L (.int x :: .ref o :: st) c (st1 (sI c o k x) K) := by
  refine l1_stepS (fun h lo hq ha => ?_) hG
  obtain ⟨w1, w2⟩ := l1_20 (o := o) h20 hw
  obtain ⟨o1, o2, o3, o4⟩ := l1_at hQ hq hk w2
  refine ⟨am_put h o (ci, ln o, am_up (h.2.2.2 o).2.2 k (.int x)), ?_, l1_upI hQ hq hk w2 ht⟩
  refine l1_one1 (u := (pc + 3, st, am_put h o (ci, ln o, am_up (h.2.2.2 o).2.2 k (.int x)))) hM hc rfl rfl rfl ?_
  simp only [am_s1, am_bt o1, cond_true, o2, o3, hf, hfit, Nat.beq_refl, Bool.true_or, Bool.and_self]
theorem l1_putJ (hQ : l1_em kf Q) (hM : am_tab[mi]? = some M) {idx o ci k a : Nat} {x : Int64} {K : hS → Option (α × hS)} (hc : M.1.2.2.2.2.2 pc = some (.putfield idx, n)) (hk : kf o = ci) (h20 : Nat.blt ci 20 = true) (hf : am_find (am_ft M.1.1) idx ci = some (k, a, 0)) (ht : l1_ty ci k = 1) (hw : Nat.blt k (am_nf ci) = true) (hfit : am_fit (am_ty0 ci k) (.long x) = true) (hG : ∀ c1, l1_G w Q mi (pc + 3) L st c1 (K c1)) : l1_G w Q mi pc L (.long x :: .ref o :: st) c (st1 (sJ c o k x) K) := by
  refine l1_stepS (fun h lo hq ha => ?_) hG
  obtain ⟨w1, w2⟩ := l1_20 (o := o) h20 hw
  obtain ⟨o1, o2, o3, o4⟩ := l1_at hQ hq hk w2
  refine ⟨am_put h o (ci, ln o, am_up (h.2.2.2 o).2.2 k (.long x)), ?_, l1_upJ hQ hq hk w2 ht⟩
  refine l1_one1 (u := (pc + 3, st, am_put h o (ci, ln o, am_up (h.2.2.2 o).2.2 k (.long x)))) hM hc rfl rfl rfl ?_
  simp only [am_s1, am_bt o1, cond_true, o2, o3, hf, hfit, Nat.beq_refl, Bool.true_or, Bool.and_self]
theorem l1_putM (hQ : l1_em kf Q) (hM : am_tab[mi]? = some M) {idx o ci k a x : Nat} {K : hS → Option (α × hS)} (hc : M.1.2.2.2.2.2 pc = some (.putfield idx, n)) (hk : kf o = ci) (h20 : Nat.blt ci 20 = true) (hf : am_find (am_ft M.1.1) idx ci = some (k, a, 0)) (ht : l1_ty ci k = 3) (hw : Nat.blt k (am_nf ci) = true) (hfit : am_fit (am_ty0 ci k) (.ref x) = true) (hG : ∀ c1, l1_G w Q mi (pc + 3) L st c1 (K c1)) : l1_G w Q mi pc L (.ref x :: .ref o :: st) c (st1 (sR c o k x) K) := by
  refine l1_stepS (fun h lo hq ha => ?_) hG
  obtain ⟨w1, w2⟩ := l1_20 (o := o) h20 hw
  obtain ⟨o1, o2, o3, o4⟩ := l1_at hQ hq hk w2
  refine ⟨am_put h o (ci, ln o, am_up (h.2.2.2 o).2.2 k (.ref x)), ?_, l1_upR hQ hq hk w2 ht⟩
  refine l1_one1 (u := (pc + 3, st, am_put h o (ci, ln o, am_up (h.2.2.2 o).2.2 k (.ref x)))) hM hc rfl rfl rfl ?_
  simp only [am_s1, am_bt o1, cond_true, o2, o3, hf, hfit, Nat.beq_refl, Bool.true_or, Bool.and_self]
theorem l1_jin {j : Int32} {m : Nat} (h : j_in j m = true) : am_in j m = true ∧ j.toNatClampNeg < m := ⟨h, by
  unfold j_in at h
  exact Nat.blt_eq.mp (am_b2 h).2⟩
theorem l1_ald (hQ : l1_em kf Q) (hM : am_tab[mi]? = some M) {o : Nat} {j : Int32} (hc : M.1.2.2.2.2.2 pc = some (.iaload, n)) (hk : kf o = 20) (hx : j_in j (ln o) = true) (hG : l1_G w Q mi (pc + 1) L (.int (c.1 o j.toNatClampNeg) :: st) c X) : l1_G w Q mi pc L (.int j :: .ref o :: st) c X := by
  refine l1_step (fun h lo hq ha => ?_) hG
  obtain ⟨x1, x2⟩ := l1_jin hx
  obtain ⟨o1, o2, o3, o4⟩ := l1_at hQ hq hk (by decide)
  refine l1_one1 (u := (pc + 1, .int (c.1 o j.toNatClampNeg) :: st, h)) hM hc rfl rfl rfl ?_
  simp only [am_s1, am_bt o1, cond_true, o2, o3, x1, Nat.beq_refl, Bool.and_self]
  rw [o4 _ (show _ < ln o from x2)]
  rfl
theorem l1_bld (hQ : l1_em kf Q) (hM : am_tab[mi]? = some M) {o : Nat} {j : Int32} (hc : M.1.2.2.2.2.2 pc = some (.baload, n)) (hk : kf o = 22) (hx : j_in j (ln o) = true) (hG : l1_G w Q mi (pc + 1) L (.int (c.1 o j.toNatClampNeg) :: st) c X) : l1_G w Q mi pc L (.int j :: .ref o :: st) c X := by
  refine l1_step (fun h lo hq ha => ?_) hG
  obtain ⟨x1, x2⟩ := l1_jin hx
  obtain ⟨o1, o2, o3, o4⟩ := l1_at hQ hq hk (by decide)
  refine l1_one1 (u := (pc + 1, .int (c.1 o j.toNatClampNeg) :: st, h)) hM hc rfl rfl rfl ?_
  simp only [am_s1, am_bt o1, cond_true, o2, o3, x1, Nat.beq_refl, Bool.and_self]
  rw [o4 _ (show _ < ln o from x2)]
  rfl
theorem l1_aald (hQ : l1_em kf Q) (hM : am_tab[mi]? = some M) {o : Nat} {j : Int32} (hc : M.1.2.2.2.2.2 pc = some (.aaload, n)) (hk : kf o = 24) (hx : j_in j (ln o) = true) (hG : kc (c.2.2 o j.toNatClampNeg) = 6 → l1_G w Q mi (pc + 1) L (.ref (c.2.2 o j.toNatClampNeg) :: st) c X) : l1_G w Q mi pc L (.int j :: .ref o :: st) c (bif Nat.beq (kc (c.2.2 o j.toNatClampNeg)) 6 then X else none) := by
  refine l1_ck (fun hy => ?_)
  refine l1_step (fun h lo hq ha => ?_) (hG (Nat.eq_of_beq_eq_true hy))
  obtain ⟨x1, x2⟩ := l1_jin hx
  obtain ⟨o1, o2, o3, o4⟩ := l1_at hQ hq hk (by decide)
  refine l1_one1 (u := (pc + 1, .ref (c.2.2 o j.toNatClampNeg) :: st, h)) hM hc rfl rfl rfl ?_
  simp only [am_s1, am_bt o1, cond_true, o2, o3, x1, Nat.beq_refl, Bool.or_true, Bool.and_self]
  rw [o4 _ (show _ < ln o from x2)]
  rfl
theorem l1_fald (hQ : l1_em kf Q) (hM : am_tab[mi]? = some M) {o : Nat} {j : Int32} (hc : M.1.2.2.2.2.2 pc = some (.aaload, n)) (hk : kf o = 23) (hx : j_in j (ln o) = true) (hG : l1_G w Q mi (pc + 1) L (.ref (34 + j.toNatClampNeg) :: st) c X) : l1_G w Q mi pc L (.int j :: .ref o :: st) c X := by
  refine l1_step (fun h lo hq ha => ?_) hG
  obtain ⟨x1, x2⟩ := l1_jin hx
  obtain ⟨o1, o2, o3, o4⟩ := l1_at hQ hq hk (by decide)
  refine l1_one1 (u := (pc + 1, .ref (34 + j.toNatClampNeg) :: st, h)) hM hc rfl rfl rfl ?_
  simp only [am_s1, am_bt o1, cond_true, o2, o3, x1, Nat.beq_refl, Bool.true_or, Bool.and_self]
  rw [o4 _ (show _ < ln o from x2)]
  rfl
theorem l1_ast (hQ : l1_em kf Q) (hM : am_tab[mi]? = some M) {o : Nat} {j x : Int32} {K : hS → Option (α × hS)} (hc : M.1.2.2.2.2.2 pc = some (.iastore, n)) (hk : kf o = 20) (hx : j_in j (ln o) = true) (hG : ∀ c1, l1_G w Q mi (pc + 1) L st c1 (K c1)) : l1_G w Q mi pc L (.int x :: .int j :: .ref o :: st) c (st1 (sI c o j.toNatClampNeg x) K) := by
  refine l1_stepS (fun h lo hq ha => ?_) hG
  obtain ⟨x1, x2⟩ := l1_jin hx
  obtain ⟨o1, o2, o3, o4⟩ := l1_at hQ hq hk (by decide)
  refine ⟨am_put h o (20, ln o, am_up (h.2.2.2 o).2.2 j.toNatClampNeg (.int x)), ?_, l1_upI hQ hq hk (by decide) rfl⟩
  refine l1_one1 (u := (pc + 1, st, am_put h o (20, ln o, am_up (h.2.2.2 o).2.2 j.toNatClampNeg (.int x)))) hM hc rfl rfl rfl ?_
  simp only [am_s1, am_bt o1, cond_true, o2, o3, x1, Nat.beq_refl, Bool.and_self]
theorem l1_bst (hQ : l1_em kf Q) (hM : am_tab[mi]? = some M) {o : Nat} {j x : Int32} {K : hS → Option (α × hS)} (hc : M.1.2.2.2.2.2 pc = some (.bastore, n)) (hk : kf o = 22) (hx : j_in j (ln o) = true) (hG : ∀ c1, l1_G w Q mi (pc + 1) L st c1 (K c1)) : l1_G w Q mi pc L (.int x :: .int j :: .ref o :: st) c (st1 (sI c o j.toNatClampNeg (j_z x)) K) := by
  refine l1_stepS (fun h lo hq ha => ?_) hG
  obtain ⟨x1, x2⟩ := l1_jin hx
  obtain ⟨o1, o2, o3, o4⟩ := l1_at hQ hq hk (by decide)
  refine ⟨am_put h o (22, ln o, am_up (h.2.2.2 o).2.2 j.toNatClampNeg (.int (j_z x))), ?_, l1_upI hQ hq hk (by decide) rfl⟩
  refine l1_one1 (u := (pc + 1, st, am_put h o (22, ln o, am_up (h.2.2.2 o).2.2 j.toNatClampNeg (.int (j_z x))))) hM hc rfl rfl rfl ?_
  simp only [am_s1, am_bt o1, cond_true, o2, o3, x1, Nat.beq_refl, Bool.and_self]
  rfl
theorem l1_aast (hQ : l1_em kf Q) (hM : am_tab[mi]? = some M) {o q : Nat} {j : Int32} {K : hS → Option (α × hS)} (hc : M.1.2.2.2.2.2 pc = some (.aastore, n)) (hk : kf o = 24) (hq6 : kf q = 6) (hx : j_in j (ln o) = true) (hG : ∀ c1, l1_G w Q mi (pc + 1) L st c1 (K c1)) : l1_G w Q mi pc L (.ref q :: .int j :: .ref o :: st) c (st1 (sR c o j.toNatClampNeg q) K) := by
  refine l1_stepS (fun h lo hq ha => ?_) hG
  obtain ⟨x1, x2⟩ := l1_jin hx
  obtain ⟨o1, o2, o3, o4⟩ := l1_at hQ hq hk (by decide)
  obtain ⟨q1, q2, q3, q4⟩ := l1_at hQ hq hq6 (by decide)
  refine ⟨am_put h o (24, ln o, am_up (h.2.2.2 o).2.2 j.toNatClampNeg (.ref q)), ?_, l1_upR hQ hq hk (by decide) rfl⟩
  refine l1_one1 (u := (pc + 1, st, am_put h o (24, ln o, am_up (h.2.2.2 o).2.2 j.toNatClampNeg (.ref q)))) hM hc rfl rfl rfl ?_
  simp only [am_s1, am_bt o1, am_bt q1, cond_true, o2, o3, q2, x1, Nat.beq_refl, Bool.true_or, Bool.and_self]
theorem l1_len (hQ : l1_em kf Q) (hM : am_tab[mi]? = some M) {o ci : Nat} (hc : M.1.2.2.2.2.2 pc = some (.arraylength, n)) (hk : kf o = ci) (hi : am_isA ci = true) (h99 : Nat.blt ci 99 = true) (hG : l1_G w Q mi (pc + 1) L (.int (Int32.ofNat (ln o)) :: st) c X) : l1_G w Q mi pc L (.ref o :: st) c X := by
  refine l1_step (fun h lo hq ha => ?_) hG
  obtain ⟨o1, o2, o3, o4⟩ := l1_at hQ hq hk (l1_b99 h99)
  refine l1_one1 (u := (pc + 1, .int (Int32.ofNat (ln o)) :: st, h)) hM hc rfl rfl rfl ?_
  simp only [am_s1, am_bt o1, cond_true, o2, o3, hi, Bool.and_self]
theorem l1_nb (hQ : l1_em kf Q) {h : am_H} (hq : Q c h) {q : Nat} (hb : 1000 ≤ q) : Nat.blt q h.1 = false := by
  have := (hQ c h hq).1
  cases hx : Nat.blt q h.1 with
  | false => rfl
  | true => have := Nat.blt_eq.mp hx; omega
theorem l1_slen (hQ : l1_em kf Q) (hM : am_tab[mi]? = some M) {q : Nat} {a : List Int32} (hc : M.1.2.2.2.2.2 pc = some (.arraylength, n)) (ho : l1_OA q a) (hG : l1_G w Q mi (pc + 1) L (.int (Int32.ofNat a.length) :: st) c X) : l1_G w Q mi pc L (.ref q :: st) c X := by
  refine l1_step (fun h lo hq ha => ?_) hG
  refine l1_one2 (u := (pc + 1, .int (Int32.ofNat a.length) :: st)) hM hc rfl rfl rfl ?_ ?_
  · simp only [am_s1, l1_nb hQ hq ho.2, Bool.false_and, cond_false]
  · simp only [am_s2, ho.1]
theorem l1_sald (hQ : l1_em kf Q) (hM : am_tab[mi]? = some M) {q : Nat} {a : List Int32} {j : Int32} (hc : M.1.2.2.2.2.2 pc = some (.iaload, n)) (ho : l1_OA q a) (hx : j_in j a.length = true) (hG : l1_G w Q mi (pc + 1) L (.int (a.getD j.toNatClampNeg 0) :: st) c X) : l1_G w Q mi pc L (.int j :: .ref q :: st) c X := by
  refine l1_step (fun h lo hq ha => ?_) hG
  refine l1_one2 (u := (pc + 1, .int (a.getD j.toNatClampNeg 0) :: st)) hM hc rfl rfl rfl ?_ ?_
  · simp only [am_s1, l1_nb hQ hq ho.2, cond_false]
  · simp only [am_s2, ho.1, (l1_jin hx).1, cond_true]
theorem l1_tlen (hM : am_tab[mi]? = some M) {idx q : Nat} {a : List Int32} (hc : M.1.2.2.2.2.2 pc = some (.invokevirtual idx, n)) (hv : am_fnd (am_vn M.1.1) idx = none) (ht : am_fnd (am_tx M.1.1) idx = some 0) (ho : l1_OT q a) (hr : (Nat.ble 5 M.1.2.2.2.1 && Nat.ble 145 M.1.2.2.2.2.1 && Nat.ble ((st.map fun v => v.category).sum) 8) = true) (hG : l1_G w Q mi (pc + 3) L (.int (Int32.ofNat a.length) :: st) c X) : l1_G w Q mi pc L (.ref q :: st) c X := by
  refine l1_step (fun h lo hq ha => ?_) hG
  refine l1_one2 (u := (pc + 3, .int (Int32.ofNat a.length) :: st)) hM hc rfl ?_ rfl rfl ?_
  · simp only [am_tgt, hv]
  · simp only [am_s2, ht, ho.1, hr, cond_true]
theorem l1_tch (hM : am_tab[mi]? = some M) {idx q : Nat} {a : List Int32} {j : Int32} (hc : M.1.2.2.2.2.2 pc = some (.invokevirtual idx, n)) (hv : am_fnd (am_vn M.1.1) idx = none) (ht : am_fnd (am_tx M.1.1) idx = some 1) (ho : l1_OT q a) (hx : j_in j a.length = true) (hr : (Nat.ble 5 M.1.2.2.2.1 && Nat.ble 145 M.1.2.2.2.2.1 && Nat.ble ((st.map fun v => v.category).sum) 8) = true) (hG : l1_G w Q mi (pc + 3) L (.int (a.getD j.toNatClampNeg 0) :: st) c X) : l1_G w Q mi pc L (.int j :: .ref q :: st) c X := by
  refine l1_step (fun h lo hq ha => ?_) hG
  refine l1_one2 (u := (pc + 3, .int (a.getD j.toNatClampNeg 0) :: st)) hM hc rfl ?_ rfl rfl ?_
  · simp only [am_tgt, hv]
  · simp only [am_s2, ht, ho.1, hr, (l1_jin hx).1, Bool.and_self, cond_true]
theorem l1_min (hM : am_tab[mi]? = some M) {idx : Nat} {x y : Int32} (hc : M.1.2.2.2.2.2 pc = some (.invokestatic idx, n)) (hv : am_fnd (am_sst M.1.1) idx = none) (ht : am_fnd (am_mt M.1.1) idx = some 0) (hr : (Nat.ble 1 M.1.2.2.2.1 && Nat.ble ((st.map fun v => v.category).sum + 13) M.1.2.2.2.2.1) = true) (hG : l1_G w Q mi (pc + 3) L (.int (j_min x y) :: st) c X) : l1_G w Q mi pc L (.int y :: .int x :: st) c X := by
  refine l1_step (fun h lo hq ha => ?_) hG
  refine l1_one2 (u := (pc + 3, .int (j_min x y) :: st)) hM hc rfl ?_ rfl rfl ?_
  · simp only [am_tgt, hv]
  · simp only [am_s2, ht, hr, cond_true]; rfl
theorem l1_max (hM : am_tab[mi]? = some M) {idx : Nat} {x y : Int32} (hc : M.1.2.2.2.2.2 pc = some (.invokestatic idx, n)) (hv : am_fnd (am_sst M.1.1) idx = none) (ht : am_fnd (am_mt M.1.1) idx = some 1) (hr : (Nat.ble 1 M.1.2.2.2.1 && Nat.ble ((st.map fun v => v.category).sum + 13) M.1.2.2.2.2.1) = true) (hG : l1_G w Q mi (pc + 3) L (.int (j_max x y) :: st) c X) : l1_G w Q mi pc L (.int y :: .int x :: st) c X := by
  refine l1_step (fun h lo hq ha => ?_) hG
  refine l1_one2 (u := (pc + 3, .int (j_max x y) :: st)) hM hc rfl ?_ rfl rfl ?_
  · simp only [am_tgt, hv]
  · simp only [am_s2, ht, hr, cond_true]; rfl
theorem l1_callV (hQ : l1_em kf Q) {mi1 : Nat} (hM : am_tab[mi]? = some M) (hM' : am_tab[mi1]? = some M') {idx o ci np kd : Nat} {As rest : List Value} {F : Option (β × hS)} {K : β → hS → Option (α × hS)} {wv : β → Option Value} {st1 : β → List Value} (hc : M.1.2.2.2.2.2 pc = some (.invokevirtual idx, n)) (hnp : am_fnd (am_vn M.1.1) idx = some np) (hst : st.drop np = .ref o :: rest) (hAs : (st.take np).reverse = As) (hk : kf o = ci) (h99 : Nat.blt ci 99 = true) (hf : am_fv (am_vt M.1.1) idx ci = some (mi1, kd)) (hcan : am_can M M' (.invokevirtual idx) (mi1, .ref o :: As, rest) = true) (hs : ∀ a, (wv a).toList ++ rest = st1 a) (hT : l1_T wv Q mi1 (.ref o :: As) c F) (hG : ∀ a c1, l1_G w Q mi (pc + 3) L (st1 a) c1 (K a c1)) : l1_G w Q mi pc L st c (bnd F K) := by
  intro a c' hX h lo hq ha
  cases hF : F with
  | none => rw [hF] at hX; cases hX
  | some r =>
    obtain ⟨b, c1⟩ := r
    rw [hF, bnd_some] at hX
    obtain ⟨h1, t1, q1⟩ := hT b c1 hF h hq
    obtain ⟨h', e', q'⟩ := hG b c1 a c' hX h1 lo q1 ha
    obtain ⟨o1, o2, -, -⟩ := l1_at hQ hq hk (l1_b99 h99)
    refine ⟨h', l1_E.call (w := (mi1, .ref o :: As, rest)) (v1 := wv b) hM hc rfl ?_ hM' hcan t1 (by rw [hs]; exact e'), q'⟩
    simp only [am_tgt, hnp, hst, hAs, am_bt o1, cond_true, o2, hf]
theorem l1_callS {mi1 : Nat} (hM : am_tab[mi]? = some M) (hM' : am_tab[mi1]? = some M') {idx kd : Nat} {As rest : List Value} {F : Option (β × hS)} {K : β → hS → Option (α × hS)} {wv : β → Option Value} {st1 : β → List Value} (hc : M.1.2.2.2.2.2 pc = some (.invokestatic idx, n)) (hf : am_fnd (am_sst M.1.1) idx = some (mi1, kd)) (hAs : (st.take M'.2.2.2.2).reverse = As) (hrest : st.drop M'.2.2.2.2 = rest) (hcan : am_can M M' (.invokestatic idx) (mi1, As, rest) = true) (hs : ∀ a, (wv a).toList ++ rest = st1 a) (hT : l1_T wv Q mi1 As c F) (hG : ∀ a c1, l1_G w Q mi (pc + 3) L (st1 a) c1 (K a c1)) : l1_G w Q mi pc L st c (bnd F K) := by
  intro a c' hX h lo hq ha
  cases hF : F with
  | none => rw [hF] at hX; cases hX
  | some r =>
    obtain ⟨b, c1⟩ := r
    rw [hF, bnd_some] at hX
    obtain ⟨h1, t1, q1⟩ := hT b c1 hF h hq
    obtain ⟨h', e', q'⟩ := hG b c1 a c' hX h1 lo q1 ha
    refine ⟨h', l1_E.call (w := (mi1, As, rest)) (v1 := wv b) hM hc rfl ?_ hM' hcan t1 (by rw [hs]; exact e'), q'⟩
    simp only [am_tgt, hf, hM', hAs, hrest]
end L1B
/-! the kinds of fixed references -/
theorem l1_kc {f : Nat → Nat} {a d : Nat} (ha : a ≠ 99) (h : ∀ o, o < 201 → kc o = a → kc (f o) = d) {o : Nat} (ho : kc o = a) : kc (f o) = d := by
  by_cases e : o < 201
  · exact h o e ho
  · exfalso
    apply ha
    rw [← ho]
    unfold kc
    rw [List.getD_eq_getElem?_getD, List.getElem?_eq_none (show kcl.length ≤ o by rw [show kcl.length = 201 from rfl]; omega)]
    rfl
theorem kc1_1 {o : Nat} : kc o = 1 → kc (o + 1) = 20 := l1_kc (f := fun o => o + 1) (by decide) (by decide +kernel)
theorem kc2_0 {o : Nat} : kc o = 2 → kc (o + 1) = 20 := l1_kc (f := fun o => o + 1) (by decide) (by decide +kernel)
theorem kc2_1 {o : Nat} : kc o = 2 → kc (o + 2) = 20 := l1_kc (f := fun o => o + 2) (by decide) (by decide +kernel)
theorem kc2_2 {o : Nat} : kc o = 2 → kc (o + 3) = 20 := l1_kc (f := fun o => o + 3) (by decide) (by decide +kernel)
theorem kc6_0 {o : Nat} : kc o = 6 → kc (o + 1) = 1 := l1_kc (f := fun o => o + 1) (by decide) (by decide +kernel)
theorem kc6_1 {o : Nat} : kc o = 6 → kc (o + 3) = 1 := l1_kc (f := fun o => o + 3) (by decide) (by decide +kernel)
theorem kc8_0 {o : Nat} : kc o = 8 → kc (o + 1) = 24 := l1_kc (f := fun o => o + 1) (by decide) (by decide +kernel)
theorem oa0 : l1_OA 1000000000 sa0 := ⟨rfl, by decide⟩
theorem oa1 : l1_OA 1000000001 sa1 := ⟨rfl, by decide⟩
theorem oa2 : l1_OA 1000000002 sa2 := ⟨rfl, by decide⟩
theorem oa3 : l1_OA 1000000003 sa3 := ⟨rfl, by decide⟩
theorem oa4 : l1_OA 1000000004 sa4 := ⟨rfl, by decide⟩
theorem oa5 : l1_OA 1000000005 sa5 := ⟨rfl, by decide⟩
theorem oa6 : l1_OA 1000000006 sa6 := ⟨rfl, by decide⟩
theorem oa7 : l1_OA 1000000007 sa7 := ⟨rfl, by decide⟩
theorem ot15 : l1_OT 1000000115 tx15 := ⟨rfl, by decide⟩
theorem ot16 : l1_OT 1000000116 tx16 := ⟨rfl, by decide⟩
theorem ot17 : l1_OT 1000000117 tx17 := ⟨rfl, by decide⟩
theorem ot18 : l1_OT 1000000118 tx18 := ⟨rfl, by decide⟩
theorem ot19 : l1_OT 1000000119 tx19 := ⟨rfl, by decide⟩
/-- a lookupswitch whose key is none of them -/
noncomputable def l1_nk (k : Int) : List (Int × Int) → Prop
  | [] => True
  | e :: r => e.1 ≠ k ∧ l1_nk k r
theorem l1_nk_off {k d : Int} : ∀ {l : List (Int × Int)}, l1_nk k l → Op.lookupswitch.offset l d k = d
  | [], _ => rfl
  | (a, o) :: r, h => by
    rw [Op.lookupswitch.offset_cons, if_neg h.1]
    exact l1_nk_off h.2
theorem l1_lsd {nL pc pc' : Nat} {d : Int} {ps : Array (Int × Int)} {x : Int32} {st : List Value} (hs : (ps.toList.zip (ps.toList.drop 1)).all (fun (a, next) => a.1 < next.1) = true) (hk : l1_nk x.toInt ps.toList) (hj : am_jmp pc d = some pc') : am_s0 nL (.lookupswitch d ps) pc [] (.int x :: st) = some (pc', [], st) := by
  simp only [am_s0]
  rw [if_pos hs, l1_nk_off hk, hj]
