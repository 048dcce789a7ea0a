/-! RULES FOR RUNS ON THE ABSTRACT MACHINE -/
/-- one step that is no return and no call -/
def am_one (mi pc : Nat) (lo : List (Nat × Value)) (st : List Value) (h : am_H) : Option (Nat × List (Nat × Value) × List Value × am_H) := match am_tab[mi]? with
  | none => none
  | some M => match M.1.2.2.2.2.2 pc with
    | none => none
    | some x => match am_retv x.1 M.2.2.1 st with
      | some _ => none
      | none => match am_tgt M.1.1 x.1 st h with
        | some _ => none
        | none => match am_s0 M.1.2.1 x.1 pc lo st with
          | some u => some (u.1, u.2.1, u.2.2, h)
          | none => match am_s1 M.1.1 M.1.2.2.1 x.1 pc st h with
            | some u => some (u.1, lo, u.2.1, u.2.2)
            | none => match am_s2 M.1.1 M.1.2.2.2.1 M.1.2.2.2.2.1 x.1 pc st with
              | some u => some (u.1, lo, u.2, h)
              | none => none
def am_many : Nat → Nat → Nat → List (Nat × Value) → List Value → am_H → Option (Nat × List (Nat × Value) × List Value × am_H)
  | 0, _, pc, lo, st, h => some (pc, lo, st, h)
  | k + 1, mi, pc, lo, st, h => match am_one mi pc lo st h with
    | some u => am_many k mi u.1 u.2.1 u.2.2.1 u.2.2.2
    | none => none
theorem am_one_ex {n mi pc : Nat} {lo : List (Nat × Value)} {st : List Value} {h : am_H} {u : Nat × List (Nat × Value) × List Value × am_H} (hs : am_one mi pc lo st h = some u) : am_exec (n + 1) mi pc lo st h = am_exec n mi u.1 u.2.1 u.2.2.1 u.2.2.2 := by
  unfold am_one at hs
  rw [am_exec]
  split at hs
  · cases hs
  · rename_i M hM
    rw [hM]
    dsimp only
    split at hs
    · cases hs
    · rename_i x hx
      rw [hx]
      dsimp only
      split at hs
      · cases hs
      · rename_i hr
        rw [hr]
        dsimp only
        split at hs
        · cases hs
        · rename_i ht
          rw [ht]
          dsimp only
          split at hs
          · rename_i u0 h0
            rw [h0]
            cases hs
            rfl
          · rename_i h0
            rw [h0]
            dsimp only
            split at hs
            · rename_i u1 h1
              rw [h1]
              cases hs
              rfl
            · rename_i h1
              rw [h1]
              dsimp only
              split at hs
              · rename_i u2 h2
                rw [h2]
                cases hs
                rfl
              · cases hs
/-- from here the run ends, with v and h' -/
def am_P (mi pc : Nat) (lo : List (Nat × Value)) (st : List Value) (h : am_H) (v : Option Value) (h' : am_H) : Prop := ∃ n, am_exec n mi pc lo st h = some (v, h')
/-- a call of the method, from its entry -/
def am_T (mi : Nat) (av : List Value) (h : am_H) (v : Option Value) (h' : am_H) : Prop := am_P mi 0 (lv_args 0 av) [] h v h'
theorem am_exec_mono : ∀ {n mi pc : Nat} {lo : List (Nat × Value)} {st : List Value} {h : am_H} {r : Option Value × am_H}, am_exec n mi pc lo st h = some r → am_exec (n + 1) mi pc lo st h = some r := by
  intro n
  induction n with
  | zero => intro mi pc lo st h r hx; cases hx
  | succ n ih =>
    intro mi pc lo st h r hx
    unfold am_exec at hx
    rw [am_exec]
    split at hx
    · cases hx
    · rename_i M hM
      try rw [hM]
      try dsimp only
      split at hx
      · cases hx
      · rename_i x hc
        try rw [hc]
        try dsimp only
        split at hx
        · rename_i v0 hr
          try rw [hr]
          exact hx
        · rename_i hr
          try rw [hr]
          try dsimp only
          split at hx
          · rename_i w ht
            try rw [ht]
            try dsimp only
            split at hx
            · cases hx
            · rename_i M' hM'
              try rw [hM']
              try dsimp only
              obtain ⟨hb, hx⟩ := am_cg hx
              try rw [hb, cond_true]
              split at hx
              · rename_i rr hrr
                try rw [ih hrr]
                exact ih hx
              · cases hx
          · rename_i ht
            try rw [ht]
            try dsimp only
            split at hx
            · rename_i u0 h0
              try rw [h0]
              exact ih hx
            · rename_i h0
              try rw [h0]
              try dsimp only
              split at hx
              · rename_i u1 h1
                try rw [h1]
                exact ih hx
              · rename_i h1
                try rw [h1]
                try dsimp only
                split at hx
                · rename_i u2 h2
                  try rw [h2]
                  exact ih hx
                · cases hx
theorem am_exec_le {n k mi pc : Nat} {lo : List (Nat × Value)} {st : List Value} {h : am_H} {r : Option Value × am_H} (hk : n ≤ k) (hx : am_exec n mi pc lo st h = some r) : am_exec k mi pc lo st h = some r := by
  induction hk with
  | refl => exact hx
  | step _ ih => exact am_exec_mono ih
/-- several steps -/
theorem am_P.many {mi : Nat} {v : Option Value} {h' : am_H} : ∀ (k : Nat) {pc : Nat} {lo : List (Nat × Value)} {st : List Value} {h : am_H} {u : Nat × List (Nat × Value) × List Value × am_H}, am_many k mi pc lo st h = some u → am_P mi u.1 u.2.1 u.2.2.1 u.2.2.2 v h' → am_P mi pc lo st h v h' := by
  intro k
  induction k with
  | zero => intro pc lo st h u hm hP; cases hm; exact hP
  | succ k ih =>
    intro pc lo st h u hm hP
    unfold am_many at hm
    split at hm
    · rename_i u0 h0
      obtain ⟨n, hn⟩ := ih hm hP
      exact ⟨n + 1, by rw [am_one_ex h0]; exact hn⟩
    · cases hm
/-- a return -/
theorem am_P.ret {mi pc : Nat} {lo : List (Nat × Value)} {st : List Value} {h : am_H} {v : Option Value} {M : am_M} {x : Instr × Nat} (hM : am_tab[mi]? = some M) (hc : M.1.2.2.2.2.2 pc = some x) (hr : am_retv x.1 M.2.2.1 st = some v) : am_P mi pc lo st h v h := ⟨1, by rw [am_exec, hM]; dsimp only; rw [hc]; dsimp only; rw [hr]⟩
/-- a call -/
theorem am_P.call {mi pc : Nat} {lo : List (Nat × Value)} {st : List Value} {h h1 h' : am_H} {v v1 : Option Value} {M M' : am_M} {x : Instr × Nat} {w : Nat × List Value × List Value} (hM : am_tab[mi]? = some M) (hc : M.1.2.2.2.2.2 pc = some x) (hr : am_retv x.1 M.2.2.1 st = none) (ht : am_tgt M.1.1 x.1 st h = some w) (hM' : am_tab[w.1]? = some M') (hk : am_can M M' x.1 w = true) (hT : am_T w.1 w.2.1 h v1 h1) (hP : am_P mi (pc + 3) lo (v1.toList ++ w.2.2) h1 v h') : am_P mi pc lo st h v h' := by
  obtain ⟨a, ha⟩ := hT
  obtain ⟨b, hb⟩ := hP
  refine ⟨max a b + 1, ?_⟩
  rw [am_exec, hM]; dsimp only
  rw [hc]; dsimp only
  rw [hr]; dsimp only
  rw [ht]; dsimp only
  rw [hM']; dsimp only
  rw [hk, cond_true, am_exec_le (Nat.le_max_left a b) ha]
  exact am_exec_le (Nat.le_max_right a b) hb
theorem am_P.bif {mi t f : Nat} {b : Bool} {lo : List (Nat × Value)} {st : List Value} {h h' : am_H} {v : Option Value} (h1 : b = true → am_P mi t lo st h v h') (h2 : b = false → am_P mi f lo st h v h') : am_P mi (bif b then t else f) lo st h v h' := by
  cases b with
  | true => exact h1 rfl
  | false => exact h2 rfl
/-- what the machine owes for a run -/
theorem am_P.sim {l : Launch} {mi pc : Nat} {lo : List (Nat × Value)} {st : List Value} {h h' : am_H} {v : Option Value} {M : am_M} (hM : am_tab[mi]? = some M) (hP : am_P mi pc lo st h v h') : am_Sim l M pc lo st h v h' := by
  obtain ⟨n, hn⟩ := hP
  exact am_sim l n mi M pc lo st h v h' hM hn
/-! heaps -/
theorem am_up_up {α : Type} (f : Nat → α) (k : Nat) (v w : α) : am_up (am_up f k v) k w = am_up f k w := by
  funext j
  by_cases e : j = k
  · subst e; rw [am_up_s, am_up_s]
  · rw [am_up_n e, am_up_n e, am_up_n e]
theorem am_up_comm {α : Type} (f : Nat → α) {k j : Nat} (hkj : k ≠ j) (v w : α) : am_up (am_up f k v) j w = am_up (am_up f j w) k v := by
  funext i
  by_cases e1 : i = j
  · subst e1; rw [am_up_s, am_up_n (Ne.symm hkj), am_up_s]
  · rw [am_up_n e1]
    by_cases e2 : i = k
    · subst e2; rw [am_up_s, am_up_s]
    · rw [am_up_n e2, am_up_n e2, am_up_n e1]
theorem am_put_put (h : am_H) (o : Nat) (c d : am_C) : am_put (am_put h o c) o d = am_put h o d := by
  unfold am_put; simp only [am_up_up]
theorem am_put_comm (h : am_H) {o q : Nat} (hoq : o ≠ q) (c d : am_C) : am_put (am_put h o c) q d = am_put (am_put h q d) o c := by
  unfold am_put; simp only [am_up_comm _ hoq]
theorem am_put_s (h : am_H) (o : Nat) (c : am_C) : (am_put h o c).2.2.2 o = c := am_up_s _ _ _
theorem am_put_n (h : am_H) {o q : Nat} (hq : q ≠ o) (c : am_C) : (am_put h o c).2.2.2 q = h.2.2.2 q := am_up_n hq
