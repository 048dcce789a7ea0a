/-! OPERATIONS OVER OPEN VALUES, and that each follows the abstract machine: the frame's -/
noncomputable abbrev sx_Op : Type := List Value → List Value → sx_H → Option (Nat × List Value × List Value × sx_H)
noncomputable def sx_ok (ρ : Nat → Int32) (mi pc : Nat) (op : sx_Op) : Prop := ∀ (L st : List Value) (f : sx_H) (lo : List (Nat × Value)) (st' : List Value) (h : am_H) (u : Nat × List Value × List Value × sx_H), sx_rL ρ L lo → sx_rs ρ st st' → sx_hr ρ f h → op L st f = some u → ∃ u' : Nat × List (Nat × Value) × List Value × am_H, am_one mi pc lo st' h = some u' ∧ u'.1 = u.1 ∧ sx_rL ρ u.2.1 u'.2.1 ∧ sx_rs ρ u.2.2.1 u'.2.2.1 ∧ sx_hr ρ u.2.2.2 u'.2.2.2
section SXO
variable {ρ : Nat → Int32} {iv : List (Int × Int)} {mi pc n : Nat} {M : am_M} {i : Instr}
theorem sx_one0 {lo : List (Nat × Value)} {st : List Value} {h : am_H} {u : Nat × List (Nat × Value) × List Value} (hM : am_tab[mi]? = some M) (hc : M.1.2.2.2.2.2 pc = some (i, n)) (hr : am_retv i M.2.2.1 st = none) (ht : am_tgt M.1.1 i st h = none) (h0 : am_s0 M.1.2.1 i pc lo st = some u) : am_one mi pc lo st h = some (u.1, u.2.1, u.2.2, h) := by
  unfold am_one
  rw [hM]; dsimp only
  rw [hc]; dsimp only
  rw [hr]; dsimp only
  rw [ht]; dsimp only
  rw [h0]
theorem sx_one1 {lo : List (Nat × Value)} {st : List Value} {h : am_H} {u : Nat × List Value × am_H} (hM : am_tab[mi]? = some M) (hc : M.1.2.2.2.2.2 pc = some (i, n)) (hr : am_retv i M.2.2.1 st = none) (ht : am_tgt M.1.1 i st h = none) (h0 : am_s0 M.1.2.1 i pc lo st = none) (h1 : am_s1 M.1.1 M.1.2.2.1 i pc st h = some u) : am_one mi pc lo st h = some (u.1, lo, u.2.1, u.2.2) := by
  unfold am_one
  rw [hM]; dsimp only
  rw [hc]; dsimp only
  rw [hr]; dsimp only
  rw [ht]; dsimp only
  rw [h0]; dsimp only
  rw [h1]
theorem sx_one2 {lo : List (Nat × Value)} {st : List Value} {h : am_H} {u : Nat × List Value} (hM : am_tab[mi]? = some M) (hc : M.1.2.2.2.2.2 pc = some (i, n)) (hr : am_retv i M.2.2.1 st = none) (ht : am_tgt M.1.1 i st h = none) (h0 : am_s0 M.1.2.1 i pc lo st = none) (h1 : am_s1 M.1.1 M.1.2.2.1 i pc st h = none) (h2 : am_s2 M.1.1 M.1.2.2.2.1 M.1.2.2.2.2.1 i pc st = some u) : am_one mi pc lo st h = some (u.1, lo, u.2, h) := by
  unfold am_one
  rw [hM]; dsimp only
  rw [hc]; dsimp only
  rw [hr]; dsimp only
  rw [ht]; dsimp only
  rw [h0]; dsimp only
  rw [h1]; dsimp only
  rw [h2]
/-! constants -/
noncomputable def sx_push (nx : Nat) (v : Value) : sx_Op := fun L st f => some (nx, L, v :: st, f)
theorem sx_o_push {nx : Nat} {v : Value} (hM : am_tab[mi]? = some M) (hc : M.1.2.2.2.2.2 pc = some (i, n)) (hr : ∀ st, am_retv i M.2.2.1 st = none) (ht : ∀ st h, am_tgt M.1.1 i st h = none) (h0 : ∀ lo st, am_s0 M.1.2.1 i pc lo st = some (nx, lo, v :: st)) (hv : sx_nf v = true) : sx_ok ρ mi pc (sx_push nx v) := by
  intro L st f lo st' h u hL hst hh hu
  cases hu
  exact ⟨_, sx_one0 hM hc (hr _) (ht _ _) (h0 _ _), rfl, hL, sx_mk (sx_nf_ok hv) hst, hh⟩
theorem sx_o_push1 {nx : Nat} {v : Value} (hM : am_tab[mi]? = some M) (hc : M.1.2.2.2.2.2 pc = some (i, n)) (hr : ∀ st, am_retv i M.2.2.1 st = none) (ht : ∀ st h, am_tgt M.1.1 i st h = none) (h0 : ∀ lo st, am_s0 M.1.2.1 i pc lo st = none) (h1 : ∀ st h, am_s1 M.1.1 M.1.2.2.1 i pc st h = some (nx, v :: st, h)) (hv : sx_nf v = true) : sx_ok ρ mi pc (sx_push nx v) := by
  intro L st f lo st' h u hL hst hh hu
  cases hu
  exact ⟨_, sx_one1 hM hc (hr _) (ht _ _) (h0 _ _) (h1 _ _), rfl, hL, sx_mk (sx_nf_ok hv) hst, hh⟩
theorem sx_o_push2 {nx : Nat} {v : Value} (hM : am_tab[mi]? = some M) (hc : M.1.2.2.2.2.2 pc = some (i, n)) (hr : ∀ st, am_retv i M.2.2.1 st = none) (ht : ∀ st h, am_tgt M.1.1 i st h = none) (h0 : ∀ lo st, am_s0 M.1.2.1 i pc lo st = none) (h1 : ∀ st h, am_s1 M.1.1 M.1.2.2.1 i pc st h = none) (h2 : ∀ st, am_s2 M.1.1 M.1.2.2.2.1 M.1.2.2.2.2.1 i pc st = some (nx, v :: st)) (hv : sx_nf v = true) : sx_ok ρ mi pc (sx_push nx v) := by
  intro L st f lo st' h u hL hst hh hu
  cases hu
  exact ⟨_, sx_one2 hM hc (hr _) (ht _ _) (h0 _ _) (h1 _ _) (h2 _), rfl, hL, sx_mk (sx_nf_ok hv) hst, hh⟩
/-! locals -/
noncomputable def sx_ldI (nx k : Nat) : sx_Op := fun L st f => match sx_g L k with
  | some v => bif sx_isI v then some (nx, L, v :: st, f) else none
  | none => none
noncomputable def sx_ldL (nx k : Nat) : sx_Op := fun L st f => match sx_g L k with
  | some v => bif sx_isL v then some (nx, L, v :: st, f) else none
  | none => none
noncomputable def sx_ldA (nx k : Nat) : sx_Op := fun L st f => match sx_g L k with
  | some v => bif sx_isA v then some (nx, L, v :: st, f) else none
  | none => none
theorem sx_nI {v : Value} (h : sx_isI v = true) : sx_isF v ≠ true := by cases v <;> first | (cases h; done) | (intro q; cases q)
theorem sx_nL {v : Value} (h : sx_isL v = true) : sx_isF v ≠ true := by cases v <;> first | (cases h; done) | (intro q; cases q)
theorem sx_nA {v : Value} (h : sx_isA v = true) : sx_isF v ≠ true := by cases v <;> first | (cases h; done) | (intro q; cases q)
theorem sx_o_ldI {nx k : Nat} (hM : am_tab[mi]? = some M) (hc : M.1.2.2.2.2.2 pc = some (i, n)) (hr : ∀ st, am_retv i M.2.2.1 st = none) (ht : ∀ st h, am_tgt M.1.1 i st h = none) (h0 : ∀ lo st x, am_get lo k = some (.int x) → am_s0 M.1.2.1 i pc lo st = some (nx, lo, .int x :: st)) : sx_ok ρ mi pc (sx_ldI nx k) := by
  intro L st f lo st' h u hL hst hh hu
  unfold sx_ldI at hu
  split at hu
  · rename_i v hv
    obtain ⟨hb, rfl⟩ := am_cf hu
    rcases hL k v hv with hf | ⟨w, hw, hrel⟩
    · exact absurd hf (sx_nI hb)
    · obtain ⟨x, rfl⟩ := sx_isI_ok hb hrel
      exact ⟨_, sx_one0 hM hc (hr _) (ht _ _) (h0 _ _ x hw), rfl, hL, sx_mk hrel hst, hh⟩
  · cases hu
theorem sx_o_ldL {nx k : Nat} (hM : am_tab[mi]? = some M) (hc : M.1.2.2.2.2.2 pc = some (i, n)) (hr : ∀ st, am_retv i M.2.2.1 st = none) (ht : ∀ st h, am_tgt M.1.1 i st h = none) (h0 : ∀ lo st x, am_get lo k = some (.long x) → am_s0 M.1.2.1 i pc lo st = some (nx, lo, .long x :: st)) : sx_ok ρ mi pc (sx_ldL nx k) := by
  intro L st f lo st' h u hL hst hh hu
  unfold sx_ldL at hu
  split at hu
  · rename_i v hv
    obtain ⟨hb, rfl⟩ := am_cf hu
    rcases hL k v hv with hf | ⟨w, hw, hrel⟩
    · exact absurd hf (sx_nL hb)
    · obtain ⟨x, rfl⟩ := sx_isL_ok hb hrel
      exact ⟨_, sx_one0 hM hc (hr _) (ht _ _) (h0 _ _ x hw), rfl, hL, sx_mk hrel hst, hh⟩
  · cases hu
theorem sx_o_ldA {nx k : Nat} (hM : am_tab[mi]? = some M) (hc : M.1.2.2.2.2.2 pc = some (i, n)) (hr : ∀ st, am_retv i M.2.2.1 st = none) (ht : ∀ st h, am_tgt M.1.1 i st h = none) (h0 : ∀ lo st x, am_get lo k = some (.ref x) → am_s0 M.1.2.1 i pc lo st = some (nx, lo, .ref x :: st)) (h1 : ∀ lo st, am_get lo k = some .null → am_s0 M.1.2.1 i pc lo st = some (nx, lo, .null :: st)) : sx_ok ρ mi pc (sx_ldA nx k) := by
  intro L st f lo st' h u hL hst hh hu
  unfold sx_ldA at hu
  split at hu
  · rename_i v hv
    obtain ⟨hb, rfl⟩ := am_cf hu
    rcases hL k v hv with hf | ⟨w, hw, hrel⟩
    · exact absurd hf (sx_nA hb)
    · have e := sx_isA_ok hb hrel
      subst e
      cases w with
      | ref x => exact ⟨_, sx_one0 hM hc (hr _) (ht _ _) (h0 _ _ x hw), rfl, hL, sx_mk hrel hst, hh⟩
      | null => exact ⟨_, sx_one0 hM hc (hr _) (ht _ _) (h1 _ _ hw), rfl, hL, sx_mk hrel hst, hh⟩
      | _ => cases hb
  · cases hu
theorem sx_o_iload {k : Nat} (hM : am_tab[mi]? = some M) (hc : M.1.2.2.2.2.2 pc = some (.iload k, n)) : sx_ok ρ mi pc (sx_ldI (pc + 2) k) := sx_o_ldI hM hc (fun _ => rfl) (fun _ _ => rfl) (fun lo st x hg => by simp only [am_s0, hg])
theorem sx_o_iload_n {k : Fin 4} (hM : am_tab[mi]? = some M) (hc : M.1.2.2.2.2.2 pc = some (.iload_n k, n)) : sx_ok ρ mi pc (sx_ldI (pc + 1) k) := sx_o_ldI hM hc (fun _ => rfl) (fun _ _ => rfl) (fun lo st x hg => by simp only [am_s0, hg])
theorem sx_o_lload {k : Nat} (hM : am_tab[mi]? = some M) (hc : M.1.2.2.2.2.2 pc = some (.lload k, n)) : sx_ok ρ mi pc (sx_ldL (pc + 2) k) := sx_o_ldL hM hc (fun _ => rfl) (fun _ _ => rfl) (fun lo st x hg => by simp only [am_s0, hg])
theorem sx_o_lload_n {k : Fin 4} (hM : am_tab[mi]? = some M) (hc : M.1.2.2.2.2.2 pc = some (.lload_n k, n)) : sx_ok ρ mi pc (sx_ldL (pc + 1) k) := sx_o_ldL hM hc (fun _ => rfl) (fun _ _ => rfl) (fun lo st x hg => by simp only [am_s0, hg])
theorem sx_o_aload {k : Nat} (hM : am_tab[mi]? = some M) (hc : M.1.2.2.2.2.2 pc = some (.aload k, n)) : sx_ok ρ mi pc (sx_ldA (pc + 2) k) := sx_o_ldA hM hc (fun _ => rfl) (fun _ _ => rfl) (fun lo st x hg => by simp only [am_s0, hg]) (fun lo st hg => by simp only [am_s0, hg])
theorem sx_o_aload_n {k : Fin 4} (hM : am_tab[mi]? = some M) (hc : M.1.2.2.2.2.2 pc = some (.aload_n k, n)) : sx_ok ρ mi pc (sx_ldA (pc + 1) k) := sx_o_ldA hM hc (fun _ => rfl) (fun _ _ => rfl) (fun lo st x hg => by simp only [am_s0, hg]) (fun lo st hg => by simp only [am_s0, hg])
noncomputable def sx_sI (nL nx k : Nat) : sx_Op := fun L st f => match st with
  | v :: r => bif sx_isI v && Nat.blt k nL then some (nx, sx_st L k v, r, f) else none
  | [] => none
noncomputable def sx_sL (nL nx k : Nat) : sx_Op := fun L st f => match st with
  | v :: r => bif sx_isL v && Nat.blt (k + 1) nL then some (nx, sx_stL L k v, r, f) else none
  | [] => none
noncomputable def sx_sA (nL nx k : Nat) : sx_Op := fun L st f => match st with
  | v :: r => bif sx_isA v && Nat.blt k nL then some (nx, sx_st L k v, r, f) else none
  | [] => none
theorem sx_o_sI {nx k : Nat} (hM : am_tab[mi]? = some M) (hc : M.1.2.2.2.2.2 pc = some (i, n)) (hr : ∀ st, am_retv i M.2.2.1 st = none) (ht : ∀ st h, am_tgt M.1.1 i st h = none) (h0 : ∀ lo r x, am_s0 M.1.2.1 i pc lo (.int x :: r) = bif Nat.blt k M.1.2.1 then some (nx, am_set lo k (.int x), r) else none) : sx_ok ρ mi pc (sx_sI M.1.2.1 nx k) := by
  intro L st f lo st' h u hL hst hh hu
  unfold sx_sI at hu
  split at hu
  · rename_i v r
    obtain ⟨hb, rfl⟩ := am_cf hu
    obtain ⟨b1, b2⟩ := am_b2 hb
    obtain ⟨w, t, rfl, hrel, hs2⟩ := sx_cV hst
    obtain ⟨x, rfl⟩ := sx_isI_ok b1 hrel
    exact ⟨_, sx_one0 (u := (nx, _, t)) hM hc (hr _) (ht _ _) ((h0 _ _ x).trans (by rw [b2]; rfl)), rfl, sx_rL_set hL hrel, hs2, hh⟩
  · cases hu
theorem sx_o_sL {nx k : Nat} (hM : am_tab[mi]? = some M) (hc : M.1.2.2.2.2.2 pc = some (i, n)) (hr : ∀ st, am_retv i M.2.2.1 st = none) (ht : ∀ st h, am_tgt M.1.1 i st h = none) (h0 : ∀ lo r x, am_s0 M.1.2.1 i pc lo (.long x :: r) = bif Nat.blt (k + 1) M.1.2.1 then some (nx, am_setL lo k (.long x), r) else none) : sx_ok ρ mi pc (sx_sL M.1.2.1 nx k) := by
  intro L st f lo st' h u hL hst hh hu
  unfold sx_sL at hu
  split at hu
  · rename_i v r
    obtain ⟨hb, rfl⟩ := am_cf hu
    obtain ⟨b1, b2⟩ := am_b2 hb
    obtain ⟨w, t, rfl, hrel, hs2⟩ := sx_cV hst
    obtain ⟨x, rfl⟩ := sx_isL_ok b1 hrel
    exact ⟨_, sx_one0 (u := (nx, _, t)) hM hc (hr _) (ht _ _) ((h0 _ _ x).trans (by rw [b2]; rfl)), rfl, sx_rL_setL hL hrel, hs2, hh⟩
  · cases hu
theorem sx_o_sA {nx k : Nat} (hM : am_tab[mi]? = some M) (hc : M.1.2.2.2.2.2 pc = some (i, n)) (hr : ∀ st, am_retv i M.2.2.1 st = none) (ht : ∀ st h, am_tgt M.1.1 i st h = none) (h0 : ∀ lo r x, am_s0 M.1.2.1 i pc lo (.ref x :: r) = bif Nat.blt k M.1.2.1 then some (nx, am_set lo k (.ref x), r) else none) (h1 : ∀ lo r, am_s0 M.1.2.1 i pc lo (.null :: r) = bif Nat.blt k M.1.2.1 then some (nx, am_set lo k .null, r) else none) : sx_ok ρ mi pc (sx_sA M.1.2.1 nx k) := by
  intro L st f lo st' h u hL hst hh hu
  unfold sx_sA at hu
  split at hu
  · rename_i v r
    obtain ⟨hb, rfl⟩ := am_cf hu
    obtain ⟨b1, b2⟩ := am_b2 hb
    obtain ⟨w, t, rfl, hrel, hs2⟩ := sx_cV hst
    have e := sx_isA_ok b1 hrel
    subst e
    cases w with
    | ref x => exact ⟨_, sx_one0 (u := (nx, _, t)) hM hc (hr _) (ht _ _) ((h0 _ _ x).trans (by rw [b2]; rfl)), rfl, sx_rL_set hL hrel, hs2, hh⟩
    | null => exact ⟨_, sx_one0 (u := (nx, _, t)) hM hc (hr _) (ht _ _) ((h1 _ _).trans (by rw [b2]; rfl)), rfl, sx_rL_set hL hrel, hs2, hh⟩
    | _ => cases b1
  · cases hu
noncomputable def sx_inc (nL nx k : Nat) (d : Int32) : sx_Op := fun L st f => match sx_g L k with
  | some (.int x) => bif Nat.blt k nL then some (nx, sx_st L k (.int (x + d)), st, f) else none
  | _ => none
theorem sx_o_iinc {k : Nat} {d : Int} (hM : am_tab[mi]? = some M) (hc : M.1.2.2.2.2.2 pc = some (.iinc k d, n)) : sx_ok ρ mi pc (sx_inc M.1.2.1 (pc + 3) k (Int32.ofInt d)) := by
  intro L st f lo st' h u hL hst hh hu
  unfold sx_inc at hu
  split at hu
  · rename_i x hv
    obtain ⟨hb, rfl⟩ := am_cf hu
    rcases hL k _ hv with hf | ⟨w, hw, hrel⟩
    · cases hf
    · have e : w = .int x := hrel
      subst e
      exact ⟨_, sx_one0 (u := (pc + 3, am_set lo k (.int (x + Int32.ofInt d)), st')) hM hc rfl rfl (by simp only [am_s0, hw, hb, cond_true]), rfl, sx_rL_set (w := .int (x + Int32.ofInt d)) hL (show Value.int _ = Value.int _ from rfl), hst, hh⟩
  · cases hu
/-! arithmetic -/
noncomputable def sx_bi (nx : Nat) (g : Int32 → Int32 → Int32) : sx_Op := fun L st f => match st with
  | .int y :: .int x :: r => some (nx, L, .int (g x y) :: r, f)
  | y :: x :: r => bif sx_isI y && sx_isI x then some (nx, L, .retAddr 100 :: r, f) else none
  | _ => none
theorem sx_o_bi {nx : Nat} {g : Int32 → Int32 → Int32} (hM : am_tab[mi]? = some M) (hc : M.1.2.2.2.2.2 pc = some (i, n)) (hr : ∀ st, am_retv i M.2.2.1 st = none) (ht : ∀ st h, am_tgt M.1.1 i st h = none) (h0 : ∀ lo x y r, am_s0 M.1.2.1 i pc lo (.int y :: .int x :: r) = some (nx, lo, .int (g x y) :: r)) : sx_ok ρ mi pc (sx_bi nx g) := by
  intro L st f lo st' h u hL hst hh hu
  unfold sx_bi at hu
  split at hu
  · cases hu
    obtain ⟨t, rfl, hs2⟩ := sx_cI hst
    obtain ⟨t, rfl, hs3⟩ := sx_cI hs2
    exact ⟨_, sx_one0 hM hc (hr _) (ht _ _) (h0 _ _ _ _), rfl, hL, sx_mk rfl hs3, hh⟩
  · obtain ⟨hb, rfl⟩ := am_cf hu
    obtain ⟨b1, b2⟩ := am_b2 hb
    obtain ⟨w, t, rfl, hrel, hs2⟩ := sx_cV hst
    obtain ⟨y, rfl⟩ := sx_isI_ok b1 hrel
    obtain ⟨w, t, rfl, hrel2, hs3⟩ := sx_cV hs2
    obtain ⟨x, rfl⟩ := sx_isI_ok b2 hrel2
    exact ⟨_, sx_one0 hM hc (hr _) (ht _ _) (h0 _ _ _ _), rfl, hL, sx_mk sx_top hs3, hh⟩
  · cases hu
noncomputable def sx_dv (nx : Nat) (g : Int32 → Int32 → Int32) : sx_Op := fun L st f => match st with
  | .int y :: .int x :: r => bif decide (y = 0) then none else some (nx, L, .int (g x y) :: r, f)
  | _ => none
theorem sx_o_dv {nx : Nat} {g : Int32 → Int32 → Int32} (hM : am_tab[mi]? = some M) (hc : M.1.2.2.2.2.2 pc = some (i, n)) (hr : ∀ st, am_retv i M.2.2.1 st = none) (ht : ∀ st h, am_tgt M.1.1 i st h = none) (h0 : ∀ lo x y r, y ≠ 0 → am_s0 M.1.2.1 i pc lo (.int y :: .int x :: r) = some (nx, lo, .int (g x y) :: r)) : sx_ok ρ mi pc (sx_dv nx g) := by
  intro L st f lo st' h u hL hst hh hu
  unfold sx_dv at hu
  split at hu
  · rename_i y x r
    cases hb : decide (y = 0) with
    | true => rw [hb] at hu; cases hu
    | false =>
      rw [hb] at hu
      cases hu
      obtain ⟨t, rfl, hs2⟩ := sx_cI hst
      obtain ⟨t, rfl, hs3⟩ := sx_cI hs2
      exact ⟨_, sx_one0 hM hc (hr _) (ht _ _) (h0 _ _ _ _ (of_decide_eq_false hb)), rfl, hL, sx_mk rfl hs3, hh⟩
  · cases hu
noncomputable def sx_bl (nx : Nat) (g : Int64 → Int64 → Int64) : sx_Op := fun L st f => match st with
  | .long y :: .long x :: r => some (nx, L, .long (g x y) :: r, f)
  | y :: x :: r => bif sx_isL y && sx_isL x then some (nx, L, .double 100 :: r, f) else none
  | _ => none
theorem sx_o_bl {nx : Nat} {g : Int64 → Int64 → Int64} (hM : am_tab[mi]? = some M) (hc : M.1.2.2.2.2.2 pc = some (i, n)) (hr : ∀ st, am_retv i M.2.2.1 st = none) (ht : ∀ st h, am_tgt M.1.1 i st h = none) (h0 : ∀ lo x y r, am_s0 M.1.2.1 i pc lo (.long y :: .long x :: r) = some (nx, lo, .long (g x y) :: r)) : sx_ok ρ mi pc (sx_bl nx g) := by
  intro L st f lo st' h u hL hst hh hu
  unfold sx_bl at hu
  split at hu
  · cases hu
    obtain ⟨t, rfl, hs2⟩ := sx_cL hst
    obtain ⟨t, rfl, hs3⟩ := sx_cL hs2
    exact ⟨_, sx_one0 hM hc (hr _) (ht _ _) (h0 _ _ _ _), rfl, hL, sx_mk rfl hs3, hh⟩
  · obtain ⟨hb, rfl⟩ := am_cf hu
    obtain ⟨b1, b2⟩ := am_b2 hb
    obtain ⟨w, t, rfl, hrel, hs2⟩ := sx_cV hst
    obtain ⟨y, rfl⟩ := sx_isL_ok b1 hrel
    obtain ⟨w, t, rfl, hrel2, hs3⟩ := sx_cV hs2
    obtain ⟨x, rfl⟩ := sx_isL_ok b2 hrel2
    exact ⟨_, sx_one0 hM hc (hr _) (ht _ _) (h0 _ _ _ _), rfl, hL, sx_mk sx_topL hs3, hh⟩
  · cases hu
noncomputable def sx_bs (nx : Nat) (g : Int64 → Int32 → Int64) : sx_Op := fun L st f => match st with
  | .int y :: .long x :: r => some (nx, L, .long (g x y) :: r, f)
  | y :: x :: r => bif sx_isI y && sx_isL x then some (nx, L, .double 100 :: r, f) else none
  | _ => none
theorem sx_o_bs {nx : Nat} {g : Int64 → Int32 → Int64} (hM : am_tab[mi]? = some M) (hc : M.1.2.2.2.2.2 pc = some (i, n)) (hr : ∀ st, am_retv i M.2.2.1 st = none) (ht : ∀ st h, am_tgt M.1.1 i st h = none) (h0 : ∀ lo x y r, am_s0 M.1.2.1 i pc lo (.int y :: .long x :: r) = some (nx, lo, .long (g x y) :: r)) : sx_ok ρ mi pc (sx_bs nx g) := by
  intro L st f lo st' h u hL hst hh hu
  unfold sx_bs at hu
  split at hu
  · cases hu
    obtain ⟨t, rfl, hs2⟩ := sx_cI hst
    obtain ⟨t, rfl, hs3⟩ := sx_cL hs2
    exact ⟨_, sx_one0 hM hc (hr _) (ht _ _) (h0 _ _ _ _), rfl, hL, sx_mk rfl hs3, hh⟩
  · obtain ⟨hb, rfl⟩ := am_cf hu
    obtain ⟨b1, b2⟩ := am_b2 hb
    obtain ⟨w, t, rfl, hrel, hs2⟩ := sx_cV hst
    obtain ⟨y, rfl⟩ := sx_isI_ok b1 hrel
    obtain ⟨w, t, rfl, hrel2, hs3⟩ := sx_cV hs2
    obtain ⟨x, rfl⟩ := sx_isL_ok b2 hrel2
    exact ⟨_, sx_one0 hM hc (hr _) (ht _ _) (h0 _ _ _ _), rfl, hL, sx_mk sx_topL hs3, hh⟩
  · cases hu
/-- of one int, said -/
noncomputable def sx_u1 (nx : Nat) (g : Int32 → Int32) : sx_Op := fun L st f => match st with
  | .int x :: r => some (nx, L, .int (g x) :: r, f)
  | _ => none
theorem sx_o_u1 {nx : Nat} {g : Int32 → Int32} (hM : am_tab[mi]? = some M) (hc : M.1.2.2.2.2.2 pc = some (i, n)) (hr : ∀ st, am_retv i M.2.2.1 st = none) (ht : ∀ st h, am_tgt M.1.1 i st h = none) (h0 : ∀ lo x r, am_s0 M.1.2.1 i pc lo (.int x :: r) = some (nx, lo, .int (g x) :: r)) : sx_ok ρ mi pc (sx_u1 nx g) := by
  intro L st f lo st' h u hL hst hh hu
  unfold sx_u1 at hu
  split at hu
  · cases hu
    obtain ⟨t, rfl, hs2⟩ := sx_cI hst
    exact ⟨_, sx_one0 hM hc (hr _) (ht _ _) (h0 _ _ _), rfl, hL, sx_mk rfl hs2, hh⟩
  · cases hu
noncomputable def sx_i2l (nx : Nat) : sx_Op := fun L st f => match st with
  | .int x :: r => some (nx, L, .long x.toInt64 :: r, f)
  | .retAddr k :: r => some (nx, L, (bif Nat.blt k 100 then .double (UInt64.ofNat k) else .double 100) :: r, f)
  | _ => none
theorem sx_o_i2l (hM : am_tab[mi]? = some M) (hc : M.1.2.2.2.2.2 pc = some (.i2l, n)) : sx_ok ρ mi pc (sx_i2l (pc + 1)) := by
  intro L st f lo st' h u hL hst hh hu
  unfold sx_i2l at hu
  split at hu
  · cases hu
    obtain ⟨t, rfl, hs2⟩ := sx_cI hst
    exact ⟨_, sx_one0 hM hc rfl rfl rfl, rfl, hL, sx_mk rfl hs2, hh⟩
  · rename_i k r
    cases hu
    obtain ⟨w, t, rfl, ⟨x, rfl, hx⟩, hs2⟩ := sx_cV hst
    refine ⟨_, sx_one0 hM hc rfl rfl rfl, rfl, hL, sx_mk ?_ hs2, hh⟩
    cases hb : Nat.blt k 100 with
    | true =>
      have hk := Nat.blt_eq.mp hb
      have e : (UInt64.ofNat k).toNat = k := by
        rw [UInt64.toNat_ofNat']
        omega
      refine ⟨x.toInt64, rfl, fun _ => ?_⟩
      rw [e, hx hk]
    | false => exact sx_topL
  · cases hu
noncomputable def sx_l2i (nx : Nat) : sx_Op := fun L st f => match st with
  | .long x :: r => some (nx, L, .int x.toInt32 :: r, f)
  | .double _ :: r => some (nx, L, .retAddr 100 :: r, f)
  | _ => none
theorem sx_o_l2i (hM : am_tab[mi]? = some M) (hc : M.1.2.2.2.2.2 pc = some (.l2i, n)) : sx_ok ρ mi pc (sx_l2i (pc + 1)) := by
  intro L st f lo st' h u hL hst hh hu
  unfold sx_l2i at hu
  split at hu
  · cases hu
    obtain ⟨t, rfl, hs2⟩ := sx_cL hst
    exact ⟨_, sx_one0 hM hc rfl rfl rfl, rfl, hL, sx_mk rfl hs2, hh⟩
  · cases hu
    obtain ⟨w, t, rfl, ⟨x, rfl, hx⟩, hs2⟩ := sx_cV hst
    exact ⟨_, sx_one0 hM hc rfl rfl rfl, rfl, hL, sx_mk sx_top hs2, hh⟩
  · cases hu
noncomputable def sx_dup (nx : Nat) : sx_Op := fun L st f => match st with
  | v :: r => bif Nat.beq v.category 1 then some (nx, L, v :: v :: r, f) else none
  | [] => none
theorem sx_o_dup (hM : am_tab[mi]? = some M) (hc : M.1.2.2.2.2.2 pc = some (.dup, n)) : sx_ok ρ mi pc (sx_dup (pc + 1)) := by
  intro L st f lo st' h u hL hst hh hu
  unfold sx_dup at hu
  split at hu
  · obtain ⟨hb, rfl⟩ := am_cf hu
    have hb := Nat.eq_of_beq_eq_true hb
    obtain ⟨w, t, rfl, hrel, hs2⟩ := sx_cV hst
    exact ⟨(pc + 1, lo, w :: w :: t, h), sx_one0 (u := (pc + 1, lo, w :: w :: t)) hM hc rfl rfl (by simp only [am_s0]; rw [if_pos (by rw [sx_cat hrel]; exact hb)]), rfl, hL, sx_mk hrel (sx_mk hrel hs2), hh⟩
  · cases hu
noncomputable def sx_pop (nx : Nat) : sx_Op := fun L st f => match st with
  | v :: r => bif Nat.beq v.category 1 then some (nx, L, r, f) else none
  | [] => none
theorem sx_o_pop (hM : am_tab[mi]? = some M) (hc : M.1.2.2.2.2.2 pc = some (.pop, n)) : sx_ok ρ mi pc (sx_pop (pc + 1)) := by
  intro L st f lo st' h u hL hst hh hu
  unfold sx_pop at hu
  split at hu
  · obtain ⟨hb, rfl⟩ := am_cf hu
    have hb := Nat.eq_of_beq_eq_true hb
    obtain ⟨w, t, rfl, hrel, hs2⟩ := sx_cV hst
    exact ⟨(pc + 1, lo, t, h), sx_one0 (u := (pc + 1, lo, t)) hM hc rfl rfl (by simp only [am_s0]; rw [if_pos (by rw [sx_cat hrel]; exact hb)]), rfl, hL, hs2, hh⟩
  · cases hu
noncomputable def sx_dup2 (nx : Nat) : sx_Op := fun L st f => match st with
  | v :: w :: r => bif Nat.beq v.category 1 && Nat.beq w.category 1 then some (nx, L, v :: w :: v :: w :: r, f) else none
  | _ => none
theorem sx_o_dup2 (hM : am_tab[mi]? = some M) (hc : M.1.2.2.2.2.2 pc = some (.dup2, n)) : sx_ok ρ mi pc (sx_dup2 (pc + 1)) := by
  intro L st f lo st' h u hL hst hh hu
  unfold sx_dup2 at hu
  split at hu
  · obtain ⟨hb, rfl⟩ := am_cf hu
    obtain ⟨b1, b2⟩ := am_b2 hb
    have b1 := Nat.eq_of_beq_eq_true b1
    have b2 := Nat.eq_of_beq_eq_true b2
    obtain ⟨w, t, rfl, hrel, hs2⟩ := sx_cV hst
    obtain ⟨w2, t, rfl, hrel2, hs3⟩ := sx_cV hs2
    exact ⟨(pc + 1, lo, w :: w2 :: w :: w2 :: t, h), sx_one0 (u := (pc + 1, lo, w :: w2 :: w :: w2 :: t)) hM hc rfl rfl (by simp only [am_s0]; rw [if_pos ⟨by rw [sx_cat hrel]; exact b1, by rw [sx_cat hrel2]; exact b2⟩]), rfl, hL, sx_mk hrel (sx_mk hrel2 (sx_mk hrel (sx_mk hrel2 hs3))), hh⟩
  · cases hu
end SXO
