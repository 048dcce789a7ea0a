section
/-! L1: RULES by which the abstract machine follows functions over data -/
noncomputable def wI (x : Int32) : Option Value := some (.int x)
noncomputable def wL (x : Int64) : Option Value := some (.long x)
noncomputable def wV (_ : Unit) : Option Value := none
noncomputable def l1_mv (x : Option Nat) : Value := match x with
  | none => .null
  | some k => .ref k
noncomputable def wM (x : Option Nat) : Option Value := some (l1_mv x)
noncomputable def wN {α : Type} (w : α → Option Value) (a : α) : Option Value ⊕ Nat := .inl (w a)
noncomputable def wT {α : Type} (w : α → Option Value) (a : α ⊕ Nat) : Option Value ⊕ Nat := match a with
  | .inl a => .inl (w a)
  | .inr t => .inr t
/-- how a run ends: with a return, or at a place that throws -/
noncomputable def l1_E (mi pc : Nat) (lo : List (Nat × Value)) (st : List Value) (h : am_H) (o : Option Value ⊕ Nat) (h' : am_H) : Prop := match o with
  | .inl v => am_P mi pc lo st h v h'
  | .inr t => ∃ (n k : Nat) (lo' : List (Nat × Value)), am_go n mi k pc lo st h = some (t, lo', [], h')
theorem l1_one_st1 {n mi pc : Nat} {lo : List (Nat × Value)} {st : List Value} {h : am_H} {u : Nat × List (Nat × Value) × List Value × am_H} (hs : am_one mi pc lo st h = some u) : am_st1 n mi pc lo st h = some u := by
  unfold am_one at hs
  unfold am_st1
  split at hs
  · cases hs
  · rename_i M hM
    rw [hM]; dsimp only
    split at hs
    · cases hs
    · rename_i x hx
      rw [hx]; dsimp only
      split at hs
      · cases hs
      · split at hs
        · cases hs
        · rename_i ht
          rw [ht]
          exact hs
theorem l1_st1_mono {n n' mi pc : Nat} {lo : List (Nat × Value)} {st : List Value} {h : am_H} {u : Nat × List (Nat × Value) × List Value × am_H} (hn : n ≤ n') (hs : am_st1 n mi pc lo st h = some u) : am_st1 n' mi pc lo st h = some u := by
  unfold am_st1 at hs ⊢
  split at hs
  · cases hs
  · rename_i M hM
    try rw [hM]
    try dsimp only
    split at hs
    · cases hs
    · rename_i x hx
      try rw [hx]
      try dsimp only
      split at hs
      · rename_i w hw
        try rw [hw]
        try dsimp only
        split at hs
        · cases hs
        · rename_i M' hM'
          try rw [hM']
          try dsimp only
          obtain ⟨hb, hs⟩ := am_cg hs
          rw [hb, cond_true]
          split at hs
          · rename_i r hr
            rw [am_exec_le hn hr]
            exact hs
          · cases hs
      · rename_i hw
        try rw [hw]
        exact hs
theorem l1_go_mono {n n' mi : Nat} (hn : n ≤ n') : ∀ {k pc : Nat} {lo : List (Nat × Value)} {st : List Value} {h : am_H} {u : Nat × List (Nat × Value) × List Value × am_H}, am_go n mi k pc lo st h = some u → am_go n' mi k pc lo st h = some u := by
  intro k
  induction k with
  | zero => intro pc lo st h u hs; exact hs
  | succ k ih =>
    intro pc lo st h u hs
    unfold am_go at hs ⊢
    split at hs
    · rename_i u0 h0
      rw [l1_st1_mono hn h0]
      exact ih hs
    · cases hs
theorem l1_E.one {mi pc : Nat} {lo : List (Nat × Value)} {st : List Value} {h h' : am_H} {o : Option Value ⊕ Nat} {u : Nat × List (Nat × Value) × List Value × am_H} (hs : am_one mi pc lo st h = some u) (hE : l1_E mi u.1 u.2.1 u.2.2.1 u.2.2.2 o h') : l1_E mi pc lo st h o h' := by
  cases o with
  | inl v =>
    refine am_P.many (u := u) 1 ?_ hE
    show (match am_one mi pc lo st h with | some u => am_many 0 mi u.1 u.2.1 u.2.2.1 u.2.2.2 | none => none) = some u
    rw [hs]
    rfl
  | inr t =>
    obtain ⟨n, k, lo', hk⟩ := hE
    refine ⟨n, k + 1, lo', ?_⟩
    rw [am_go, l1_one_st1 hs]
    exact hk
theorem l1_E.call {mi pc : Nat} {lo : List (Nat × Value)} {st : List Value} {h h1 h' : am_H} {v1 : Option Value} {o : Option Value ⊕ Nat} {M M' : am_M} {x : Instr × Nat} {w : Nat × List Value × List Value} (hM : am_tab[mi]? = some M) (hc : M.1.2.2.2.2.2 pc = some x) (hr : am_retv x.1 M.2.2.1 st = none) (ht : am_tgt M.1.1 x.1 st h = some w) (hM' : am_tab[w.1]? = some M') (hk : am_can M M' x.1 w = true) (hT : am_T w.1 w.2.1 h v1 h1) (hE : l1_E mi (pc + 3) lo (v1.toList ++ w.2.2) h1 o h') : l1_E mi pc lo st h o h' := by
  cases o with
  | inl v => exact am_P.call hM hc hr ht hM' hk hT hE
  | inr t =>
    obtain ⟨a, ha⟩ := hT
    obtain ⟨n, k, lo', hg⟩ := hE
    refine ⟨max a n, k + 1, lo', ?_⟩
    have hs : am_st1 (max a n) mi pc lo st h = some (pc + 3, lo, v1.toList ++ w.2.2, h1) := by
      unfold am_st1
      rw [hM]; dsimp only
      rw [hc]; dsimp only
      rw [ht]; dsimp only
      rw [hM']; dsimp only
      rw [hk, cond_true, am_exec_le (Nat.le_max_left a n) ha]
    rw [am_go, hs]
    exact l1_go_mono (Nat.le_max_right a n) hg
/-! locals by place -/
noncomputable def l1_ag (L : List (Option Value)) (lo : List (Nat × Value)) : Prop := ∀ k v, L[k]? = some (some v) → am_get lo k = some v
noncomputable def l1_agl : Nat → List (Option Value) → List (Nat × Value) → Prop
  | _, [], _ => True
  | i, none :: r, lo => l1_agl (i + 1) r lo
  | i, some v :: r, lo => am_get lo i = some v ∧ l1_agl (i + 1) r lo
theorem l1_agl_ag {lo : List (Nat × Value)} : ∀ {L : List (Option Value)} {i : Nat}, l1_agl i L lo → ∀ k v, L[k]? = some (some v) → am_get lo (i + k) = some v := by
  intro L
  induction L with
  | nil => intro i _ k v h; simp at h
  | cons x r ih =>
    intro i ha k v h
    cases x with
    | none =>
      cases k with
      | zero => simp at h
      | succ k =>
        rw [show i + (k + 1) = i + 1 + k by omega]
        exact ih (i := i + 1) ha k v (by simpa using h)
    | some w =>
      cases k with
      | zero =>
        simp at h
        subst h
        exact ha.1
      | succ k =>
        rw [show i + (k + 1) = i + 1 + k by omega]
        exact ih (i := i + 1) ha.2 k v (by simpa using h)
theorem l1_ag_of {lo : List (Nat × Value)} {L : List (Option Value)} (h : l1_agl 0 L lo) : l1_ag L lo := fun k v hk => by
  have := l1_agl_ag h k v hk
  rwa [Nat.zero_add] at this
noncomputable def l1_msk : List Bool → List (Option Value) → List (Option Value)
  | [], _ => []
  | _, [] => []
  | true :: m, x :: r => x :: l1_msk m r
  | false :: m, _ :: r => none :: l1_msk m r
theorem l1_msk_at : ∀ {m : List Bool} {L : List (Option Value)} {k : Nat} {v : Value}, (l1_msk m L)[k]? = some (some v) → L[k]? = some (some v)
  | [], L, k, v, h => by simp [l1_msk] at h
  | b :: m, [], k, v, h => by cases b <;> simp [l1_msk] at h
  | true :: m, x :: r, 0, v, h => by simpa [l1_msk] using h
  | true :: m, x :: r, k + 1, v, h => by
    have h : (l1_msk m r)[k]? = some (some v) := by simpa [l1_msk] using h
    simpa using l1_msk_at h
  | false :: m, x :: r, 0, v, h => by simp [l1_msk] at h
  | false :: m, x :: r, k + 1, v, h => by
    have h : (l1_msk m r)[k]? = some (some v) := by simpa [l1_msk] using h
    simpa using l1_msk_at h
noncomputable def l1_trim : List (Option Value) → List (Option Value)
  | [] => []
  | x :: r => match x, l1_trim r with
    | none, [] => []
    | x, r => x :: r
theorem l1_trim_at : ∀ {L : List (Option Value)} {k : Nat} {v : Value}, (l1_trim L)[k]? = some (some v) → L[k]? = some (some v) := by
  intro L
  induction L with
  | nil => intro k v h; exact h
  | cons x r ih =>
    intro k v h
    unfold l1_trim at h
    split at h
    · simp at h
    · cases k with
      | zero => simpa using h
      | succ k => simpa using ih (by simpa using h)
noncomputable def l1_kill (n : Nat) (x : Option Value) : Option Value := match n, x with
  | 0, some (.long _) => none
  | 0, some (.double _) => none
  | _, x => x
noncomputable def l1_put : Nat → List (Option Value) → Value → List (Option Value)
  | 0, [], v => [some v]
  | 0, _ :: r, v => some v :: r
  | n + 1, [], v => none :: l1_put n [] v
  | n + 1, x :: r, v => l1_kill n x :: l1_put n r v
theorem l1_put_at : ∀ {i : Nat} {L : List (Option Value)} {v w : Value} {k : Nat}, (l1_put i L v)[k]? = some (some w) → (k = i ∧ w = v) ∨ (k ≠ i ∧ L[k]? = some (some w) ∧ ¬ (k + 1 = i ∧ w.category = 2))
  | 0, [], v, w, 0, h => by simp [l1_put] at h; exact Or.inl ⟨rfl, h.symm⟩
  | 0, [], v, w, k + 1, h => by simp [l1_put] at h
  | 0, x :: r, v, w, 0, h => by simp [l1_put] at h; exact Or.inl ⟨rfl, h.symm⟩
  | 0, x :: r, v, w, k + 1, h => Or.inr ⟨by omega, by simpa [l1_put] using h, by omega⟩
  | n + 1, [], v, w, 0, h => by simp [l1_put] at h
  | n + 1, [], v, w, k + 1, h => by
    have h : (l1_put n [] v)[k]? = some (some w) := by simpa [l1_put] using h
    rcases l1_put_at h with ⟨h1, h2⟩ | ⟨_, h2, _⟩
    · exact Or.inl ⟨by omega, h2⟩
    · simp at h2
  | n + 1, x :: r, v, w, 0, h => by
    have h : l1_kill n x = some w := by simpa [l1_put] using h
    refine Or.inr ⟨by omega, ?_, ?_⟩
    · unfold l1_kill at h
      split at h
      · cases h
      · cases h
      · simp [h]
    · rintro ⟨h1, h2⟩
      have : n = 0 := by omega
      subst this
      cases x with
      | none => simp [l1_kill] at h
      | some y => cases y <;> simp [l1_kill] at h <;> subst h <;> simp [Value.category] at h2
  | n + 1, x :: r, v, w, k + 1, h => by
    have h : (l1_put n r v)[k]? = some (some w) := by simpa [l1_put] using h
    rcases l1_put_at h with ⟨h1, h2⟩ | ⟨h1, h2, h3⟩
    · exact Or.inl ⟨by omega, h2⟩
    · exact Or.inr ⟨by omega, by simpa using h2, by omega⟩
noncomputable def l1_un : Nat → List (Option Value) → List (Option Value)
  | _, [] => []
  | 0, _ :: r => none :: r
  | n + 1, x :: r => x :: l1_un n r
theorem l1_un_at : ∀ {i : Nat} {L : List (Option Value)} {w : Value} {k : Nat}, (l1_un i L)[k]? = some (some w) → k ≠ i ∧ L[k]? = some (some w)
  | _, [], w, k, h => by simp [l1_un] at h
  | 0, x :: r, w, 0, h => by simp [l1_un] at h
  | 0, x :: r, w, k + 1, h => ⟨by omega, by simpa [l1_un] using h⟩
  | n + 1, x :: r, w, 0, h => ⟨by omega, by simpa [l1_un] using h⟩
  | n + 1, x :: r, w, k + 1, h => by
    have h : (l1_un n r)[k]? = some (some w) := by simpa [l1_un] using h
    have := l1_un_at h
    exact ⟨by omega, by simpa using this.2⟩
theorem l1_get_filter {p : Nat × Value → Bool} {k : Nat} {w : Value} (hp : p (k, w) = true) : ∀ {lo : List (Nat × Value)}, am_get lo k = some w → am_get (lo.filter p) k = some w
  | [], h => by simp [am_get] at h
  | (j, u) :: r, h => by
    unfold am_get at h
    cases hb : Nat.beq j k with
    | true =>
      rw [hb, cond_true] at h
      cases h
      cases Nat.eq_of_beq_eq_true hb
      rw [List.filter_cons, if_pos hp]
      unfold am_get
      rw [hb, cond_true]
    | false =>
      rw [hb, cond_false] at h
      have ih := l1_get_filter hp h
      rw [List.filter_cons]
      split
      · unfold am_get
        rw [hb, cond_false]
        exact ih
      · exact ih
theorem l1_get_cons {i k : Nat} {v : Value} {r : List (Nat × Value)} (h : k ≠ i) : am_get ((i, v) :: r) k = am_get r k := by
  unfold am_get
  cases hb : Nat.beq i k with
  | true => exact absurd (Nat.eq_of_beq_eq_true hb).symm h
  | false => rw [cond_false]; cases r <;> rfl
theorem l1_ag_set {L : List (Option Value)} {lo : List (Nat × Value)} {i : Nat} {v : Value} (ha : l1_ag L lo) : l1_ag (l1_put i L v) (am_set lo i v) := by
  intro k w h
  rcases l1_put_at h with ⟨rfl, rfl⟩ | ⟨h1, h2, h3⟩
  · simp [am_set, am_get]
  · unfold am_set
    rw [l1_get_cons h1]
    refine l1_get_filter ?_ (ha k w h2)
    have hki : (k == i) = false := by simpa using h1
    by_cases e : k + 1 = i
    · have : ¬ w.category = 2 := fun q => h3 ⟨e, q⟩
      simp [hki, this]
    · simp [hki, e]
theorem l1_ag_setL {L : List (Option Value)} {lo : List (Nat × Value)} {i : Nat} {v : Value} (ha : l1_ag L lo) : l1_ag (l1_un (i + 1) (l1_put i L v)) (am_setL lo i v) := by
  intro k w h
  obtain ⟨h0, h⟩ := l1_un_at h
  rcases l1_put_at h with ⟨rfl, rfl⟩ | ⟨h1, h2, h3⟩
  · simp [am_setL, am_get]
  · unfold am_setL
    rw [l1_get_cons h1]
    refine l1_get_filter ?_ (ha k w h2)
    have hki : (k == i) = false := by simpa using h1
    have hk1 : (k == i + 1) = false := by simpa using h0
    by_cases e : k + 1 = i
    · have : ¬ w.category = 2 := fun q => h3 ⟨e, q⟩
      simp [hki, hk1, this]
    · simp [hki, hk1, e]
/-! the frame's steps over locals by place -/
noncomputable def l1_ld (i : Instr) : Option (Nat × Nat × Nat) := match i with
  | .iload n => some (0, n, 2)
  | .iload_n n => some (0, (n : Nat), 1)
  | .lload n => some (1, n, 2)
  | .lload_n n => some (1, (n : Nat), 1)
  | .aload n => some (2, n, 2)
  | .aload_n n => some (2, (n : Nat), 1)
  | _ => none
noncomputable def l1_sto (i : Instr) : Option (Nat × Nat × Nat) := match i with
  | .istore n => some (0, n, 2)
  | .istore_n n => some (0, (n : Nat), 1)
  | .lstore n => some (1, n, 2)
  | .lstore_n n => some (1, (n : Nat), 1)
  | .astore n => some (2, n, 2)
  | .astore_n n => some (2, (n : Nat), 1)
  | _ => none
noncomputable def l1_is (kd : Nat) (v : Value) : Bool := match kd, v with
  | 0, .int _ => true
  | 1, .long _ => true
  | 2, .ref _ => true
  | 2, .null => true
  | _, _ => false
noncomputable def l1_set (kd i : Nat) (L : List (Option Value)) (v : Value) : List (Option Value) := match kd with
  | 1 => l1_un (i + 1) (l1_put i L v)
  | _ => l1_put i L v
noncomputable def l1_two (kd : Nat) : Nat := match kd with
  | 1 => 1
  | _ => 0
noncomputable def l1_ps (M : am_M) (pc : Nat) (L : List (Option Value)) (st : List Value) : Option (Nat × List (Option Value) × List Value) := match M.1.2.2.2.2.2 pc with
  | none => none
  | some x => match l1_ld x.1 with
    | some u => match L[u.2.1]? with
      | some (some v) => bif l1_is u.1 v then some (pc + u.2.2, L, v :: st) else none
      | _ => none
    | none => match l1_sto x.1 with
      | some u => match st with
        | v :: r => bif l1_is u.1 v && Nat.blt (u.2.1 + l1_two u.1) M.1.2.1 then some (pc + u.2.2, l1_set u.1 u.2.1 L v, r) else none
        | _ => none
      | none => match x.1 with
        | .iinc n d => match L[n]? with
          | some (some (.int y)) => bif Nat.blt n M.1.2.1 then some (pc + 3, l1_put n L (.int (y + Int32.ofInt d)), st) else none
          | _ => none
        | .ldc idx => match am_fnd (am_ct M.1.1) idx with
          | some v => some (pc + 2, L, .int v :: st)
          | none => match am_fnd (am_stt M.1.1) idx with
            | some j => some (pc + 2, L, .ref (1000000100 + j) :: st)
            | none => none
        | .ldc_w idx => match am_fnd (am_ct M.1.1) idx with
          | some v => some (pc + 3, L, .int v :: st)
          | none => none
        | .ldc2_w idx => match am_fnd (am_lt0 M.1.1) idx with
          | some v => some (pc + 3, L, .long v :: st)
          | none => none
        | .getstatic idx => match am_fnd (am_gt M.1.1) idx with
          | some j => some (pc + 3, L, .ref (1000000000 + j) :: st)
          | none => none
        | i => match am_s0 M.1.2.1 i pc [] st with
          | some u => some (u.1, L, u.2.2)
          | none => none
noncomputable def l1_fr (i : Instr) : Bool := match i with
  | .iinc _ _ => false
  | i => (l1_ld i).isNone && (l1_sto i).isNone
set_option maxHeartbeats 4000000 in
theorem l1_s0_fr {nL pc : Nat} {i : Instr} {st : List Value} {u : Nat × List (Nat × Value) × List Value} (hf : l1_fr i = true) (hs : am_s0 nL i pc [] st = some u) (lo : List (Nat × Value)) : am_s0 nL i pc lo st = some (u.1, lo, u.2.2) ∧ ∀ ret own h, am_retv i ret st = none ∧ am_tgt own i st h = none := by
  cases i <;> first
    | (exfalso; cases hs; done)
    | (exfalso; cases hf; done)
    | (refine ⟨?_, fun _ _ _ => ⟨rfl, rfl⟩⟩
       unfold am_s0 at hs ⊢
       dsimp only at hs ⊢
       first
         | (cases hs; rfl)
         | ((repeat' split at hs) <;> first
             | (cases hs; done)
             | (cases hs; rfl)
             | (cases hs; (repeat' split) <;> first | rfl | (simp_all; done) | (exfalso; simp_all; done))))
end
section
section L1A
variable {mi pc n : Nat} {M : am_M} {i : Instr} {lo : List (Nat × Value)} {st : List Value} {h : am_H}
theorem l1_one0 {u : Nat × List (Nat × Value) × List Value} (hM : am_tab[mi]? = some M) (hc : M.1.2.2.2.2.2 pc = some (i, n)) (hr : am_retv i M.2.2.1 st = none) (ht : am_tgt M.1.1 i st h = none) (h0 : am_s0 M.1.2.1 i pc lo st = some u) : am_one mi pc lo st h = some (u.1, u.2.1, u.2.2, h) := by
  unfold am_one
  rw [hM]; dsimp only
  rw [hc]; dsimp only
  rw [hr]; dsimp only
  rw [ht]; dsimp only
  rw [h0]
theorem l1_one1 {u : Nat × List Value × am_H} (hM : am_tab[mi]? = some M) (hc : M.1.2.2.2.2.2 pc = some (i, n)) (hr : am_retv i M.2.2.1 st = none) (ht : am_tgt M.1.1 i st h = none) (h0 : am_s0 M.1.2.1 i pc lo st = none) (h1 : am_s1 M.1.1 M.1.2.2.1 i pc st h = some u) : am_one mi pc lo st h = some (u.1, lo, u.2.1, u.2.2) := by
  unfold am_one
  rw [hM]; dsimp only
  rw [hc]; dsimp only
  rw [hr]; dsimp only
  rw [ht]; dsimp only
  rw [h0]; dsimp only
  rw [h1]
theorem l1_one2 {u : Nat × List Value} (hM : am_tab[mi]? = some M) (hc : M.1.2.2.2.2.2 pc = some (i, n)) (hr : am_retv i M.2.2.1 st = none) (ht : am_tgt M.1.1 i st h = none) (h0 : am_s0 M.1.2.1 i pc lo st = none) (h1 : am_s1 M.1.1 M.1.2.2.1 i pc st h = none) (h2 : am_s2 M.1.1 M.1.2.2.2.1 M.1.2.2.2.2.1 i pc st = some u) : am_one mi pc lo st h = some (u.1, lo, u.2, h) := by
  unfold am_one
  rw [hM]; dsimp only
  rw [hc]; dsimp only
  rw [hr]; dsimp only
  rw [ht]; dsimp only
  rw [h0]; dsimp only
  rw [h1]; dsimp only
  rw [h2]
end L1A
theorem l1_ld_s0 {nL pc : Nat} {i : Instr} {u : Nat × Nat × Nat} {v : Value} {lo : List (Nat × Value)} {st : List Value} (hl : l1_ld i = some u) (hg : am_get lo u.2.1 = some v) (hi : l1_is u.1 v = true) : am_s0 nL i pc lo st = some (pc + u.2.2, lo, v :: st) ∧ ∀ ret own h, am_retv i ret st = none ∧ am_tgt own i st h = none := by
  cases i <;> first
    | (exfalso; cases hl; done)
    | (cases hl; refine ⟨?_, fun _ _ _ => ⟨rfl, rfl⟩⟩; cases v <;> first | (cases hi; done) | (simp only [am_s0, hg]; done))
theorem l1_sto_s0 {nL pc : Nat} {i : Instr} {u : Nat × Nat × Nat} {v : Value} {lo : List (Nat × Value)} {r : List Value} (hl : l1_sto i = some u) (hi : l1_is u.1 v = true) (hb : Nat.blt (u.2.1 + l1_two u.1) nL = true) : ∃ lo', am_s0 nL i pc lo (v :: r) = some (pc + u.2.2, lo', r) ∧ (∀ L, l1_ag L lo → l1_ag (l1_set u.1 u.2.1 L v) lo') ∧ ∀ ret own h, am_retv i ret (v :: r) = none ∧ am_tgt own i (v :: r) h = none := by
  cases i <;> first
    | (exfalso; cases hl; done)
    | (cases hl; cases v <;> first
        | (cases hi; done)
        | (refine ⟨_, ?_, fun L ha => l1_ag_set ha, fun _ _ _ => ⟨rfl, rfl⟩⟩; simp only [l1_two, Nat.add_zero] at hb; simp only [am_s0, hb, cond_true]; done)
        | (refine ⟨_, ?_, fun L ha => l1_ag_setL ha, fun _ _ _ => ⟨rfl, rfl⟩⟩; simp only [l1_two] at hb; simp only [am_s0, hb, cond_true]; done))
theorem l1_ps_ok {mi pc : Nat} {M : am_M} {L L' : List (Option Value)} {st st' : List Value} {pc' : Nat} {lo : List (Nat × Value)} {h : am_H} (hM : am_tab[mi]? = some M) (hs : l1_ps M pc L st = some (pc', L', st')) (ha : l1_ag L lo) : ∃ lo', am_one mi pc lo st h = some (pc', lo', st', h) ∧ l1_ag L' lo' := by
  unfold l1_ps at hs
  split at hs
  · cases hs
  · rename_i x hx
    obtain ⟨i, n⟩ := x
    dsimp only at hs
    split at hs
    · rename_i u hu
      split at hs
      · rename_i v hv
        obtain ⟨hb, hs⟩ := am_cg hs
        cases hs
        obtain ⟨h0, h1⟩ := l1_ld_s0 (nL := M.1.2.1) (pc := pc) (st := st) hu (ha _ _ hv) hb
        exact ⟨lo, l1_one0 (u := (pc + u.2.2, lo, v :: st)) hM hx (h1 _ M.1.1 h).1 (h1 M.2.2.1 _ h).2 h0, ha⟩
      · cases hs
    · rename_i hl
      split at hs
      · rename_i u hu
        split at hs
        · rename_i v r
          obtain ⟨hb, hs⟩ := am_cg hs
          cases hs
          obtain ⟨hb1, hb2⟩ := am_b2 hb
          obtain ⟨lo', h0, h1, h2⟩ := l1_sto_s0 (nL := M.1.2.1) (pc := pc) (lo := lo) (r := st') hu hb1 hb2
          exact ⟨lo', l1_one0 (u := (pc + u.2.2, lo', st')) hM hx (h2 _ M.1.1 h).1 (h2 M.2.2.1 _ h).2 h0, h1 L ha⟩
        · cases hs
      · rename_i hsto
        split at hs
        · rename_i k d
          split at hs
          · rename_i y hy
            obtain ⟨hb, hs⟩ := am_cg hs
            cases hs
            refine ⟨am_set lo k (.int (y + Int32.ofInt d)), l1_one0 (u := (pc + 3, am_set lo k (.int (y + Int32.ofInt d)), st)) hM hx rfl rfl ?_, l1_ag_set ha⟩
            simp only [am_s0, ha _ _ hy, hb, cond_true]
          · cases hs
        · rename_i idx
          split at hs
          · rename_i v hv
            cases hs
            exact ⟨lo, l1_one1 (u := (pc + 2, .int v :: st, h)) hM hx rfl rfl rfl (by simp only [am_s1, hv]), ha⟩
          · rename_i hn
            split at hs
            · rename_i j hj
              cases hs
              exact ⟨lo, l1_one2 (u := (pc + 2, .ref (1000000100 + j) :: st)) hM hx rfl rfl rfl (by simp only [am_s1, hn]) (by simp only [am_s2, hj]), ha⟩
            · cases hs
        · rename_i idx
          split at hs
          · rename_i v hv
            cases hs
            exact ⟨lo, l1_one1 (u := (pc + 3, .int v :: st, h)) hM hx rfl rfl rfl (by simp only [am_s1, hv]), ha⟩
          · cases hs
        · rename_i idx
          split at hs
          · rename_i v hv
            cases hs
            exact ⟨lo, l1_one1 (u := (pc + 3, .long v :: st, h)) hM hx rfl rfl rfl (by simp only [am_s1, hv]), ha⟩
          · cases hs
        · rename_i idx
          split at hs
          · rename_i j hj
            cases hs
            exact ⟨lo, l1_one2 (u := (pc + 3, .ref (1000000000 + j) :: st)) hM hx rfl rfl rfl rfl (by simp only [am_s2, hj]), ha⟩
          · cases hs
        · split at hs
          · rename_i u hu
            cases hs
            have hf : l1_fr i = true := by
              clear hu
              cases i <;> first
                | rfl
                | (exfalso; cases hl; done)
                | (exfalso; cases hsto; done)
                | (exfalso; simp_all; done)
            obtain ⟨h0, h1⟩ := l1_s0_fr hf hu lo
            exact ⟨lo, l1_one0 (u := (u.1, lo, u.2.2)) hM hx (h1 _ M.1.1 h).1 (h1 M.2.2.1 _ h).2 h0, ha⟩
          · cases hs
noncomputable def l1_pm (M : am_M) : Nat → Nat → List (Option Value) → List Value → Option (Nat × List (Option Value) × List Value)
  | 0, pc, L, st => some (pc, L, st)
  | k + 1, pc, L, st => match l1_ps M pc L st with
    | some u => l1_pm M k u.1 u.2.1 u.2.2
    | none => none
theorem l1_pm_E {mi : Nat} {M : am_M} (hM : am_tab[mi]? = some M) : ∀ {k pc pc' : Nat} {L L' : List (Option Value)} {st st' : List Value} {lo : List (Nat × Value)}, l1_pm M k pc L st = some (pc', L', st') → l1_ag L lo → ∀ h, ∃ lo', l1_ag L' lo' ∧ ∀ o h', l1_E mi pc' lo' st' h o h' → l1_E mi pc lo st h o h' := by
  intro k
  induction k with
  | zero => intro pc pc' L L' st st' lo hs ha h; cases hs; exact ⟨lo, ha, fun _ _ q => q⟩
  | succ k ih =>
    intro pc pc' L L' st st' lo hs ha h
    unfold l1_pm at hs
    split at hs
    · rename_i u hu
      obtain ⟨p1, L1, s1⟩ := u
      obtain ⟨lo1, h1, a1⟩ := l1_ps_ok (h := h) hM hu ha
      obtain ⟨lo2, a2, h2⟩ := ih hs a1 h
      exact ⟨lo2, a2, fun o h' q => l1_E.one h1 (h2 o h' q)⟩
    · cases hs
/-! what stands in the heap -/
noncomputable def l1_ty (ci j : Nat) : Nat := match ci with
  | 0 => 2
  | 1 => bif Nat.beq j 0 then 2 else 0
  | 2 => bif Nat.blt j 3 then 2 else 0
  | 3 => 2
  | 4 => bif Nat.blt j 6 then 2 else 0
  | 6 => bif Nat.blt j 2 then 2 else 0
  | 7 => bif Nat.beq j 0 then 2 else 0
  | 8 => bif Nat.beq j 0 then 2 else 0
  | 9 => bif Nat.blt j 9 then 2 else 0
  | 10 => bif Nat.blt j 8 then 2 else 3
  | 11 => bif Nat.beq j 21 then 1 else bif [1, 3, 9, 10, 11, 12, 13, 15, 17, 22, 27, 28, 29, 31, 36, 37, 38].contains j then 2 else 0
  | 21 => 1
  | 23 => 2
  | 24 => 3
  | _ => 0
noncomputable def l1_rf (o ci j : Nat) : Nat := match ci with
  | 1 => o + 1
  | 2 => o + (1 + j)
  | 6 => o + (1 + 2 * j)
  | 7 => 3
  | 8 => o + 1
  | 9 => [3, 7, 9, 12, 16, 20, 24, 28, 32].getD j 0
  | 10 => [1, 3, 5, 7, 9, 10, 11, 33].getD j 0
  | 11 => [0, 202, 0, 203, 0, 0, 0, 0, 0, 204, 205, 206, 207, 208, 0, 209, 0, 210, 0, 0, 0, 0, 211, 0, 0, 0, 0, 212, 213, 214, 0, 215, 0, 0, 0, 0, 216, 217, 218].getD j 0
  | 23 => 34 + j
  | _ => [3, 5, 9, 10, 11, 7].getD j 0
noncomputable def l1_ct (c : hS) (o ci j : Nat) : Value := match l1_ty ci j with
  | 0 => .int (c.1 o j)
  | 1 => .long (c.2.1 o j)
  | 2 => .ref (l1_rf o ci j)
  | _ => .ref (c.2.2 o j)
noncomputable def l1_wd (ci o : Nat) : Nat := bif Nat.blt ci 20 then am_nf ci else ln o
noncomputable def l1_R (kf : Nat → Nat) (c : hS) (h : am_H) : Prop := ∀ o, kf o < 99 → o < h.1 ∧ (h.2.2.2 o).1 = kf o ∧ (h.2.2.2 o).2.1 = ln o ∧ ∀ j, j < l1_wd (kf o) o → (h.2.2.2 o).2.2 j = l1_ct c o (kf o) j
noncomputable def l1_em (kf : Nat → Nat) (Q : hS → am_H → Prop) : Prop := ∀ c h, Q c h → h.1 = 220 ∧ l1_R kf c h ∧ ∀ (o : Nat) (f : Nat → Value) (c' : hS), kf o < 99 → (∀ q, q ≠ o → ∀ j, l1_ct c' q (kf q) j = l1_ct c q (kf q) j) → (∀ j, j < l1_wd (kf o) o → f j = l1_ct c' o (kf o) j) → Q c' (am_put h o (kf o, ln o, f))
noncomputable def l1_G {α : Type} (w : α → Option Value ⊕ Nat) (Q : hS → am_H → Prop) (mi pc : Nat) (L : List (Option Value)) (st : List Value) (c : hS) (X : Option (α × hS)) : Prop := ∀ a c', X = some (a, c') → ∀ h lo, Q c h → l1_ag L lo → ∃ h', l1_E mi pc lo st h (w a) h' ∧ Q c' h'
noncomputable def l1_T {α : Type} (w : α → Option Value) (Q : hS → am_H → Prop) (mi : Nat) (av : List Value) (c : hS) (X : Option (α × hS)) : Prop := ∀ a c', X = some (a, c') → ∀ h, Q c h → ∃ h', am_T mi av h (w a) h' ∧ Q c' h'
noncomputable def l1_OA (q : Nat) (a : List Int32) : Prop := am_fnd am_oal q = some a ∧ 1000 ≤ q
noncomputable def l1_OT (q : Nat) (a : List Int32) : Prop := am_fnd am_otl q = some a ∧ 1000 ≤ q
theorem l1_b99 {a : Nat} (h : Nat.blt a 99 = true) : a < 99 := Nat.blt_eq.mp h
section L1B
variable {α β : Type} {w : α → Option Value ⊕ Nat} {Q : hS → am_H → Prop} {kf : Nat → Nat} {mi pc n : Nat} {M M' : am_M} {L L' : List (Option Value)} {st st' : List Value} {c : hS} {X Y : Option (α × hS)}
theorem l1_of {w : α → Option Value} {av : List Value} (hG : l1_G (wN w) Q mi 0 L [] c X) (ha : l1_agl 0 L (lv_args 0 av)) : l1_T w Q mi av c X := fun a c' hX h hq => hG a c' hX h _ hq (l1_ag_of ha)
theorem l1_none : l1_G w Q mi pc L st c none := fun _ _ hX => by cases hX
theorem l1_many {pc' : Nat} (hM : am_tab[mi]? = some M) (k : Nat) (hp : l1_pm M k pc L st = some (pc', L', st')) (hG : l1_G w Q mi pc' L' st' c X) : l1_G w Q mi pc L st c X := by
  intro a c' hX h lo hq ha
  obtain ⟨lo', a', hE⟩ := l1_pm_E hM hp ha h
  obtain ⟨h', e', q'⟩ := hG a c' hX h lo' hq a'
  exact ⟨h', hE _ _ e', q'⟩
theorem l1_weak {m : List Bool} (hm : l1_trim (l1_msk m L) = L') (hG : l1_G w Q mi pc L' st c X) : l1_G w Q mi pc L st c X := by
  intro a c' hX h lo hq ha
  exact hG a c' hX h lo hq (fun k v hk => ha k v (l1_msk_at (l1_trim_at (by rw [hm]; exact hk))))
theorem l1_ite {p : Prop} [Decidable p] (h1 : p → l1_G w Q mi pc L st c X) (h2 : ¬ p → l1_G w Q mi pc L st c Y) : l1_G w Q mi pc L st c (if p then X else Y) := by
  by_cases hp : p
  · rw [if_pos hp]; exact h1 hp
  · rw [if_neg hp]; exact h2 hp
theorem l1_bif {b : Bool} {t f : Nat} {p : Prop} [Decidable p] (hb : b = decide p) (h1 : l1_G w Q mi t L st c X) (h2 : l1_G w Q mi f L st c Y) : l1_G w Q mi (bif b then t else f) L st c (if p then X else Y) := by
  subst hb
  by_cases hp : p
  · rw [if_pos hp, decide_eq_true hp]; exact h1
  · rw [if_neg hp, decide_eq_false hp]; exact h2
theorem l1_bin {b : Bool} {t f : Nat} {p : Prop} [Decidable p] (hb : b = !decide p) (h1 : l1_G w Q mi f L st c X) (h2 : l1_G w Q mi t L st c Y) : l1_G w Q mi (bif b then t else f) L st c (if p then X else Y) := by
  subst hb
  by_cases hp : p
  · rw [if_pos hp, decide_eq_true hp]; exact h1
  · rw [if_neg hp, decide_eq_false hp]; exact h2
theorem l1_ck {b : Bool} (hG : b = true → l1_G w Q mi pc L st c X) : l1_G w Q mi pc L st c (bif b then X else none) := by
  cases b with
  | true => exact hG rfl
  | false => exact l1_none
theorem l1_opt {x : Option Nat} {K : Nat → Option (α × hS)} (h0 : l1_G w Q mi pc L (.null :: st) c X) (h1 : ∀ y, l1_G w Q mi pc L (.ref y :: st) c (K y)) : l1_G w Q mi pc L (l1_mv x :: st) c (opt x X K) := by
  cases x with
  | none => exact h0
  | some y => exact h1 y
/-- one step that leaves the state -/
theorem l1_step {pc' : Nat} (hs : ∀ h lo, Q c h → l1_ag L lo → am_one mi pc lo st h = some (pc', lo, st', h)) (hG : l1_G w Q mi pc' L st' c X) : l1_G w Q mi pc L st c X := by
  intro a c' hX h lo hq ha
  obtain ⟨h', e', q'⟩ := hG a c' hX h lo hq ha
  exact ⟨h', l1_E.one (hs h lo hq ha) e', q'⟩
/-- one step that changes it -/
theorem l1_stepS {pc' : Nat} {c1 : hS} {K : hS → Option (α × hS)} (hs : ∀ h lo, Q c h → l1_ag L lo → ∃ h1, am_one mi pc lo st h = some (pc', lo, st', h1) ∧ Q c1 h1) (hG : ∀ c1, l1_G w Q mi pc' L st' c1 (K c1)) : l1_G w Q mi pc L st c (st1 c1 K) := by
  intro a c' hX h lo hq ha
  obtain ⟨h1, e1, q1⟩ := hs h lo hq ha
  obtain ⟨h', e', q'⟩ := hG c1 a c' hX h1 lo q1 ha
  exact ⟨h', l1_E.one e1 e', q'⟩
theorem l1_sw {i : Instr} {pc' : Nat} (hM : am_tab[mi]? = some M) (hc : M.1.2.2.2.2.2 pc = some (i, n)) (hf : l1_fr i = true) (h0 : am_s0 M.1.2.1 i pc [] st = some (pc', [], st')) (hG : l1_G w Q mi pc' L st' c X) : l1_G w Q mi pc L st c X := by
  refine l1_step (fun h lo _ _ => ?_) hG
  obtain ⟨h0, h1⟩ := l1_s0_fr hf h0 lo
  exact l1_one0 (u := (pc', lo, st')) hM hc (h1 _ M.1.1 h).1 (h1 M.2.2.1 _ h).2 h0
theorem l1_rem {x y : Int32} (hM : am_tab[mi]? = some M) (hc : M.1.2.2.2.2.2 pc = some (.irem, n)) (hG : l1_G w Q mi (pc + 1) L (.int (j_rem x y) :: st) c X) : l1_G w Q mi pc L (.int y :: .int x :: st) c (if y = 0 then none else X) := by
  refine l1_ite (fun _ => l1_none) (fun hy => ?_)
  refine l1_step (fun h lo _ _ => ?_) hG
  exact l1_one0 (u := (pc + 1, lo, .int (j_rem x y) :: st)) hM hc rfl rfl (by simp only [am_s0, if_neg hy]; rfl)
theorem l1_ret {i : Instr} {a : α} {v : Option Value} (hM : am_tab[mi]? = some M) (hc : M.1.2.2.2.2.2 pc = some (i, n)) (hr : am_retv i M.2.2.1 st = some v) (hw : w a = .inl v) : l1_G w Q mi pc L st c (some (a, c)) := by
  intro a' c' hX h lo hq ha
  cases hX
  refine ⟨h, ?_, hq⟩
  rw [hw]
  exact am_P.ret hM hc hr
theorem l1_retZ {a : α} {x : Int32} (hM : am_tab[mi]? = some M) (hc : M.1.2.2.2.2.2 pc = some (.ireturn, n)) (hr : M.2.2.1 = some .boolean) (hw : w a = .inl (some (.int x))) (hz : j_b x = true) : l1_G w Q mi pc L [.int x] c (some (a, c)) := by
  refine l1_ret hM hc (v := some (.int x)) ?_ hw
  rw [hr]
  show (bif am_rok (some .boolean) x then some (some (Value.int x)) else none) = _
  rw [show am_rok (some .boolean) x = true from hz]
  rfl
theorem l1_thr {w : α → Option Value} {Q : hS → am_H → Prop} : l1_G (wT w) Q mi pc L [] c (some (.inr pc, c)) := by
  intro a' c' hX h lo hq ha
  cases hX
  exact ⟨h, ⟨0, 0, lo, rfl⟩, hq⟩
/-! the heap -/
theorem l1_at (hQ : l1_em kf Q) {o ci : Nat} {h : am_H} (hq : Q c h) (hk : kf o = ci) (hci : ci < 99) : o < h.1 ∧ (h.2.2.2 o).1 = ci ∧ (h.2.2.2 o).2.1 = ln o ∧ ∀ j, j < l1_wd ci o → (h.2.2.2 o).2.2 j = l1_ct c o ci j := by
  have := (hQ c h hq).2.1 o (by rw [hk]; exact hci)
  rw [hk] at this
  exact this
theorem l1_20 {ci o k : Nat} (h : Nat.blt ci 20 = true) (hw : Nat.blt k (am_nf ci) = true) : k < l1_wd ci o ∧ ci < 99 := by
  unfold l1_wd
  rw [h]
  exact ⟨Nat.blt_eq.mp hw, Nat.lt_trans (Nat.blt_eq.mp h) (by decide)⟩
theorem l1_getf (hQ : l1_em kf Q) (hM : am_tab[mi]? = some M) {idx o ci k a b : Nat} (hc : M.1.2.2.2.2.2 pc = some (.getfield idx, n)) (hk : kf o = ci) (h20 : Nat.blt ci 20 = true) (hf : am_find (am_ft M.1.1) idx ci = some (k, a, b)) (hw : Nat.blt k (am_nf ci) = true) (hG : l1_G w Q mi (pc + 3) L (l1_ct c o ci k :: st) c X) : l1_G w Q mi pc L (.ref o :: st) c X := by
  refine l1_step (fun h lo hq ha => ?_) hG
  obtain ⟨w1, w2⟩ := l1_20 (o := o) h20 hw
  obtain ⟨o1, o2, o3, o4⟩ := l1_at hQ hq hk w2
  refine l1_one1 (u := (pc + 3, l1_ct c o ci k :: st, h)) hM hc rfl rfl rfl ?_
  simp only [am_s1, am_bt o1, cond_true, o2, hf]
  rw [o4 k w1]
theorem l1_getI (hQ : l1_em kf Q) (hM : am_tab[mi]? = some M) {idx o ci k a b : Nat} (hc : M.1.2.2.2.2.2 pc = some (.getfield idx, n)) (hk : kf o = ci) (h20 : Nat.blt ci 20 = true) (hf : am_find (am_ft M.1.1) idx ci = some (k, a, b)) (ht : l1_ty ci k = 0) (hw : Nat.blt k (am_nf ci) = true) (hG : l1_G w Q mi (pc + 3) L (.int (c.1 o k) :: st) c X) : l1_G w Q mi pc L (.ref o :: st) c X :=
  l1_getf hQ hM hc hk h20 hf hw (by unfold l1_ct; rw [ht]; exact hG)
theorem l1_getJ (hQ : l1_em kf Q) (hM : am_tab[mi]? = some M) {idx o ci k a b : Nat} (hc : M.1.2.2.2.2.2 pc = some (.getfield idx, n)) (hk : kf o = ci) (h20 : Nat.blt ci 20 = true) (hf : am_find (am_ft M.1.1) idx ci = some (k, a, b)) (ht : l1_ty ci k = 1) (hw : Nat.blt k (am_nf ci) = true) (hG : l1_G w Q mi (pc + 3) L (.long (c.2.1 o k) :: st) c X) : l1_G w Q mi pc L (.ref o :: st) c X :=
  l1_getf hQ hM hc hk h20 hf hw (by unfold l1_ct; rw [ht]; exact hG)
theorem l1_getR (hQ : l1_em kf Q) (hM : am_tab[mi]? = some M) {idx o ci k a b q : Nat} (hc : M.1.2.2.2.2.2 pc = some (.getfield idx, n)) (hk : kf o = ci) (h20 : Nat.blt ci 20 = true) (hf : am_find (am_ft M.1.1) idx ci = some (k, a, b)) (ht : l1_ty ci k = 2) (hw : Nat.blt k (am_nf ci) = true) (hr : l1_rf o ci k = q) (hG : l1_G w Q mi (pc + 3) L (.ref q :: st) c X) : l1_G w Q mi pc L (.ref o :: st) c X :=
  l1_getf hQ hM hc hk h20 hf hw (by unfold l1_ct; rw [ht, hr]; exact hG)
theorem l1_getM (hQ : l1_em kf Q) (hM : am_tab[mi]? = some M) {idx o ci k a b : Nat} (hc : M.1.2.2.2.2.2 pc = some (.getfield idx, n)) (hk : kf o = ci) (h20 : Nat.blt ci 20 = true) (hf : am_find (am_ft M.1.1) idx ci = some (k, a, b)) (ht : l1_ty ci k = 3) (hw : Nat.blt k (am_nf ci) = true) (hG : kc (c.2.2 o k) = 8 → l1_G w Q mi (pc + 3) L (.ref (c.2.2 o k) :: st) c X) : l1_G w Q mi pc L (.ref o :: st) c (bif Nat.beq (kc (c.2.2 o k)) 8 then X else none) :=
  l1_ck (fun hx => l1_getf hQ hM hc hk h20 hf hw (by unfold l1_ct; rw [ht]; exact hG (Nat.eq_of_beq_eq_true hx)))
theorem l1_upI (hQ : l1_em kf Q) {o ci k : Nat} {x : Int32} {h : am_H} (hq : Q c h) (hk : kf o = ci) (hci : ci < 99) (ht : l1_ty ci k = 0) : Q (sI c o k x) (am_put h o (ci, ln o, am_up (h.2.2.2 o).2.2 k (.int x))) := by
  obtain ⟨o1, o2, o3, o4⟩ := l1_at hQ hq hk hci
  subst hk
  refine (hQ c h hq).2.2 o _ _ hci (fun q hqo j => ?_) (fun j hj => ?_)
  · unfold l1_ct
    split <;> first | rfl | (simp only [sI]; rw [if_neg (fun e => hqo e.1)])
  · by_cases e : j = k
    · subst e
      rw [am_up_s]
      unfold l1_ct
      rw [ht]
      simp [sI]
    · rw [am_up_n e, o4 j hj]
      unfold l1_ct
      split <;> first | rfl | (simp only [sI]; rw [if_neg (fun q => e q.2)])
theorem l1_upJ (hQ : l1_em kf Q) {o ci k : Nat} {x : Int64} {h : am_H} (hq : Q c h) (hk : kf o = ci) (hci : ci < 99) (ht : l1_ty ci k = 1) : Q (sJ c o k x) (am_put h o (ci, ln o, am_up (h.2.2.2 o).2.2 k (.long x))) := by
  obtain ⟨o1, o2, o3, o4⟩ := l1_at hQ hq hk hci
  subst hk
  refine (hQ c h hq).2.2 o _ _ hci (fun q hqo j => ?_) (fun j hj => ?_)
  · unfold l1_ct
    split <;> first | rfl | (simp only [sJ]; rw [if_neg (fun e => hqo e.1)])
  · by_cases e : j = k
    · subst e
      rw [am_up_s]
      unfold l1_ct
      rw [ht]
      simp [sJ]
    · rw [am_up_n e, o4 j hj]
      unfold l1_ct
      split <;> first | rfl | (simp only [sJ]; rw [if_neg (fun q => e q.2)])
theorem l1_upR (hQ : l1_em kf Q) {o ci k : Nat} {x : Nat} {h : am_H} (hq : Q c h) (hk : kf o = ci) (hci : ci < 99) (ht : l1_ty ci k = 3) : Q (sR c o k x) (am_put h o (ci, ln o, am_up (h.2.2.2 o).2.2 k (.ref x))) := by
  obtain ⟨o1, o2, o3, o4⟩ := l1_at hQ hq hk hci
  subst hk
  refine (hQ c h hq).2.2 o _ _ hci (fun q hqo j => ?_) (fun j hj => ?_)
  · unfold l1_ct
    split <;> first | rfl | (simp only [sR]; rw [if_neg (fun e => hqo e.1)])
  · by_cases e : j = k
    · subst e
      rw [am_up_s]
      unfold l1_ct
      rw [ht]
      simp [sR]
    · rw [am_up_n e, o4 j hj]
      unfold l1_ct
      split <;> first | rfl | (simp only [sR]; rw [if_neg (fun q => e q.2)])
theorem l1_fz {ci j : Nat} {x : Int32} (ht : am_ty0 ci j = .boolean) (hz : j_b x = true) : am_fit (am_ty0 ci j) (.int x) = true := by
  rw [ht]
  exact hz
theorem l1_putI (hQ : l1_em kf Q) (hM : am_tab[mi]? = some M) {idx o ci k a : Nat} {x : Int32} {K : hS → Option (α × hS)} (hc : M.1.2.2.2.2.2 pc = some (.putfield idx, n)) (hk : kf o = ci) (h20 : Nat.blt ci 20 = true) (hf : am_find (am_ft M.1.1) idx ci = some (k, a, 0)) (ht : l1_ty ci k = 0) (hw : Nat.blt k (am_nf ci) = true) (hfit : am_fit (am_ty0 ci k) (.int x) = true) (hG : ∀ c1, l1_G w Q mi (pc + 3) L st c1 (K c1)) : l1_G w Q mi pc L (.int x :: .ref o :: st) c (st1 (sI c o k x) K) := by
  refine l1_stepS (fun h lo hq ha => ?_) hG
  obtain ⟨w1, w2⟩ := l1_20 (o := o) h20 hw
  obtain ⟨o1, o2, o3, o4⟩ := l1_at hQ hq hk w2
  refine ⟨am_put h o (ci, ln o, am_up (h.2.2.2 o).2.2 k (.int x)), ?_, l1_upI hQ hq hk w2 ht⟩
  refine l1_one1 (u := (pc + 3, st, am_put h o (ci, ln o, am_up (h.2.2.2 o).2.2 k (.int x)))) hM hc rfl rfl rfl ?_
  simp only [am_s1, am_bt o1, cond_true, o2, o3, hf, hfit, Nat.beq_refl, Bool.true_or, Bool.and_self]
theorem l1_putJ (hQ : l1_em kf Q) (hM : am_tab[mi]? = some M) {idx o ci k a : Nat} {x : Int64} {K : hS → Option (α × hS)} (hc : M.1.2.2.2.2.2 pc = some (.putfield idx, n)) (hk : kf o = ci) (h20 : Nat.blt ci 20 = true) (hf : am_find (am_ft M.1.1) idx ci = some (k, a, 0)) (ht : l1_ty ci k = 1) (hw : Nat.blt k (am_nf ci) = true) (hfit : am_fit (am_ty0 ci k) (.long x) = true) (hG : ∀ c1, l1_G w Q mi (pc + 3) L st c1 (K c1)) : l1_G w Q mi pc L (.long x :: .ref o :: st) c (st1 (sJ c o k x) K) := by
  refine l1_stepS (fun h lo hq ha => ?_) hG
  obtain ⟨w1, w2⟩ := l1_20 (o := o) h20 hw
  obtain ⟨o1, o2, o3, o4⟩ := l1_at hQ hq hk w2
  refine ⟨am_put h o (ci, ln o, am_up (h.2.2.2 o).2.2 k (.long x)), ?_, l1_upJ hQ hq hk w2 ht⟩
  refine l1_one1 (u := (pc + 3, st, am_put h o (ci, ln o, am_up (h.2.2.2 o).2.2 k (.long x)))) hM hc rfl rfl rfl ?_
  simp only [am_s1, am_bt o1, cond_true, o2, o3, hf, hfit, Nat.beq_refl, Bool.true_or, Bool.and_self]
theorem l1_putM (hQ : l1_em kf Q) (hM : am_tab[mi]? = some M) {idx o ci k a x : Nat} {K : hS → Option (α × hS)} (hc : M.1.2.2.2.2.2 pc = some (.putfield idx, n)) (hk : kf o = ci) (h20 : Nat.blt ci 20 = true) (hf : am_find (am_ft M.1.1) idx ci = some (k, a, 0)) (ht : l1_ty ci k = 3) (hw : Nat.blt k (am_nf ci) = true) (hfit : am_fit (am_ty0 ci k) (.ref x) = true) (hG : ∀ c1, l1_G w Q mi (pc + 3) L st c1 (K c1)) : l1_G w Q mi pc L (.ref x :: .ref o :: st) c (st1 (sR c o k x) K) := by
  refine l1_stepS (fun h lo hq ha => ?_) hG
  obtain ⟨w1, w2⟩ := l1_20 (o := o) h20 hw
  obtain ⟨o1, o2, o3, o4⟩ := l1_at hQ hq hk w2
  refine ⟨am_put h o (ci, ln o, am_up (h.2.2.2 o).2.2 k (.ref x)), ?_, l1_upR hQ hq hk w2 ht⟩
  refine l1_one1 (u := (pc + 3, st, am_put h o (ci, ln o, am_up (h.2.2.2 o).2.2 k (.ref x)))) hM hc rfl rfl rfl ?_
  simp only [am_s1, am_bt o1, cond_true, o2, o3, hf, hfit, Nat.beq_refl, Bool.true_or, Bool.and_self]
theorem l1_jin {j : Int32} {m : Nat} (h : j_in j m = true) : am_in j m = true ∧ j.toNatClampNeg < m := ⟨h, by
  unfold j_in at h
  exact Nat.blt_eq.mp (am_b2 h).2⟩
theorem l1_ald (hQ : l1_em kf Q) (hM : am_tab[mi]? = some M) {o : Nat} {j : Int32} (hc : M.1.2.2.2.2.2 pc = some (.iaload, n)) (hk : kf o = 20) (hx : j_in j (ln o) = true) (hG : l1_G w Q mi (pc + 1) L (.int (c.1 o j.toNatClampNeg) :: st) c X) : l1_G w Q mi pc L (.int j :: .ref o :: st) c X := by
  refine l1_step (fun h lo hq ha => ?_) hG
  obtain ⟨x1, x2⟩ := l1_jin hx
  obtain ⟨o1, o2, o3, o4⟩ := l1_at hQ hq hk (by decide)
  refine l1_one1 (u := (pc + 1, .int (c.1 o j.toNatClampNeg) :: st, h)) hM hc rfl rfl rfl ?_
  simp only [am_s1, am_bt o1, cond_true, o2, o3, x1, Nat.beq_refl, Bool.and_self]
  rw [o4 _ (show _ < ln o from x2)]
  rfl
theorem l1_bld (hQ : l1_em kf Q) (hM : am_tab[mi]? = some M) {o : Nat} {j : Int32} (hc : M.1.2.2.2.2.2 pc = some (.baload, n)) (hk : kf o = 22) (hx : j_in j (ln o) = true) (hG : l1_G w Q mi (pc + 1) L (.int (c.1 o j.toNatClampNeg) :: st) c X) : l1_G w Q mi pc L (.int j :: .ref o :: st) c X := by
  refine l1_step (fun h lo hq ha => ?_) hG
  obtain ⟨x1, x2⟩ := l1_jin hx
  obtain ⟨o1, o2, o3, o4⟩ := l1_at hQ hq hk (by decide)
  refine l1_one1 (u := (pc + 1, .int (c.1 o j.toNatClampNeg) :: st, h)) hM hc rfl rfl rfl ?_
  simp only [am_s1, am_bt o1, cond_true, o2, o3, x1, Nat.beq_refl, Bool.and_self]
  rw [o4 _ (show _ < ln o from x2)]
  rfl
theorem l1_aald (hQ : l1_em kf Q) (hM : am_tab[mi]? = some M) {o : Nat} {j : Int32} (hc : M.1.2.2.2.2.2 pc = some (.aaload, n)) (hk : kf o = 24) (hx : j_in j (ln o) = true) (hG : kc (c.2.2 o j.toNatClampNeg) = 6 → l1_G w Q mi (pc + 1) L (.ref (c.2.2 o j.toNatClampNeg) :: st) c X) : l1_G w Q mi pc L (.int j :: .ref o :: st) c (bif Nat.beq (kc (c.2.2 o j.toNatClampNeg)) 6 then X else none) := by
  refine l1_ck (fun hy => ?_)
  refine l1_step (fun h lo hq ha => ?_) (hG (Nat.eq_of_beq_eq_true hy))
  obtain ⟨x1, x2⟩ := l1_jin hx
  obtain ⟨o1, o2, o3, o4⟩ := l1_at hQ hq hk (by decide)
  refine l1_one1 (u := (pc + 1, .ref (c.2.2 o j.toNatClampNeg) :: st, h)) hM hc rfl rfl rfl ?_
  simp only [am_s1, am_bt o1, cond_true, o2, o3, x1, Nat.beq_refl, Bool.or_true, Bool.and_self]
  rw [o4 _ (show _ < ln o from x2)]
  rfl
theorem l1_fald (hQ : l1_em kf Q) (hM : am_tab[mi]? = some M) {o : Nat} {j : Int32} (hc : M.1.2.2.2.2.2 pc = some (.aaload, n)) (hk : kf o = 23) (hx : j_in j (ln o) = true) (hG : l1_G w Q mi (pc + 1) L (.ref (34 + j.toNatClampNeg) :: st) c X) : l1_G w Q mi pc L (.int j :: .ref o :: st) c X := by
  refine l1_step (fun h lo hq ha => ?_) hG
  obtain ⟨x1, x2⟩ := l1_jin hx
  obtain ⟨o1, o2, o3, o4⟩ := l1_at hQ hq hk (by decide)
  refine l1_one1 (u := (pc + 1, .ref (34 + j.toNatClampNeg) :: st, h)) hM hc rfl rfl rfl ?_
  simp only [am_s1, am_bt o1, cond_true, o2, o3, x1, Nat.beq_refl, Bool.true_or, Bool.and_self]
  rw [o4 _ (show _ < ln o from x2)]
  rfl
theorem l1_ast (hQ : l1_em kf Q) (hM : am_tab[mi]? = some M) {o : Nat} {j x : Int32} {K : hS → Option (α × hS)} (hc : M.1.2.2.2.2.2 pc = some (.iastore, n)) (hk : kf o = 20) (hx : j_in j (ln o) = true) (hG : ∀ c1, l1_G w Q mi (pc + 1) L st c1 (K c1)) : l1_G w Q mi pc L (.int x :: .int j :: .ref o :: st) c (st1 (sI c o j.toNatClampNeg x) K) := by
  refine l1_stepS (fun h lo hq ha => ?_) hG
  obtain ⟨x1, x2⟩ := l1_jin hx
  obtain ⟨o1, o2, o3, o4⟩ := l1_at hQ hq hk (by decide)
  refine ⟨am_put h o (20, ln o, am_up (h.2.2.2 o).2.2 j.toNatClampNeg (.int x)), ?_, l1_upI hQ hq hk (by decide) rfl⟩
  refine l1_one1 (u := (pc + 1, st, am_put h o (20, ln o, am_up (h.2.2.2 o).2.2 j.toNatClampNeg (.int x)))) hM hc rfl rfl rfl ?_
  simp only [am_s1, am_bt o1, cond_true, o2, o3, x1, Nat.beq_refl, Bool.and_self]
theorem l1_bst (hQ : l1_em kf Q) (hM : am_tab[mi]? = some M) {o : Nat} {j x : Int32} {K : hS → Option (α × hS)} (hc : M.1.2.2.2.2.2 pc = some (.bastore, n)) (hk : kf o = 22) (hx : j_in j (ln o) = true) (hG : ∀ c1, l1_G w Q mi (pc + 1) L st c1 (K c1)) : l1_G w Q mi pc L (.int x :: .int j :: .ref o :: st) c (st1 (sI c o j.toNatClampNeg (j_z x)) K) := by
  refine l1_stepS (fun h lo hq ha => ?_) hG
  obtain ⟨x1, x2⟩ := l1_jin hx
  obtain ⟨o1, o2, o3, o4⟩ := l1_at hQ hq hk (by decide)
  refine ⟨am_put h o (22, ln o, am_up (h.2.2.2 o).2.2 j.toNatClampNeg (.int (j_z x))), ?_, l1_upI hQ hq hk (by decide) rfl⟩
  refine l1_one1 (u := (pc + 1, st, am_put h o (22, ln o, am_up (h.2.2.2 o).2.2 j.toNatClampNeg (.int (j_z x))))) hM hc rfl rfl rfl ?_
  simp only [am_s1, am_bt o1, cond_true, o2, o3, x1, Nat.beq_refl, Bool.and_self]
  rfl
theorem l1_aast (hQ : l1_em kf Q) (hM : am_tab[mi]? = some M) {o q : Nat} {j : Int32} {K : hS → Option (α × hS)} (hc : M.1.2.2.2.2.2 pc = some (.aastore, n)) (hk : kf o = 24) (hq6 : kf q = 6) (hx : j_in j (ln o) = true) (hG : ∀ c1, l1_G w Q mi (pc + 1) L st c1 (K c1)) : l1_G w Q mi pc L (.ref q :: .int j :: .ref o :: st) c (st1 (sR c o j.toNatClampNeg q) K) := by
  refine l1_stepS (fun h lo hq ha => ?_) hG
  obtain ⟨x1, x2⟩ := l1_jin hx
  obtain ⟨o1, o2, o3, o4⟩ := l1_at hQ hq hk (by decide)
  obtain ⟨q1, q2, q3, q4⟩ := l1_at hQ hq hq6 (by decide)
  refine ⟨am_put h o (24, ln o, am_up (h.2.2.2 o).2.2 j.toNatClampNeg (.ref q)), ?_, l1_upR hQ hq hk (by decide) rfl⟩
  refine l1_one1 (u := (pc + 1, st, am_put h o (24, ln o, am_up (h.2.2.2 o).2.2 j.toNatClampNeg (.ref q)))) hM hc rfl rfl rfl ?_
  simp only [am_s1, am_bt o1, am_bt q1, cond_true, o2, o3, q2, x1, Nat.beq_refl, Bool.true_or, Bool.and_self]
theorem l1_len (hQ : l1_em kf Q) (hM : am_tab[mi]? = some M) {o ci : Nat} (hc : M.1.2.2.2.2.2 pc = some (.arraylength, n)) (hk : kf o = ci) (hi : am_isA ci = true) (h99 : Nat.blt ci 99 = true) (hG : l1_G w Q mi (pc + 1) L (.int (Int32.ofNat (ln o)) :: st) c X) : l1_G w Q mi pc L (.ref o :: st) c X := by
  refine l1_step (fun h lo hq ha => ?_) hG
  obtain ⟨o1, o2, o3, o4⟩ := l1_at hQ hq hk (l1_b99 h99)
  refine l1_one1 (u := (pc + 1, .int (Int32.ofNat (ln o)) :: st, h)) hM hc rfl rfl rfl ?_
  simp only [am_s1, am_bt o1, cond_true, o2, o3, hi, Bool.and_self]
theorem l1_nb (hQ : l1_em kf Q) {h : am_H} (hq : Q c h) {q : Nat} (hb : 1000 ≤ q) : Nat.blt q h.1 = false := by
  have := (hQ c h hq).1
  cases hx : Nat.blt q h.1 with
  | false => rfl
  | true => have := Nat.blt_eq.mp hx; omega
theorem l1_slen (hQ : l1_em kf Q) (hM : am_tab[mi]? = some M) {q : Nat} {a : List Int32} (hc : M.1.2.2.2.2.2 pc = some (.arraylength, n)) (ho : l1_OA q a) (hG : l1_G w Q mi (pc + 1) L (.int (Int32.ofNat a.length) :: st) c X) : l1_G w Q mi pc L (.ref q :: st) c X := by
  refine l1_step (fun h lo hq ha => ?_) hG
  refine l1_one2 (u := (pc + 1, .int (Int32.ofNat a.length) :: st)) hM hc rfl rfl rfl ?_ ?_
  · simp only [am_s1, l1_nb hQ hq ho.2, Bool.false_and, cond_false]
  · simp only [am_s2, ho.1]
theorem l1_sald (hQ : l1_em kf Q) (hM : am_tab[mi]? = some M) {q : Nat} {a : List Int32} {j : Int32} (hc : M.1.2.2.2.2.2 pc = some (.iaload, n)) (ho : l1_OA q a) (hx : j_in j a.length = true) (hG : l1_G w Q mi (pc + 1) L (.int (a.getD j.toNatClampNeg 0) :: st) c X) : l1_G w Q mi pc L (.int j :: .ref q :: st) c X := by
  refine l1_step (fun h lo hq ha => ?_) hG
  refine l1_one2 (u := (pc + 1, .int (a.getD j.toNatClampNeg 0) :: st)) hM hc rfl rfl rfl ?_ ?_
  · simp only [am_s1, l1_nb hQ hq ho.2, cond_false]
  · simp only [am_s2, ho.1, (l1_jin hx).1, cond_true]
theorem l1_tlen (hM : am_tab[mi]? = some M) {idx q : Nat} {a : List Int32} (hc : M.1.2.2.2.2.2 pc = some (.invokevirtual idx, n)) (hv : am_fnd (am_vn M.1.1) idx = none) (ht : am_fnd (am_tx M.1.1) idx = some 0) (ho : l1_OT q a) (hr : (Nat.ble 5 M.1.2.2.2.1 && Nat.ble 145 M.1.2.2.2.2.1 && Nat.ble ((st.map fun v => v.category).sum) 8) = true) (hG : l1_G w Q mi (pc + 3) L (.int (Int32.ofNat a.length) :: st) c X) : l1_G w Q mi pc L (.ref q :: st) c X := by
  refine l1_step (fun h lo hq ha => ?_) hG
  refine l1_one2 (u := (pc + 3, .int (Int32.ofNat a.length) :: st)) hM hc rfl ?_ rfl rfl ?_
  · simp only [am_tgt, hv]
  · simp only [am_s2, ht, ho.1, hr, cond_true]
theorem l1_tch (hM : am_tab[mi]? = some M) {idx q : Nat} {a : List Int32} {j : Int32} (hc : M.1.2.2.2.2.2 pc = some (.invokevirtual idx, n)) (hv : am_fnd (am_vn M.1.1) idx = none) (ht : am_fnd (am_tx M.1.1) idx = some 1) (ho : l1_OT q a) (hx : j_in j a.length = true) (hr : (Nat.ble 5 M.1.2.2.2.1 && Nat.ble 145 M.1.2.2.2.2.1 && Nat.ble ((st.map fun v => v.category).sum) 8) = true) (hG : l1_G w Q mi (pc + 3) L (.int (a.getD j.toNatClampNeg 0) :: st) c X) : l1_G w Q mi pc L (.int j :: .ref q :: st) c X := by
  refine l1_step (fun h lo hq ha => ?_) hG
  refine l1_one2 (u := (pc + 3, .int (a.getD j.toNatClampNeg 0) :: st)) hM hc rfl ?_ rfl rfl ?_
  · simp only [am_tgt, hv]
  · simp only [am_s2, ht, ho.1, hr, (l1_jin hx).1, Bool.and_self, cond_true]
theorem l1_min (hM : am_tab[mi]? = some M) {idx : Nat} {x y : Int32} (hc : M.1.2.2.2.2.2 pc = some (.invokestatic idx, n)) (hv : am_fnd (am_sst M.1.1) idx = none) (ht : am_fnd (am_mt M.1.1) idx = some 0) (hr : (Nat.ble 1 M.1.2.2.2.1 && Nat.ble ((st.map fun v => v.category).sum + 13) M.1.2.2.2.2.1) = true) (hG : l1_G w Q mi (pc + 3) L (.int (j_min x y) :: st) c X) : l1_G w Q mi pc L (.int y :: .int x :: st) c X := by
  refine l1_step (fun h lo hq ha => ?_) hG
  refine l1_one2 (u := (pc + 3, .int (j_min x y) :: st)) hM hc rfl ?_ rfl rfl ?_
  · simp only [am_tgt, hv]
  · simp only [am_s2, ht, hr, cond_true]; rfl
theorem l1_max (hM : am_tab[mi]? = some M) {idx : Nat} {x y : Int32} (hc : M.1.2.2.2.2.2 pc = some (.invokestatic idx, n)) (hv : am_fnd (am_sst M.1.1) idx = none) (ht : am_fnd (am_mt M.1.1) idx = some 1) (hr : (Nat.ble 1 M.1.2.2.2.1 && Nat.ble ((st.map fun v => v.category).sum + 13) M.1.2.2.2.2.1) = true) (hG : l1_G w Q mi (pc + 3) L (.int (j_max x y) :: st) c X) : l1_G w Q mi pc L (.int y :: .int x :: st) c X := by
  refine l1_step (fun h lo hq ha => ?_) hG
  refine l1_one2 (u := (pc + 3, .int (j_max x y) :: st)) hM hc rfl ?_ rfl rfl ?_
  · simp only [am_tgt, hv]
  · simp only [am_s2, ht, hr, cond_true]; rfl
theorem l1_callV (hQ : l1_em kf Q) {mi1 : Nat} (hM : am_tab[mi]? = some M) (hM' : am_tab[mi1]? = some M') {idx o ci np kd : Nat} {As rest : List Value} {F : Option (β × hS)} {K : β → hS → Option (α × hS)} {wv : β → Option Value} {st1 : β → List Value} (hc : M.1.2.2.2.2.2 pc = some (.invokevirtual idx, n)) (hnp : am_fnd (am_vn M.1.1) idx = some np) (hst : st.drop np = .ref o :: rest) (hAs : (st.take np).reverse = As) (hk : kf o = ci) (h99 : Nat.blt ci 99 = true) (hf : am_fv (am_vt M.1.1) idx ci = some (mi1, kd)) (hcan : am_can M M' (.invokevirtual idx) (mi1, .ref o :: As, rest) = true) (hs : ∀ a, (wv a).toList ++ rest = st1 a) (hT : l1_T wv Q mi1 (.ref o :: As) c F) (hG : ∀ a c1, l1_G w Q mi (pc + 3) L (st1 a) c1 (K a c1)) : l1_G w Q mi pc L st c (bnd F K) := by
  intro a c' hX h lo hq ha
  cases hF : F with
  | none => rw [hF] at hX; cases hX
  | some r =>
    obtain ⟨b, c1⟩ := r
    rw [hF, bnd_some] at hX
    obtain ⟨h1, t1, q1⟩ := hT b c1 hF h hq
    obtain ⟨h', e', q'⟩ := hG b c1 a c' hX h1 lo q1 ha
    obtain ⟨o1, o2, -, -⟩ := l1_at hQ hq hk (l1_b99 h99)
    refine ⟨h', l1_E.call (w := (mi1, .ref o :: As, rest)) (v1 := wv b) hM hc rfl ?_ hM' hcan t1 (by rw [hs]; exact e'), q'⟩
    simp only [am_tgt, hnp, hst, hAs, am_bt o1, cond_true, o2, hf]
theorem l1_callS {mi1 : Nat} (hM : am_tab[mi]? = some M) (hM' : am_tab[mi1]? = some M') {idx kd : Nat} {As rest : List Value} {F : Option (β × hS)} {K : β → hS → Option (α × hS)} {wv : β → Option Value} {st1 : β → List Value} (hc : M.1.2.2.2.2.2 pc = some (.invokestatic idx, n)) (hf : am_fnd (am_sst M.1.1) idx = some (mi1, kd)) (hAs : (st.take M'.2.2.2.2).reverse = As) (hrest : st.drop M'.2.2.2.2 = rest) (hcan : am_can M M' (.invokestatic idx) (mi1, As, rest) = true) (hs : ∀ a, (wv a).toList ++ rest = st1 a) (hT : l1_T wv Q mi1 As c F) (hG : ∀ a c1, l1_G w Q mi (pc + 3) L (st1 a) c1 (K a c1)) : l1_G w Q mi pc L st c (bnd F K) := by
  intro a c' hX h lo hq ha
  cases hF : F with
  | none => rw [hF] at hX; cases hX
  | some r =>
    obtain ⟨b, c1⟩ := r
    rw [hF, bnd_some] at hX
    obtain ⟨h1, t1, q1⟩ := hT b c1 hF h hq
    obtain ⟨h', e', q'⟩ := hG b c1 a c' hX h1 lo q1 ha
    refine ⟨h', l1_E.call (w := (mi1, As, rest)) (v1 := wv b) hM hc rfl ?_ hM' hcan t1 (by rw [hs]; exact e'), q'⟩
    simp only [am_tgt, hf, hM', hAs, hrest]
end L1B
/-! the kinds of fixed references -/
theorem l1_kc {f : Nat → Nat} {a d : Nat} (ha : a ≠ 99) (h : ∀ o, o < 201 → kc o = a → kc (f o) = d) {o : Nat} (ho : kc o = a) : kc (f o) = d := by
  by_cases e : o < 201
  · exact h o e ho
  · exfalso
    apply ha
    rw [← ho]
    unfold kc
    rw [List.getD_eq_getElem?_getD, List.getElem?_eq_none (show kcl.length ≤ o by rw [show kcl.length = 201 from rfl]; omega)]
    rfl
theorem kc1_1 {o : Nat} : kc o = 1 → kc (o + 1) = 20 := l1_kc (f := fun o => o + 1) (by decide) (by decide +kernel)
theorem kc2_0 {o : Nat} : kc o = 2 → kc (o + 1) = 20 := l1_kc (f := fun o => o + 1) (by decide) (by decide +kernel)
theorem kc2_1 {o : Nat} : kc o = 2 → kc (o + 2) = 20 := l1_kc (f := fun o => o + 2) (by decide) (by decide +kernel)
theorem kc2_2 {o : Nat} : kc o = 2 → kc (o + 3) = 20 := l1_kc (f := fun o => o + 3) (by decide) (by decide +kernel)
theorem kc6_0 {o : Nat} : kc o = 6 → kc (o + 1) = 1 := l1_kc (f := fun o => o + 1) (by decide) (by decide +kernel)
theorem kc6_1 {o : Nat} : kc o = 6 → kc (o + 3) = 1 := l1_kc (f := fun o => o + 3) (by decide) (by decide +kernel)
theorem kc8_0 {o : Nat} : kc o = 8 → kc (o + 1) = 24 := l1_kc (f := fun o => o + 1) (by decide) (by decide +kernel)
theorem oa0 : l1_OA 1000000000 sa0 := ⟨rfl, by decide⟩
theorem oa1 : l1_OA 1000000001 sa1 := ⟨rfl, by decide⟩
theorem oa2 : l1_OA 1000000002 sa2 := ⟨rfl, by decide⟩
theorem oa3 : l1_OA 1000000003 sa3 := ⟨rfl, by decide⟩
theorem oa4 : l1_OA 1000000004 sa4 := ⟨rfl, by decide⟩
theorem oa5 : l1_OA 1000000005 sa5 := ⟨rfl, by decide⟩
theorem oa6 : l1_OA 1000000006 sa6 := ⟨rfl, by decide⟩
theorem oa7 : l1_OA 1000000007 sa7 := ⟨rfl, by decide⟩
theorem ot15 : l1_OT 1000000115 tx15 := ⟨rfl, by decide⟩
theorem ot16 : l1_OT 1000000116 tx16 := ⟨rfl, by decide⟩
theorem ot17 : l1_OT 1000000117 tx17 := ⟨rfl, by decide⟩
theorem ot18 : l1_OT 1000000118 tx18 := ⟨rfl, by decide⟩
theorem ot19 : l1_OT 1000000119 tx19 := ⟨rfl, by decide⟩
/-- a lookupswitch whose key is none of them -/
noncomputable def l1_nk (k : Int) : List (Int × Int) → Prop
  | [] => True
  | e :: r => e.1 ≠ k ∧ l1_nk k r
theorem l1_nk_off {k d : Int} : ∀ {l : List (Int × Int)}, l1_nk k l → Op.lookupswitch.offset l d k = d
  | [], _ => rfl
  | (a, o) :: r, h => by
    rw [Op.lookupswitch.offset_cons, if_neg h.1]
    exact l1_nk_off h.2
theorem l1_lsd {nL pc pc' : Nat} {d : Int} {ps : Array (Int × Int)} {x : Int32} {st : List Value} (hs : (ps.toList.zip (ps.toList.drop 1)).all (fun (a, next) => a.1 < next.1) = true) (hk : l1_nk x.toInt ps.toList) (hj : am_jmp pc d = some pc') : am_s0 nL (.lookupswitch d ps) pc [] (.int x :: st) = some (pc', [], st) := by
  simp only [am_s0]
  rw [if_pos hs, l1_nk_off hk, hj]
end
section
/-! the methods by their numbers -/
set_option maxRecDepth 100000 in
theorem mt_X2_size : am_tab[am_i_X2_size]? = some am_m_X2_size := rfl
set_option maxRecDepth 100000 in
theorem mt_X6_tell : am_tab[am_i_X6_tell]? = some am_m_X6_tell := rfl
set_option maxRecDepth 100000 in
theorem mt_X0_reaches : am_tab[am_i_X0_reaches]? = some am_m_X0_reaches := rfl
set_option maxRecDepth 100000 in
theorem mt_X2_get : am_tab[am_i_X2_get]? = some am_m_X2_get := rfl
set_option maxRecDepth 100000 in
theorem mt_X0_isMarked : am_tab[am_i_X0_isMarked]? = some am_m_X0_isMarked := rfl
set_option maxRecDepth 100000 in
theorem mt_X0_isZeroFrom : am_tab[am_i_X0_isZeroFrom]? = some am_m_X0_isZeroFrom := rfl
set_option maxRecDepth 100000 in
theorem mt_X11_isPart : am_tab[am_i_X11_isPart]? = some am_m_X11_isPart := rfl
set_option maxRecDepth 100000 in
theorem mt_X11_isName : am_tab[am_i_X11_isName]? = some am_m_X11_isName := rfl
set_option maxRecDepth 100000 in
theorem mt_X0_isNamed : am_tab[am_i_X0_isNamed]? = some am_m_X0_isNamed := rfl
set_option maxRecDepth 100000 in
theorem mt_X2_beginsWith : am_tab[am_i_X2_beginsWith]? = some am_m_X2_beginsWith := rfl
set_option maxRecDepth 100000 in
theorem mt_X9_member : am_tab[am_i_X9_member]? = some am_m_X9_member := rfl
set_option maxRecDepth 100000 in
theorem mt_X9_find : am_tab[am_i_X9_find]? = some am_m_X9_find := rfl
set_option maxRecDepth 100000 in
theorem mt_X9_hasRoomFor : am_tab[am_i_X9_hasRoomFor]? = some am_m_X9_hasRoomFor := rfl
set_option maxRecDepth 100000 in
theorem mt_X2_liesUnder : am_tab[am_i_X2_liesUnder]? = some am_m_X2_liesUnder := rfl
set_option maxRecDepth 100000 in
theorem mt_X9_isInTheWay : am_tab[am_i_X9_isInTheWay]? = some am_m_X9_isInTheWay := rfl
set_option maxRecDepth 100000 in
theorem mt_X2_add : am_tab[am_i_X2_add]? = some am_m_X2_add := rfl
set_option maxRecDepth 100000 in
theorem mt_X2_addRow : am_tab[am_i_X2_addRow]? = some am_m_X2_addRow := rfl
set_option maxRecDepth 100000 in
theorem mt_X2_cutTo : am_tab[am_i_X2_cutTo]? = some am_m_X2_cutTo := rfl
set_option maxRecDepth 100000 in
theorem mt_X9_drop : am_tab[am_i_X9_drop]? = some am_m_X9_drop := rfl
set_option maxRecDepth 100000 in
theorem mt_X9_take : am_tab[am_i_X9_take]? = some am_m_X9_take := rfl
set_option maxRecDepth 100000 in
theorem mt_X0_arrives : am_tab[am_i_X0_arrives]? = some am_m_X0_arrives := rfl
set_option maxRecDepth 100000 in
theorem mt_X0_addTitle : am_tab[am_i_X0_addTitle]? = some am_m_X0_addTitle := rfl
set_option maxRecDepth 100000 in
theorem mt_X11_roundedUp : am_tab[am_i_X11_roundedUp]? = some am_m_X11_roundedUp := rfl
set_option maxRecDepth 100000 in
theorem mt_X1_isEmptyBlock : am_tab[am_i_X1_isEmptyBlock]? = some am_m_X1_isEmptyBlock := rfl
set_option maxRecDepth 100000 in
theorem mt_X1_areDigits : am_tab[am_i_X1_areDigits]? = some am_m_X1_areDigits := rfl
set_option maxRecDepth 100000 in
theorem mt_X1_isOctal : am_tab[am_i_X1_isOctal]? = some am_m_X1_isOctal := rfl
set_option maxRecDepth 100000 in
theorem mt_X1_octal : am_tab[am_i_X1_octal]? = some am_m_X1_octal := rfl
set_option maxRecDepth 100000 in
theorem mt_X1_isSorted : am_tab[am_i_X1_isSorted]? = some am_m_X1_isSorted := rfl
set_option maxRecDepth 100000 in
theorem mt_X1_sumOf : am_tab[am_i_X1_sumOf]? = some am_m_X1_sumOf := rfl
set_option maxRecDepth 100000 in
theorem mt_X1_isSummed : am_tab[am_i_X1_isSummed]? = some am_m_X1_isSummed := rfl
set_option maxRecDepth 100000 in
theorem mt_X1_isHead : am_tab[am_i_X1_isHead]? = some am_m_X1_isHead := rfl
set_option maxRecDepth 100000 in
theorem mt_X1_addToPath : am_tab[am_i_X1_addToPath]? = some am_m_X1_addToPath := rfl
set_option maxRecDepth 100000 in
theorem mt_X1_spell : am_tab[am_i_X1_spell]? = some am_m_X1_spell := rfl
set_option maxRecDepth 100000 in
theorem mt_X1_takeIn : am_tab[am_i_X1_takeIn]? = some am_m_X1_takeIn := rfl
set_option maxRecDepth 100000 in
theorem mt_X1_addOctal : am_tab[am_i_X1_addOctal]? = some am_m_X1_addOctal := rfl
set_option maxRecDepth 100000 in
theorem mt_X2_set : am_tab[am_i_X2_set]? = some am_m_X2_set := rfl
set_option maxRecDepth 100000 in
theorem mt_X1_setSum : am_tab[am_i_X1_setSum]? = some am_m_X1_setSum := rfl
set_option maxRecDepth 100000 in
theorem mt_X2_addMark : am_tab[am_i_X2_addMark]? = some am_m_X2_addMark := rfl
set_option maxRecDepth 100000 in
theorem mt_X2_addText : am_tab[am_i_X2_addText]? = some am_m_X2_addText := rfl
set_option maxRecDepth 100000 in
theorem mt_X2_addZeros : am_tab[am_i_X2_addZeros]? = some am_m_X2_addZeros := rfl
set_option maxRecDepth 100000 in
theorem mt_X1_addHead : am_tab[am_i_X1_addHead]? = some am_m_X1_addHead := rfl
set_option maxRecDepth 100000 in
theorem mt_X9_size : am_tab[am_i_X9_size]? = some am_m_X9_size := rfl
set_option maxRecDepth 100000 in
theorem mt_X1_layOut : am_tab[am_i_X1_layOut]? = some am_m_X1_layOut := rfl
set_option maxRecDepth 100000 in
theorem mt_X2_has : am_tab[am_i_X2_has]? = some am_m_X2_has := rfl
set_option maxRecDepth 100000 in
theorem mt_X2_addBig : am_tab[am_i_X2_addBig]? = some am_m_X2_addBig := rfl
set_option maxRecDepth 100000 in
theorem mt_X2_addLittle : am_tab[am_i_X2_addLittle]? = some am_m_X2_addLittle := rfl
set_option maxRecDepth 100000 in
theorem mt_X2_little : am_tab[am_i_X2_little]? = some am_m_X2_little := rfl
set_option maxRecDepth 100000 in
theorem mt_X2_isText : am_tab[am_i_X2_isText]? = some am_m_X2_isText := rfl
set_option maxRecDepth 100000 in
theorem mt_X3_longest : am_tab[am_i_X3_longest]? = some am_m_X3_longest := rfl
set_option maxRecDepth 100000 in
theorem mt_X3_amount : am_tab[am_i_X3_amount]? = some am_m_X3_amount := rfl
set_option maxRecDepth 100000 in
theorem mt_X3_symbol : am_tab[am_i_X3_symbol]? = some am_m_X3_symbol := rfl
set_option maxRecDepth 100000 in
theorem mt_X3_placeLengths : am_tab[am_i_X3_placeLengths]? = some am_m_X3_placeLengths := rfl
set_option maxRecDepth 100000 in
theorem mt_X3_placeSymbol : am_tab[am_i_X3_placeSymbol]? = some am_m_X3_placeSymbol := rfl
set_option maxRecDepth 100000 in
theorem mt_X3_order : am_tab[am_i_X3_order]? = some am_m_X3_order := rfl
set_option maxRecDepth 100000 in
theorem mt_X3_areComplete : am_tab[am_i_X3_areComplete]? = some am_m_X3_areComplete := rfl
set_option maxRecDepth 100000 in
theorem mt_X3_areNoneOrOneBit : am_tab[am_i_X3_areNoneOrOneBit]? = some am_m_X3_areNoneOrOneBit := rfl
set_option maxRecDepth 100000 in
theorem mt_X4_sortBits : am_tab[am_i_X4_sortBits]? = some am_m_X4_sortBits := rfl
set_option maxRecDepth 100000 in
theorem mt_X4_digit : am_tab[am_i_X4_digit]? = some am_m_X4_digit := rfl
set_option maxRecDepth 100000 in
theorem mt_X4_number : am_tab[am_i_X4_number]? = some am_m_X4_number := rfl
set_option maxRecDepth 100000 in
theorem mt_X4_sortOf : am_tab[am_i_X4_sortOf]? = some am_m_X4_sortOf := rfl
set_option maxRecDepth 100000 in
theorem mt_X4_isDirectory : am_tab[am_i_X4_isDirectory]? = some am_m_X4_isDirectory := rfl
set_option maxRecDepth 100000 in
theorem mt_X4_isHead : am_tab[am_i_X4_isHead]? = some am_m_X4_isHead := rfl
set_option maxRecDepth 100000 in
theorem mt_X4_isSized : am_tab[am_i_X4_isSized]? = some am_m_X4_isSized := rfl
set_option maxRecDepth 100000 in
theorem mt_X4_isMember : am_tab[am_i_X4_isMember]? = some am_m_X4_isMember := rfl
set_option maxRecDepth 100000 in
theorem mt_X4_isSpelt : am_tab[am_i_X4_isSpelt]? = some am_m_X4_isSpelt := rfl
set_option maxRecDepth 100000 in
theorem mt_X4_takeIn : am_tab[am_i_X4_takeIn]? = some am_m_X4_takeIn := rfl
set_option maxRecDepth 100000 in
theorem mt_X4_addNumber : am_tab[am_i_X4_addNumber]? = some am_m_X4_addNumber := rfl
set_option maxRecDepth 100000 in
theorem mt_X4_addHead : am_tab[am_i_X4_addHead]? = some am_m_X4_addHead := rfl
set_option maxRecDepth 100000 in
theorem mt_X4_addRest : am_tab[am_i_X4_addRest]? = some am_m_X4_addRest := rfl
set_option maxRecDepth 100000 in
theorem mt_X4_layOut : am_tab[am_i_X4_layOut]? = some am_m_X4_layOut := rfl
set_option maxRecDepth 100000 in
theorem mt_X10_fillLengths : am_tab[am_i_X10_fillLengths]? = some am_m_X10_fillLengths := rfl
set_option maxRecDepth 100000 in
theorem mt_X10_takeBits : am_tab[am_i_X10_takeBits]? = some am_m_X10_takeBits := rfl
set_option maxRecDepth 100000 in
theorem mt_X10_areLengthCodes : am_tab[am_i_X10_areLengthCodes]? = some am_m_X10_areLengthCodes := rfl
set_option maxRecDepth 100000 in
theorem mt_X10_lengthAt : am_tab[am_i_X10_lengthAt]? = some am_m_X10_lengthAt := rfl
set_option maxRecDepth 100000 in
theorem mt_X10_areSymbolLengths : am_tab[am_i_X10_areSymbolLengths]? = some am_m_X10_areSymbolLengths := rfl
set_option maxRecDepth 100000 in
theorem mt_X10_isRepeated : am_tab[am_i_X10_isRepeated]? = some am_m_X10_isRepeated := rfl
set_option maxRecDepth 100000 in
theorem mt_X10_takeSymbol : am_tab[am_i_X10_takeSymbol]? = some am_m_X10_takeSymbol := rfl
set_option maxRecDepth 100000 in
theorem mt_X10_areLengths : am_tab[am_i_X10_areLengths]? = some am_m_X10_areLengths := rfl
set_option maxRecDepth 100000 in
theorem mt_X11_distanceBits : am_tab[am_i_X11_distanceBits]? = some am_m_X11_distanceBits := rfl
set_option maxRecDepth 100000 in
theorem mt_X11_distanceBase : am_tab[am_i_X11_distanceBase]? = some am_m_X11_distanceBase := rfl
set_option maxRecDepth 100000 in
theorem mt_X11_lengthBits : am_tab[am_i_X11_lengthBits]? = some am_m_X11_lengthBits := rfl
set_option maxRecDepth 100000 in
theorem mt_X11_lengthBase : am_tab[am_i_X11_lengthBase]? = some am_m_X11_lengthBase := rfl
set_option maxRecDepth 100000 in
theorem mt_X10_isCopied : am_tab[am_i_X10_isCopied]? = some am_m_X10_isCopied := rfl
set_option maxRecDepth 100000 in
theorem mt_X10_areSymbols : am_tab[am_i_X10_areSymbols]? = some am_m_X10_areSymbols := rfl
set_option maxRecDepth 100000 in
theorem mt_X10_isStored : am_tab[am_i_X10_isStored]? = some am_m_X10_isStored := rfl
set_option maxRecDepth 100000 in
theorem mt_X10_open : am_tab[am_i_X10_open]? = some am_m_X10_open := rfl
set_option maxRecDepth 100000 in
theorem mt_X11_checkOf : am_tab[am_i_X11_checkOf]? = some am_m_X11_checkOf := rfl
set_option maxRecDepth 100000 in
theorem mt_X5_isBody : am_tab[am_i_X5_isBody]? = some am_m_X5_isBody := rfl
set_option maxRecDepth 100000 in
theorem mt_X5_isZero : am_tab[am_i_X5_isZero]? = some am_m_X5_isZero := rfl
set_option maxRecDepth 100000 in
theorem mt_X5_isClosing : am_tab[am_i_X5_isClosing]? = some am_m_X5_isClosing := rfl
set_option maxRecDepth 100000 in
theorem mt_X5_isEntry : am_tab[am_i_X5_isEntry]? = some am_m_X5_isEntry := rfl
set_option maxRecDepth 100000 in
theorem mt_X5_isSame : am_tab[am_i_X5_isSame]? = some am_m_X5_isSame := rfl
set_option maxRecDepth 100000 in
theorem mt_X5_isLocal : am_tab[am_i_X5_isLocal]? = some am_m_X5_isLocal := rfl
set_option maxRecDepth 100000 in
theorem mt_X5_isMember : am_tab[am_i_X5_isMember]? = some am_m_X5_isMember := rfl
set_option maxRecDepth 100000 in
theorem mt_X5_takeIn : am_tab[am_i_X5_takeIn]? = some am_m_X5_takeIn := rfl
set_option maxRecDepth 100000 in
theorem mt_X5_titleBytes : am_tab[am_i_X5_titleBytes]? = some am_m_X5_titleBytes := rfl
set_option maxRecDepth 100000 in
theorem mt_X5_addEntries : am_tab[am_i_X5_addEntries]? = some am_m_X5_addEntries := rfl
set_option maxRecDepth 100000 in
theorem mt_X5_addLocal : am_tab[am_i_X5_addLocal]? = some am_m_X5_addLocal := rfl
set_option maxRecDepth 100000 in
theorem mt_X5_setSize : am_tab[am_i_X5_setSize]? = some am_m_X5_setSize := rfl
set_option maxRecDepth 100000 in
theorem mt_X8_addBits : am_tab[am_i_X8_addBits]? = some am_m_X8_addBits := rfl
set_option maxRecDepth 100000 in
theorem mt_X8_addCode : am_tab[am_i_X8_addCode]? = some am_m_X8_addCode := rfl
set_option maxRecDepth 100000 in
theorem mt_X8_addSymbol : am_tab[am_i_X8_addSymbol]? = some am_m_X8_addSymbol := rfl
set_option maxRecDepth 100000 in
theorem mt_X8_distanceSymbol : am_tab[am_i_X8_distanceSymbol]? = some am_m_X8_distanceSymbol := rfl
set_option maxRecDepth 100000 in
theorem mt_X8_lengthStep : am_tab[am_i_X8_lengthStep]? = some am_m_X8_lengthStep := rfl
set_option maxRecDepth 100000 in
theorem mt_X8_longestBefore : am_tab[am_i_X8_longestBefore]? = some am_m_X8_longestBefore := rfl
set_option maxRecDepth 100000 in
theorem mt_X8_addPacked : am_tab[am_i_X8_addPacked]? = some am_m_X8_addPacked := rfl
set_option maxRecDepth 100000 in
theorem mt_X5_layOut : am_tab[am_i_X5_layOut]? = some am_m_X5_layOut := rfl
set_option maxRecDepth 100000 in
theorem mt_X6_number : am_tab[am_i_X6_number]? = some am_m_X6_number := rfl
set_option maxRecDepth 100000 in
theorem mt_X6_place : am_tab[am_i_X6_place]? = some am_m_X6_place := rfl
set_option maxRecDepth 100000 in
theorem mt_X6_clear : am_tab[am_i_X6_clear]? = some am_m_X6_clear := rfl
set_option maxRecDepth 100000 in
theorem mt_X9_clear : am_tab[am_i_X9_clear]? = some am_m_X9_clear := rfl
set_option maxRecDepth 100000 in
theorem mt_X9_hasUnder : am_tab[am_i_X9_hasUnder]? = some am_m_X9_hasUnder := rfl
set_option maxRecDepth 100000 in
theorem mt_X11_partBehind : am_tab[am_i_X11_partBehind]? = some am_m_X11_partBehind := rfl
set_option maxRecDepth 100000 in
theorem mt_X11_partLength : am_tab[am_i_X11_partLength]? = some am_m_X11_partLength := rfl
set_option maxRecDepth 100000 in
theorem mt_X9_isSamePart : am_tab[am_i_X9_isSamePart]? = some am_m_X9_isSamePart := rfl
set_option maxRecDepth 100000 in
theorem mt_X9_isFirstOfChild : am_tab[am_i_X9_isFirstOfChild]? = some am_m_X9_isFirstOfChild := rfl
set_option maxRecDepth 100000 in
theorem mt_X9_children : am_tab[am_i_X9_children]? = some am_m_X9_children := rfl
set_option maxRecDepth 100000 in
theorem mt_X9_firstOfChild : am_tab[am_i_X9_firstOfChild]? = some am_m_X9_firstOfChild := rfl
set_option maxRecDepth 100000 in
theorem mt_X10_orderFixed : am_tab[am_i_X10_orderFixed]? = some am_m_X10_orderFixed := rfl
set_option maxRecDepth 100000 in
theorem mt_X11_type : am_tab[am_i_X11_type]? = some am_m_X11_type := rfl
set_option maxRecDepth 100000 in
theorem mt_X11_keep : am_tab[am_i_X11_keep]? = some am_m_X11_keep := rfl
set_option maxRecDepth 100000 in
theorem mt_X11_typed : am_tab[am_i_X11_typed]? = some am_m_X11_typed := rfl
set_option maxRecDepth 100000 in
theorem mt_X11_come : am_tab[am_i_X11_come]? = some am_m_X11_come := rfl
set_option maxRecDepth 100000 in
theorem mt_X11_go : am_tab[am_i_X11_go]? = some am_m_X11_go := rfl
set_option maxRecDepth 100000 in
theorem mt_X11_name : am_tab[am_i_X11_name]? = some am_m_X11_name := rfl
set_option maxRecDepth 100000 in
theorem mt_X11_byteAt : am_tab[am_i_X11_byteAt]? = some am_m_X11_byteAt := rfl
set_option maxRecDepth 100000 in
theorem mt_X11_kind : am_tab[am_i_X11_kind]? = some am_m_X11_kind := rfl
set_option maxRecDepth 100000 in
theorem mt_X11_child : am_tab[am_i_X11_child]? = some am_m_X11_child := rfl
set_option maxRecDepth 100000 in
theorem mt_X11_archiveOf : am_tab[am_i_X11_archiveOf]? = some am_m_X11_archiveOf := rfl
set_option maxRecDepth 100000 in
theorem mt_X11_write : am_tab[am_i_X11_write]? = some am_m_X11_write := rfl
set_option maxRecDepth 100000 in
theorem mt_X11_read : am_tab[am_i_X11_read]? = some am_m_X11_read := rfl
set_option maxRecDepth 100000 in
theorem mt_X11_fault : am_tab[am_i_X11_fault]? = some am_m_X11_fault := rfl
set_option maxRecDepth 100000 in
theorem mt_X11_pack : am_tab[am_i_X11_pack]? = some am_m_X11_pack := rfl
set_option maxRecDepth 100000 in
theorem mt_X11_unpack : am_tab[am_i_X11_unpack]? = some am_m_X11_unpack := rfl
set_option maxRecDepth 100000 in
theorem mt_X11_check : am_tab[am_i_X11_check]? = some am_m_X11_check := rfl
set_option maxRecDepth 100000 in
theorem mt_X11_feed : am_tab[am_i_X11_feed]? = some am_m_X11_feed := rfl
set_option maxRecDepth 100000 in
theorem mt_X11_end : am_tab[am_i_X11_end]? = some am_m_X11_end := rfl
set_option maxRecDepth 100000 in
theorem mt_X11_poke : am_tab[am_i_X11_poke]? = some am_m_X11_poke := rfl
set_option maxRecDepth 100000 in
theorem mt_X11_at : am_tab[am_i_X11_at]? = some am_m_X11_at := rfl
set_option maxRecDepth 100000 in
theorem mt_X11_count : am_tab[am_i_X11_count]? = some am_m_X11_count := rfl
set_option maxRecDepth 100000 in
theorem mt_X12_thrown : am_tab[am_i_X12_thrown]? = some am_m_X12_thrown := rfl
set_option maxRecDepth 100000 in
theorem mt_X12_in : am_tab[am_i_X12_in]? = some am_m_X12_in := rfl
set_option maxRecDepth 100000 in
theorem mt_X12_refuses : am_tab[am_i_X12_refuses]? = some am_m_X12_refuses := rfl
set_option maxRecDepth 100000 in
theorem mt_X12_fails : am_tab[am_i_X12_fails]? = some am_m_X12_fails := rfl
set_option maxRecDepth 100000 in
theorem mt_X12_type : am_tab[am_i_X12_type]? = some am_m_X12_type := rfl
set_option maxRecDepth 100000 in
theorem mt_X12_keep : am_tab[am_i_X12_keep]? = some am_m_X12_keep := rfl
set_option maxRecDepth 100000 in
theorem mt_X12_typed : am_tab[am_i_X12_typed]? = some am_m_X12_typed := rfl
set_option maxRecDepth 100000 in
theorem mt_X12_put : am_tab[am_i_X12_put]? = some am_m_X12_put := rfl
set_option maxRecDepth 100000 in
theorem mt_X12_feed : am_tab[am_i_X12_feed]? = some am_m_X12_feed := rfl
set_option maxRecDepth 100000 in
theorem mt_X12_end : am_tab[am_i_X12_end]? = some am_m_X12_end := rfl
set_option maxRecDepth 100000 in
theorem mt_X12_poke : am_tab[am_i_X12_poke]? = some am_m_X12_poke := rfl
set_option maxRecDepth 100000 in
theorem mt_X12_at : am_tab[am_i_X12_at]? = some am_m_X12_at := rfl
set_option maxRecDepth 100000 in
theorem mt_X12_count : am_tab[am_i_X12_count]? = some am_m_X12_count := rfl
set_option maxRecDepth 100000 in
theorem mt_X12_fault : am_tab[am_i_X12_fault]? = some am_m_X12_fault := rfl
set_option maxRecDepth 100000 in
theorem mt_X12_nameAt : am_tab[am_i_X12_nameAt]? = some am_m_X12_nameAt := rfl
set_option maxRecDepth 100000 in
theorem mt_X12_isName : am_tab[am_i_X12_isName]? = some am_m_X12_isName := rfl
set_option maxRecDepth 100000 in
theorem mt_X12_isNamed : am_tab[am_i_X12_isNamed]? = some am_m_X12_isNamed := rfl
set_option maxRecDepth 100000 in
theorem mt_X12_isUnderNew : am_tab[am_i_X12_isUnderNew]? = some am_m_X12_isUnderNew := rfl
set_option maxRecDepth 100000 in
theorem mt_X12_isNewUnder : am_tab[am_i_X12_isNewUnder]? = some am_m_X12_isNewUnder := rfl
set_option maxRecDepth 100000 in
theorem mt_X12_seek : am_tab[am_i_X12_seek]? = some am_m_X12_seek := rfl
set_option maxRecDepth 100000 in
theorem mt_X12_isInTheWay : am_tab[am_i_X12_isInTheWay]? = some am_m_X12_isInTheWay := rfl
set_option maxRecDepth 100000 in
theorem mt_X12_move : am_tab[am_i_X12_move]? = some am_m_X12_move := rfl
set_option maxRecDepth 100000 in
theorem mt_X12_stand : am_tab[am_i_X12_stand]? = some am_m_X12_stand := rfl
set_option maxRecDepth 100000 in
theorem mt_X12_come : am_tab[am_i_X12_come]? = some am_m_X12_come := rfl
set_option maxRecDepth 100000 in
theorem mt_X12_go : am_tab[am_i_X12_go]? = some am_m_X12_go := rfl
set_option maxRecDepth 100000 in
theorem mt_X12_name : am_tab[am_i_X12_name]? = some am_m_X12_name := rfl
set_option maxRecDepth 100000 in
theorem mt_X12_byteAt : am_tab[am_i_X12_byteAt]? = some am_m_X12_byteAt := rfl
set_option maxRecDepth 100000 in
theorem mt_X12_takePath : am_tab[am_i_X12_takePath]? = some am_m_X12_takePath := rfl
set_option maxRecDepth 100000 in
theorem mt_X12_kind : am_tab[am_i_X12_kind]? = some am_m_X12_kind := rfl
set_option maxRecDepth 100000 in
theorem mt_X12_findPart : am_tab[am_i_X12_findPart]? = some am_m_X12_findPart := rfl
set_option maxRecDepth 100000 in
theorem mt_X12_isSamePart : am_tab[am_i_X12_isSamePart]? = some am_m_X12_isSamePart := rfl
set_option maxRecDepth 100000 in
theorem mt_X12_isFresh : am_tab[am_i_X12_isFresh]? = some am_m_X12_isFresh := rfl
set_option maxRecDepth 100000 in
theorem mt_X12_child : am_tab[am_i_X12_child]? = some am_m_X12_child := rfl
set_option maxRecDepth 100000 in
theorem mt_X12_isRow : am_tab[am_i_X12_isRow]? = some am_m_X12_isRow := rfl
set_option maxRecDepth 100000 in
theorem mt_X12_reaches : am_tab[am_i_X12_reaches]? = some am_m_X12_reaches := rfl
set_option maxRecDepth 100000 in
theorem mt_X12_areZeros : am_tab[am_i_X12_areZeros]? = some am_m_X12_areZeros := rfl
set_option maxRecDepth 100000 in
theorem mt_X12_comes : am_tab[am_i_X12_comes]? = some am_m_X12_comes := rfl
set_option maxRecDepth 100000 in
theorem mt_X12_takeBytes : am_tab[am_i_X12_takeBytes]? = some am_m_X12_takeBytes := rfl
set_option maxRecDepth 100000 in
theorem mt_X12_readOctal : am_tab[am_i_X12_readOctal]? = some am_m_X12_readOctal := rfl
set_option maxRecDepth 100000 in
theorem mt_X12_readSum : am_tab[am_i_X12_readSum]? = some am_m_X12_readSum := rfl
set_option maxRecDepth 100000 in
theorem mt_X12_readMark : am_tab[am_i_X12_readMark]? = some am_m_X12_readMark := rfl
set_option maxRecDepth 100000 in
theorem mt_X12_addName : am_tab[am_i_X12_addName]? = some am_m_X12_addName := rfl
set_option maxRecDepth 100000 in
theorem mt_X12_readBlockHead : am_tab[am_i_X12_readBlockHead]? = some am_m_X12_readBlockHead := rfl
set_option maxRecDepth 100000 in
theorem mt_X12_isBlank : am_tab[am_i_X12_isBlank]? = some am_m_X12_isBlank := rfl
set_option maxRecDepth 100000 in
theorem mt_X12_readBlocks : am_tab[am_i_X12_readBlocks]? = some am_m_X12_readBlocks := rfl
set_option maxRecDepth 100000 in
theorem mt_X12_digitOf : am_tab[am_i_X12_digitOf]? = some am_m_X12_digitOf := rfl
set_option maxRecDepth 100000 in
theorem mt_X12_hexAt : am_tab[am_i_X12_hexAt]? = some am_m_X12_hexAt := rfl
set_option maxRecDepth 100000 in
theorem mt_X12_readDigitsHead : am_tab[am_i_X12_readDigitsHead]? = some am_m_X12_readDigitsHead := rfl
set_option maxRecDepth 100000 in
theorem mt_X12_trailerAt : am_tab[am_i_X12_trailerAt]? = some am_m_X12_trailerAt := rfl
set_option maxRecDepth 100000 in
theorem mt_X12_isTrailer : am_tab[am_i_X12_isTrailer]? = some am_m_X12_isTrailer := rfl
set_option maxRecDepth 100000 in
theorem mt_X12_upToFour : am_tab[am_i_X12_upToFour]? = some am_m_X12_upToFour := rfl
set_option maxRecDepth 100000 in
theorem mt_X12_readDigits : am_tab[am_i_X12_readDigits]? = some am_m_X12_readDigits := rfl
set_option maxRecDepth 100000 in
theorem mt_X12_twoAt : am_tab[am_i_X12_twoAt]? = some am_m_X12_twoAt := rfl
set_option maxRecDepth 100000 in
theorem mt_X12_fourAt : am_tab[am_i_X12_fourAt]? = some am_m_X12_fourAt := rfl
set_option maxRecDepth 100000 in
theorem mt_X12_isZeroAt : am_tab[am_i_X12_isZeroAt]? = some am_m_X12_isZeroAt := rfl
set_option maxRecDepth 100000 in
theorem mt_X12_readEnd : am_tab[am_i_X12_readEnd]? = some am_m_X12_readEnd := rfl
set_option maxRecDepth 100000 in
theorem mt_X12_readEntryHead : am_tab[am_i_X12_readEntryHead]? = some am_m_X12_readEntryHead := rfl
set_option maxRecDepth 100000 in
theorem mt_X12_isAsThere : am_tab[am_i_X12_isAsThere]? = some am_m_X12_isAsThere := rfl
set_option maxRecDepth 100000 in
theorem mt_X12_checkMore : am_tab[am_i_X12_checkMore]? = some am_m_X12_checkMore := rfl
set_option maxRecDepth 100000 in
theorem mt_X12_bit : am_tab[am_i_X12_bit]? = some am_m_X12_bit := rfl
set_option maxRecDepth 100000 in
theorem mt_X12_bits : am_tab[am_i_X12_bits]? = some am_m_X12_bits := rfl
set_option maxRecDepth 100000 in
theorem mt_X12_layCodes : am_tab[am_i_X12_layCodes]? = some am_m_X12_layCodes := rfl
set_option maxRecDepth 100000 in
theorem mt_X12_layFixed : am_tab[am_i_X12_layFixed]? = some am_m_X12_layFixed := rfl
set_option maxRecDepth 100000 in
theorem mt_X12_add : am_tab[am_i_X12_add]? = some am_m_X12_add := rfl
set_option maxRecDepth 100000 in
theorem mt_X12_plain : am_tab[am_i_X12_plain]? = some am_m_X12_plain := rfl
set_option maxRecDepth 100000 in
theorem mt_X12_fullness : am_tab[am_i_X12_fullness]? = some am_m_X12_fullness := rfl
set_option maxRecDepth 100000 in
theorem mt_X12_order : am_tab[am_i_X12_order]? = some am_m_X12_order := rfl
set_option maxRecDepth 100000 in
theorem mt_X12_symbol : am_tab[am_i_X12_symbol]? = some am_m_X12_symbol := rfl
set_option maxRecDepth 100000 in
theorem mt_X12_readRow : am_tab[am_i_X12_readRow]? = some am_m_X12_readRow := rfl
set_option maxRecDepth 100000 in
theorem mt_X12_readCodes : am_tab[am_i_X12_readCodes]? = some am_m_X12_readCodes := rfl
set_option maxRecDepth 100000 in
theorem mt_X12_distanceOf : am_tab[am_i_X12_distanceOf]? = some am_m_X12_distanceOf := rfl
set_option maxRecDepth 100000 in
theorem mt_X12_lengthOf : am_tab[am_i_X12_lengthOf]? = some am_m_X12_lengthOf := rfl
set_option maxRecDepth 100000 in
theorem mt_X12_readSymbols : am_tab[am_i_X12_readSymbols]? = some am_m_X12_readSymbols := rfl
set_option maxRecDepth 100000 in
theorem mt_X12_unpackFrom : am_tab[am_i_X12_unpackFrom]? = some am_m_X12_unpackFrom := rfl
set_option maxRecDepth 100000 in
theorem mt_X12_readContent : am_tab[am_i_X12_readContent]? = some am_m_X12_readContent := rfl
set_option maxRecDepth 100000 in
theorem mt_X12_readLocal : am_tab[am_i_X12_readLocal]? = some am_m_X12_readLocal := rfl
set_option maxRecDepth 100000 in
theorem mt_X12_readDirectory : am_tab[am_i_X12_readDirectory]? = some am_m_X12_readDirectory := rfl
set_option maxRecDepth 100000 in
theorem mt_X12_read : am_tab[am_i_X12_read]? = some am_m_X12_read := rfl
set_option maxRecDepth 100000 in
theorem mt_X12_unpack : am_tab[am_i_X12_unpack]? = some am_m_X12_unpack := rfl
set_option maxRecDepth 100000 in
theorem mt_X12_check : am_tab[am_i_X12_check]? = some am_m_X12_check := rfl
set_option maxRecDepth 100000 in
theorem mt_X12_putBit : am_tab[am_i_X12_putBit]? = some am_m_X12_putBit := rfl
set_option maxRecDepth 100000 in
theorem mt_X12_putBits : am_tab[am_i_X12_putBits]? = some am_m_X12_putBits := rfl
set_option maxRecDepth 100000 in
theorem mt_X12_putCode : am_tab[am_i_X12_putCode]? = some am_m_X12_putCode := rfl
set_option maxRecDepth 100000 in
theorem mt_X12_match : am_tab[am_i_X12_match]? = some am_m_X12_match := rfl
set_option maxRecDepth 100000 in
theorem mt_X12_putMatch : am_tab[am_i_X12_putMatch]? = some am_m_X12_putMatch := rfl
set_option maxRecDepth 100000 in
theorem mt_X12_putPacked : am_tab[am_i_X12_putPacked]? = some am_m_X12_putPacked := rfl
set_option maxRecDepth 100000 in
theorem mt_X12_pack : am_tab[am_i_X12_pack]? = some am_m_X12_pack := rfl
set_option maxRecDepth 100000 in
theorem mt_X12_putZeros : am_tab[am_i_X12_putZeros]? = some am_m_X12_putZeros := rfl
set_option maxRecDepth 100000 in
theorem mt_X12_putName : am_tab[am_i_X12_putName]? = some am_m_X12_putName := rfl
set_option maxRecDepth 100000 in
theorem mt_X12_putBytes : am_tab[am_i_X12_putBytes]? = some am_m_X12_putBytes := rfl
set_option maxRecDepth 100000 in
theorem mt_X12_octalAt : am_tab[am_i_X12_octalAt]? = some am_m_X12_octalAt := rfl
set_option maxRecDepth 100000 in
theorem mt_X12_writeBlock : am_tab[am_i_X12_writeBlock]? = some am_m_X12_writeBlock := rfl
set_option maxRecDepth 100000 in
theorem mt_X12_putHex : am_tab[am_i_X12_putHex]? = some am_m_X12_putHex := rfl
set_option maxRecDepth 100000 in
theorem mt_X12_putDigitsHead : am_tab[am_i_X12_putDigitsHead]? = some am_m_X12_putDigitsHead := rfl
set_option maxRecDepth 100000 in
theorem mt_X12_writeDigits : am_tab[am_i_X12_writeDigits]? = some am_m_X12_writeDigits := rfl
set_option maxRecDepth 100000 in
theorem mt_X12_putTwo : am_tab[am_i_X12_putTwo]? = some am_m_X12_putTwo := rfl
set_option maxRecDepth 100000 in
theorem mt_X12_putFour : am_tab[am_i_X12_putFour]? = some am_m_X12_putFour := rfl
set_option maxRecDepth 100000 in
theorem mt_X12_checkOf : am_tab[am_i_X12_checkOf]? = some am_m_X12_checkOf := rfl
set_option maxRecDepth 100000 in
theorem mt_X12_namedSize : am_tab[am_i_X12_namedSize]? = some am_m_X12_namedSize := rfl
set_option maxRecDepth 100000 in
theorem mt_X12_fourInto : am_tab[am_i_X12_fourInto]? = some am_m_X12_fourInto := rfl
set_option maxRecDepth 100000 in
theorem mt_X12_writeLocal : am_tab[am_i_X12_writeLocal]? = some am_m_X12_writeLocal := rfl
set_option maxRecDepth 100000 in
theorem mt_X12_writeEntry : am_tab[am_i_X12_writeEntry]? = some am_m_X12_writeEntry := rfl
set_option maxRecDepth 100000 in
theorem mt_X12_writeDirectory : am_tab[am_i_X12_writeDirectory]? = some am_m_X12_writeDirectory := rfl
set_option maxRecDepth 100000 in
theorem mt_X12_write : am_tab[am_i_X12_write]? = some am_m_X12_write := rfl
end
section
/-! THAT THE MACHINE FOLLOWS THEM, printed by gen_l1.py -/
set_option maxRecDepth 100000 in
theorem en_X2_size {Q : hS → am_H → Prop} (hQ : l1_em kc Q) (c : hS) (b : Nat) (hb : kc b = 1) : l1_G (wN wI) Q am_i_X2_size 0 [some (.ref b)] [] c (f_X2_size c b) := by
  rw [f_X2_size]
  refine l1_many mt_X2_size (pc' := 1) (L' := [some (.ref b)]) (st' := [.ref b]) 1 rfl ?_
  refine l1_getI hQ mt_X2_size rfl (o := b) (ci := 1) (k := 1) (a := 0) (b := 0) hb rfl rfl rfl rfl ?_
  exact l1_ret mt_X2_size rfl rfl rfl
theorem ok_X2_size {Q : hS → am_H → Prop} (hQ : l1_em kc Q) (c : hS) (b : Nat) (hb : kc b = 1) : l1_T wI Q am_i_X2_size [.ref b] c (f_X2_size c b) := l1_of (en_X2_size hQ c b hb) ⟨rfl, trivial⟩
set_option maxRecDepth 100000 in
theorem en_X6_tell {Q : hS → am_H → Prop} (hQ : l1_em kc Q) (c : hS) (p1 : Int32) (p2 : Int32) : l1_G (wN wI) Q am_i_X6_tell 0 [some (.ref 9), some (.int p1), some (.int p2)] [] c (f_X6_tell c p1 p2) := by
  rw [f_X6_tell]
  refine l1_many mt_X6_tell (pc' := 2) (L' := [some (.ref 9), some (.int p1), some (.int p2)]) (st' := [.int p1, .ref 9]) 2 rfl ?_
  refine l1_putI hQ mt_X6_tell rfl (o := 9) (ci := 5) (k := 0) (a := 0) rfl rfl rfl rfl rfl rfl (fun c1 => ?_)
  refine l1_many mt_X6_tell (pc' := 7) (L' := [some (.ref 9), some (.int p1), some (.int p2)]) (st' := [.int p2, .ref 9]) 2 rfl ?_
  refine l1_putI hQ mt_X6_tell rfl (o := 9) (ci := 5) (k := 1) (a := 0) rfl rfl rfl rfl rfl rfl (fun c2 => ?_)
  refine l1_many mt_X6_tell (pc' := 11) (L' := [some (.ref 9), some (.int p1), some (.int p2)]) (st' := [.int 0]) 1 rfl ?_
  exact l1_ret mt_X6_tell rfl rfl rfl
theorem ok_X6_tell {Q : hS → am_H → Prop} (hQ : l1_em kc Q) (c : hS) (p1 : Int32) (p2 : Int32) : l1_T wI Q am_i_X6_tell [.ref 9, .int p1, .int p2] c (f_X6_tell c p1 p2) := l1_of (en_X6_tell hQ c p1 p2) ⟨rfl, rfl, rfl, trivial⟩
set_option maxRecDepth 100000 in
theorem en_X0_reaches_34 {Q : hS → am_H → Prop} (hQ : l1_em kc Q) (c : hS) (p1 : Int32) : l1_G (wN wI) Q am_i_X0_reaches 0 [some (.ref 34), some (.int p1)] [] c (f_X0_reaches c p1) := by
  rw [f_X0_reaches]
  refine l1_many mt_X0_reaches (pc' := 2) (L' := [some (.ref 34), some (.int p1)]) (st' := [.ref 34, .int p1]) 2 rfl ?_
  refine l1_getR hQ mt_X0_reaches rfl (o := 34) (ci := 0) (k := 0) (a := 0) (b := 1) rfl rfl rfl rfl rfl (q := 3) rfl ?_
  refine l1_callV hQ mt_X0_reaches mt_X2_size rfl rfl (o := 3) (ci := 1) (As := []) (rest := [.int p1]) rfl rfl rfl rfl rfl rfl (st1 := fun x1 => [.int x1, .int p1]) (fun _ => rfl) (ok_X2_size hQ c 3 rfl) (fun x1 c2 => ?_)
  refine l1_many mt_X0_reaches (pc' := bif am_cc .le p1 x1 then 29 else 11) (L' := [some (.ref 34), some (.int p1)]) (st' := []) 1 rfl ?_
  refine l1_bif rfl ?_ ?_
  · refine l1_many mt_X0_reaches (pc' := 34) (L' := [some (.ref 34), some (.int p1)]) (st' := [.int 1]) 2 rfl ?_
    exact l1_ret mt_X0_reaches rfl rfl rfl
  · refine l1_many mt_X0_reaches (pc' := 12) (L' := [some (.ref 34), some (.int p1)]) (st' := [.ref 34]) 1 rfl ?_
    refine l1_getR hQ mt_X0_reaches rfl (o := 34) (ci := 0) (k := 2) (a := 0) (b := 1) rfl rfl rfl rfl rfl (q := 9) rfl ?_
    refine l1_many mt_X0_reaches (pc' := 17) (L' := [some (.ref 34), some (.int p1)]) (st' := [.ref 34, .int 1, .ref 9]) 2 rfl ?_
    refine l1_getR hQ mt_X0_reaches rfl (o := 34) (ci := 0) (k := 0) (a := 0) (b := 1) rfl rfl rfl rfl rfl (q := 3) rfl ?_
    refine l1_callV hQ mt_X0_reaches mt_X2_size rfl rfl (o := 3) (ci := 1) (As := []) (rest := [.int 1, .ref 9]) rfl rfl rfl rfl rfl rfl (st1 := fun x3 => [.int x3, .int 1, .ref 9]) (fun _ => rfl) (ok_X2_size hQ c2 3 rfl) (fun x3 c4 => ?_)
    refine l1_callV hQ mt_X0_reaches mt_X6_tell rfl rfl (o := 9) (ci := 5) (As := [.int 1, .int x3]) (rest := []) rfl rfl rfl rfl rfl rfl (st1 := fun x5 => [.int x5]) (fun _ => rfl) (ok_X6_tell hQ c4 1 x3) (fun x5 c6 => ?_)
    refine l1_many mt_X0_reaches (pc' := bif am_cc .eq x5 0 then 33 else 29) (L' := [some (.ref 34), some (.int p1)]) (st' := []) 1 rfl ?_
    refine l1_bif rfl ?_ ?_
    · refine l1_many mt_X0_reaches (pc' := 34) (L' := [some (.ref 34), some (.int p1)]) (st' := [.int 0]) 1 rfl ?_
      exact l1_ret mt_X0_reaches rfl rfl rfl
    · refine l1_many mt_X0_reaches (pc' := 34) (L' := [some (.ref 34), some (.int p1)]) (st' := [.int 1]) 2 rfl ?_
      exact l1_ret mt_X0_reaches rfl rfl rfl
theorem ok_X0_reaches_34 {Q : hS → am_H → Prop} (hQ : l1_em kc Q) (c : hS) (p1 : Int32) : l1_T wI Q am_i_X0_reaches [.ref 34, .int p1] c (f_X0_reaches c p1) := l1_of (en_X0_reaches_34 hQ c p1) ⟨rfl, rfl, trivial⟩
set_option maxRecDepth 100000 in
theorem en_X0_reaches_35 {Q : hS → am_H → Prop} (hQ : l1_em kc Q) (c : hS) (p1 : Int32) : l1_G (wN wI) Q am_i_X0_reaches 0 [some (.ref 35), some (.int p1)] [] c (f_X0_reaches c p1) := by
  rw [f_X0_reaches]
  refine l1_many mt_X0_reaches (pc' := 2) (L' := [some (.ref 35), some (.int p1)]) (st' := [.ref 35, .int p1]) 2 rfl ?_
  refine l1_getR hQ mt_X0_reaches rfl (o := 35) (ci := 3) (k := 0) (a := 0) (b := 1) rfl rfl rfl rfl rfl (q := 3) rfl ?_
  refine l1_callV hQ mt_X0_reaches mt_X2_size rfl rfl (o := 3) (ci := 1) (As := []) (rest := [.int p1]) rfl rfl rfl rfl rfl rfl (st1 := fun x1 => [.int x1, .int p1]) (fun _ => rfl) (ok_X2_size hQ c 3 rfl) (fun x1 c2 => ?_)
  refine l1_many mt_X0_reaches (pc' := bif am_cc .le p1 x1 then 29 else 11) (L' := [some (.ref 35), some (.int p1)]) (st' := []) 1 rfl ?_
  refine l1_bif rfl ?_ ?_
  · refine l1_many mt_X0_reaches (pc' := 34) (L' := [some (.ref 35), some (.int p1)]) (st' := [.int 1]) 2 rfl ?_
    exact l1_ret mt_X0_reaches rfl rfl rfl
  · refine l1_many mt_X0_reaches (pc' := 12) (L' := [some (.ref 35), some (.int p1)]) (st' := [.ref 35]) 1 rfl ?_
    refine l1_getR hQ mt_X0_reaches rfl (o := 35) (ci := 3) (k := 2) (a := 0) (b := 1) rfl rfl rfl rfl rfl (q := 9) rfl ?_
    refine l1_many mt_X0_reaches (pc' := 17) (L' := [some (.ref 35), some (.int p1)]) (st' := [.ref 35, .int 1, .ref 9]) 2 rfl ?_
    refine l1_getR hQ mt_X0_reaches rfl (o := 35) (ci := 3) (k := 0) (a := 0) (b := 1) rfl rfl rfl rfl rfl (q := 3) rfl ?_
    refine l1_callV hQ mt_X0_reaches mt_X2_size rfl rfl (o := 3) (ci := 1) (As := []) (rest := [.int 1, .ref 9]) rfl rfl rfl rfl rfl rfl (st1 := fun x3 => [.int x3, .int 1, .ref 9]) (fun _ => rfl) (ok_X2_size hQ c2 3 rfl) (fun x3 c4 => ?_)
    refine l1_callV hQ mt_X0_reaches mt_X6_tell rfl rfl (o := 9) (ci := 5) (As := [.int 1, .int x3]) (rest := []) rfl rfl rfl rfl rfl rfl (st1 := fun x5 => [.int x5]) (fun _ => rfl) (ok_X6_tell hQ c4 1 x3) (fun x5 c6 => ?_)
    refine l1_many mt_X0_reaches (pc' := bif am_cc .eq x5 0 then 33 else 29) (L' := [some (.ref 35), some (.int p1)]) (st' := []) 1 rfl ?_
    refine l1_bif rfl ?_ ?_
    · refine l1_many mt_X0_reaches (pc' := 34) (L' := [some (.ref 35), some (.int p1)]) (st' := [.int 0]) 1 rfl ?_
      exact l1_ret mt_X0_reaches rfl rfl rfl
    · refine l1_many mt_X0_reaches (pc' := 34) (L' := [some (.ref 35), some (.int p1)]) (st' := [.int 1]) 2 rfl ?_
      exact l1_ret mt_X0_reaches rfl rfl rfl
theorem ok_X0_reaches_35 {Q : hS → am_H → Prop} (hQ : l1_em kc Q) (c : hS) (p1 : Int32) : l1_T wI Q am_i_X0_reaches [.ref 35, .int p1] c (f_X0_reaches c p1) := l1_of (en_X0_reaches_35 hQ c p1) ⟨rfl, rfl, trivial⟩
set_option maxRecDepth 100000 in
theorem en_X0_reaches_36 {Q : hS → am_H → Prop} (hQ : l1_em kc Q) (c : hS) (p1 : Int32) : l1_G (wN wI) Q am_i_X0_reaches 0 [some (.ref 36), some (.int p1)] [] c (f_X0_reaches c p1) := by
  rw [f_X0_reaches]
  refine l1_many mt_X0_reaches (pc' := 2) (L' := [some (.ref 36), some (.int p1)]) (st' := [.ref 36, .int p1]) 2 rfl ?_
  refine l1_getR hQ mt_X0_reaches rfl (o := 36) (ci := 4) (k := 0) (a := 0) (b := 1) rfl rfl rfl rfl rfl (q := 3) rfl ?_
  refine l1_callV hQ mt_X0_reaches mt_X2_size rfl rfl (o := 3) (ci := 1) (As := []) (rest := [.int p1]) rfl rfl rfl rfl rfl rfl (st1 := fun x1 => [.int x1, .int p1]) (fun _ => rfl) (ok_X2_size hQ c 3 rfl) (fun x1 c2 => ?_)
  refine l1_many mt_X0_reaches (pc' := bif am_cc .le p1 x1 then 29 else 11) (L' := [some (.ref 36), some (.int p1)]) (st' := []) 1 rfl ?_
  refine l1_bif rfl ?_ ?_
  · refine l1_many mt_X0_reaches (pc' := 34) (L' := [some (.ref 36), some (.int p1)]) (st' := [.int 1]) 2 rfl ?_
    exact l1_ret mt_X0_reaches rfl rfl rfl
  · refine l1_many mt_X0_reaches (pc' := 12) (L' := [some (.ref 36), some (.int p1)]) (st' := [.ref 36]) 1 rfl ?_
    refine l1_getR hQ mt_X0_reaches rfl (o := 36) (ci := 4) (k := 2) (a := 0) (b := 1) rfl rfl rfl rfl rfl (q := 9) rfl ?_
    refine l1_many mt_X0_reaches (pc' := 17) (L' := [some (.ref 36), some (.int p1)]) (st' := [.ref 36, .int 1, .ref 9]) 2 rfl ?_
    refine l1_getR hQ mt_X0_reaches rfl (o := 36) (ci := 4) (k := 0) (a := 0) (b := 1) rfl rfl rfl rfl rfl (q := 3) rfl ?_
    refine l1_callV hQ mt_X0_reaches mt_X2_size rfl rfl (o := 3) (ci := 1) (As := []) (rest := [.int 1, .ref 9]) rfl rfl rfl rfl rfl rfl (st1 := fun x3 => [.int x3, .int 1, .ref 9]) (fun _ => rfl) (ok_X2_size hQ c2 3 rfl) (fun x3 c4 => ?_)
    refine l1_callV hQ mt_X0_reaches mt_X6_tell rfl rfl (o := 9) (ci := 5) (As := [.int 1, .int x3]) (rest := []) rfl rfl rfl rfl rfl rfl (st1 := fun x5 => [.int x5]) (fun _ => rfl) (ok_X6_tell hQ c4 1 x3) (fun x5 c6 => ?_)
    refine l1_many mt_X0_reaches (pc' := bif am_cc .eq x5 0 then 33 else 29) (L' := [some (.ref 36), some (.int p1)]) (st' := []) 1 rfl ?_
    refine l1_bif rfl ?_ ?_
    · refine l1_many mt_X0_reaches (pc' := 34) (L' := [some (.ref 36), some (.int p1)]) (st' := [.int 0]) 1 rfl ?_
      exact l1_ret mt_X0_reaches rfl rfl rfl
    · refine l1_many mt_X0_reaches (pc' := 34) (L' := [some (.ref 36), some (.int p1)]) (st' := [.int 1]) 2 rfl ?_
      exact l1_ret mt_X0_reaches rfl rfl rfl
theorem ok_X0_reaches_36 {Q : hS → am_H → Prop} (hQ : l1_em kc Q) (c : hS) (p1 : Int32) : l1_T wI Q am_i_X0_reaches [.ref 36, .int p1] c (f_X0_reaches c p1) := l1_of (en_X0_reaches_36 hQ c p1) ⟨rfl, rfl, trivial⟩
set_option maxRecDepth 100000 in
theorem en_X2_get {Q : hS → am_H → Prop} (hQ : l1_em kc Q) (c : hS) (b : Nat) (p1 : Int32) (hb : kc b = 1) : l1_G (wN wI) Q am_i_X2_get 0 [some (.ref b), some (.int p1)] [] c (f_X2_get c b p1) := by
  rw [f_X2_get]
  refine l1_many mt_X2_get (pc' := bif am_cc .lt p1 0 then 30 else 4) (L' := [some (.ref b), some (.int p1)]) (st' := []) 2 rfl ?_
  refine l1_bif rfl ?_ ?_
  · refine l1_many mt_X2_get (pc' := 31) (L' := [some (.ref b), some (.int p1)]) (st' := [.int 0]) 1 rfl ?_
    exact l1_ret mt_X2_get rfl rfl rfl
  · refine l1_many mt_X2_get (pc' := 6) (L' := [some (.ref b), some (.int p1)]) (st' := [.ref b, .int p1]) 2 rfl ?_
    refine l1_getI hQ mt_X2_get rfl (o := b) (ci := 1) (k := 1) (a := 0) (b := 0) hb rfl rfl rfl rfl ?_
    refine l1_many mt_X2_get (pc' := bif am_cc .ge p1 (c.1 b 1) then 30 else 12) (L' := [some (.ref b), some (.int p1)]) (st' := []) 1 rfl ?_
    refine l1_bif rfl ?_ ?_
    · refine l1_many mt_X2_get (pc' := 31) (L' := [some (.ref b), some (.int p1)]) (st' := [.int 0]) 1 rfl ?_
      exact l1_ret mt_X2_get rfl rfl rfl
    · refine l1_many mt_X2_get (pc' := 14) (L' := [some (.ref b), some (.int p1)]) (st' := [.ref b, .int p1]) 2 rfl ?_
      refine l1_getR hQ mt_X2_get rfl (o := b) (ci := 1) (k := 0) (a := 0) (b := 1) hb rfl rfl rfl rfl (q := (b + 1)) rfl ?_
      refine l1_len hQ mt_X2_get rfl (o := (b + 1)) (ci := 20) (kc1_1 hb) rfl rfl ?_
      refine l1_many mt_X2_get (pc' := bif am_cc .ge p1 (Int32.ofNat (ln (b + 1))) then 30 else 21) (L' := [some (.ref b), some (.int p1)]) (st' := []) 1 rfl ?_
      refine l1_bif rfl ?_ ?_
      · refine l1_many mt_X2_get (pc' := 31) (L' := [some (.ref b), some (.int p1)]) (st' := [.int 0]) 1 rfl ?_
        exact l1_ret mt_X2_get rfl rfl rfl
      · refine l1_many mt_X2_get (pc' := 22) (L' := [some (.ref b), some (.int p1)]) (st' := [.ref b]) 1 rfl ?_
        refine l1_getR hQ mt_X2_get rfl (o := b) (ci := 1) (k := 0) (a := 0) (b := 1) hb rfl rfl rfl rfl (q := (b + 1)) rfl ?_
        refine l1_many mt_X2_get (pc' := 26) (L' := [some (.ref b), some (.int p1)]) (st' := [.int p1, .ref (b + 1)]) 1 rfl ?_
        refine l1_ck (fun hx => ?_)
        refine l1_ald hQ mt_X2_get rfl (o := (b + 1)) (kc1_1 hb) hx ?_
        refine l1_many mt_X2_get (pc' := 31) (L' := [some (.ref b), some (.int p1)]) (st' := [.int (c.1 (b + 1) p1.toNatClampNeg)]) 1 rfl ?_
        exact l1_ret mt_X2_get rfl rfl rfl
theorem ok_X2_get {Q : hS → am_H → Prop} (hQ : l1_em kc Q) (c : hS) (b : Nat) (p1 : Int32) (hb : kc b = 1) : l1_T wI Q am_i_X2_get [.ref b, .int p1] c (f_X2_get c b p1) := l1_of (en_X2_get hQ c b p1 hb) ⟨rfl, rfl, trivial⟩
set_option maxRecDepth 100000 in
theorem ok_X0_isMarked_34_3 {Q : hS → am_H → Prop} (hQ : l1_em kc Q) (N : Nat) (p1 : Int32) (p2 : List Int32) (p3 : Int32) {q2 : Nat} (hp2 : l1_OA q2 p2) : ∀ n : Nat, ∀ (c : hS) (v4 : Int32), l1_G (wN wI) Q am_i_X0_isMarked 3 [some (.ref 34), some (.int p1), some (.ref q2), some (.int p3), some (.int v4)] [] c (f_X0_isMarked_3 N p1 p2 p3 n c v4) := by
  intro n
  induction n with
  | zero => intro c v4; exact l1_none
  | succ n ih =>
    intro c v4
    rw [f_X0_isMarked_3]
    refine l1_many mt_X0_isMarked (pc' := 6) (L' := [some (.ref 34), some (.int p1), some (.ref q2), some (.int p3), some (.int v4)]) (st' := [.ref q2, .int v4]) 2 rfl ?_
    refine l1_slen hQ mt_X0_isMarked rfl hp2 ?_
    refine l1_many mt_X0_isMarked (pc' := bif am_cc .ge v4 (Int32.ofNat p2.length) then 47 else 10) (L' := [some (.ref 34), some (.int p1), some (.ref q2), some (.int p3), some (.int v4)]) (st' := []) 1 rfl ?_
    refine l1_bif rfl ?_ ?_
    · refine l1_many mt_X0_isMarked (pc' := 48) (L' := [some (.ref 34), some (.int p1), some (.ref q2), some (.int p3), some (.int v4)]) (st' := [.int 1]) 1 rfl ?_
      exact l1_ret mt_X0_isMarked rfl rfl rfl
    · refine l1_many mt_X0_isMarked (pc' := 11) (L' := [some (.ref 34), some (.int p1), some (.ref q2), some (.int p3), some (.int v4)]) (st' := [.ref 34]) 1 rfl ?_
      refine l1_getR hQ mt_X0_isMarked rfl (o := 34) (ci := 0) (k := 0) (a := 0) (b := 1) rfl rfl rfl rfl rfl (q := 3) rfl ?_
      refine l1_many mt_X0_isMarked (pc' := 18) (L' := [some (.ref 34), some (.int p1), some (.ref q2), some (.int p3), some (.int v4)]) (st' := [.int (p1 + v4), .ref 3]) 3 rfl ?_
      refine l1_callV hQ mt_X0_isMarked mt_X2_get rfl rfl (o := 3) (ci := 1) (As := [.int (p1 + v4)]) (rest := []) rfl rfl rfl rfl rfl rfl (st1 := fun x1 => [.int x1]) (fun _ => rfl) (ok_X2_get hQ c 3 (p1 + v4) rfl) (fun x1 c2 => ?_)
      refine l1_many mt_X0_isMarked (pc' := 24) (L' := [some (.ref 34), some (.int p1), some (.ref q2), some (.int p3), some (.int v4)]) (st' := [.int v4, .ref q2, .int x1]) 2 rfl ?_
      refine l1_ck (fun hx => ?_)
      refine l1_sald hQ mt_X0_isMarked rfl hp2 hx ?_
      refine l1_many mt_X0_isMarked (pc' := bif am_cc .eq x1 (p2.getD v4.toNatClampNeg 0) then 41 else 28) (L' := [some (.ref 34), some (.int p1), some (.ref q2), some (.int p3), some (.int v4)]) (st' := []) 1 rfl ?_
      refine l1_bif rfl ?_ ?_
      · refine l1_many mt_X0_isMarked (pc' := 3) (L' := [some (.ref 34), some (.int p1), some (.ref q2), some (.int p3), some (.int (v4 + 1))]) (st' := []) 2 rfl ?_
        exact ih c2 (v4 + 1)
      · refine l1_many mt_X0_isMarked (pc' := 29) (L' := [some (.ref 34), some (.int p1), some (.ref q2), some (.int p3), some (.int v4)]) (st' := [.ref 34]) 1 rfl ?_
        refine l1_getR hQ mt_X0_isMarked rfl (o := 34) (ci := 0) (k := 2) (a := 0) (b := 1) rfl rfl rfl rfl rfl (q := 9) rfl ?_
        refine l1_many mt_X0_isMarked (pc' := 37) (L' := [some (.ref 34), some (.int p1), some (.ref q2), some (.int p3), some (.int v4)]) (st' := [.int (p1 + v4), .int p3, .ref 9]) 4 rfl ?_
        refine l1_callV hQ mt_X0_isMarked mt_X6_tell rfl rfl (o := 9) (ci := 5) (As := [.int p3, .int (p1 + v4)]) (rest := []) rfl rfl rfl rfl rfl rfl (st1 := fun x3 => [.int x3]) (fun _ => rfl) (ok_X6_tell hQ c2 p3 (p1 + v4)) (fun x3 c4 => ?_)
        refine l1_ck (fun hz => ?_)
        exact l1_retZ mt_X0_isMarked rfl rfl rfl hz
set_option maxRecDepth 100000 in
theorem en_X0_isMarked_34 {Q : hS → am_H → Prop} (hQ : l1_em kc Q) (N : Nat) (c : hS) (p1 : Int32) (p2 : List Int32) (p3 : Int32) {q2 : Nat} (hp2 : l1_OA q2 p2) : l1_G (wN wI) Q am_i_X0_isMarked 0 [some (.ref 34), some (.int p1), some (.ref q2), some (.int p3)] [] c (f_X0_isMarked N c p1 p2 p3) := by
  rw [f_X0_isMarked]
  refine l1_many mt_X0_isMarked (pc' := 3) (L' := [some (.ref 34), some (.int p1), some (.ref q2), some (.int p3), some (.int 0)]) (st' := []) 2 rfl ?_
  exact ok_X0_isMarked_34_3 hQ N p1 p2 p3 hp2 N c 0
theorem ok_X0_isMarked_34 {Q : hS → am_H → Prop} (hQ : l1_em kc Q) (N : Nat) (c : hS) (p1 : Int32) (p2 : List Int32) (p3 : Int32) {q2 : Nat} (hp2 : l1_OA q2 p2) : l1_T wI Q am_i_X0_isMarked [.ref 34, .int p1, .ref q2, .int p3] c (f_X0_isMarked N c p1 p2 p3) := l1_of (en_X0_isMarked_34 hQ N c p1 p2 p3 hp2) ⟨rfl, rfl, rfl, rfl, trivial⟩
set_option maxRecDepth 100000 in
theorem ok_X0_isMarked_35_3 {Q : hS → am_H → Prop} (hQ : l1_em kc Q) (N : Nat) (p1 : Int32) (p2 : List Int32) (p3 : Int32) {q2 : Nat} (hp2 : l1_OA q2 p2) : ∀ n : Nat, ∀ (c : hS) (v4 : Int32), l1_G (wN wI) Q am_i_X0_isMarked 3 [some (.ref 35), some (.int p1), some (.ref q2), some (.int p3), some (.int v4)] [] c (f_X0_isMarked_3 N p1 p2 p3 n c v4) := by
  intro n
  induction n with
  | zero => intro c v4; exact l1_none
  | succ n ih =>
    intro c v4
    rw [f_X0_isMarked_3]
    refine l1_many mt_X0_isMarked (pc' := 6) (L' := [some (.ref 35), some (.int p1), some (.ref q2), some (.int p3), some (.int v4)]) (st' := [.ref q2, .int v4]) 2 rfl ?_
    refine l1_slen hQ mt_X0_isMarked rfl hp2 ?_
    refine l1_many mt_X0_isMarked (pc' := bif am_cc .ge v4 (Int32.ofNat p2.length) then 47 else 10) (L' := [some (.ref 35), some (.int p1), some (.ref q2), some (.int p3), some (.int v4)]) (st' := []) 1 rfl ?_
    refine l1_bif rfl ?_ ?_
    · refine l1_many mt_X0_isMarked (pc' := 48) (L' := [some (.ref 35), some (.int p1), some (.ref q2), some (.int p3), some (.int v4)]) (st' := [.int 1]) 1 rfl ?_
      exact l1_ret mt_X0_isMarked rfl rfl rfl
    · refine l1_many mt_X0_isMarked (pc' := 11) (L' := [some (.ref 35), some (.int p1), some (.ref q2), some (.int p3), some (.int v4)]) (st' := [.ref 35]) 1 rfl ?_
      refine l1_getR hQ mt_X0_isMarked rfl (o := 35) (ci := 3) (k := 0) (a := 0) (b := 1) rfl rfl rfl rfl rfl (q := 3) rfl ?_
      refine l1_many mt_X0_isMarked (pc' := 18) (L' := [some (.ref 35), some (.int p1), some (.ref q2), some (.int p3), some (.int v4)]) (st' := [.int (p1 + v4), .ref 3]) 3 rfl ?_
      refine l1_callV hQ mt_X0_isMarked mt_X2_get rfl rfl (o := 3) (ci := 1) (As := [.int (p1 + v4)]) (rest := []) rfl rfl rfl rfl rfl rfl (st1 := fun x1 => [.int x1]) (fun _ => rfl) (ok_X2_get hQ c 3 (p1 + v4) rfl) (fun x1 c2 => ?_)
      refine l1_many mt_X0_isMarked (pc' := 24) (L' := [some (.ref 35), some (.int p1), some (.ref q2), some (.int p3), some (.int v4)]) (st' := [.int v4, .ref q2, .int x1]) 2 rfl ?_
      refine l1_ck (fun hx => ?_)
      refine l1_sald hQ mt_X0_isMarked rfl hp2 hx ?_
      refine l1_many mt_X0_isMarked (pc' := bif am_cc .eq x1 (p2.getD v4.toNatClampNeg 0) then 41 else 28) (L' := [some (.ref 35), some (.int p1), some (.ref q2), some (.int p3), some (.int v4)]) (st' := []) 1 rfl ?_
      refine l1_bif rfl ?_ ?_
      · refine l1_many mt_X0_isMarked (pc' := 3) (L' := [some (.ref 35), some (.int p1), some (.ref q2), some (.int p3), some (.int (v4 + 1))]) (st' := []) 2 rfl ?_
        exact ih c2 (v4 + 1)
      · refine l1_many mt_X0_isMarked (pc' := 29) (L' := [some (.ref 35), some (.int p1), some (.ref q2), some (.int p3), some (.int v4)]) (st' := [.ref 35]) 1 rfl ?_
        refine l1_getR hQ mt_X0_isMarked rfl (o := 35) (ci := 3) (k := 2) (a := 0) (b := 1) rfl rfl rfl rfl rfl (q := 9) rfl ?_
        refine l1_many mt_X0_isMarked (pc' := 37) (L' := [some (.ref 35), some (.int p1), some (.ref q2), some (.int p3), some (.int v4)]) (st' := [.int (p1 + v4), .int p3, .ref 9]) 4 rfl ?_
        refine l1_callV hQ mt_X0_isMarked mt_X6_tell rfl rfl (o := 9) (ci := 5) (As := [.int p3, .int (p1 + v4)]) (rest := []) rfl rfl rfl rfl rfl rfl (st1 := fun x3 => [.int x3]) (fun _ => rfl) (ok_X6_tell hQ c2 p3 (p1 + v4)) (fun x3 c4 => ?_)
        refine l1_ck (fun hz => ?_)
        exact l1_retZ mt_X0_isMarked rfl rfl rfl hz
set_option maxRecDepth 100000 in
theorem en_X0_isMarked_35 {Q : hS → am_H → Prop} (hQ : l1_em kc Q) (N : Nat) (c : hS) (p1 : Int32) (p2 : List Int32) (p3 : Int32) {q2 : Nat} (hp2 : l1_OA q2 p2) : l1_G (wN wI) Q am_i_X0_isMarked 0 [some (.ref 35), some (.int p1), some (.ref q2), some (.int p3)] [] c (f_X0_isMarked N c p1 p2 p3) := by
  rw [f_X0_isMarked]
  refine l1_many mt_X0_isMarked (pc' := 3) (L' := [some (.ref 35), some (.int p1), some (.ref q2), some (.int p3), some (.int 0)]) (st' := []) 2 rfl ?_
  exact ok_X0_isMarked_35_3 hQ N p1 p2 p3 hp2 N c 0
theorem ok_X0_isMarked_35 {Q : hS → am_H → Prop} (hQ : l1_em kc Q) (N : Nat) (c : hS) (p1 : Int32) (p2 : List Int32) (p3 : Int32) {q2 : Nat} (hp2 : l1_OA q2 p2) : l1_T wI Q am_i_X0_isMarked [.ref 35, .int p1, .ref q2, .int p3] c (f_X0_isMarked N c p1 p2 p3) := l1_of (en_X0_isMarked_35 hQ N c p1 p2 p3 hp2) ⟨rfl, rfl, rfl, rfl, trivial⟩
set_option maxRecDepth 100000 in
theorem ok_X0_isMarked_36_3 {Q : hS → am_H → Prop} (hQ : l1_em kc Q) (N : Nat) (p1 : Int32) (p2 : List Int32) (p3 : Int32) {q2 : Nat} (hp2 : l1_OA q2 p2) : ∀ n : Nat, ∀ (c : hS) (v4 : Int32), l1_G (wN wI) Q am_i_X0_isMarked 3 [some (.ref 36), some (.int p1), some (.ref q2), some (.int p3), some (.int v4)] [] c (f_X0_isMarked_3 N p1 p2 p3 n c v4) := by
  intro n
  induction n with
  | zero => intro c v4; exact l1_none
  | succ n ih =>
    intro c v4
    rw [f_X0_isMarked_3]
    refine l1_many mt_X0_isMarked (pc' := 6) (L' := [some (.ref 36), some (.int p1), some (.ref q2), some (.int p3), some (.int v4)]) (st' := [.ref q2, .int v4]) 2 rfl ?_
    refine l1_slen hQ mt_X0_isMarked rfl hp2 ?_
    refine l1_many mt_X0_isMarked (pc' := bif am_cc .ge v4 (Int32.ofNat p2.length) then 47 else 10) (L' := [some (.ref 36), some (.int p1), some (.ref q2), some (.int p3), some (.int v4)]) (st' := []) 1 rfl ?_
    refine l1_bif rfl ?_ ?_
    · refine l1_many mt_X0_isMarked (pc' := 48) (L' := [some (.ref 36), some (.int p1), some (.ref q2), some (.int p3), some (.int v4)]) (st' := [.int 1]) 1 rfl ?_
      exact l1_ret mt_X0_isMarked rfl rfl rfl
    · refine l1_many mt_X0_isMarked (pc' := 11) (L' := [some (.ref 36), some (.int p1), some (.ref q2), some (.int p3), some (.int v4)]) (st' := [.ref 36]) 1 rfl ?_
      refine l1_getR hQ mt_X0_isMarked rfl (o := 36) (ci := 4) (k := 0) (a := 0) (b := 1) rfl rfl rfl rfl rfl (q := 3) rfl ?_
      refine l1_many mt_X0_isMarked (pc' := 18) (L' := [some (.ref 36), some (.int p1), some (.ref q2), some (.int p3), some (.int v4)]) (st' := [.int (p1 + v4), .ref 3]) 3 rfl ?_
      refine l1_callV hQ mt_X0_isMarked mt_X2_get rfl rfl (o := 3) (ci := 1) (As := [.int (p1 + v4)]) (rest := []) rfl rfl rfl rfl rfl rfl (st1 := fun x1 => [.int x1]) (fun _ => rfl) (ok_X2_get hQ c 3 (p1 + v4) rfl) (fun x1 c2 => ?_)
      refine l1_many mt_X0_isMarked (pc' := 24) (L' := [some (.ref 36), some (.int p1), some (.ref q2), some (.int p3), some (.int v4)]) (st' := [.int v4, .ref q2, .int x1]) 2 rfl ?_
      refine l1_ck (fun hx => ?_)
      refine l1_sald hQ mt_X0_isMarked rfl hp2 hx ?_
      refine l1_many mt_X0_isMarked (pc' := bif am_cc .eq x1 (p2.getD v4.toNatClampNeg 0) then 41 else 28) (L' := [some (.ref 36), some (.int p1), some (.ref q2), some (.int p3), some (.int v4)]) (st' := []) 1 rfl ?_
      refine l1_bif rfl ?_ ?_
      · refine l1_many mt_X0_isMarked (pc' := 3) (L' := [some (.ref 36), some (.int p1), some (.ref q2), some (.int p3), some (.int (v4 + 1))]) (st' := []) 2 rfl ?_
        exact ih c2 (v4 + 1)
      · refine l1_many mt_X0_isMarked (pc' := 29) (L' := [some (.ref 36), some (.int p1), some (.ref q2), some (.int p3), some (.int v4)]) (st' := [.ref 36]) 1 rfl ?_
        refine l1_getR hQ mt_X0_isMarked rfl (o := 36) (ci := 4) (k := 2) (a := 0) (b := 1) rfl rfl rfl rfl rfl (q := 9) rfl ?_
        refine l1_many mt_X0_isMarked (pc' := 37) (L' := [some (.ref 36), some (.int p1), some (.ref q2), some (.int p3), some (.int v4)]) (st' := [.int (p1 + v4), .int p3, .ref 9]) 4 rfl ?_
        refine l1_callV hQ mt_X0_isMarked mt_X6_tell rfl rfl (o := 9) (ci := 5) (As := [.int p3, .int (p1 + v4)]) (rest := []) rfl rfl rfl rfl rfl rfl (st1 := fun x3 => [.int x3]) (fun _ => rfl) (ok_X6_tell hQ c2 p3 (p1 + v4)) (fun x3 c4 => ?_)
        refine l1_ck (fun hz => ?_)
        exact l1_retZ mt_X0_isMarked rfl rfl rfl hz
set_option maxRecDepth 100000 in
theorem en_X0_isMarked_36 {Q : hS → am_H → Prop} (hQ : l1_em kc Q) (N : Nat) (c : hS) (p1 : Int32) (p2 : List Int32) (p3 : Int32) {q2 : Nat} (hp2 : l1_OA q2 p2) : l1_G (wN wI) Q am_i_X0_isMarked 0 [some (.ref 36), some (.int p1), some (.ref q2), some (.int p3)] [] c (f_X0_isMarked N c p1 p2 p3) := by
  rw [f_X0_isMarked]
  refine l1_many mt_X0_isMarked (pc' := 3) (L' := [some (.ref 36), some (.int p1), some (.ref q2), some (.int p3), some (.int 0)]) (st' := []) 2 rfl ?_
  exact ok_X0_isMarked_36_3 hQ N p1 p2 p3 hp2 N c 0
theorem ok_X0_isMarked_36 {Q : hS → am_H → Prop} (hQ : l1_em kc Q) (N : Nat) (c : hS) (p1 : Int32) (p2 : List Int32) (p3 : Int32) {q2 : Nat} (hp2 : l1_OA q2 p2) : l1_T wI Q am_i_X0_isMarked [.ref 36, .int p1, .ref q2, .int p3] c (f_X0_isMarked N c p1 p2 p3) := l1_of (en_X0_isMarked_36 hQ N c p1 p2 p3 hp2) ⟨rfl, rfl, rfl, rfl, trivial⟩
set_option maxRecDepth 100000 in
theorem ok_X0_isZeroFrom_34_2 {Q : hS → am_H → Prop} (hQ : l1_em kc Q) (N : Nat) (p1 : Int32) : ∀ n : Nat, ∀ (c : hS) (v2 : Int32), l1_G (wN wI) Q am_i_X0_isZeroFrom 2 [some (.ref 34), none, some (.int v2)] [] c (f_X0_isZeroFrom_2 N p1 n c v2) := by
  intro n
  induction n with
  | zero => intro c v2; exact l1_none
  | succ n ih =>
    intro c v2
    rw [f_X0_isZeroFrom_2]
    refine l1_many mt_X0_isZeroFrom (pc' := 4) (L' := [some (.ref 34), none, some (.int v2)]) (st' := [.ref 34, .int v2]) 2 rfl ?_
    refine l1_getR hQ mt_X0_isZeroFrom rfl (o := 34) (ci := 0) (k := 0) (a := 0) (b := 1) rfl rfl rfl rfl rfl (q := 3) rfl ?_
    refine l1_callV hQ mt_X0_isZeroFrom mt_X2_size rfl rfl (o := 3) (ci := 1) (As := []) (rest := [.int v2]) rfl rfl rfl rfl rfl rfl (st1 := fun x1 => [.int x1, .int v2]) (fun _ => rfl) (ok_X2_size hQ c 3 rfl) (fun x1 c2 => ?_)
    refine l1_many mt_X0_isZeroFrom (pc' := bif am_cc .ge v2 x1 then 40 else 13) (L' := [some (.ref 34), none, some (.int v2)]) (st' := []) 1 rfl ?_
    refine l1_bif rfl ?_ ?_
    · refine l1_many mt_X0_isZeroFrom (pc' := 41) (L' := [some (.ref 34), none, some (.int v2)]) (st' := [.int 1]) 1 rfl ?_
      exact l1_ret mt_X0_isZeroFrom rfl rfl rfl
    · refine l1_many mt_X0_isZeroFrom (pc' := 14) (L' := [some (.ref 34), none, some (.int v2)]) (st' := [.ref 34]) 1 rfl ?_
      refine l1_getR hQ mt_X0_isZeroFrom rfl (o := 34) (ci := 0) (k := 0) (a := 0) (b := 1) rfl rfl rfl rfl rfl (q := 3) rfl ?_
      refine l1_many mt_X0_isZeroFrom (pc' := 18) (L' := [some (.ref 34), none, some (.int v2)]) (st' := [.int v2, .ref 3]) 1 rfl ?_
      refine l1_callV hQ mt_X0_isZeroFrom mt_X2_get rfl rfl (o := 3) (ci := 1) (As := [.int v2]) (rest := []) rfl rfl rfl rfl rfl rfl (st1 := fun x3 => [.int x3]) (fun _ => rfl) (ok_X2_get hQ c2 3 v2 rfl) (fun x3 c4 => ?_)
      refine l1_many mt_X0_isZeroFrom (pc' := bif am_cc .eq x3 0 then 34 else 24) (L' := [some (.ref 34), none, some (.int v2)]) (st' := []) 1 rfl ?_
      refine l1_bif rfl ?_ ?_
      · refine l1_many mt_X0_isZeroFrom (pc' := 2) (L' := [some (.ref 34), none, some (.int (v2 + 1))]) (st' := []) 2 rfl ?_
        exact ih c4 (v2 + 1)
      · refine l1_many mt_X0_isZeroFrom (pc' := 25) (L' := [some (.ref 34), none, some (.int v2)]) (st' := [.ref 34]) 1 rfl ?_
        refine l1_getR hQ mt_X0_isZeroFrom rfl (o := 34) (ci := 0) (k := 2) (a := 0) (b := 1) rfl rfl rfl rfl rfl (q := 9) rfl ?_
        refine l1_many mt_X0_isZeroFrom (pc' := 30) (L' := [some (.ref 34), none, some (.int v2)]) (st' := [.int v2, .int 2, .ref 9]) 2 rfl ?_
        refine l1_callV hQ mt_X0_isZeroFrom mt_X6_tell rfl rfl (o := 9) (ci := 5) (As := [.int 2, .int v2]) (rest := []) rfl rfl rfl rfl rfl rfl (st1 := fun x5 => [.int x5]) (fun _ => rfl) (ok_X6_tell hQ c4 2 v2) (fun x5 c6 => ?_)
        refine l1_ck (fun hz => ?_)
        exact l1_retZ mt_X0_isZeroFrom rfl rfl rfl hz
set_option maxRecDepth 100000 in
theorem en_X0_isZeroFrom_34 {Q : hS → am_H → Prop} (hQ : l1_em kc Q) (N : Nat) (c : hS) (p1 : Int32) : l1_G (wN wI) Q am_i_X0_isZeroFrom 0 [some (.ref 34), some (.int p1)] [] c (f_X0_isZeroFrom N c p1) := by
  rw [f_X0_isZeroFrom]
  refine l1_many mt_X0_isZeroFrom (pc' := 2) (L' := [some (.ref 34), some (.int p1), some (.int p1)]) (st' := []) 2 rfl ?_
  refine l1_weak (m := [true, false, true]) (L' := [some (.ref 34), none, some (.int p1)]) rfl ?_
  exact ok_X0_isZeroFrom_34_2 hQ N p1 N c p1
theorem ok_X0_isZeroFrom_34 {Q : hS → am_H → Prop} (hQ : l1_em kc Q) (N : Nat) (c : hS) (p1 : Int32) : l1_T wI Q am_i_X0_isZeroFrom [.ref 34, .int p1] c (f_X0_isZeroFrom N c p1) := l1_of (en_X0_isZeroFrom_34 hQ N c p1) ⟨rfl, rfl, trivial⟩
set_option maxRecDepth 100000 in
theorem ok_X0_isZeroFrom_35_2 {Q : hS → am_H → Prop} (hQ : l1_em kc Q) (N : Nat) (p1 : Int32) : ∀ n : Nat, ∀ (c : hS) (v2 : Int32), l1_G (wN wI) Q am_i_X0_isZeroFrom 2 [some (.ref 35), none, some (.int v2)] [] c (f_X0_isZeroFrom_2 N p1 n c v2) := by
  intro n
  induction n with
  | zero => intro c v2; exact l1_none
  | succ n ih =>
    intro c v2
    rw [f_X0_isZeroFrom_2]
    refine l1_many mt_X0_isZeroFrom (pc' := 4) (L' := [some (.ref 35), none, some (.int v2)]) (st' := [.ref 35, .int v2]) 2 rfl ?_
    refine l1_getR hQ mt_X0_isZeroFrom rfl (o := 35) (ci := 3) (k := 0) (a := 0) (b := 1) rfl rfl rfl rfl rfl (q := 3) rfl ?_
    refine l1_callV hQ mt_X0_isZeroFrom mt_X2_size rfl rfl (o := 3) (ci := 1) (As := []) (rest := [.int v2]) rfl rfl rfl rfl rfl rfl (st1 := fun x1 => [.int x1, .int v2]) (fun _ => rfl) (ok_X2_size hQ c 3 rfl) (fun x1 c2 => ?_)
    refine l1_many mt_X0_isZeroFrom (pc' := bif am_cc .ge v2 x1 then 40 else 13) (L' := [some (.ref 35), none, some (.int v2)]) (st' := []) 1 rfl ?_
    refine l1_bif rfl ?_ ?_
    · refine l1_many mt_X0_isZeroFrom (pc' := 41) (L' := [some (.ref 35), none, some (.int v2)]) (st' := [.int 1]) 1 rfl ?_
      exact l1_ret mt_X0_isZeroFrom rfl rfl rfl
    · refine l1_many mt_X0_isZeroFrom (pc' := 14) (L' := [some (.ref 35), none, some (.int v2)]) (st' := [.ref 35]) 1 rfl ?_
      refine l1_getR hQ mt_X0_isZeroFrom rfl (o := 35) (ci := 3) (k := 0) (a := 0) (b := 1) rfl rfl rfl rfl rfl (q := 3) rfl ?_
      refine l1_many mt_X0_isZeroFrom (pc' := 18) (L' := [some (.ref 35), none, some (.int v2)]) (st' := [.int v2, .ref 3]) 1 rfl ?_
      refine l1_callV hQ mt_X0_isZeroFrom mt_X2_get rfl rfl (o := 3) (ci := 1) (As := [.int v2]) (rest := []) rfl rfl rfl rfl rfl rfl (st1 := fun x3 => [.int x3]) (fun _ => rfl) (ok_X2_get hQ c2 3 v2 rfl) (fun x3 c4 => ?_)
      refine l1_many mt_X0_isZeroFrom (pc' := bif am_cc .eq x3 0 then 34 else 24) (L' := [some (.ref 35), none, some (.int v2)]) (st' := []) 1 rfl ?_
      refine l1_bif rfl ?_ ?_
      · refine l1_many mt_X0_isZeroFrom (pc' := 2) (L' := [some (.ref 35), none, some (.int (v2 + 1))]) (st' := []) 2 rfl ?_
        exact ih c4 (v2 + 1)
      · refine l1_many mt_X0_isZeroFrom (pc' := 25) (L' := [some (.ref 35), none, some (.int v2)]) (st' := [.ref 35]) 1 rfl ?_
        refine l1_getR hQ mt_X0_isZeroFrom rfl (o := 35) (ci := 3) (k := 2) (a := 0) (b := 1) rfl rfl rfl rfl rfl (q := 9) rfl ?_
        refine l1_many mt_X0_isZeroFrom (pc' := 30) (L' := [some (.ref 35), none, some (.int v2)]) (st' := [.int v2, .int 2, .ref 9]) 2 rfl ?_
        refine l1_callV hQ mt_X0_isZeroFrom mt_X6_tell rfl rfl (o := 9) (ci := 5) (As := [.int 2, .int v2]) (rest := []) rfl rfl rfl rfl rfl rfl (st1 := fun x5 => [.int x5]) (fun _ => rfl) (ok_X6_tell hQ c4 2 v2) (fun x5 c6 => ?_)
        refine l1_ck (fun hz => ?_)
        exact l1_retZ mt_X0_isZeroFrom rfl rfl rfl hz
set_option maxRecDepth 100000 in
theorem en_X0_isZeroFrom_35 {Q : hS → am_H → Prop} (hQ : l1_em kc Q) (N : Nat) (c : hS) (p1 : Int32) : l1_G (wN wI) Q am_i_X0_isZeroFrom 0 [some (.ref 35), some (.int p1)] [] c (f_X0_isZeroFrom N c p1) := by
  rw [f_X0_isZeroFrom]
  refine l1_many mt_X0_isZeroFrom (pc' := 2) (L' := [some (.ref 35), some (.int p1), some (.int p1)]) (st' := []) 2 rfl ?_
  refine l1_weak (m := [true, false, true]) (L' := [some (.ref 35), none, some (.int p1)]) rfl ?_
  exact ok_X0_isZeroFrom_35_2 hQ N p1 N c p1
theorem ok_X0_isZeroFrom_35 {Q : hS → am_H → Prop} (hQ : l1_em kc Q) (N : Nat) (c : hS) (p1 : Int32) : l1_T wI Q am_i_X0_isZeroFrom [.ref 35, .int p1] c (f_X0_isZeroFrom N c p1) := l1_of (en_X0_isZeroFrom_35 hQ N c p1) ⟨rfl, rfl, trivial⟩
set_option maxRecDepth 100000 in
theorem ok_X0_isZeroFrom_36_2 {Q : hS → am_H → Prop} (hQ : l1_em kc Q) (N : Nat) (p1 : Int32) : ∀ n : Nat, ∀ (c : hS) (v2 : Int32), l1_G (wN wI) Q am_i_X0_isZeroFrom 2 [some (.ref 36), none, some (.int v2)] [] c (f_X0_isZeroFrom_2 N p1 n c v2) := by
  intro n
  induction n with
  | zero => intro c v2; exact l1_none
  | succ n ih =>
    intro c v2
    rw [f_X0_isZeroFrom_2]
    refine l1_many mt_X0_isZeroFrom (pc' := 4) (L' := [some (.ref 36), none, some (.int v2)]) (st' := [.ref 36, .int v2]) 2 rfl ?_
    refine l1_getR hQ mt_X0_isZeroFrom rfl (o := 36) (ci := 4) (k := 0) (a := 0) (b := 1) rfl rfl rfl rfl rfl (q := 3) rfl ?_
    refine l1_callV hQ mt_X0_isZeroFrom mt_X2_size rfl rfl (o := 3) (ci := 1) (As := []) (rest := [.int v2]) rfl rfl rfl rfl rfl rfl (st1 := fun x1 => [.int x1, .int v2]) (fun _ => rfl) (ok_X2_size hQ c 3 rfl) (fun x1 c2 => ?_)
    refine l1_many mt_X0_isZeroFrom (pc' := bif am_cc .ge v2 x1 then 40 else 13) (L' := [some (.ref 36), none, some (.int v2)]) (st' := []) 1 rfl ?_
    refine l1_bif rfl ?_ ?_
    · refine l1_many mt_X0_isZeroFrom (pc' := 41) (L' := [some (.ref 36), none, some (.int v2)]) (st' := [.int 1]) 1 rfl ?_
      exact l1_ret mt_X0_isZeroFrom rfl rfl rfl
    · refine l1_many mt_X0_isZeroFrom (pc' := 14) (L' := [some (.ref 36), none, some (.int v2)]) (st' := [.ref 36]) 1 rfl ?_
      refine l1_getR hQ mt_X0_isZeroFrom rfl (o := 36) (ci := 4) (k := 0) (a := 0) (b := 1) rfl rfl rfl rfl rfl (q := 3) rfl ?_
      refine l1_many mt_X0_isZeroFrom (pc' := 18) (L' := [some (.ref 36), none, some (.int v2)]) (st' := [.int v2, .ref 3]) 1 rfl ?_
      refine l1_callV hQ mt_X0_isZeroFrom mt_X2_get rfl rfl (o := 3) (ci := 1) (As := [.int v2]) (rest := []) rfl rfl rfl rfl rfl rfl (st1 := fun x3 => [.int x3]) (fun _ => rfl) (ok_X2_get hQ c2 3 v2 rfl) (fun x3 c4 => ?_)
      refine l1_many mt_X0_isZeroFrom (pc' := bif am_cc .eq x3 0 then 34 else 24) (L' := [some (.ref 36), none, some (.int v2)]) (st' := []) 1 rfl ?_
      refine l1_bif rfl ?_ ?_
      · refine l1_many mt_X0_isZeroFrom (pc' := 2) (L' := [some (.ref 36), none, some (.int (v2 + 1))]) (st' := []) 2 rfl ?_
        exact ih c4 (v2 + 1)
      · refine l1_many mt_X0_isZeroFrom (pc' := 25) (L' := [some (.ref 36), none, some (.int v2)]) (st' := [.ref 36]) 1 rfl ?_
        refine l1_getR hQ mt_X0_isZeroFrom rfl (o := 36) (ci := 4) (k := 2) (a := 0) (b := 1) rfl rfl rfl rfl rfl (q := 9) rfl ?_
        refine l1_many mt_X0_isZeroFrom (pc' := 30) (L' := [some (.ref 36), none, some (.int v2)]) (st' := [.int v2, .int 2, .ref 9]) 2 rfl ?_
        refine l1_callV hQ mt_X0_isZeroFrom mt_X6_tell rfl rfl (o := 9) (ci := 5) (As := [.int 2, .int v2]) (rest := []) rfl rfl rfl rfl rfl rfl (st1 := fun x5 => [.int x5]) (fun _ => rfl) (ok_X6_tell hQ c4 2 v2) (fun x5 c6 => ?_)
        refine l1_ck (fun hz => ?_)
        exact l1_retZ mt_X0_isZeroFrom rfl rfl rfl hz
set_option maxRecDepth 100000 in
theorem en_X0_isZeroFrom_36 {Q : hS → am_H → Prop} (hQ : l1_em kc Q) (N : Nat) (c : hS) (p1 : Int32) : l1_G (wN wI) Q am_i_X0_isZeroFrom 0 [some (.ref 36), some (.int p1)] [] c (f_X0_isZeroFrom N c p1) := by
  rw [f_X0_isZeroFrom]
  refine l1_many mt_X0_isZeroFrom (pc' := 2) (L' := [some (.ref 36), some (.int p1), some (.int p1)]) (st' := []) 2 rfl ?_
  refine l1_weak (m := [true, false, true]) (L' := [some (.ref 36), none, some (.int p1)]) rfl ?_
  exact ok_X0_isZeroFrom_36_2 hQ N p1 N c p1
theorem ok_X0_isZeroFrom_36 {Q : hS → am_H → Prop} (hQ : l1_em kc Q) (N : Nat) (c : hS) (p1 : Int32) : l1_T wI Q am_i_X0_isZeroFrom [.ref 36, .int p1] c (f_X0_isZeroFrom N c p1) := l1_of (en_X0_isZeroFrom_36 hQ N c p1) ⟨rfl, rfl, trivial⟩
set_option maxRecDepth 100000 in
theorem ok_X11_isPart_39 {Q : hS → am_H → Prop} (hQ : l1_em kc Q) (p0 : Nat) (p1 : Int32) (p2 : Int32) (hp0 : kc p0 = 1) : ∀ (c : hS), l1_G (wN wI) Q am_i_X11_isPart 39 [] [] c (f_X11_isPart_39 p0 p1 p2 c) := by
  intro c
  rw [f_X11_isPart_39]
  refine l1_many mt_X11_isPart (pc' := 50) (L' := [none, none, none, some (.int 0)]) (st' := [.int 1]) 6 rfl ?_
  exact l1_ret mt_X11_isPart rfl rfl rfl
set_option maxRecDepth 100000 in
theorem en_X11_isPart {Q : hS → am_H → Prop} (hQ : l1_em kc Q) (c : hS) (p0 : Nat) (p1 : Int32) (p2 : Int32) (hp0 : kc p0 = 1) : l1_G (wN wI) Q am_i_X11_isPart 0 [some (.ref p0), some (.int p1), some (.int p2)] [] c (f_X11_isPart c p0 p1 p2) := by
  rw [f_X11_isPart]
  refine l1_many mt_X11_isPart (pc' := bif am_cc .ne p2 0 then 6 else 4) (L' := [some (.ref p0), some (.int p1), some (.int p2)]) (st' := []) 2 rfl ?_
  refine l1_bin rfl ?_ ?_
  · refine l1_many mt_X11_isPart (pc' := 5) (L' := [some (.ref p0), some (.int p1), some (.int p2)]) (st' := [.int 0]) 1 rfl ?_
    exact l1_ret mt_X11_isPart rfl rfl rfl
  · refine l1_many mt_X11_isPart (pc' := bif am_cc .gt p2 2 then 39 else 11) (L' := [some (.ref p0), some (.int p1), some (.int p2)]) (st' := []) 3 rfl ?_
    refine l1_bif rfl ?_ ?_
    · refine l1_weak (m := [false, false, false, false]) (L' := []) rfl ?_
      exact ok_X11_isPart_39 hQ p0 p1 p2 hp0 c
    · refine l1_many mt_X11_isPart (pc' := 13) (L' := [some (.ref p0), some (.int p1), some (.int p2)]) (st' := [.int p1, .ref p0]) 2 rfl ?_
      refine l1_callV hQ mt_X11_isPart mt_X2_get rfl rfl (o := p0) (ci := 1) (As := [.int p1]) (rest := []) rfl rfl hp0 rfl rfl rfl (st1 := fun x1 => [.int x1]) (fun _ => rfl) (ok_X2_get hQ c p0 p1 hp0) (fun x1 c2 => ?_)
      refine l1_many mt_X11_isPart (pc' := bif am_cc .ne x1 46 then 39 else 21) (L' := [some (.ref p0), some (.int p1), some (.int p2)]) (st' := []) 2 rfl ?_
      refine l1_bin rfl ?_ ?_
      · refine l1_many mt_X11_isPart (pc' := 27) (L' := [some (.ref p0), some (.int p1), some (.int p2)]) (st' := [.int ((p1 + p2) - 1), .ref p0]) 6 rfl ?_
        refine l1_callV hQ mt_X11_isPart mt_X2_get rfl rfl (o := p0) (ci := 1) (As := [.int ((p1 + p2) - 1)]) (rest := []) rfl rfl hp0 rfl rfl rfl (st1 := fun x3 => [.int x3]) (fun _ => rfl) (ok_X2_get hQ c2 p0 ((p1 + p2) - 1) hp0) (fun x3 c4 => ?_)
        refine l1_many mt_X11_isPart (pc' := bif am_cc .ne x3 46 then 39 else 35) (L' := [some (.ref p0), some (.int p1), some (.int p2)]) (st' := []) 2 rfl ?_
        refine l1_bin rfl ?_ ?_
        · refine l1_many mt_X11_isPart (pc' := 50) (L' := [some (.ref p0), some (.int p1), some (.int p2), some (.int 1)]) (st' := [.int 0]) 6 rfl ?_
          exact l1_ret mt_X11_isPart rfl rfl rfl
        · refine l1_weak (m := [false, false, false, false]) (L' := []) rfl ?_
          exact ok_X11_isPart_39 hQ p0 p1 p2 hp0 c4
      · refine l1_weak (m := [false, false, false, false]) (L' := []) rfl ?_
        exact ok_X11_isPart_39 hQ p0 p1 p2 hp0 c2
theorem ok_X11_isPart {Q : hS → am_H → Prop} (hQ : l1_em kc Q) (c : hS) (p0 : Nat) (p1 : Int32) (p2 : Int32) (hp0 : kc p0 = 1) : l1_T wI Q am_i_X11_isPart [.ref p0, .int p1, .int p2] c (f_X11_isPart c p0 p1 p2) := l1_of (en_X11_isPart hQ c p0 p1 p2 hp0) ⟨rfl, rfl, rfl, trivial⟩
set_option maxRecDepth 100000 in
theorem ok_X11_isName_49 {Q : hS → am_H → Prop} (hQ : l1_em kc Q) (N : Nat) (p0 : Nat) (hp0 : kc p0 = 1) {k23 : hS → Int32 → Int32 → Option (Int32 × hS)} (hk23 : ∀ c v1 v2, l1_G (wN wI) Q am_i_X11_isName 23 [some (.ref p0), some (.int v1), some (.int v2)] [] c (k23 c v1 v2)) : ∀ (c : hS) (v1 : Int32) (v2 : Int32) (w0 : Int32), l1_G (wN wI) Q am_i_X11_isName 49 [some (.ref p0), some (.int v1), some (.int v2)] [.int w0] c (f_X11_isName_49 N p0 k23 c v1 v2 w0) := by
  intro c v1 v2 w0
  rw [f_X11_isName_49]
  refine l1_many mt_X11_isName (pc' := bif am_cc .lt w0 33 then 62 else 56) (L' := [some (.ref p0), some (.int v1), some (.int v2), some (.int w0)]) (st' := []) 4 rfl ?_
  refine l1_bif rfl ?_ ?_
  · refine l1_many mt_X11_isName (pc' := 63) (L' := [some (.ref p0), some (.int v1), some (.int v2), some (.int w0)]) (st' := [.int 0]) 1 rfl ?_
    exact l1_ret mt_X11_isName rfl rfl rfl
  · refine l1_many mt_X11_isName (pc' := bif am_cc .le w0 126 then 64 else 62) (L' := [some (.ref p0), some (.int v1), some (.int v2), some (.int w0)]) (st' := []) 3 rfl ?_
    refine l1_bif rfl ?_ ?_
    · refine l1_many mt_X11_isName (pc' := bif am_cc .ne w0 47 then 87 else 70) (L' := [some (.ref p0), some (.int v1), some (.int v2), some (.int w0)]) (st' := []) 3 rfl ?_
      refine l1_bin rfl ?_ ?_
      · refine l1_many mt_X11_isName (pc' := 75) (L' := [some (.ref p0), some (.int v1), some (.int v2), some (.int w0)]) (st' := [.int (v2 - v1), .int v1, .ref p0]) 5 rfl ?_
        refine l1_callS mt_X11_isName mt_X11_isPart rfl rfl (As := [.ref p0, .int v1, .int (v2 - v1)]) (rest := []) rfl rfl rfl (st1 := fun x1 => [.int x1]) (fun _ => rfl) (ok_X11_isPart hQ c p0 v1 (v2 - v1) hp0) (fun x1 c2 => ?_)
        refine l1_many mt_X11_isName (pc' := bif am_cc .ne x1 0 then 83 else 81) (L' := [some (.ref p0), some (.int v1), some (.int v2), some (.int w0)]) (st' := []) 1 rfl ?_
        refine l1_bin rfl ?_ ?_
        · refine l1_many mt_X11_isName (pc' := 82) (L' := [some (.ref p0), some (.int v1), some (.int v2), some (.int w0)]) (st' := [.int 0]) 1 rfl ?_
          exact l1_ret mt_X11_isName rfl rfl rfl
        · refine l1_many mt_X11_isName (pc' := 23) (L' := [some (.ref p0), some (.int (v2 + 1)), some (.int (v2 + 1)), some (.int w0)]) (st' := []) 6 rfl ?_
          refine l1_weak (m := [true, true, true, false]) (L' := [some (.ref p0), some (.int (v2 + 1)), some (.int (v2 + 1))]) rfl ?_
          exact hk23 c2 (v2 + 1) (v2 + 1)
      · refine l1_many mt_X11_isName (pc' := 23) (L' := [some (.ref p0), some (.int v1), some (.int (v2 + 1)), some (.int w0)]) (st' := []) 2 rfl ?_
        refine l1_weak (m := [true, true, true, false]) (L' := [some (.ref p0), some (.int v1), some (.int (v2 + 1))]) rfl ?_
        exact hk23 c v1 (v2 + 1)
    · refine l1_many mt_X11_isName (pc' := 63) (L' := [some (.ref p0), some (.int v1), some (.int v2), some (.int w0)]) (st' := [.int 0]) 1 rfl ?_
      exact l1_ret mt_X11_isName rfl rfl rfl
set_option maxRecDepth 100000 in
theorem ok_X11_isName_23 {Q : hS → am_H → Prop} (hQ : l1_em kc Q) (N : Nat) (p0 : Nat) (hp0 : kc p0 = 1) : ∀ n : Nat, ∀ (c : hS) (v1 : Int32) (v2 : Int32), l1_G (wN wI) Q am_i_X11_isName 23 [some (.ref p0), some (.int v1), some (.int v2)] [] c (f_X11_isName_23 N p0 n c v1 v2) := by
  intro n
  induction n with
  | zero => intro c v1 v2; exact l1_none
  | succ n ih =>
    intro c v1 v2
    rw [f_X11_isName_23]
    refine l1_many mt_X11_isName (pc' := 25) (L' := [some (.ref p0), some (.int v1), some (.int v2)]) (st' := [.ref p0, .int v2]) 2 rfl ?_
    refine l1_callV hQ mt_X11_isName mt_X2_size rfl rfl (o := p0) (ci := 1) (As := []) (rest := [.int v2]) rfl rfl hp0 rfl rfl rfl (st1 := fun x1 => [.int x1, .int v2]) (fun _ => rfl) (ok_X2_size hQ c p0 hp0) (fun x1 c2 => ?_)
    refine l1_many mt_X11_isName (pc' := bif am_cc .gt v2 x1 then 93 else 31) (L' := [some (.ref p0), some (.int v1), some (.int v2)]) (st' := []) 1 rfl ?_
    refine l1_bif rfl ?_ ?_
    · refine l1_many mt_X11_isName (pc' := 94) (L' := [some (.ref p0), some (.int v1), some (.int v2)]) (st' := [.int 1]) 1 rfl ?_
      exact l1_ret mt_X11_isName rfl rfl rfl
    · refine l1_many mt_X11_isName (pc' := 33) (L' := [some (.ref p0), some (.int v1), some (.int v2)]) (st' := [.ref p0, .int v2]) 2 rfl ?_
      refine l1_callV hQ mt_X11_isName mt_X2_size rfl rfl (o := p0) (ci := 1) (As := []) (rest := [.int v2]) rfl rfl hp0 rfl rfl rfl (st1 := fun x3 => [.int x3, .int v2]) (fun _ => rfl) (ok_X2_size hQ c2 p0 hp0) (fun x3 c4 => ?_)
      refine l1_many mt_X11_isName (pc' := bif am_cc .ge v2 x3 then 47 else 39) (L' := [some (.ref p0), some (.int v1), some (.int v2)]) (st' := []) 1 rfl ?_
      refine l1_bif rfl ?_ ?_
      · refine l1_many mt_X11_isName (pc' := 49) (L' := [some (.ref p0), some (.int v1), some (.int v2)]) (st' := [.int 47]) 1 rfl ?_
        exact ok_X11_isName_49 hQ N p0 hp0 ih c4 v1 v2 47
      · refine l1_many mt_X11_isName (pc' := 41) (L' := [some (.ref p0), some (.int v1), some (.int v2)]) (st' := [.int v2, .ref p0]) 2 rfl ?_
        refine l1_callV hQ mt_X11_isName mt_X2_get rfl rfl (o := p0) (ci := 1) (As := [.int v2]) (rest := []) rfl rfl hp0 rfl rfl rfl (st1 := fun x5 => [.int x5]) (fun _ => rfl) (ok_X2_get hQ c4 p0 v2 hp0) (fun x5 c6 => ?_)
        refine l1_many mt_X11_isName (pc' := 49) (L' := [some (.ref p0), some (.int v1), some (.int v2)]) (st' := [.int x5]) 1 rfl ?_
        exact ok_X11_isName_49 hQ N p0 hp0 ih c6 v1 v2 x5
set_option maxRecDepth 100000 in
theorem en_X11_isName {Q : hS → am_H → Prop} (hQ : l1_em kc Q) (N : Nat) (c : hS) (p0 : Nat) (hp0 : kc p0 = 1) : l1_G (wN wI) Q am_i_X11_isName 0 [some (.ref p0)] [] c (f_X11_isName N c p0) := by
  rw [f_X11_isName]
  refine l1_many mt_X11_isName (pc' := 1) (L' := [some (.ref p0)]) (st' := [.ref p0]) 1 rfl ?_
  refine l1_callV hQ mt_X11_isName mt_X2_size rfl rfl (o := p0) (ci := 1) (As := []) (rest := []) rfl rfl hp0 rfl rfl rfl (st1 := fun x1 => [.int x1]) (fun _ => rfl) (ok_X2_size hQ c p0 hp0) (fun x1 c2 => ?_)
  refine l1_many mt_X11_isName (pc' := bif am_cc .lt x1 1 then 17 else 8) (L' := [some (.ref p0)]) (st' := []) 2 rfl ?_
  refine l1_bif rfl ?_ ?_
  · refine l1_many mt_X11_isName (pc' := 18) (L' := [some (.ref p0)]) (st' := [.int 0]) 1 rfl ?_
    exact l1_ret mt_X11_isName rfl rfl rfl
  · refine l1_many mt_X11_isName (pc' := 9) (L' := [some (.ref p0)]) (st' := [.ref p0]) 1 rfl ?_
    refine l1_callV hQ mt_X11_isName mt_X2_size rfl rfl (o := p0) (ci := 1) (As := []) (rest := []) rfl rfl hp0 rfl rfl rfl (st1 := fun x3 => [.int x3]) (fun _ => rfl) (ok_X2_size hQ c2 p0 hp0) (fun x3 c4 => ?_)
    refine l1_many mt_X11_isName (pc' := bif am_cc .le x3 90 then 19 else 17) (L' := [some (.ref p0)]) (st' := []) 2 rfl ?_
    refine l1_bif rfl ?_ ?_
    · refine l1_many mt_X11_isName (pc' := 23) (L' := [some (.ref p0), some (.int 0), some (.int 0)]) (st' := []) 4 rfl ?_
      exact ok_X11_isName_23 hQ N p0 hp0 N c4 0 0
    · refine l1_many mt_X11_isName (pc' := 18) (L' := [some (.ref p0)]) (st' := [.int 0]) 1 rfl ?_
      exact l1_ret mt_X11_isName rfl rfl rfl
theorem ok_X11_isName {Q : hS → am_H → Prop} (hQ : l1_em kc Q) (N : Nat) (c : hS) (p0 : Nat) (hp0 : kc p0 = 1) : l1_T wI Q am_i_X11_isName [.ref p0] c (f_X11_isName N c p0) := l1_of (en_X11_isName hQ N c p0 hp0) ⟨rfl, trivial⟩
set_option maxRecDepth 100000 in
theorem en_X0_isNamed_34 {Q : hS → am_H → Prop} (hQ : l1_em kc Q) (N : Nat) (c : hS) (p1 : Int32) : l1_G (wN wI) Q am_i_X0_isNamed 0 [some (.ref 34), some (.int p1)] [] c (f_X0_isNamed N c p1) := by
  rw [f_X0_isNamed]
  refine l1_many mt_X0_isNamed (pc' := 1) (L' := [some (.ref 34), some (.int p1)]) (st' := [.ref 34]) 1 rfl ?_
  refine l1_getR hQ mt_X0_isNamed rfl (o := 34) (ci := 0) (k := 1) (a := 0) (b := 1) rfl rfl rfl rfl rfl (q := 5) rfl ?_
  refine l1_callS mt_X0_isNamed mt_X11_isName rfl rfl (As := [.ref 5]) (rest := []) rfl rfl rfl (st1 := fun x1 => [.int x1]) (fun _ => rfl) (ok_X11_isName hQ N c 5 rfl) (fun x1 c2 => ?_)
  refine l1_many mt_X0_isNamed (pc' := bif am_cc .ne x1 0 then 23 else 10) (L' := [some (.ref 34), some (.int p1)]) (st' := []) 1 rfl ?_
  refine l1_bin rfl ?_ ?_
  · refine l1_many mt_X0_isNamed (pc' := 11) (L' := [some (.ref 34), some (.int p1)]) (st' := [.ref 34]) 1 rfl ?_
    refine l1_getR hQ mt_X0_isNamed rfl (o := 34) (ci := 0) (k := 2) (a := 0) (b := 1) rfl rfl rfl rfl rfl (q := 9) rfl ?_
    refine l1_many mt_X0_isNamed (pc' := 17) (L' := [some (.ref 34), some (.int p1)]) (st' := [.int p1, .int 10, .ref 9]) 2 rfl ?_
    refine l1_callV hQ mt_X0_isNamed mt_X6_tell rfl rfl (o := 9) (ci := 5) (As := [.int 10, .int p1]) (rest := []) rfl rfl rfl rfl rfl rfl (st1 := fun x3 => [.int x3]) (fun _ => rfl) (ok_X6_tell hQ c2 10 p1) (fun x3 c4 => ?_)
    refine l1_many mt_X0_isNamed (pc' := bif am_cc .eq x3 0 then 27 else 23) (L' := [some (.ref 34), some (.int p1)]) (st' := []) 1 rfl ?_
    refine l1_bif rfl ?_ ?_
    · refine l1_many mt_X0_isNamed (pc' := 28) (L' := [some (.ref 34), some (.int p1)]) (st' := [.int 0]) 1 rfl ?_
      exact l1_ret mt_X0_isNamed rfl rfl rfl
    · refine l1_many mt_X0_isNamed (pc' := 28) (L' := [some (.ref 34), some (.int p1)]) (st' := [.int 1]) 2 rfl ?_
      exact l1_ret mt_X0_isNamed rfl rfl rfl
  · refine l1_many mt_X0_isNamed (pc' := 28) (L' := [some (.ref 34), some (.int p1)]) (st' := [.int 1]) 2 rfl ?_
    exact l1_ret mt_X0_isNamed rfl rfl rfl
theorem ok_X0_isNamed_34 {Q : hS → am_H → Prop} (hQ : l1_em kc Q) (N : Nat) (c : hS) (p1 : Int32) : l1_T wI Q am_i_X0_isNamed [.ref 34, .int p1] c (f_X0_isNamed N c p1) := l1_of (en_X0_isNamed_34 hQ N c p1) ⟨rfl, rfl, trivial⟩
set_option maxRecDepth 100000 in
theorem en_X0_isNamed_35 {Q : hS → am_H → Prop} (hQ : l1_em kc Q) (N : Nat) (c : hS) (p1 : Int32) : l1_G (wN wI) Q am_i_X0_isNamed 0 [some (.ref 35), some (.int p1)] [] c (f_X0_isNamed N c p1) := by
  rw [f_X0_isNamed]
  refine l1_many mt_X0_isNamed (pc' := 1) (L' := [some (.ref 35), some (.int p1)]) (st' := [.ref 35]) 1 rfl ?_
  refine l1_getR hQ mt_X0_isNamed rfl (o := 35) (ci := 3) (k := 1) (a := 0) (b := 1) rfl rfl rfl rfl rfl (q := 5) rfl ?_
  refine l1_callS mt_X0_isNamed mt_X11_isName rfl rfl (As := [.ref 5]) (rest := []) rfl rfl rfl (st1 := fun x1 => [.int x1]) (fun _ => rfl) (ok_X11_isName hQ N c 5 rfl) (fun x1 c2 => ?_)
  refine l1_many mt_X0_isNamed (pc' := bif am_cc .ne x1 0 then 23 else 10) (L' := [some (.ref 35), some (.int p1)]) (st' := []) 1 rfl ?_
  refine l1_bin rfl ?_ ?_
  · refine l1_many mt_X0_isNamed (pc' := 11) (L' := [some (.ref 35), some (.int p1)]) (st' := [.ref 35]) 1 rfl ?_
    refine l1_getR hQ mt_X0_isNamed rfl (o := 35) (ci := 3) (k := 2) (a := 0) (b := 1) rfl rfl rfl rfl rfl (q := 9) rfl ?_
    refine l1_many mt_X0_isNamed (pc' := 17) (L' := [some (.ref 35), some (.int p1)]) (st' := [.int p1, .int 10, .ref 9]) 2 rfl ?_
    refine l1_callV hQ mt_X0_isNamed mt_X6_tell rfl rfl (o := 9) (ci := 5) (As := [.int 10, .int p1]) (rest := []) rfl rfl rfl rfl rfl rfl (st1 := fun x3 => [.int x3]) (fun _ => rfl) (ok_X6_tell hQ c2 10 p1) (fun x3 c4 => ?_)
    refine l1_many mt_X0_isNamed (pc' := bif am_cc .eq x3 0 then 27 else 23) (L' := [some (.ref 35), some (.int p1)]) (st' := []) 1 rfl ?_
    refine l1_bif rfl ?_ ?_
    · refine l1_many mt_X0_isNamed (pc' := 28) (L' := [some (.ref 35), some (.int p1)]) (st' := [.int 0]) 1 rfl ?_
      exact l1_ret mt_X0_isNamed rfl rfl rfl
    · refine l1_many mt_X0_isNamed (pc' := 28) (L' := [some (.ref 35), some (.int p1)]) (st' := [.int 1]) 2 rfl ?_
      exact l1_ret mt_X0_isNamed rfl rfl rfl
  · refine l1_many mt_X0_isNamed (pc' := 28) (L' := [some (.ref 35), some (.int p1)]) (st' := [.int 1]) 2 rfl ?_
    exact l1_ret mt_X0_isNamed rfl rfl rfl
theorem ok_X0_isNamed_35 {Q : hS → am_H → Prop} (hQ : l1_em kc Q) (N : Nat) (c : hS) (p1 : Int32) : l1_T wI Q am_i_X0_isNamed [.ref 35, .int p1] c (f_X0_isNamed N c p1) := l1_of (en_X0_isNamed_35 hQ N c p1) ⟨rfl, rfl, trivial⟩
set_option maxRecDepth 100000 in
theorem en_X0_isNamed_36 {Q : hS → am_H → Prop} (hQ : l1_em kc Q) (N : Nat) (c : hS) (p1 : Int32) : l1_G (wN wI) Q am_i_X0_isNamed 0 [some (.ref 36), some (.int p1)] [] c (f_X0_isNamed N c p1) := by
  rw [f_X0_isNamed]
  refine l1_many mt_X0_isNamed (pc' := 1) (L' := [some (.ref 36), some (.int p1)]) (st' := [.ref 36]) 1 rfl ?_
  refine l1_getR hQ mt_X0_isNamed rfl (o := 36) (ci := 4) (k := 1) (a := 0) (b := 1) rfl rfl rfl rfl rfl (q := 5) rfl ?_
  refine l1_callS mt_X0_isNamed mt_X11_isName rfl rfl (As := [.ref 5]) (rest := []) rfl rfl rfl (st1 := fun x1 => [.int x1]) (fun _ => rfl) (ok_X11_isName hQ N c 5 rfl) (fun x1 c2 => ?_)
  refine l1_many mt_X0_isNamed (pc' := bif am_cc .ne x1 0 then 23 else 10) (L' := [some (.ref 36), some (.int p1)]) (st' := []) 1 rfl ?_
  refine l1_bin rfl ?_ ?_
  · refine l1_many mt_X0_isNamed (pc' := 11) (L' := [some (.ref 36), some (.int p1)]) (st' := [.ref 36]) 1 rfl ?_
    refine l1_getR hQ mt_X0_isNamed rfl (o := 36) (ci := 4) (k := 2) (a := 0) (b := 1) rfl rfl rfl rfl rfl (q := 9) rfl ?_
    refine l1_many mt_X0_isNamed (pc' := 17) (L' := [some (.ref 36), some (.int p1)]) (st' := [.int p1, .int 10, .ref 9]) 2 rfl ?_
    refine l1_callV hQ mt_X0_isNamed mt_X6_tell rfl rfl (o := 9) (ci := 5) (As := [.int 10, .int p1]) (rest := []) rfl rfl rfl rfl rfl rfl (st1 := fun x3 => [.int x3]) (fun _ => rfl) (ok_X6_tell hQ c2 10 p1) (fun x3 c4 => ?_)
    refine l1_many mt_X0_isNamed (pc' := bif am_cc .eq x3 0 then 27 else 23) (L' := [some (.ref 36), some (.int p1)]) (st' := []) 1 rfl ?_
    refine l1_bif rfl ?_ ?_
    · refine l1_many mt_X0_isNamed (pc' := 28) (L' := [some (.ref 36), some (.int p1)]) (st' := [.int 0]) 1 rfl ?_
      exact l1_ret mt_X0_isNamed rfl rfl rfl
    · refine l1_many mt_X0_isNamed (pc' := 28) (L' := [some (.ref 36), some (.int p1)]) (st' := [.int 1]) 2 rfl ?_
      exact l1_ret mt_X0_isNamed rfl rfl rfl
  · refine l1_many mt_X0_isNamed (pc' := 28) (L' := [some (.ref 36), some (.int p1)]) (st' := [.int 1]) 2 rfl ?_
    exact l1_ret mt_X0_isNamed rfl rfl rfl
theorem ok_X0_isNamed_36 {Q : hS → am_H → Prop} (hQ : l1_em kc Q) (N : Nat) (c : hS) (p1 : Int32) : l1_T wI Q am_i_X0_isNamed [.ref 36, .int p1] c (f_X0_isNamed N c p1) := l1_of (en_X0_isNamed_36 hQ N c p1) ⟨rfl, rfl, trivial⟩
set_option maxRecDepth 100000 in
theorem ok_X2_beginsWith_15 {Q : hS → am_H → Prop} (hQ : l1_em kc Q) (N : Nat) (b : Nat) (p1 : Nat) (hb : kc b = 1) (hp1 : kc p1 = 1) : ∀ n : Nat, ∀ (c : hS) (v2 : Int32), l1_G (wN wI) Q am_i_X2_beginsWith 15 [some (.ref b), some (.ref p1), some (.int v2)] [] c (f_X2_beginsWith_15 N b p1 n c v2) := by
  intro n
  induction n with
  | zero => intro c v2; exact l1_none
  | succ n ih =>
    intro c v2
    rw [f_X2_beginsWith_15]
    refine l1_many mt_X2_beginsWith (pc' := 17) (L' := [some (.ref b), some (.ref p1), some (.int v2)]) (st' := [.ref p1, .int v2]) 2 rfl ?_
    refine l1_getI hQ mt_X2_beginsWith rfl (o := p1) (ci := 1) (k := 1) (a := 0) (b := 0) hp1 rfl rfl rfl rfl ?_
    refine l1_many mt_X2_beginsWith (pc' := bif am_cc .ge v2 (c.1 p1 1) then 44 else 23) (L' := [some (.ref b), some (.ref p1), some (.int v2)]) (st' := []) 1 rfl ?_
    refine l1_bif rfl ?_ ?_
    · refine l1_many mt_X2_beginsWith (pc' := 45) (L' := [some (.ref b), some (.ref p1), some (.int v2)]) (st' := [.int 1]) 1 rfl ?_
      exact l1_ret mt_X2_beginsWith rfl rfl rfl
    · refine l1_many mt_X2_beginsWith (pc' := 25) (L' := [some (.ref b), some (.ref p1), some (.int v2)]) (st' := [.int v2, .ref b]) 2 rfl ?_
      refine l1_callV hQ mt_X2_beginsWith mt_X2_get rfl rfl (o := b) (ci := 1) (As := [.int v2]) (rest := []) rfl rfl hb rfl rfl rfl (st1 := fun x1 => [.int x1]) (fun _ => rfl) (ok_X2_get hQ c b v2 hb) (fun x1 c2 => ?_)
      refine l1_many mt_X2_beginsWith (pc' := 30) (L' := [some (.ref b), some (.ref p1), some (.int v2)]) (st' := [.int v2, .ref p1, .int x1]) 2 rfl ?_
      refine l1_callV hQ mt_X2_beginsWith mt_X2_get rfl rfl (o := p1) (ci := 1) (As := [.int v2]) (rest := [.int x1]) rfl rfl hp1 rfl rfl rfl (st1 := fun x3 => [.int x3, .int x1]) (fun _ => rfl) (ok_X2_get hQ c2 p1 v2 hp1) (fun x3 c4 => ?_)
      refine l1_many mt_X2_beginsWith (pc' := bif am_cc .eq x1 x3 then 38 else 36) (L' := [some (.ref b), some (.ref p1), some (.int v2)]) (st' := []) 1 rfl ?_
      refine l1_bif rfl ?_ ?_
      · refine l1_many mt_X2_beginsWith (pc' := 15) (L' := [some (.ref b), some (.ref p1), some (.int (v2 + 1))]) (st' := []) 2 rfl ?_
        exact ih c4 (v2 + 1)
      · refine l1_many mt_X2_beginsWith (pc' := 37) (L' := [some (.ref b), some (.ref p1), some (.int v2)]) (st' := [.int 0]) 1 rfl ?_
        exact l1_ret mt_X2_beginsWith rfl rfl rfl
set_option maxRecDepth 100000 in
theorem en_X2_beginsWith {Q : hS → am_H → Prop} (hQ : l1_em kc Q) (N : Nat) (c : hS) (b : Nat) (p1 : Nat) (hb : kc b = 1) (hp1 : kc p1 = 1) : l1_G (wN wI) Q am_i_X2_beginsWith 0 [some (.ref b), some (.ref p1)] [] c (f_X2_beginsWith N c b p1) := by
  rw [f_X2_beginsWith]
  refine l1_many mt_X2_beginsWith (pc' := 1) (L' := [some (.ref b), some (.ref p1)]) (st' := [.ref b]) 1 rfl ?_
  refine l1_getI hQ mt_X2_beginsWith rfl (o := b) (ci := 1) (k := 1) (a := 0) (b := 0) hb rfl rfl rfl rfl ?_
  refine l1_many mt_X2_beginsWith (pc' := 5) (L' := [some (.ref b), some (.ref p1)]) (st' := [.ref p1, .int (c.1 b 1)]) 1 rfl ?_
  refine l1_getI hQ mt_X2_beginsWith rfl (o := p1) (ci := 1) (k := 1) (a := 0) (b := 0) hp1 rfl rfl rfl rfl ?_
  refine l1_many mt_X2_beginsWith (pc' := bif am_cc .ge (c.1 b 1) (c.1 p1 1) then 13 else 11) (L' := [some (.ref b), some (.ref p1)]) (st' := []) 1 rfl ?_
  refine l1_bif rfl ?_ ?_
  · refine l1_many mt_X2_beginsWith (pc' := 15) (L' := [some (.ref b), some (.ref p1), some (.int 0)]) (st' := []) 2 rfl ?_
    exact ok_X2_beginsWith_15 hQ N b p1 hb hp1 N c 0
  · refine l1_many mt_X2_beginsWith (pc' := 12) (L' := [some (.ref b), some (.ref p1)]) (st' := [.int 0]) 1 rfl ?_
    exact l1_ret mt_X2_beginsWith rfl rfl rfl
theorem ok_X2_beginsWith {Q : hS → am_H → Prop} (hQ : l1_em kc Q) (N : Nat) (c : hS) (b : Nat) (p1 : Nat) (hb : kc b = 1) (hp1 : kc p1 = 1) : l1_T wI Q am_i_X2_beginsWith [.ref b, .ref p1] c (f_X2_beginsWith N c b p1) := l1_of (en_X2_beginsWith hQ N c b p1 hb hp1) ⟨rfl, rfl, trivial⟩
set_option maxRecDepth 100000 in
theorem en_X9_member {Q : hS → am_H → Prop} (hQ : l1_em kc Q) (c : hS) (s : Nat) (p1 : Int32) (hs : kc s = 8) : l1_G (wN wM) Q am_i_X9_member 0 [some (.ref s), some (.int p1)] [] c (f_X9_member c s p1) := by
  rw [f_X9_member]
  refine l1_many mt_X9_member (pc' := bif am_cc .lt p1 0 then 30 else 4) (L' := [some (.ref s), some (.int p1)]) (st' := []) 2 rfl ?_
  refine l1_bif rfl ?_ ?_
  · refine l1_many mt_X9_member (pc' := 31) (L' := [some (.ref s), some (.int p1)]) (st' := [.null]) 1 rfl ?_
    exact l1_ret mt_X9_member rfl rfl rfl
  · refine l1_many mt_X9_member (pc' := 6) (L' := [some (.ref s), some (.int p1)]) (st' := [.ref s, .int p1]) 2 rfl ?_
    refine l1_getI hQ mt_X9_member rfl (o := s) (ci := 8) (k := 1) (a := 0) (b := 0) hs rfl rfl rfl rfl ?_
    refine l1_many mt_X9_member (pc' := bif am_cc .ge p1 (c.1 s 1) then 30 else 12) (L' := [some (.ref s), some (.int p1)]) (st' := []) 1 rfl ?_
    refine l1_bif rfl ?_ ?_
    · refine l1_many mt_X9_member (pc' := 31) (L' := [some (.ref s), some (.int p1)]) (st' := [.null]) 1 rfl ?_
      exact l1_ret mt_X9_member rfl rfl rfl
    · refine l1_many mt_X9_member (pc' := 14) (L' := [some (.ref s), some (.int p1)]) (st' := [.ref s, .int p1]) 2 rfl ?_
      refine l1_getR hQ mt_X9_member rfl (o := s) (ci := 8) (k := 0) (a := 0) (b := 1) hs rfl rfl rfl rfl (q := (s + 1)) rfl ?_
      refine l1_len hQ mt_X9_member rfl (o := (s + 1)) (ci := 24) (kc8_0 hs) rfl rfl ?_
      refine l1_many mt_X9_member (pc' := bif am_cc .ge p1 (Int32.ofNat (ln (s + 1))) then 30 else 21) (L' := [some (.ref s), some (.int p1)]) (st' := []) 1 rfl ?_
      refine l1_bif rfl ?_ ?_
      · refine l1_many mt_X9_member (pc' := 31) (L' := [some (.ref s), some (.int p1)]) (st' := [.null]) 1 rfl ?_
        exact l1_ret mt_X9_member rfl rfl rfl
      · refine l1_many mt_X9_member (pc' := 22) (L' := [some (.ref s), some (.int p1)]) (st' := [.ref s]) 1 rfl ?_
        refine l1_getR hQ mt_X9_member rfl (o := s) (ci := 8) (k := 0) (a := 0) (b := 1) hs rfl rfl rfl rfl (q := (s + 1)) rfl ?_
        refine l1_many mt_X9_member (pc' := 26) (L' := [some (.ref s), some (.int p1)]) (st' := [.int p1, .ref (s + 1)]) 1 rfl ?_
        refine l1_ck (fun hx => ?_)
        refine l1_aald hQ mt_X9_member rfl (o := (s + 1)) (kc8_0 hs) hx (fun hx1 => ?_)
        refine l1_many mt_X9_member (pc' := 31) (L' := [some (.ref s), some (.int p1)]) (st' := [.ref (c.2.2 (s + 1) p1.toNatClampNeg)]) 1 rfl ?_
        exact l1_ret mt_X9_member rfl rfl rfl
theorem ok_X9_member {Q : hS → am_H → Prop} (hQ : l1_em kc Q) (c : hS) (s : Nat) (p1 : Int32) (hs : kc s = 8) : l1_T wM Q am_i_X9_member [.ref s, .int p1] c (f_X9_member c s p1) := l1_of (en_X9_member hQ c s p1 hs) ⟨rfl, rfl, trivial⟩
set_option maxRecDepth 100000 in
theorem ok_X9_find_2 {Q : hS → am_H → Prop} (hQ : l1_em kc Q) (N : Nat) (s : Nat) (p1 : Nat) (hs : kc s = 8) (hp1 : kc p1 = 1) : ∀ n : Nat, ∀ (c : hS) (v2 : Int32), l1_G (wN wI) Q am_i_X9_find 2 [some (.ref s), some (.ref p1), some (.int v2)] [] c (f_X9_find_2 N s p1 n c v2) := by
  intro n
  induction n with
  | zero => intro c v2; exact l1_none
  | succ n ih =>
    intro c v2
    rw [f_X9_find_2]
    refine l1_many mt_X9_find (pc' := 4) (L' := [some (.ref s), some (.ref p1), some (.int v2)]) (st' := [.ref s, .int v2]) 2 rfl ?_
    refine l1_getI hQ mt_X9_find rfl (o := s) (ci := 8) (k := 1) (a := 0) (b := 0) hs rfl rfl rfl rfl ?_
    refine l1_many mt_X9_find (pc' := bif am_cc .ge v2 (c.1 s 1) then 53 else 10) (L' := [some (.ref s), some (.ref p1), some (.int v2)]) (st' := []) 1 rfl ?_
    refine l1_bif rfl ?_ ?_
    · refine l1_many mt_X9_find (pc' := 54) (L' := [some (.ref s), some (.ref p1), some (.int v2)]) (st' := [.int (-1)]) 1 rfl ?_
      exact l1_ret mt_X9_find rfl rfl rfl
    · refine l1_many mt_X9_find (pc' := 12) (L' := [some (.ref s), some (.ref p1), some (.int v2)]) (st' := [.int v2, .ref s]) 2 rfl ?_
      refine l1_callV hQ mt_X9_find mt_X9_member rfl rfl (o := s) (ci := 8) (As := [.int v2]) (rest := []) rfl rfl hs rfl rfl rfl (st1 := fun x1 => l1_mv x1 :: []) (fun _ => rfl) (ok_X9_member hQ c s v2 hs) (fun x1 c2 => ?_)
      refine l1_opt (x := x1) ?_ (fun y3 => ?_)
      · refine l1_many mt_X9_find (pc' := 2) (L' := [some (.ref s), some (.ref p1), some (.int (v2 + 1)), some (.null)]) (st' := []) 5 rfl ?_
        refine l1_weak (m := [true, true, true, false]) (L' := [some (.ref s), some (.ref p1), some (.int (v2 + 1))]) rfl ?_
        exact ih c2 (v2 + 1)
      · refine l1_ck (fun hy => ?_)
        have hy3 : kc y3 = 6 := Nat.eq_of_beq_eq_true hy
        refine l1_many mt_X9_find (pc' := 21) (L' := [some (.ref s), some (.ref p1), some (.int v2), some (.ref y3)]) (st' := [.ref y3]) 4 rfl ?_
        refine l1_getR hQ mt_X9_find rfl (o := y3) (ci := 6) (k := 0) (a := 2) (b := 2) hy3 rfl rfl rfl rfl (q := (y3 + 1)) rfl ?_
        refine l1_callV hQ mt_X9_find mt_X2_size rfl rfl (o := (y3 + 1)) (ci := 1) (As := []) (rest := []) rfl rfl (kc6_0 hy3) rfl rfl rfl (st1 := fun x4 => [.int x4]) (fun _ => rfl) (ok_X2_size hQ c2 (y3 + 1) (kc6_0 hy3)) (fun x4 c5 => ?_)
        refine l1_many mt_X9_find (pc' := 28) (L' := [some (.ref s), some (.ref p1), some (.int v2), some (.ref y3)]) (st' := [.ref p1, .int x4]) 1 rfl ?_
        refine l1_callV hQ mt_X9_find mt_X2_size rfl rfl (o := p1) (ci := 1) (As := []) (rest := [.int x4]) rfl rfl hp1 rfl rfl rfl (st1 := fun x6 => [.int x6, .int x4]) (fun _ => rfl) (ok_X2_size hQ c5 p1 hp1) (fun x6 c7 => ?_)
        refine l1_many mt_X9_find (pc' := bif am_cc .ne x4 x6 then 47 else 34) (L' := [some (.ref s), some (.ref p1), some (.int v2), some (.ref y3)]) (st' := []) 1 rfl ?_
        refine l1_bin rfl ?_ ?_
        · refine l1_many mt_X9_find (pc' := 35) (L' := [some (.ref s), some (.ref p1), some (.int v2), some (.ref y3)]) (st' := [.ref y3]) 1 rfl ?_
          refine l1_getR hQ mt_X9_find rfl (o := y3) (ci := 6) (k := 0) (a := 2) (b := 2) hy3 rfl rfl rfl rfl (q := (y3 + 1)) rfl ?_
          refine l1_many mt_X9_find (pc' := 39) (L' := [some (.ref s), some (.ref p1), some (.int v2), some (.ref y3)]) (st' := [.ref p1, .ref (y3 + 1)]) 1 rfl ?_
          refine l1_callV hQ mt_X9_find mt_X2_beginsWith rfl rfl (o := (y3 + 1)) (ci := 1) (As := [.ref p1]) (rest := []) rfl rfl (kc6_0 hy3) rfl rfl rfl (st1 := fun x8 => [.int x8]) (fun _ => rfl) (ok_X2_beginsWith hQ N c7 (y3 + 1) p1 (kc6_0 hy3) hp1) (fun x8 c9 => ?_)
          refine l1_many mt_X9_find (pc' := bif am_cc .eq x8 0 then 47 else 45) (L' := [some (.ref s), some (.ref p1), some (.int v2), some (.ref y3)]) (st' := []) 1 rfl ?_
          refine l1_bif rfl ?_ ?_
          · refine l1_many mt_X9_find (pc' := 2) (L' := [some (.ref s), some (.ref p1), some (.int (v2 + 1)), some (.ref y3)]) (st' := []) 2 rfl ?_
            refine l1_weak (m := [true, true, true, false]) (L' := [some (.ref s), some (.ref p1), some (.int (v2 + 1))]) rfl ?_
            exact ih c9 (v2 + 1)
          · refine l1_many mt_X9_find (pc' := 46) (L' := [some (.ref s), some (.ref p1), some (.int v2), some (.ref y3)]) (st' := [.int v2]) 1 rfl ?_
            exact l1_ret mt_X9_find rfl rfl rfl
        · refine l1_many mt_X9_find (pc' := 2) (L' := [some (.ref s), some (.ref p1), some (.int (v2 + 1)), some (.ref y3)]) (st' := []) 2 rfl ?_
          refine l1_weak (m := [true, true, true, false]) (L' := [some (.ref s), some (.ref p1), some (.int (v2 + 1))]) rfl ?_
          exact ih c7 (v2 + 1)
set_option maxRecDepth 100000 in
theorem en_X9_find {Q : hS → am_H → Prop} (hQ : l1_em kc Q) (N : Nat) (c : hS) (s : Nat) (p1 : Nat) (hs : kc s = 8) (hp1 : kc p1 = 1) : l1_G (wN wI) Q am_i_X9_find 0 [some (.ref s), some (.ref p1)] [] c (f_X9_find N c s p1) := by
  rw [f_X9_find]
  refine l1_many mt_X9_find (pc' := 2) (L' := [some (.ref s), some (.ref p1), some (.int 0)]) (st' := []) 2 rfl ?_
  exact ok_X9_find_2 hQ N s p1 hs hp1 N c 0
theorem ok_X9_find {Q : hS → am_H → Prop} (hQ : l1_em kc Q) (N : Nat) (c : hS) (s : Nat) (p1 : Nat) (hs : kc s = 8) (hp1 : kc p1 = 1) : l1_T wI Q am_i_X9_find [.ref s, .ref p1] c (f_X9_find N c s p1) := l1_of (en_X9_find hQ N c s p1 hs hp1) ⟨rfl, rfl, trivial⟩
set_option maxRecDepth 100000 in
theorem en_X9_hasRoomFor {Q : hS → am_H → Prop} (hQ : l1_em kc Q) (N : Nat) (c : hS) (s : Nat) (p1 : Nat) (hs : kc s = 8) (hp1 : kc p1 = 1) : l1_G (wN wI) Q am_i_X9_hasRoomFor 0 [some (.ref s), some (.ref p1)] [] c (f_X9_hasRoomFor N c s p1) := by
  rw [f_X9_hasRoomFor]
  refine l1_many mt_X9_hasRoomFor (pc' := 1) (L' := [some (.ref s), some (.ref p1)]) (st' := [.ref s]) 1 rfl ?_
  refine l1_getI hQ mt_X9_hasRoomFor rfl (o := s) (ci := 8) (k := 1) (a := 0) (b := 0) hs rfl rfl rfl rfl ?_
  refine l1_many mt_X9_hasRoomFor (pc' := bif am_cc .lt (c.1 s 1) 16 then 18 else 9) (L' := [some (.ref s), some (.ref p1)]) (st' := []) 2 rfl ?_
  refine l1_bif rfl ?_ ?_
  · refine l1_many mt_X9_hasRoomFor (pc' := 23) (L' := [some (.ref s), some (.ref p1)]) (st' := [.int 1]) 2 rfl ?_
    exact l1_ret mt_X9_hasRoomFor rfl rfl rfl
  · refine l1_many mt_X9_hasRoomFor (pc' := 11) (L' := [some (.ref s), some (.ref p1)]) (st' := [.ref p1, .ref s]) 2 rfl ?_
    refine l1_callV hQ mt_X9_hasRoomFor mt_X9_find rfl rfl (o := s) (ci := 8) (As := [.ref p1]) (rest := []) rfl rfl hs rfl rfl rfl (st1 := fun x1 => [.int x1]) (fun _ => rfl) (ok_X9_find hQ N c s p1 hs hp1) (fun x1 c2 => ?_)
    refine l1_many mt_X9_hasRoomFor (pc' := bif am_cc .eq x1 (-1) then 22 else 18) (L' := [some (.ref s), some (.ref p1)]) (st' := []) 2 rfl ?_
    refine l1_bif rfl ?_ ?_
    · refine l1_many mt_X9_hasRoomFor (pc' := 23) (L' := [some (.ref s), some (.ref p1)]) (st' := [.int 0]) 1 rfl ?_
      exact l1_ret mt_X9_hasRoomFor rfl rfl rfl
    · refine l1_many mt_X9_hasRoomFor (pc' := 23) (L' := [some (.ref s), some (.ref p1)]) (st' := [.int 1]) 2 rfl ?_
      exact l1_ret mt_X9_hasRoomFor rfl rfl rfl
theorem ok_X9_hasRoomFor {Q : hS → am_H → Prop} (hQ : l1_em kc Q) (N : Nat) (c : hS) (s : Nat) (p1 : Nat) (hs : kc s = 8) (hp1 : kc p1 = 1) : l1_T wI Q am_i_X9_hasRoomFor [.ref s, .ref p1] c (f_X9_hasRoomFor N c s p1) := l1_of (en_X9_hasRoomFor hQ N c s p1 hs hp1) ⟨rfl, rfl, trivial⟩
set_option maxRecDepth 100000 in
theorem en_X2_liesUnder {Q : hS → am_H → Prop} (hQ : l1_em kc Q) (N : Nat) (c : hS) (b : Nat) (p1 : Nat) (hb : kc b = 1) (hp1 : kc p1 = 1) : l1_G (wN wI) Q am_i_X2_liesUnder 0 [some (.ref b), some (.ref p1)] [] c (f_X2_liesUnder N c b p1) := by
  rw [f_X2_liesUnder]
  refine l1_many mt_X2_liesUnder (pc' := 1) (L' := [some (.ref b), some (.ref p1)]) (st' := [.ref p1]) 1 rfl ?_
  refine l1_getI hQ mt_X2_liesUnder rfl (o := p1) (ci := 1) (k := 1) (a := 0) (b := 0) hp1 rfl rfl rfl rfl ?_
  refine l1_many mt_X2_liesUnder (pc' := bif am_cc .ne (c.1 p1 1) 0 then 9 else 7) (L' := [some (.ref b), some (.ref p1)]) (st' := []) 1 rfl ?_
  refine l1_bin rfl ?_ ?_
  · refine l1_many mt_X2_liesUnder (pc' := 8) (L' := [some (.ref b), some (.ref p1)]) (st' := [.int 1]) 1 rfl ?_
    exact l1_ret mt_X2_liesUnder rfl rfl rfl
  · refine l1_many mt_X2_liesUnder (pc' := 10) (L' := [some (.ref b), some (.ref p1)]) (st' := [.ref b]) 1 rfl ?_
    refine l1_getI hQ mt_X2_liesUnder rfl (o := b) (ci := 1) (k := 1) (a := 0) (b := 0) hb rfl rfl rfl rfl ?_
    refine l1_many mt_X2_liesUnder (pc' := 14) (L' := [some (.ref b), some (.ref p1)]) (st' := [.ref p1, .int (c.1 b 1)]) 1 rfl ?_
    refine l1_getI hQ mt_X2_liesUnder rfl (o := p1) (ci := 1) (k := 1) (a := 0) (b := 0) hp1 rfl rfl rfl rfl ?_
    refine l1_many mt_X2_liesUnder (pc' := bif am_cc .le (c.1 b 1) ((c.1 p1 1) + 1) then 47 else 22) (L' := [some (.ref b), some (.ref p1)]) (st' := []) 3 rfl ?_
    refine l1_bif rfl ?_ ?_
    · refine l1_many mt_X2_liesUnder (pc' := 48) (L' := [some (.ref b), some (.ref p1)]) (st' := [.int 0]) 1 rfl ?_
      exact l1_ret mt_X2_liesUnder rfl rfl rfl
    · refine l1_many mt_X2_liesUnder (pc' := 24) (L' := [some (.ref b), some (.ref p1)]) (st' := [.ref p1, .ref b]) 2 rfl ?_
      refine l1_getI hQ mt_X2_liesUnder rfl (o := p1) (ci := 1) (k := 1) (a := 0) (b := 0) hp1 rfl rfl rfl rfl ?_
      refine l1_callV hQ mt_X2_liesUnder mt_X2_get rfl rfl (o := b) (ci := 1) (As := [.int (c.1 p1 1)]) (rest := []) rfl rfl hb rfl rfl rfl (st1 := fun x1 => [.int x1]) (fun _ => rfl) (ok_X2_get hQ c b (c.1 p1 1) hb) (fun x1 c2 => ?_)
      refine l1_many mt_X2_liesUnder (pc' := bif am_cc .ne x1 47 then 47 else 35) (L' := [some (.ref b), some (.ref p1)]) (st' := []) 2 rfl ?_
      refine l1_bin rfl ?_ ?_
      · refine l1_many mt_X2_liesUnder (pc' := 37) (L' := [some (.ref b), some (.ref p1)]) (st' := [.ref p1, .ref b]) 2 rfl ?_
        refine l1_callV hQ mt_X2_liesUnder mt_X2_beginsWith rfl rfl (o := b) (ci := 1) (As := [.ref p1]) (rest := []) rfl rfl hb rfl rfl rfl (st1 := fun x3 => [.int x3]) (fun _ => rfl) (ok_X2_beginsWith hQ N c2 b p1 hb hp1) (fun x3 c4 => ?_)
        refine l1_many mt_X2_liesUnder (pc' := bif am_cc .eq x3 0 then 47 else 43) (L' := [some (.ref b), some (.ref p1)]) (st' := []) 1 rfl ?_
        refine l1_bif rfl ?_ ?_
        · refine l1_many mt_X2_liesUnder (pc' := 48) (L' := [some (.ref b), some (.ref p1)]) (st' := [.int 0]) 1 rfl ?_
          exact l1_ret mt_X2_liesUnder rfl rfl rfl
        · refine l1_many mt_X2_liesUnder (pc' := 48) (L' := [some (.ref b), some (.ref p1)]) (st' := [.int 1]) 2 rfl ?_
          exact l1_ret mt_X2_liesUnder rfl rfl rfl
      · refine l1_many mt_X2_liesUnder (pc' := 48) (L' := [some (.ref b), some (.ref p1)]) (st' := [.int 0]) 1 rfl ?_
        exact l1_ret mt_X2_liesUnder rfl rfl rfl
theorem ok_X2_liesUnder {Q : hS → am_H → Prop} (hQ : l1_em kc Q) (N : Nat) (c : hS) (b : Nat) (p1 : Nat) (hb : kc b = 1) (hp1 : kc p1 = 1) : l1_T wI Q am_i_X2_liesUnder [.ref b, .ref p1] c (f_X2_liesUnder N c b p1) := l1_of (en_X2_liesUnder hQ N c b p1 hb hp1) ⟨rfl, rfl, trivial⟩
set_option maxRecDepth 100000 in
theorem ok_X9_isInTheWay_43 {Q : hS → am_H → Prop} (hQ : l1_em kc Q) (N : Nat) (s : Nat) (p1 : Nat) (p2 : Int32) (hs : kc s = 8) (hp1 : kc p1 = 1) {k2 : hS → Int32 → Option (Int32 × hS)} (hk2 : ∀ c v3, l1_G (wN wI) Q am_i_X9_isInTheWay 2 [some (.ref s), some (.ref p1), some (.int p2), some (.int v3)] [] c (k2 c v3)) : ∀ (c : hS) (v3 : Int32) (v4 : Nat) (hv4 : kc v4 = 6), l1_G (wN wI) Q am_i_X9_isInTheWay 43 [some (.ref s), some (.ref p1), some (.int p2), some (.int v3), some (.ref v4)] [] c (f_X9_isInTheWay_43 N s p1 p2 k2 c v3 v4) := by
  intro c v3 v4 hv4
  rw [f_X9_isInTheWay_43]
  refine l1_many mt_X9_isInTheWay (pc' := 45) (L' := [some (.ref s), some (.ref p1), some (.int p2), some (.int v3), some (.ref v4)]) (st' := [.ref v4]) 1 rfl ?_
  refine l1_getI hQ mt_X9_isInTheWay rfl (o := v4) (ci := 6) (k := 2) (a := 2) (b := 0) hv4 rfl rfl rfl rfl ?_
  refine l1_many mt_X9_isInTheWay (pc' := bif am_cc .ne (c.1 v4 2) 0 then 65 else 51) (L' := [some (.ref s), some (.ref p1), some (.int p2), some (.int v3), some (.ref v4)]) (st' := []) 1 rfl ?_
  refine l1_bin rfl ?_ ?_
  · refine l1_many mt_X9_isInTheWay (pc' := 54) (L' := [some (.ref s), some (.ref p1), some (.int p2), some (.int v3), some (.ref v4)]) (st' := [.ref v4, .ref p1]) 2 rfl ?_
    refine l1_getR hQ mt_X9_isInTheWay rfl (o := v4) (ci := 6) (k := 0) (a := 2) (b := 2) hv4 rfl rfl rfl rfl (q := (v4 + 1)) rfl ?_
    refine l1_callV hQ mt_X9_isInTheWay mt_X2_liesUnder rfl rfl (o := p1) (ci := 1) (As := [.ref (v4 + 1)]) (rest := []) rfl rfl hp1 rfl rfl rfl (st1 := fun x1 => [.int x1]) (fun _ => rfl) (ok_X2_liesUnder hQ N c p1 (v4 + 1) hp1 (kc6_0 hv4)) (fun x1 c2 => ?_)
    refine l1_many mt_X9_isInTheWay (pc' := bif am_cc .eq x1 0 then 65 else 63) (L' := [some (.ref s), some (.ref p1), some (.int p2), some (.int v3), some (.ref v4)]) (st' := []) 1 rfl ?_
    refine l1_bif rfl ?_ ?_
    · refine l1_many mt_X9_isInTheWay (pc' := 2) (L' := [some (.ref s), some (.ref p1), some (.int p2), some (.int (v3 + 1)), some (.ref v4)]) (st' := []) 2 rfl ?_
      refine l1_weak (m := [true, true, true, true, false]) (L' := [some (.ref s), some (.ref p1), some (.int p2), some (.int (v3 + 1))]) rfl ?_
      exact hk2 c2 (v3 + 1)
    · refine l1_many mt_X9_isInTheWay (pc' := 64) (L' := [some (.ref s), some (.ref p1), some (.int p2), some (.int v3), some (.ref v4)]) (st' := [.int 1]) 1 rfl ?_
      exact l1_ret mt_X9_isInTheWay rfl rfl rfl
  · refine l1_many mt_X9_isInTheWay (pc' := 2) (L' := [some (.ref s), some (.ref p1), some (.int p2), some (.int (v3 + 1)), some (.ref v4)]) (st' := []) 2 rfl ?_
    refine l1_weak (m := [true, true, true, true, false]) (L' := [some (.ref s), some (.ref p1), some (.int p2), some (.int (v3 + 1))]) rfl ?_
    exact hk2 c (v3 + 1)
set_option maxRecDepth 100000 in
theorem ok_X9_isInTheWay_2 {Q : hS → am_H → Prop} (hQ : l1_em kc Q) (N : Nat) (s : Nat) (p1 : Nat) (p2 : Int32) (hs : kc s = 8) (hp1 : kc p1 = 1) : ∀ n : Nat, ∀ (c : hS) (v3 : Int32), l1_G (wN wI) Q am_i_X9_isInTheWay 2 [some (.ref s), some (.ref p1), some (.int p2), some (.int v3)] [] c (f_X9_isInTheWay_2 N s p1 p2 n c v3) := by
  intro n
  induction n with
  | zero => intro c v3; exact l1_none
  | succ n ih =>
    intro c v3
    rw [f_X9_isInTheWay_2]
    refine l1_many mt_X9_isInTheWay (pc' := 4) (L' := [some (.ref s), some (.ref p1), some (.int p2), some (.int v3)]) (st' := [.ref s, .int v3]) 2 rfl ?_
    refine l1_getI hQ mt_X9_isInTheWay rfl (o := s) (ci := 8) (k := 1) (a := 0) (b := 0) hs rfl rfl rfl rfl ?_
    refine l1_many mt_X9_isInTheWay (pc' := bif am_cc .ge v3 (c.1 s 1) then 71 else 10) (L' := [some (.ref s), some (.ref p1), some (.int p2), some (.int v3)]) (st' := []) 1 rfl ?_
    refine l1_bif rfl ?_ ?_
    · refine l1_many mt_X9_isInTheWay (pc' := 72) (L' := [some (.ref s), some (.ref p1), some (.int p2), some (.int v3)]) (st' := [.int 0]) 1 rfl ?_
      exact l1_ret mt_X9_isInTheWay rfl rfl rfl
    · refine l1_many mt_X9_isInTheWay (pc' := 12) (L' := [some (.ref s), some (.ref p1), some (.int p2), some (.int v3)]) (st' := [.int v3, .ref s]) 2 rfl ?_
      refine l1_callV hQ mt_X9_isInTheWay mt_X9_member rfl rfl (o := s) (ci := 8) (As := [.int v3]) (rest := []) rfl rfl hs rfl rfl rfl (st1 := fun x1 => l1_mv x1 :: []) (fun _ => rfl) (ok_X9_member hQ c s v3 hs) (fun x1 c2 => ?_)
      refine l1_opt (x := x1) ?_ (fun y3 => ?_)
      · refine l1_many mt_X9_isInTheWay (pc' := 2) (L' := [some (.ref s), some (.ref p1), some (.int p2), some (.int (v3 + 1)), some (.null)]) (st' := []) 6 rfl ?_
        refine l1_weak (m := [true, true, true, true, false]) (L' := [some (.ref s), some (.ref p1), some (.int p2), some (.int (v3 + 1))]) rfl ?_
        exact ih c2 (v3 + 1)
      · refine l1_ck (fun hy => ?_)
        have hy3 : kc y3 = 6 := Nat.eq_of_beq_eq_true hy
        refine l1_many mt_X9_isInTheWay (pc' := bif am_cc .ne p2 0 then 43 else 29) (L' := [some (.ref s), some (.ref p1), some (.int p2), some (.int v3), some (.ref y3)]) (st' := []) 5 rfl ?_
        refine l1_bin rfl ?_ ?_
        · refine l1_many mt_X9_isInTheWay (pc' := 31) (L' := [some (.ref s), some (.ref p1), some (.int p2), some (.int v3), some (.ref y3)]) (st' := [.ref y3]) 1 rfl ?_
          refine l1_getR hQ mt_X9_isInTheWay rfl (o := y3) (ci := 6) (k := 0) (a := 2) (b := 2) hy3 rfl rfl rfl rfl (q := (y3 + 1)) rfl ?_
          refine l1_many mt_X9_isInTheWay (pc' := 35) (L' := [some (.ref s), some (.ref p1), some (.int p2), some (.int v3), some (.ref y3)]) (st' := [.ref p1, .ref (y3 + 1)]) 1 rfl ?_
          refine l1_callV hQ mt_X9_isInTheWay mt_X2_liesUnder rfl rfl (o := (y3 + 1)) (ci := 1) (As := [.ref p1]) (rest := []) rfl rfl (kc6_0 hy3) rfl rfl rfl (st1 := fun x4 => [.int x4]) (fun _ => rfl) (ok_X2_liesUnder hQ N c2 (y3 + 1) p1 (kc6_0 hy3) hp1) (fun x4 c5 => ?_)
          refine l1_many mt_X9_isInTheWay (pc' := bif am_cc .eq x4 0 then 43 else 41) (L' := [some (.ref s), some (.ref p1), some (.int p2), some (.int v3), some (.ref y3)]) (st' := []) 1 rfl ?_
          refine l1_bif rfl ?_ ?_
          · exact ok_X9_isInTheWay_43 hQ N s p1 p2 hs hp1 ih c5 v3 y3 hy3
          · refine l1_many mt_X9_isInTheWay (pc' := 42) (L' := [some (.ref s), some (.ref p1), some (.int p2), some (.int v3), some (.ref y3)]) (st' := [.int 1]) 1 rfl ?_
            exact l1_ret mt_X9_isInTheWay rfl rfl rfl
        · exact ok_X9_isInTheWay_43 hQ N s p1 p2 hs hp1 ih c2 v3 y3 hy3
set_option maxRecDepth 100000 in
theorem en_X9_isInTheWay {Q : hS → am_H → Prop} (hQ : l1_em kc Q) (N : Nat) (c : hS) (s : Nat) (p1 : Nat) (p2 : Int32) (hs : kc s = 8) (hp1 : kc p1 = 1) : l1_G (wN wI) Q am_i_X9_isInTheWay 0 [some (.ref s), some (.ref p1), some (.int p2)] [] c (f_X9_isInTheWay N c s p1 p2) := by
  rw [f_X9_isInTheWay]
  refine l1_many mt_X9_isInTheWay (pc' := 2) (L' := [some (.ref s), some (.ref p1), some (.int p2), some (.int 0)]) (st' := []) 2 rfl ?_
  exact ok_X9_isInTheWay_2 hQ N s p1 p2 hs hp1 N c 0
theorem ok_X9_isInTheWay {Q : hS → am_H → Prop} (hQ : l1_em kc Q) (N : Nat) (c : hS) (s : Nat) (p1 : Nat) (p2 : Int32) (hs : kc s = 8) (hp1 : kc p1 = 1) : l1_T wI Q am_i_X9_isInTheWay [.ref s, .ref p1, .int p2] c (f_X9_isInTheWay N c s p1 p2) := l1_of (en_X9_isInTheWay hQ N c s p1 p2 hs hp1) ⟨rfl, rfl, rfl, trivial⟩
set_option maxRecDepth 100000 in
theorem en_X2_add {Q : hS → am_H → Prop} (hQ : l1_em kc Q) (c : hS) (b : Nat) (p1 : Int32) (hb : kc b = 1) : l1_G (wN wV) Q am_i_X2_add 0 [some (.ref b), some (.int p1)] [] c (f_X2_add c b p1) := by
  rw [f_X2_add]
  refine l1_many mt_X2_add (pc' := 1) (L' := [some (.ref b), some (.int p1)]) (st' := [.ref b]) 1 rfl ?_
  refine l1_getI hQ mt_X2_add rfl (o := b) (ci := 1) (k := 1) (a := 0) (b := 0) hb rfl rfl rfl rfl ?_
  refine l1_many mt_X2_add (pc' := bif am_cc .lt (c.1 b 1) 0 then 43 else 7) (L' := [some (.ref b), some (.int p1)]) (st' := []) 1 rfl ?_
  refine l1_bif rfl ?_ ?_
  · exact l1_ret mt_X2_add rfl rfl rfl
  · refine l1_many mt_X2_add (pc' := 8) (L' := [some (.ref b), some (.int p1)]) (st' := [.ref b]) 1 rfl ?_
    refine l1_getI hQ mt_X2_add rfl (o := b) (ci := 1) (k := 1) (a := 0) (b := 0) hb rfl rfl rfl rfl ?_
    refine l1_many mt_X2_add (pc' := 12) (L' := [some (.ref b), some (.int p1)]) (st' := [.ref b, .int (c.1 b 1)]) 1 rfl ?_
    refine l1_getR hQ mt_X2_add rfl (o := b) (ci := 1) (k := 0) (a := 0) (b := 1) hb rfl rfl rfl rfl (q := (b + 1)) rfl ?_
    refine l1_len hQ mt_X2_add rfl (o := (b + 1)) (ci := 20) (kc1_1 hb) rfl rfl ?_
    refine l1_many mt_X2_add (pc' := bif am_cc .ge (c.1 b 1) (Int32.ofNat (ln (b + 1))) then 43 else 19) (L' := [some (.ref b), some (.int p1)]) (st' := []) 1 rfl ?_
    refine l1_bif rfl ?_ ?_
    · exact l1_ret mt_X2_add rfl rfl rfl
    · refine l1_many mt_X2_add (pc' := 20) (L' := [some (.ref b), some (.int p1)]) (st' := [.ref b]) 1 rfl ?_
      refine l1_getR hQ mt_X2_add rfl (o := b) (ci := 1) (k := 0) (a := 0) (b := 1) hb rfl rfl rfl rfl (q := (b + 1)) rfl ?_
      refine l1_many mt_X2_add (pc' := 24) (L' := [some (.ref b), some (.int p1)]) (st' := [.ref b, .ref (b + 1)]) 1 rfl ?_
      refine l1_getI hQ mt_X2_add rfl (o := b) (ci := 1) (k := 1) (a := 0) (b := 0) hb rfl rfl rfl rfl ?_
      refine l1_many mt_X2_add (pc' := 32) (L' := [some (.ref b), some (.int p1)]) (st' := [.int (p1 &&& 255), .int (c.1 b 1), .ref (b + 1)]) 3 rfl ?_
      refine l1_ck (fun hx => ?_)
      refine l1_ast hQ mt_X2_add rfl (o := (b + 1)) (kc1_1 hb) hx (fun c1 => ?_)
      refine l1_many mt_X2_add (pc' := 35) (L' := [some (.ref b), some (.int p1)]) (st' := [.ref b, .ref b]) 2 rfl ?_
      refine l1_getI hQ mt_X2_add rfl (o := b) (ci := 1) (k := 1) (a := 0) (b := 0) hb rfl rfl rfl rfl ?_
      refine l1_many mt_X2_add (pc' := 40) (L' := [some (.ref b), some (.int p1)]) (st' := [.int ((c1.1 b 1) + 1), .ref b]) 2 rfl ?_
      refine l1_putI hQ mt_X2_add rfl (o := b) (ci := 1) (k := 1) (a := 0) hb rfl rfl rfl rfl rfl (fun c2 => ?_)
      exact l1_ret mt_X2_add rfl rfl rfl
theorem ok_X2_add {Q : hS → am_H → Prop} (hQ : l1_em kc Q) (c : hS) (b : Nat) (p1 : Int32) (hb : kc b = 1) : l1_T wV Q am_i_X2_add [.ref b, .int p1] c (f_X2_add c b p1) := l1_of (en_X2_add hQ c b p1 hb) ⟨rfl, rfl, trivial⟩
set_option maxRecDepth 100000 in
theorem ok_X2_addRow_3 {Q : hS → am_H → Prop} (hQ : l1_em kc Q) (N : Nat) (b : Nat) (p1 : Nat) (p2 : Int32) (p3 : Int32) (hb : kc b = 1) (hp1 : kc p1 = 1) : ∀ n : Nat, ∀ (c : hS) (v4 : Int32), l1_G (wN wV) Q am_i_X2_addRow 3 [some (.ref b), some (.ref p1), none, some (.int p3), some (.int v4)] [] c (f_X2_addRow_3 N b p1 p2 p3 n c v4) := by
  intro n
  induction n with
  | zero => intro c v4; exact l1_none
  | succ n ih =>
    intro c v4
    rw [f_X2_addRow_3]
    refine l1_many mt_X2_addRow (pc' := bif am_cc .ge v4 p3 then 25 else 9) (L' := [some (.ref b), some (.ref p1), none, some (.int p3), some (.int v4)]) (st' := []) 3 rfl ?_
    refine l1_bif rfl ?_ ?_
    · exact l1_ret mt_X2_addRow rfl rfl rfl
    · refine l1_many mt_X2_addRow (pc' := 13) (L' := [some (.ref b), some (.ref p1), none, some (.int p3), some (.int v4)]) (st' := [.int v4, .ref p1, .ref b]) 3 rfl ?_
      refine l1_callV hQ mt_X2_addRow mt_X2_get rfl rfl (o := p1) (ci := 1) (As := [.int v4]) (rest := [.ref b]) rfl rfl hp1 rfl rfl rfl (st1 := fun x1 => [.int x1, .ref b]) (fun _ => rfl) (ok_X2_get hQ c p1 v4 hp1) (fun x1 c2 => ?_)
      refine l1_callV hQ mt_X2_addRow mt_X2_add rfl rfl (o := b) (ci := 1) (As := [.int x1]) (rest := []) rfl rfl hb rfl rfl rfl (st1 := fun _ => []) (fun _ => rfl) (ok_X2_add hQ c2 b x1 hb) (fun _ c3 => ?_)
      refine l1_many mt_X2_addRow (pc' := 3) (L' := [some (.ref b), some (.ref p1), none, some (.int p3), some (.int (v4 + 1))]) (st' := []) 2 rfl ?_
      exact ih c3 (v4 + 1)
set_option maxRecDepth 100000 in
theorem en_X2_addRow {Q : hS → am_H → Prop} (hQ : l1_em kc Q) (N : Nat) (c : hS) (b : Nat) (p1 : Nat) (p2 : Int32) (p3 : Int32) (hb : kc b = 1) (hp1 : kc p1 = 1) : l1_G (wN wV) Q am_i_X2_addRow 0 [some (.ref b), some (.ref p1), some (.int p2), some (.int p3)] [] c (f_X2_addRow N c b p1 p2 p3) := by
  rw [f_X2_addRow]
  refine l1_many mt_X2_addRow (pc' := 3) (L' := [some (.ref b), some (.ref p1), some (.int p2), some (.int p3), some (.int p2)]) (st' := []) 2 rfl ?_
  refine l1_weak (m := [true, true, false, true, true]) (L' := [some (.ref b), some (.ref p1), none, some (.int p3), some (.int p2)]) rfl ?_
  exact ok_X2_addRow_3 hQ N b p1 p2 p3 hb hp1 N c p2
theorem ok_X2_addRow {Q : hS → am_H → Prop} (hQ : l1_em kc Q) (N : Nat) (c : hS) (b : Nat) (p1 : Nat) (p2 : Int32) (p3 : Int32) (hb : kc b = 1) (hp1 : kc p1 = 1) : l1_T wV Q am_i_X2_addRow [.ref b, .ref p1, .int p2, .int p3] c (f_X2_addRow N c b p1 p2 p3) := l1_of (en_X2_addRow hQ N c b p1 p2 p3 hb hp1) ⟨rfl, rfl, rfl, rfl, trivial⟩
set_option maxRecDepth 100000 in
theorem en_X2_cutTo {Q : hS → am_H → Prop} (hQ : l1_em kc Q) (c : hS) (b : Nat) (p1 : Int32) (hb : kc b = 1) : l1_G (wN wV) Q am_i_X2_cutTo 0 [some (.ref b), some (.int p1)] [] c (f_X2_cutTo c b p1) := by
  rw [f_X2_cutTo]
  refine l1_many mt_X2_cutTo (pc' := bif am_cc .lt p1 0 then 17 else 4) (L' := [some (.ref b), some (.int p1)]) (st' := []) 2 rfl ?_
  refine l1_bif rfl ?_ ?_
  · exact l1_ret mt_X2_cutTo rfl rfl rfl
  · refine l1_many mt_X2_cutTo (pc' := 6) (L' := [some (.ref b), some (.int p1)]) (st' := [.ref b, .int p1]) 2 rfl ?_
    refine l1_getI hQ mt_X2_cutTo rfl (o := b) (ci := 1) (k := 1) (a := 0) (b := 0) hb rfl rfl rfl rfl ?_
    refine l1_many mt_X2_cutTo (pc' := bif am_cc .ge p1 (c.1 b 1) then 17 else 12) (L' := [some (.ref b), some (.int p1)]) (st' := []) 1 rfl ?_
    refine l1_bif rfl ?_ ?_
    · exact l1_ret mt_X2_cutTo rfl rfl rfl
    · refine l1_many mt_X2_cutTo (pc' := 14) (L' := [some (.ref b), some (.int p1)]) (st' := [.int p1, .ref b]) 2 rfl ?_
      refine l1_putI hQ mt_X2_cutTo rfl (o := b) (ci := 1) (k := 1) (a := 0) hb rfl rfl rfl rfl rfl (fun c1 => ?_)
      exact l1_ret mt_X2_cutTo rfl rfl rfl
theorem ok_X2_cutTo {Q : hS → am_H → Prop} (hQ : l1_em kc Q) (c : hS) (b : Nat) (p1 : Int32) (hb : kc b = 1) : l1_T wV Q am_i_X2_cutTo [.ref b, .int p1] c (f_X2_cutTo c b p1) := l1_of (en_X2_cutTo hQ c b p1 hb) ⟨rfl, rfl, trivial⟩
end
section
/-! THAT THE MACHINE FOLLOWS THEM, printed by gen_l1.py -/
set_option maxRecDepth 100000 in
theorem ok_X9_drop_54 {Q : hS → am_H → Prop} (hQ : l1_em kc Q) (N : Nat) (s : Nat) (p1 : Int32) (hs : kc s = 8) : ∀ (c : hS) (v2 : Nat) (hv2 : kc v2 = 6), l1_G (wN wV) Q am_i_X9_drop 54 [some (.ref s), none, some (.ref v2)] [] c (f_X9_drop_54 N s p1 c v2) := by
  intro c v2 hv2
  rw [f_X9_drop_54]
  refine l1_many mt_X9_drop (pc' := 56) (L' := [some (.ref s), none, some (.ref v2)]) (st' := [.ref s, .ref s]) 2 rfl ?_
  refine l1_getI hQ mt_X9_drop rfl (o := s) (ci := 8) (k := 1) (a := 0) (b := 0) hs rfl rfl rfl rfl ?_
  refine l1_many mt_X9_drop (pc' := 61) (L' := [some (.ref s), none, some (.ref v2)]) (st' := [.int ((c.1 s 1) - 1), .ref s]) 2 rfl ?_
  refine l1_putI hQ mt_X9_drop rfl (o := s) (ci := 8) (k := 1) (a := 0) hs rfl rfl rfl rfl rfl (fun c1 => ?_)
  refine l1_many mt_X9_drop (pc' := 65) (L' := [some (.ref s), none, some (.ref v2)]) (st' := [.ref s]) 1 rfl ?_
  refine l1_getI hQ mt_X9_drop rfl (o := s) (ci := 8) (k := 1) (a := 0) (b := 0) hs rfl rfl rfl rfl ?_
  refine l1_many mt_X9_drop (pc' := bif am_cc .lt (c1.1 s 1) 0 then 93 else 71) (L' := [some (.ref s), none, some (.ref v2)]) (st' := []) 1 rfl ?_
  refine l1_bif rfl ?_ ?_
  · exact l1_ret mt_X9_drop rfl rfl rfl
  · refine l1_many mt_X9_drop (pc' := 72) (L' := [some (.ref s), none, some (.ref v2)]) (st' := [.ref s]) 1 rfl ?_
    refine l1_getI hQ mt_X9_drop rfl (o := s) (ci := 8) (k := 1) (a := 0) (b := 0) hs rfl rfl rfl rfl ?_
    refine l1_many mt_X9_drop (pc' := 76) (L' := [some (.ref s), none, some (.ref v2)]) (st' := [.ref s, .int (c1.1 s 1)]) 1 rfl ?_
    refine l1_getR hQ mt_X9_drop rfl (o := s) (ci := 8) (k := 0) (a := 0) (b := 1) hs rfl rfl rfl rfl (q := (s + 1)) rfl ?_
    refine l1_len hQ mt_X9_drop rfl (o := (s + 1)) (ci := 24) (kc8_0 hs) rfl rfl ?_
    refine l1_many mt_X9_drop (pc' := bif am_cc .ge (c1.1 s 1) (Int32.ofNat (ln (s + 1))) then 93 else 83) (L' := [some (.ref s), none, some (.ref v2)]) (st' := []) 1 rfl ?_
    refine l1_bif rfl ?_ ?_
    · exact l1_ret mt_X9_drop rfl rfl rfl
    · refine l1_many mt_X9_drop (pc' := 84) (L' := [some (.ref s), none, some (.ref v2)]) (st' := [.ref s]) 1 rfl ?_
      refine l1_getR hQ mt_X9_drop rfl (o := s) (ci := 8) (k := 0) (a := 0) (b := 1) hs rfl rfl rfl rfl (q := (s + 1)) rfl ?_
      refine l1_many mt_X9_drop (pc' := 88) (L' := [some (.ref s), none, some (.ref v2)]) (st' := [.ref s, .ref (s + 1)]) 1 rfl ?_
      refine l1_getI hQ mt_X9_drop rfl (o := s) (ci := 8) (k := 1) (a := 0) (b := 0) hs rfl rfl rfl rfl ?_
      refine l1_many mt_X9_drop (pc' := 92) (L' := [some (.ref s), none, some (.ref v2)]) (st' := [.ref v2, .int (c1.1 s 1), .ref (s + 1)]) 1 rfl ?_
      refine l1_ck (fun hx => ?_)
      refine l1_aast hQ mt_X9_drop rfl (o := (s + 1)) (kc8_0 hs) hv2 hx (fun c2 => ?_)
      exact l1_ret mt_X9_drop rfl rfl rfl
set_option maxRecDepth 100000 in
theorem ok_X9_drop_13 {Q : hS → am_H → Prop} (hQ : l1_em kc Q) (N : Nat) (s : Nat) (p1 : Int32) (hs : kc s = 8) : ∀ n : Nat, ∀ (c : hS) (v2 : Nat) (v3 : Int32) (hv2 : kc v2 = 6), l1_G (wN wV) Q am_i_X9_drop 13 [some (.ref s), none, some (.ref v2), some (.int v3)] [] c (f_X9_drop_13 N s p1 n c v2 v3) := by
  intro n
  induction n with
  | zero => intro c v2 v3 hv2; exact l1_none
  | succ n ih =>
    intro c v2 v3 hv2
    rw [f_X9_drop_13]
    refine l1_many mt_X9_drop (pc' := 17) (L' := [some (.ref s), none, some (.ref v2), some (.int v3)]) (st' := [.ref s, .int (v3 + 1)]) 4 rfl ?_
    refine l1_getI hQ mt_X9_drop rfl (o := s) (ci := 8) (k := 1) (a := 0) (b := 0) hs rfl rfl rfl rfl ?_
    refine l1_many mt_X9_drop (pc' := bif am_cc .ge (v3 + 1) (c.1 s 1) then 54 else 23) (L' := [some (.ref s), none, some (.ref v2), some (.int v3)]) (st' := []) 1 rfl ?_
    refine l1_bif rfl ?_ ?_
    · refine l1_weak (m := [true, false, true, false]) (L' := [some (.ref s), none, some (.ref v2)]) rfl ?_
      exact ok_X9_drop_54 hQ N s p1 hs c v2 hv2
    · refine l1_many mt_X9_drop (pc' := 27) (L' := [some (.ref s), none, some (.ref v2), some (.int v3)]) (st' := [.ref s, .int (v3 + 1)]) 4 rfl ?_
      refine l1_getR hQ mt_X9_drop rfl (o := s) (ci := 8) (k := 0) (a := 0) (b := 1) hs rfl rfl rfl rfl (q := (s + 1)) rfl ?_
      refine l1_len hQ mt_X9_drop rfl (o := (s + 1)) (ci := 24) (kc8_0 hs) rfl rfl ?_
      refine l1_many mt_X9_drop (pc' := bif am_cc .ge (v3 + 1) (Int32.ofNat (ln (s + 1))) then 54 else 34) (L' := [some (.ref s), none, some (.ref v2), some (.int v3)]) (st' := []) 1 rfl ?_
      refine l1_bif rfl ?_ ?_
      · refine l1_weak (m := [true, false, true, false]) (L' := [some (.ref s), none, some (.ref v2)]) rfl ?_
        exact ok_X9_drop_54 hQ N s p1 hs c v2 hv2
      · refine l1_many mt_X9_drop (pc' := 35) (L' := [some (.ref s), none, some (.ref v2), some (.int v3)]) (st' := [.ref s]) 1 rfl ?_
        refine l1_getR hQ mt_X9_drop rfl (o := s) (ci := 8) (k := 0) (a := 0) (b := 1) hs rfl rfl rfl rfl (q := (s + 1)) rfl ?_
        refine l1_many mt_X9_drop (pc' := 40) (L' := [some (.ref s), none, some (.ref v2), some (.int v3)]) (st' := [.ref s, .int v3, .ref (s + 1)]) 2 rfl ?_
        refine l1_getR hQ mt_X9_drop rfl (o := s) (ci := 8) (k := 0) (a := 0) (b := 1) hs rfl rfl rfl rfl (q := (s + 1)) rfl ?_
        refine l1_many mt_X9_drop (pc' := 46) (L' := [some (.ref s), none, some (.ref v2), some (.int v3)]) (st' := [.int (v3 + 1), .ref (s + 1), .int v3, .ref (s + 1)]) 3 rfl ?_
        refine l1_ck (fun hx => ?_)
        refine l1_aald hQ mt_X9_drop rfl (o := (s + 1)) (kc8_0 hs) hx (fun hx1 => ?_)
        refine l1_ck (fun hx => ?_)
        refine l1_aast hQ mt_X9_drop rfl (o := (s + 1)) (kc8_0 hs) hx1 hx (fun c2 => ?_)
        refine l1_many mt_X9_drop (pc' := 13) (L' := [some (.ref s), none, some (.ref v2), some (.int (v3 + 1))]) (st' := []) 2 rfl ?_
        exact ih c2 v2 (v3 + 1) hv2
set_option maxRecDepth 100000 in
theorem en_X9_drop {Q : hS → am_H → Prop} (hQ : l1_em kc Q) (N : Nat) (c : hS) (s : Nat) (p1 : Int32) (hs : kc s = 8) : l1_G (wN wV) Q am_i_X9_drop 0 [some (.ref s), some (.int p1)] [] c (f_X9_drop N c s p1) := by
  rw [f_X9_drop]
  refine l1_many mt_X9_drop (pc' := 2) (L' := [some (.ref s), some (.int p1)]) (st' := [.int p1, .ref s]) 2 rfl ?_
  refine l1_callV hQ mt_X9_drop mt_X9_member rfl rfl (o := s) (ci := 8) (As := [.int p1]) (rest := []) rfl rfl hs rfl rfl rfl (st1 := fun x1 => l1_mv x1 :: []) (fun _ => rfl) (ok_X9_member hQ c s p1 hs) (fun x1 c2 => ?_)
  refine l1_opt (x := x1) ?_ (fun y3 => ?_)
  · refine l1_many mt_X9_drop (pc' := 10) (L' := [some (.ref s), some (.int p1), some (.null)]) (st' := []) 3 rfl ?_
    exact l1_ret mt_X9_drop rfl rfl rfl
  · refine l1_ck (fun hy => ?_)
    have hy3 : kc y3 = 6 := Nat.eq_of_beq_eq_true hy
    refine l1_many mt_X9_drop (pc' := 13) (L' := [some (.ref s), some (.int p1), some (.ref y3), some (.int p1)]) (st' := []) 5 rfl ?_
    refine l1_weak (m := [true, false, true, true]) (L' := [some (.ref s), none, some (.ref y3), some (.int p1)]) rfl ?_
    exact ok_X9_drop_13 hQ N s p1 hs N c2 y3 p1 hy3
theorem ok_X9_drop {Q : hS → am_H → Prop} (hQ : l1_em kc Q) (N : Nat) (c : hS) (s : Nat) (p1 : Int32) (hs : kc s = 8) : l1_T wV Q am_i_X9_drop [.ref s, .int p1] c (f_X9_drop N c s p1) := l1_of (en_X9_drop hQ N c s p1 hs) ⟨rfl, rfl, trivial⟩
set_option maxRecDepth 100000 in
theorem en_X9_take {Q : hS → am_H → Prop} (hQ : l1_em kc Q) (N : Nat) (c : hS) (s : Nat) (p1 : Nat) (p2 : Int32) (p3 : Nat) (p4 : Int32) (p5 : Int32) (hs : kc s = 8) (hp1 : kc p1 = 1) (hp3 : kc p3 = 1) : l1_G (wN wV) Q am_i_X9_take 0 [some (.ref s), some (.ref p1), some (.int p2), some (.ref p3), some (.int p4), some (.int p5)] [] c (f_X9_take N c s p1 p2 p3 p4 p5) := by
  rw [f_X9_take]
  refine l1_many mt_X9_take (pc' := 3) (L' := [some (.ref s), some (.ref p1), some (.int p2), some (.ref p3), some (.int p4), some (.int p5)]) (st' := [.ref p1, .ref s, .ref s]) 3 rfl ?_
  refine l1_callV hQ mt_X9_take mt_X9_find rfl rfl (o := s) (ci := 8) (As := [.ref p1]) (rest := [.ref s]) rfl rfl hs rfl rfl rfl (st1 := fun x1 => [.int x1, .ref s]) (fun _ => rfl) (ok_X9_find hQ N c s p1 hs hp1) (fun x1 c2 => ?_)
  refine l1_callV hQ mt_X9_take mt_X9_drop rfl rfl (o := s) (ci := 8) (As := [.int x1]) (rest := []) rfl rfl hs rfl rfl rfl (st1 := fun _ => []) (fun _ => rfl) (ok_X9_drop hQ N c2 s x1 hs) (fun _ c3 => ?_)
  refine l1_many mt_X9_take (pc' := 10) (L' := [some (.ref s), some (.ref p1), some (.int p2), some (.ref p3), some (.int p4), some (.int p5)]) (st' := [.ref s]) 1 rfl ?_
  refine l1_getI hQ mt_X9_take rfl (o := s) (ci := 8) (k := 1) (a := 0) (b := 0) hs rfl rfl rfl rfl ?_
  refine l1_many mt_X9_take (pc' := bif am_cc .lt (c3.1 s 1) 0 then 28 else 16) (L' := [some (.ref s), some (.ref p1), some (.int p2), some (.ref p3), some (.int p4), some (.int p5)]) (st' := []) 1 rfl ?_
  refine l1_bif rfl ?_ ?_
  · exact l1_ret mt_X9_take rfl rfl rfl
  · refine l1_many mt_X9_take (pc' := 17) (L' := [some (.ref s), some (.ref p1), some (.int p2), some (.ref p3), some (.int p4), some (.int p5)]) (st' := [.ref s]) 1 rfl ?_
    refine l1_getI hQ mt_X9_take rfl (o := s) (ci := 8) (k := 1) (a := 0) (b := 0) hs rfl rfl rfl rfl ?_
    refine l1_many mt_X9_take (pc' := 21) (L' := [some (.ref s), some (.ref p1), some (.int p2), some (.ref p3), some (.int p4), some (.int p5)]) (st' := [.ref s, .int (c3.1 s 1)]) 1 rfl ?_
    refine l1_getR hQ mt_X9_take rfl (o := s) (ci := 8) (k := 0) (a := 0) (b := 1) hs rfl rfl rfl rfl (q := (s + 1)) rfl ?_
    refine l1_len hQ mt_X9_take rfl (o := (s + 1)) (ci := 24) (kc8_0 hs) rfl rfl ?_
    refine l1_many mt_X9_take (pc' := bif am_cc .lt (c3.1 s 1) (Int32.ofNat (ln (s + 1))) then 29 else 28) (L' := [some (.ref s), some (.ref p1), some (.int p2), some (.ref p3), some (.int p4), some (.int p5)]) (st' := []) 1 rfl ?_
    refine l1_bif rfl ?_ ?_
    · refine l1_many mt_X9_take (pc' := 31) (L' := [some (.ref s), some (.ref p1), some (.int p2), some (.ref p3), some (.int p4), some (.int p5)]) (st' := [.ref s, .ref s]) 2 rfl ?_
      refine l1_getI hQ mt_X9_take rfl (o := s) (ci := 8) (k := 1) (a := 0) (b := 0) hs rfl rfl rfl rfl ?_
      refine l1_many mt_X9_take (pc' := 36) (L' := [some (.ref s), some (.ref p1), some (.int p2), some (.ref p3), some (.int p4), some (.int p5)]) (st' := [.int ((c3.1 s 1) + 1), .ref s]) 2 rfl ?_
      refine l1_putI hQ mt_X9_take rfl (o := s) (ci := 8) (k := 1) (a := 0) hs rfl rfl rfl rfl rfl (fun c4 => ?_)
      refine l1_many mt_X9_take (pc' := 41) (L' := [some (.ref s), some (.ref p1), some (.int p2), some (.ref p3), some (.int p4), some (.int p5)]) (st' := [.ref s, .ref s]) 2 rfl ?_
      refine l1_getI hQ mt_X9_take rfl (o := s) (ci := 8) (k := 1) (a := 0) (b := 0) hs rfl rfl rfl rfl ?_
      refine l1_many mt_X9_take (pc' := 46) (L' := [some (.ref s), some (.ref p1), some (.int p2), some (.ref p3), some (.int p4), some (.int p5)]) (st' := [.int ((c4.1 s 1) - 1), .ref s]) 2 rfl ?_
      refine l1_callV hQ mt_X9_take mt_X9_member rfl rfl (o := s) (ci := 8) (As := [.int ((c4.1 s 1) - 1)]) (rest := []) rfl rfl hs rfl rfl rfl (st1 := fun x5 => l1_mv x5 :: []) (fun _ => rfl) (ok_X9_member hQ c4 s ((c4.1 s 1) - 1) hs) (fun x5 c6 => ?_)
      refine l1_opt (x := x5) ?_ (fun y7 => ?_)
      · refine l1_many mt_X9_take (pc' := 107) (L' := [some (.ref s), some (.ref p1), some (.int p2), some (.ref p3), some (.int p4), some (.int p5), some (.null)]) (st' := []) 3 rfl ?_
        exact l1_ret mt_X9_take rfl rfl rfl
      · refine l1_ck (fun hy => ?_)
        have hy7 : kc y7 = 6 := Nat.eq_of_beq_eq_true hy
        refine l1_many mt_X9_take (pc' := 58) (L' := [some (.ref s), some (.ref p1), some (.int p2), some (.ref p3), some (.int p4), some (.int p5), some (.ref y7)]) (st' := [.ref y7]) 4 rfl ?_
        refine l1_getR hQ mt_X9_take rfl (o := y7) (ci := 6) (k := 0) (a := 2) (b := 2) hy7 rfl rfl rfl rfl (q := (y7 + 1)) rfl ?_
        refine l1_many mt_X9_take (pc' := 62) (L' := [some (.ref s), some (.ref p1), some (.int p2), some (.ref p3), some (.int p4), some (.int p5), some (.ref y7)]) (st' := [.int 0, .ref (y7 + 1)]) 1 rfl ?_
        refine l1_callV hQ mt_X9_take mt_X2_cutTo rfl rfl (o := (y7 + 1)) (ci := 1) (As := [.int 0]) (rest := []) rfl rfl (kc6_0 hy7) rfl rfl rfl (st1 := fun _ => []) (fun _ => rfl) (ok_X2_cutTo hQ c6 (y7 + 1) 0 (kc6_0 hy7)) (fun _ c8 => ?_)
        refine l1_many mt_X9_take (pc' := 67) (L' := [some (.ref s), some (.ref p1), some (.int p2), some (.ref p3), some (.int p4), some (.int p5), some (.ref y7)]) (st' := [.ref y7]) 1 rfl ?_
        refine l1_getR hQ mt_X9_take rfl (o := y7) (ci := 6) (k := 0) (a := 2) (b := 2) hy7 rfl rfl rfl rfl (q := (y7 + 1)) rfl ?_
        refine l1_many mt_X9_take (pc' := 73) (L' := [some (.ref s), some (.ref p1), some (.int p2), some (.ref p3), some (.int p4), some (.int p5), some (.ref y7)]) (st' := [.ref p1, .int 0, .ref p1, .ref (y7 + 1)]) 3 rfl ?_
        refine l1_callV hQ mt_X9_take mt_X2_size rfl rfl (o := p1) (ci := 1) (As := []) (rest := [.int 0, .ref p1, .ref (y7 + 1)]) rfl rfl hp1 rfl rfl rfl (st1 := fun x9 => [.int x9, .int 0, .ref p1, .ref (y7 + 1)]) (fun _ => rfl) (ok_X2_size hQ c8 p1 hp1) (fun x9 c10 => ?_)
        refine l1_callV hQ mt_X9_take mt_X2_addRow rfl rfl (o := (y7 + 1)) (ci := 1) (As := [.ref p1, .int 0, .int x9]) (rest := []) rfl rfl (kc6_0 hy7) rfl rfl rfl (st1 := fun _ => []) (fun _ => rfl) (ok_X2_addRow hQ N c10 (y7 + 1) p1 0 x9 (kc6_0 hy7) hp1) (fun _ c11 => ?_)
        refine l1_many mt_X9_take (pc' := 81) (L' := [some (.ref s), some (.ref p1), some (.int p2), some (.ref p3), some (.int p4), some (.int p5), some (.ref y7)]) (st' := [.ref y7]) 1 rfl ?_
        refine l1_getR hQ mt_X9_take rfl (o := y7) (ci := 6) (k := 1) (a := 2) (b := 2) hy7 rfl rfl rfl rfl (q := (y7 + 3)) rfl ?_
        refine l1_many mt_X9_take (pc' := 85) (L' := [some (.ref s), some (.ref p1), some (.int p2), some (.ref p3), some (.int p4), some (.int p5), some (.ref y7)]) (st' := [.int 0, .ref (y7 + 3)]) 1 rfl ?_
        refine l1_callV hQ mt_X9_take mt_X2_cutTo rfl rfl (o := (y7 + 3)) (ci := 1) (As := [.int 0]) (rest := []) rfl rfl (kc6_1 hy7) rfl rfl rfl (st1 := fun _ => []) (fun _ => rfl) (ok_X2_cutTo hQ c11 (y7 + 3) 0 (kc6_1 hy7)) (fun _ c12 => ?_)
        refine l1_many mt_X9_take (pc' := 90) (L' := [some (.ref s), some (.ref p1), some (.int p2), some (.ref p3), some (.int p4), some (.int p5), some (.ref y7)]) (st' := [.ref y7]) 1 rfl ?_
        refine l1_getR hQ mt_X9_take rfl (o := y7) (ci := 6) (k := 1) (a := 2) (b := 2) hy7 rfl rfl rfl rfl (q := (y7 + 3)) rfl ?_
        refine l1_many mt_X9_take (pc' := 98) (L' := [some (.ref s), some (.ref p1), some (.int p2), some (.ref p3), some (.int p4), some (.int p5), some (.ref y7)]) (st' := [.int p5, .int p4, .ref p3, .ref (y7 + 3)]) 3 rfl ?_
        refine l1_callV hQ mt_X9_take mt_X2_addRow rfl rfl (o := (y7 + 3)) (ci := 1) (As := [.ref p3, .int p4, .int p5]) (rest := []) rfl rfl (kc6_1 hy7) rfl rfl rfl (st1 := fun _ => []) (fun _ => rfl) (ok_X2_addRow hQ N c12 (y7 + 3) p3 p4 p5 (kc6_1 hy7) hp3) (fun _ c13 => ?_)
        refine l1_many mt_X9_take (pc' := 104) (L' := [some (.ref s), some (.ref p1), some (.int p2), some (.ref p3), some (.int p4), some (.int p5), some (.ref y7)]) (st' := [.int p2, .ref y7]) 2 rfl ?_
        refine l1_ck (fun hz => ?_)
        refine l1_putI hQ mt_X9_take rfl (o := y7) (ci := 6) (k := 2) (a := 2) hy7 rfl rfl rfl rfl (l1_fz (ci := 6) (j := 2) rfl hz) (fun c14 => ?_)
        exact l1_ret mt_X9_take rfl rfl rfl
    · exact l1_ret mt_X9_take rfl rfl rfl
theorem ok_X9_take {Q : hS → am_H → Prop} (hQ : l1_em kc Q) (N : Nat) (c : hS) (s : Nat) (p1 : Nat) (p2 : Int32) (p3 : Nat) (p4 : Int32) (p5 : Int32) (hs : kc s = 8) (hp1 : kc p1 = 1) (hp3 : kc p3 = 1) : l1_T wV Q am_i_X9_take [.ref s, .ref p1, .int p2, .ref p3, .int p4, .int p5] c (f_X9_take N c s p1 p2 p3 p4 p5) := l1_of (en_X9_take hQ N c s p1 p2 p3 p4 p5 hs hp1 hp3) ⟨rfl, rfl, rfl, rfl, rfl, rfl, trivial⟩
set_option maxRecDepth 100000 in
theorem ok_X0_arrives_34_23 {Q : hS → am_H → Prop} (hQ : l1_em kc Q) (N : Nat) (p1 : Nat) (p2 : Int32) (p3 : Nat) (p4 : Int32) (p5 : Int32) (p6 : Int32) (hp1 : kc p1 = 8) (hp3 : kc p3 = 1) : ∀ (c : hS), l1_G (wN wI) Q am_i_X0_arrives 23 [some (.ref 34), none, none, none, none, none, some (.int p6)] [] c (f_X0_arrives_23 N p1 p2 p3 p4 p5 p6 c) := by
  intro c
  rw [f_X0_arrives_23]
  refine l1_many mt_X0_arrives (pc' := 24) (L' := [some (.ref 34), none, none, none, none, none, some (.int p6)]) (st' := [.ref 34]) 1 rfl ?_
  refine l1_getR hQ mt_X0_arrives rfl (o := 34) (ci := 0) (k := 2) (a := 0) (b := 1) rfl rfl rfl rfl rfl (q := 9) rfl ?_
  refine l1_many mt_X0_arrives (pc' := 31) (L' := [some (.ref 34), none, none, none, none, none, some (.int p6)]) (st' := [.int p6, .int 11, .ref 9]) 2 rfl ?_
  refine l1_callV hQ mt_X0_arrives mt_X6_tell rfl rfl (o := 9) (ci := 5) (As := [.int 11, .int p6]) (rest := []) rfl rfl rfl rfl rfl rfl (st1 := fun x1 => [.int x1]) (fun _ => rfl) (ok_X6_tell hQ c 11 p6) (fun x1 c2 => ?_)
  refine l1_ck (fun hz => ?_)
  exact l1_retZ mt_X0_arrives rfl rfl rfl hz
set_option maxRecDepth 100000 in
theorem en_X0_arrives_34 {Q : hS → am_H → Prop} (hQ : l1_em kc Q) (N : Nat) (c : hS) (p1 : Nat) (p2 : Int32) (p3 : Nat) (p4 : Int32) (p5 : Int32) (p6 : Int32) (hp1 : kc p1 = 8) (hp3 : kc p3 = 1) : l1_G (wN wI) Q am_i_X0_arrives 0 [some (.ref 34), some (.ref p1), some (.int p2), some (.ref p3), some (.int p4), some (.int p5), some (.int p6)] [] c (f_X0_arrives N c p1 p2 p3 p4 p5 p6) := by
  rw [f_X0_arrives]
  refine l1_many mt_X0_arrives (pc' := 2) (L' := [some (.ref 34), some (.ref p1), some (.int p2), some (.ref p3), some (.int p4), some (.int p5), some (.int p6)]) (st' := [.ref 34, .ref p1]) 2 rfl ?_
  refine l1_getR hQ mt_X0_arrives rfl (o := 34) (ci := 0) (k := 1) (a := 0) (b := 1) rfl rfl rfl rfl rfl (q := 5) rfl ?_
  refine l1_many mt_X0_arrives (pc' := 6) (L' := [some (.ref 34), some (.ref p1), some (.int p2), some (.ref p3), some (.int p4), some (.int p5), some (.int p6)]) (st' := [.int p2, .ref 5, .ref p1]) 1 rfl ?_
  refine l1_callV hQ mt_X0_arrives mt_X9_isInTheWay rfl rfl (o := p1) (ci := 8) (As := [.ref 5, .int p2]) (rest := []) rfl rfl hp1 rfl rfl rfl (st1 := fun x1 => [.int x1]) (fun _ => rfl) (ok_X9_isInTheWay hQ N c p1 5 p2 hp1 rfl) (fun x1 c2 => ?_)
  refine l1_many mt_X0_arrives (pc' := bif am_cc .ne x1 0 then 23 else 12) (L' := [some (.ref 34), some (.ref p1), some (.int p2), some (.ref p3), some (.int p4), some (.int p5), some (.int p6)]) (st' := []) 1 rfl ?_
  refine l1_bin rfl ?_ ?_
  · refine l1_many mt_X0_arrives (pc' := 14) (L' := [some (.ref 34), some (.ref p1), some (.int p2), some (.ref p3), some (.int p4), some (.int p5), some (.int p6)]) (st' := [.ref 34, .ref p1]) 2 rfl ?_
    refine l1_getR hQ mt_X0_arrives rfl (o := 34) (ci := 0) (k := 1) (a := 0) (b := 1) rfl rfl rfl rfl rfl (q := 5) rfl ?_
    refine l1_callV hQ mt_X0_arrives mt_X9_hasRoomFor rfl rfl (o := p1) (ci := 8) (As := [.ref 5]) (rest := []) rfl rfl hp1 rfl rfl rfl (st1 := fun x3 => [.int x3]) (fun _ => rfl) (ok_X9_hasRoomFor hQ N c2 p1 5 hp1 rfl) (fun x3 c4 => ?_)
    refine l1_many mt_X0_arrives (pc' := bif am_cc .ne x3 0 then 35 else 23) (L' := [some (.ref 34), some (.ref p1), some (.int p2), some (.ref p3), some (.int p4), some (.int p5), some (.int p6)]) (st' := []) 1 rfl ?_
    refine l1_bin rfl ?_ ?_
    · refine l1_weak (m := [true, false, false, false, false, false, true]) (L' := [some (.ref 34), none, none, none, none, none, some (.int p6)]) rfl ?_
      exact ok_X0_arrives_34_23 hQ N p1 p2 p3 p4 p5 p6 hp1 hp3 c4
    · refine l1_many mt_X0_arrives (pc' := 37) (L' := [some (.ref 34), some (.ref p1), some (.int p2), some (.ref p3), some (.int p4), some (.int p5), some (.int p6)]) (st' := [.ref 34, .ref p1]) 2 rfl ?_
      refine l1_getR hQ mt_X0_arrives rfl (o := 34) (ci := 0) (k := 1) (a := 0) (b := 1) rfl rfl rfl rfl rfl (q := 5) rfl ?_
      refine l1_many mt_X0_arrives (pc' := 46) (L' := [some (.ref 34), some (.ref p1), some (.int p2), some (.ref p3), some (.int p4), some (.int p5), some (.int p6)]) (st' := [.int p5, .int p4, .ref p3, .int p2, .ref 5, .ref p1]) 4 rfl ?_
      refine l1_callV hQ mt_X0_arrives mt_X9_take rfl rfl (o := p1) (ci := 8) (As := [.ref 5, .int p2, .ref p3, .int p4, .int p5]) (rest := []) rfl rfl hp1 rfl rfl rfl (st1 := fun _ => []) (fun _ => rfl) (ok_X9_take hQ N c4 p1 5 p2 p3 p4 p5 hp1 rfl hp3) (fun _ c5 => ?_)
      refine l1_many mt_X0_arrives (pc' := 50) (L' := [some (.ref 34), some (.ref p1), some (.int p2), some (.ref p3), some (.int p4), some (.int p5), some (.int p6)]) (st' := [.int 1]) 1 rfl ?_
      exact l1_ret mt_X0_arrives rfl rfl rfl
  · refine l1_weak (m := [true, false, false, false, false, false, true]) (L' := [some (.ref 34), none, none, none, none, none, some (.int p6)]) rfl ?_
    exact ok_X0_arrives_34_23 hQ N p1 p2 p3 p4 p5 p6 hp1 hp3 c2
theorem ok_X0_arrives_34 {Q : hS → am_H → Prop} (hQ : l1_em kc Q) (N : Nat) (c : hS) (p1 : Nat) (p2 : Int32) (p3 : Nat) (p4 : Int32) (p5 : Int32) (p6 : Int32) (hp1 : kc p1 = 8) (hp3 : kc p3 = 1) : l1_T wI Q am_i_X0_arrives [.ref 34, .ref p1, .int p2, .ref p3, .int p4, .int p5, .int p6] c (f_X0_arrives N c p1 p2 p3 p4 p5 p6) := l1_of (en_X0_arrives_34 hQ N c p1 p2 p3 p4 p5 p6 hp1 hp3) ⟨rfl, rfl, rfl, rfl, rfl, rfl, rfl, trivial⟩
set_option maxRecDepth 100000 in
theorem ok_X0_arrives_35_23 {Q : hS → am_H → Prop} (hQ : l1_em kc Q) (N : Nat) (p1 : Nat) (p2 : Int32) (p3 : Nat) (p4 : Int32) (p5 : Int32) (p6 : Int32) (hp1 : kc p1 = 8) (hp3 : kc p3 = 1) : ∀ (c : hS), l1_G (wN wI) Q am_i_X0_arrives 23 [some (.ref 35), none, none, none, none, none, some (.int p6)] [] c (f_X0_arrives_23 N p1 p2 p3 p4 p5 p6 c) := by
  intro c
  rw [f_X0_arrives_23]
  refine l1_many mt_X0_arrives (pc' := 24) (L' := [some (.ref 35), none, none, none, none, none, some (.int p6)]) (st' := [.ref 35]) 1 rfl ?_
  refine l1_getR hQ mt_X0_arrives rfl (o := 35) (ci := 3) (k := 2) (a := 0) (b := 1) rfl rfl rfl rfl rfl (q := 9) rfl ?_
  refine l1_many mt_X0_arrives (pc' := 31) (L' := [some (.ref 35), none, none, none, none, none, some (.int p6)]) (st' := [.int p6, .int 11, .ref 9]) 2 rfl ?_
  refine l1_callV hQ mt_X0_arrives mt_X6_tell rfl rfl (o := 9) (ci := 5) (As := [.int 11, .int p6]) (rest := []) rfl rfl rfl rfl rfl rfl (st1 := fun x1 => [.int x1]) (fun _ => rfl) (ok_X6_tell hQ c 11 p6) (fun x1 c2 => ?_)
  refine l1_ck (fun hz => ?_)
  exact l1_retZ mt_X0_arrives rfl rfl rfl hz
set_option maxRecDepth 100000 in
theorem en_X0_arrives_35 {Q : hS → am_H → Prop} (hQ : l1_em kc Q) (N : Nat) (c : hS) (p1 : Nat) (p2 : Int32) (p3 : Nat) (p4 : Int32) (p5 : Int32) (p6 : Int32) (hp1 : kc p1 = 8) (hp3 : kc p3 = 1) : l1_G (wN wI) Q am_i_X0_arrives 0 [some (.ref 35), some (.ref p1), some (.int p2), some (.ref p3), some (.int p4), some (.int p5), some (.int p6)] [] c (f_X0_arrives N c p1 p2 p3 p4 p5 p6) := by
  rw [f_X0_arrives]
  refine l1_many mt_X0_arrives (pc' := 2) (L' := [some (.ref 35), some (.ref p1), some (.int p2), some (.ref p3), some (.int p4), some (.int p5), some (.int p6)]) (st' := [.ref 35, .ref p1]) 2 rfl ?_
  refine l1_getR hQ mt_X0_arrives rfl (o := 35) (ci := 3) (k := 1) (a := 0) (b := 1) rfl rfl rfl rfl rfl (q := 5) rfl ?_
  refine l1_many mt_X0_arrives (pc' := 6) (L' := [some (.ref 35), some (.ref p1), some (.int p2), some (.ref p3), some (.int p4), some (.int p5), some (.int p6)]) (st' := [.int p2, .ref 5, .ref p1]) 1 rfl ?_
  refine l1_callV hQ mt_X0_arrives mt_X9_isInTheWay rfl rfl (o := p1) (ci := 8) (As := [.ref 5, .int p2]) (rest := []) rfl rfl hp1 rfl rfl rfl (st1 := fun x1 => [.int x1]) (fun _ => rfl) (ok_X9_isInTheWay hQ N c p1 5 p2 hp1 rfl) (fun x1 c2 => ?_)
  refine l1_many mt_X0_arrives (pc' := bif am_cc .ne x1 0 then 23 else 12) (L' := [some (.ref 35), some (.ref p1), some (.int p2), some (.ref p3), some (.int p4), some (.int p5), some (.int p6)]) (st' := []) 1 rfl ?_
  refine l1_bin rfl ?_ ?_
  · refine l1_many mt_X0_arrives (pc' := 14) (L' := [some (.ref 35), some (.ref p1), some (.int p2), some (.ref p3), some (.int p4), some (.int p5), some (.int p6)]) (st' := [.ref 35, .ref p1]) 2 rfl ?_
    refine l1_getR hQ mt_X0_arrives rfl (o := 35) (ci := 3) (k := 1) (a := 0) (b := 1) rfl rfl rfl rfl rfl (q := 5) rfl ?_
    refine l1_callV hQ mt_X0_arrives mt_X9_hasRoomFor rfl rfl (o := p1) (ci := 8) (As := [.ref 5]) (rest := []) rfl rfl hp1 rfl rfl rfl (st1 := fun x3 => [.int x3]) (fun _ => rfl) (ok_X9_hasRoomFor hQ N c2 p1 5 hp1 rfl) (fun x3 c4 => ?_)
    refine l1_many mt_X0_arrives (pc' := bif am_cc .ne x3 0 then 35 else 23) (L' := [some (.ref 35), some (.ref p1), some (.int p2), some (.ref p3), some (.int p4), some (.int p5), some (.int p6)]) (st' := []) 1 rfl ?_
    refine l1_bin rfl ?_ ?_
    · refine l1_weak (m := [true, false, false, false, false, false, true]) (L' := [some (.ref 35), none, none, none, none, none, some (.int p6)]) rfl ?_
      exact ok_X0_arrives_35_23 hQ N p1 p2 p3 p4 p5 p6 hp1 hp3 c4
    · refine l1_many mt_X0_arrives (pc' := 37) (L' := [some (.ref 35), some (.ref p1), some (.int p2), some (.ref p3), some (.int p4), some (.int p5), some (.int p6)]) (st' := [.ref 35, .ref p1]) 2 rfl ?_
      refine l1_getR hQ mt_X0_arrives rfl (o := 35) (ci := 3) (k := 1) (a := 0) (b := 1) rfl rfl rfl rfl rfl (q := 5) rfl ?_
      refine l1_many mt_X0_arrives (pc' := 46) (L' := [some (.ref 35), some (.ref p1), some (.int p2), some (.ref p3), some (.int p4), some (.int p5), some (.int p6)]) (st' := [.int p5, .int p4, .ref p3, .int p2, .ref 5, .ref p1]) 4 rfl ?_
      refine l1_callV hQ mt_X0_arrives mt_X9_take rfl rfl (o := p1) (ci := 8) (As := [.ref 5, .int p2, .ref p3, .int p4, .int p5]) (rest := []) rfl rfl hp1 rfl rfl rfl (st1 := fun _ => []) (fun _ => rfl) (ok_X9_take hQ N c4 p1 5 p2 p3 p4 p5 hp1 rfl hp3) (fun _ c5 => ?_)
      refine l1_many mt_X0_arrives (pc' := 50) (L' := [some (.ref 35), some (.ref p1), some (.int p2), some (.ref p3), some (.int p4), some (.int p5), some (.int p6)]) (st' := [.int 1]) 1 rfl ?_
      exact l1_ret mt_X0_arrives rfl rfl rfl
  · refine l1_weak (m := [true, false, false, false, false, false, true]) (L' := [some (.ref 35), none, none, none, none, none, some (.int p6)]) rfl ?_
    exact ok_X0_arrives_35_23 hQ N p1 p2 p3 p4 p5 p6 hp1 hp3 c2
theorem ok_X0_arrives_35 {Q : hS → am_H → Prop} (hQ : l1_em kc Q) (N : Nat) (c : hS) (p1 : Nat) (p2 : Int32) (p3 : Nat) (p4 : Int32) (p5 : Int32) (p6 : Int32) (hp1 : kc p1 = 8) (hp3 : kc p3 = 1) : l1_T wI Q am_i_X0_arrives [.ref 35, .ref p1, .int p2, .ref p3, .int p4, .int p5, .int p6] c (f_X0_arrives N c p1 p2 p3 p4 p5 p6) := l1_of (en_X0_arrives_35 hQ N c p1 p2 p3 p4 p5 p6 hp1 hp3) ⟨rfl, rfl, rfl, rfl, rfl, rfl, rfl, trivial⟩
set_option maxRecDepth 100000 in
theorem ok_X0_arrives_36_23 {Q : hS → am_H → Prop} (hQ : l1_em kc Q) (N : Nat) (p1 : Nat) (p2 : Int32) (p3 : Nat) (p4 : Int32) (p5 : Int32) (p6 : Int32) (hp1 : kc p1 = 8) (hp3 : kc p3 = 1) : ∀ (c : hS), l1_G (wN wI) Q am_i_X0_arrives 23 [some (.ref 36), none, none, none, none, none, some (.int p6)] [] c (f_X0_arrives_23 N p1 p2 p3 p4 p5 p6 c) := by
  intro c
  rw [f_X0_arrives_23]
  refine l1_many mt_X0_arrives (pc' := 24) (L' := [some (.ref 36), none, none, none, none, none, some (.int p6)]) (st' := [.ref 36]) 1 rfl ?_
  refine l1_getR hQ mt_X0_arrives rfl (o := 36) (ci := 4) (k := 2) (a := 0) (b := 1) rfl rfl rfl rfl rfl (q := 9) rfl ?_
  refine l1_many mt_X0_arrives (pc' := 31) (L' := [some (.ref 36), none, none, none, none, none, some (.int p6)]) (st' := [.int p6, .int 11, .ref 9]) 2 rfl ?_
  refine l1_callV hQ mt_X0_arrives mt_X6_tell rfl rfl (o := 9) (ci := 5) (As := [.int 11, .int p6]) (rest := []) rfl rfl rfl rfl rfl rfl (st1 := fun x1 => [.int x1]) (fun _ => rfl) (ok_X6_tell hQ c 11 p6) (fun x1 c2 => ?_)
  refine l1_ck (fun hz => ?_)
  exact l1_retZ mt_X0_arrives rfl rfl rfl hz
set_option maxRecDepth 100000 in
theorem en_X0_arrives_36 {Q : hS → am_H → Prop} (hQ : l1_em kc Q) (N : Nat) (c : hS) (p1 : Nat) (p2 : Int32) (p3 : Nat) (p4 : Int32) (p5 : Int32) (p6 : Int32) (hp1 : kc p1 = 8) (hp3 : kc p3 = 1) : l1_G (wN wI) Q am_i_X0_arrives 0 [some (.ref 36), some (.ref p1), some (.int p2), some (.ref p3), some (.int p4), some (.int p5), some (.int p6)] [] c (f_X0_arrives N c p1 p2 p3 p4 p5 p6) := by
  rw [f_X0_arrives]
  refine l1_many mt_X0_arrives (pc' := 2) (L' := [some (.ref 36), some (.ref p1), some (.int p2), some (.ref p3), some (.int p4), some (.int p5), some (.int p6)]) (st' := [.ref 36, .ref p1]) 2 rfl ?_
  refine l1_getR hQ mt_X0_arrives rfl (o := 36) (ci := 4) (k := 1) (a := 0) (b := 1) rfl rfl rfl rfl rfl (q := 5) rfl ?_
  refine l1_many mt_X0_arrives (pc' := 6) (L' := [some (.ref 36), some (.ref p1), some (.int p2), some (.ref p3), some (.int p4), some (.int p5), some (.int p6)]) (st' := [.int p2, .ref 5, .ref p1]) 1 rfl ?_
  refine l1_callV hQ mt_X0_arrives mt_X9_isInTheWay rfl rfl (o := p1) (ci := 8) (As := [.ref 5, .int p2]) (rest := []) rfl rfl hp1 rfl rfl rfl (st1 := fun x1 => [.int x1]) (fun _ => rfl) (ok_X9_isInTheWay hQ N c p1 5 p2 hp1 rfl) (fun x1 c2 => ?_)
  refine l1_many mt_X0_arrives (pc' := bif am_cc .ne x1 0 then 23 else 12) (L' := [some (.ref 36), some (.ref p1), some (.int p2), some (.ref p3), some (.int p4), some (.int p5), some (.int p6)]) (st' := []) 1 rfl ?_
  refine l1_bin rfl ?_ ?_
  · refine l1_many mt_X0_arrives (pc' := 14) (L' := [some (.ref 36), some (.ref p1), some (.int p2), some (.ref p3), some (.int p4), some (.int p5), some (.int p6)]) (st' := [.ref 36, .ref p1]) 2 rfl ?_
    refine l1_getR hQ mt_X0_arrives rfl (o := 36) (ci := 4) (k := 1) (a := 0) (b := 1) rfl rfl rfl rfl rfl (q := 5) rfl ?_
    refine l1_callV hQ mt_X0_arrives mt_X9_hasRoomFor rfl rfl (o := p1) (ci := 8) (As := [.ref 5]) (rest := []) rfl rfl hp1 rfl rfl rfl (st1 := fun x3 => [.int x3]) (fun _ => rfl) (ok_X9_hasRoomFor hQ N c2 p1 5 hp1 rfl) (fun x3 c4 => ?_)
    refine l1_many mt_X0_arrives (pc' := bif am_cc .ne x3 0 then 35 else 23) (L' := [some (.ref 36), some (.ref p1), some (.int p2), some (.ref p3), some (.int p4), some (.int p5), some (.int p6)]) (st' := []) 1 rfl ?_
    refine l1_bin rfl ?_ ?_
    · refine l1_weak (m := [true, false, false, false, false, false, true]) (L' := [some (.ref 36), none, none, none, none, none, some (.int p6)]) rfl ?_
      exact ok_X0_arrives_36_23 hQ N p1 p2 p3 p4 p5 p6 hp1 hp3 c4
    · refine l1_many mt_X0_arrives (pc' := 37) (L' := [some (.ref 36), some (.ref p1), some (.int p2), some (.ref p3), some (.int p4), some (.int p5), some (.int p6)]) (st' := [.ref 36, .ref p1]) 2 rfl ?_
      refine l1_getR hQ mt_X0_arrives rfl (o := 36) (ci := 4) (k := 1) (a := 0) (b := 1) rfl rfl rfl rfl rfl (q := 5) rfl ?_
      refine l1_many mt_X0_arrives (pc' := 46) (L' := [some (.ref 36), some (.ref p1), some (.int p2), some (.ref p3), some (.int p4), some (.int p5), some (.int p6)]) (st' := [.int p5, .int p4, .ref p3, .int p2, .ref 5, .ref p1]) 4 rfl ?_
      refine l1_callV hQ mt_X0_arrives mt_X9_take rfl rfl (o := p1) (ci := 8) (As := [.ref 5, .int p2, .ref p3, .int p4, .int p5]) (rest := []) rfl rfl hp1 rfl rfl rfl (st1 := fun _ => []) (fun _ => rfl) (ok_X9_take hQ N c4 p1 5 p2 p3 p4 p5 hp1 rfl hp3) (fun _ c5 => ?_)
      refine l1_many mt_X0_arrives (pc' := 50) (L' := [some (.ref 36), some (.ref p1), some (.int p2), some (.ref p3), some (.int p4), some (.int p5), some (.int p6)]) (st' := [.int 1]) 1 rfl ?_
      exact l1_ret mt_X0_arrives rfl rfl rfl
  · refine l1_weak (m := [true, false, false, false, false, false, true]) (L' := [some (.ref 36), none, none, none, none, none, some (.int p6)]) rfl ?_
    exact ok_X0_arrives_36_23 hQ N p1 p2 p3 p4 p5 p6 hp1 hp3 c2
theorem ok_X0_arrives_36 {Q : hS → am_H → Prop} (hQ : l1_em kc Q) (N : Nat) (c : hS) (p1 : Nat) (p2 : Int32) (p3 : Nat) (p4 : Int32) (p5 : Int32) (p6 : Int32) (hp1 : kc p1 = 8) (hp3 : kc p3 = 1) : l1_T wI Q am_i_X0_arrives [.ref 36, .ref p1, .int p2, .ref p3, .int p4, .int p5, .int p6] c (f_X0_arrives N c p1 p2 p3 p4 p5 p6) := l1_of (en_X0_arrives_36 hQ N c p1 p2 p3 p4 p5 p6 hp1 hp3) ⟨rfl, rfl, rfl, rfl, rfl, rfl, rfl, trivial⟩
set_option maxRecDepth 100000 in
theorem en_X0_addTitle_34 {Q : hS → am_H → Prop} (hQ : l1_em kc Q) (N : Nat) (c : hS) (p1 : Nat) (p2 : Int32) (hp1 : kc p1 = 6) : l1_G (wN wV) Q am_i_X0_addTitle 0 [some (.ref 34), some (.ref p1), some (.int p2)] [] c (f_X0_addTitle N c p1 p2) := by
  rw [f_X0_addTitle]
  refine l1_many mt_X0_addTitle (pc' := 1) (L' := [some (.ref 34), some (.ref p1), some (.int p2)]) (st' := [.ref 34]) 1 rfl ?_
  refine l1_getR hQ mt_X0_addTitle rfl (o := 34) (ci := 0) (k := 0) (a := 0) (b := 1) rfl rfl rfl rfl rfl (q := 3) rfl ?_
  refine l1_many mt_X0_addTitle (pc' := 5) (L' := [some (.ref 34), some (.ref p1), some (.int p2)]) (st' := [.ref p1, .ref 3]) 1 rfl ?_
  refine l1_getR hQ mt_X0_addTitle rfl (o := p1) (ci := 6) (k := 0) (a := 2) (b := 2) hp1 rfl rfl rfl rfl (q := (p1 + 1)) rfl ?_
  refine l1_many mt_X0_addTitle (pc' := 10) (L' := [some (.ref 34), some (.ref p1), some (.int p2)]) (st' := [.ref p1, .int 0, .ref (p1 + 1), .ref 3]) 2 rfl ?_
  refine l1_getR hQ mt_X0_addTitle rfl (o := p1) (ci := 6) (k := 0) (a := 2) (b := 2) hp1 rfl rfl rfl rfl (q := (p1 + 1)) rfl ?_
  refine l1_callV hQ mt_X0_addTitle mt_X2_size rfl rfl (o := (p1 + 1)) (ci := 1) (As := []) (rest := [.int 0, .ref (p1 + 1), .ref 3]) rfl rfl (kc6_0 hp1) rfl rfl rfl (st1 := fun x1 => [.int x1, .int 0, .ref (p1 + 1), .ref 3]) (fun _ => rfl) (ok_X2_size hQ c (p1 + 1) (kc6_0 hp1)) (fun x1 c2 => ?_)
  refine l1_callV hQ mt_X0_addTitle mt_X2_addRow rfl rfl (o := 3) (ci := 1) (As := [.ref (p1 + 1), .int 0, .int x1]) (rest := []) rfl rfl rfl rfl rfl rfl (st1 := fun _ => []) (fun _ => rfl) (ok_X2_addRow hQ N c2 3 (p1 + 1) 0 x1 rfl (kc6_0 hp1)) (fun _ c3 => ?_)
  refine l1_many mt_X0_addTitle (pc' := bif am_cc .eq p2 0 then 39 else 23) (L' := [some (.ref 34), some (.ref p1), some (.int p2)]) (st' := []) 2 rfl ?_
  refine l1_bif rfl ?_ ?_
  · exact l1_ret mt_X0_addTitle rfl rfl rfl
  · refine l1_many mt_X0_addTitle (pc' := 24) (L' := [some (.ref 34), some (.ref p1), some (.int p2)]) (st' := [.ref p1]) 1 rfl ?_
    refine l1_getI hQ mt_X0_addTitle rfl (o := p1) (ci := 6) (k := 2) (a := 2) (b := 0) hp1 rfl rfl rfl rfl ?_
    refine l1_many mt_X0_addTitle (pc' := bif am_cc .eq (c3.1 p1 2) 0 then 39 else 30) (L' := [some (.ref 34), some (.ref p1), some (.int p2)]) (st' := []) 1 rfl ?_
    refine l1_bif rfl ?_ ?_
    · exact l1_ret mt_X0_addTitle rfl rfl rfl
    · refine l1_many mt_X0_addTitle (pc' := 31) (L' := [some (.ref 34), some (.ref p1), some (.int p2)]) (st' := [.ref 34]) 1 rfl ?_
      refine l1_getR hQ mt_X0_addTitle rfl (o := 34) (ci := 0) (k := 0) (a := 0) (b := 1) rfl rfl rfl rfl rfl (q := 3) rfl ?_
      refine l1_many mt_X0_addTitle (pc' := 36) (L' := [some (.ref 34), some (.ref p1), some (.int p2)]) (st' := [.int 47, .ref 3]) 1 rfl ?_
      refine l1_callV hQ mt_X0_addTitle mt_X2_add rfl rfl (o := 3) (ci := 1) (As := [.int 47]) (rest := []) rfl rfl rfl rfl rfl rfl (st1 := fun _ => []) (fun _ => rfl) (ok_X2_add hQ c3 3 47 rfl) (fun _ c4 => ?_)
      exact l1_ret mt_X0_addTitle rfl rfl rfl
theorem ok_X0_addTitle_34 {Q : hS → am_H → Prop} (hQ : l1_em kc Q) (N : Nat) (c : hS) (p1 : Nat) (p2 : Int32) (hp1 : kc p1 = 6) : l1_T wV Q am_i_X0_addTitle [.ref 34, .ref p1, .int p2] c (f_X0_addTitle N c p1 p2) := l1_of (en_X0_addTitle_34 hQ N c p1 p2 hp1) ⟨rfl, rfl, rfl, trivial⟩
set_option maxRecDepth 100000 in
theorem en_X0_addTitle_35 {Q : hS → am_H → Prop} (hQ : l1_em kc Q) (N : Nat) (c : hS) (p1 : Nat) (p2 : Int32) (hp1 : kc p1 = 6) : l1_G (wN wV) Q am_i_X0_addTitle 0 [some (.ref 35), some (.ref p1), some (.int p2)] [] c (f_X0_addTitle N c p1 p2) := by
  rw [f_X0_addTitle]
  refine l1_many mt_X0_addTitle (pc' := 1) (L' := [some (.ref 35), some (.ref p1), some (.int p2)]) (st' := [.ref 35]) 1 rfl ?_
  refine l1_getR hQ mt_X0_addTitle rfl (o := 35) (ci := 3) (k := 0) (a := 0) (b := 1) rfl rfl rfl rfl rfl (q := 3) rfl ?_
  refine l1_many mt_X0_addTitle (pc' := 5) (L' := [some (.ref 35), some (.ref p1), some (.int p2)]) (st' := [.ref p1, .ref 3]) 1 rfl ?_
  refine l1_getR hQ mt_X0_addTitle rfl (o := p1) (ci := 6) (k := 0) (a := 2) (b := 2) hp1 rfl rfl rfl rfl (q := (p1 + 1)) rfl ?_
  refine l1_many mt_X0_addTitle (pc' := 10) (L' := [some (.ref 35), some (.ref p1), some (.int p2)]) (st' := [.ref p1, .int 0, .ref (p1 + 1), .ref 3]) 2 rfl ?_
  refine l1_getR hQ mt_X0_addTitle rfl (o := p1) (ci := 6) (k := 0) (a := 2) (b := 2) hp1 rfl rfl rfl rfl (q := (p1 + 1)) rfl ?_
  refine l1_callV hQ mt_X0_addTitle mt_X2_size rfl rfl (o := (p1 + 1)) (ci := 1) (As := []) (rest := [.int 0, .ref (p1 + 1), .ref 3]) rfl rfl (kc6_0 hp1) rfl rfl rfl (st1 := fun x1 => [.int x1, .int 0, .ref (p1 + 1), .ref 3]) (fun _ => rfl) (ok_X2_size hQ c (p1 + 1) (kc6_0 hp1)) (fun x1 c2 => ?_)
  refine l1_callV hQ mt_X0_addTitle mt_X2_addRow rfl rfl (o := 3) (ci := 1) (As := [.ref (p1 + 1), .int 0, .int x1]) (rest := []) rfl rfl rfl rfl rfl rfl (st1 := fun _ => []) (fun _ => rfl) (ok_X2_addRow hQ N c2 3 (p1 + 1) 0 x1 rfl (kc6_0 hp1)) (fun _ c3 => ?_)
  refine l1_many mt_X0_addTitle (pc' := bif am_cc .eq p2 0 then 39 else 23) (L' := [some (.ref 35), some (.ref p1), some (.int p2)]) (st' := []) 2 rfl ?_
  refine l1_bif rfl ?_ ?_
  · exact l1_ret mt_X0_addTitle rfl rfl rfl
  · refine l1_many mt_X0_addTitle (pc' := 24) (L' := [some (.ref 35), some (.ref p1), some (.int p2)]) (st' := [.ref p1]) 1 rfl ?_
    refine l1_getI hQ mt_X0_addTitle rfl (o := p1) (ci := 6) (k := 2) (a := 2) (b := 0) hp1 rfl rfl rfl rfl ?_
    refine l1_many mt_X0_addTitle (pc' := bif am_cc .eq (c3.1 p1 2) 0 then 39 else 30) (L' := [some (.ref 35), some (.ref p1), some (.int p2)]) (st' := []) 1 rfl ?_
    refine l1_bif rfl ?_ ?_
    · exact l1_ret mt_X0_addTitle rfl rfl rfl
    · refine l1_many mt_X0_addTitle (pc' := 31) (L' := [some (.ref 35), some (.ref p1), some (.int p2)]) (st' := [.ref 35]) 1 rfl ?_
      refine l1_getR hQ mt_X0_addTitle rfl (o := 35) (ci := 3) (k := 0) (a := 0) (b := 1) rfl rfl rfl rfl rfl (q := 3) rfl ?_
      refine l1_many mt_X0_addTitle (pc' := 36) (L' := [some (.ref 35), some (.ref p1), some (.int p2)]) (st' := [.int 47, .ref 3]) 1 rfl ?_
      refine l1_callV hQ mt_X0_addTitle mt_X2_add rfl rfl (o := 3) (ci := 1) (As := [.int 47]) (rest := []) rfl rfl rfl rfl rfl rfl (st1 := fun _ => []) (fun _ => rfl) (ok_X2_add hQ c3 3 47 rfl) (fun _ c4 => ?_)
      exact l1_ret mt_X0_addTitle rfl rfl rfl
theorem ok_X0_addTitle_35 {Q : hS → am_H → Prop} (hQ : l1_em kc Q) (N : Nat) (c : hS) (p1 : Nat) (p2 : Int32) (hp1 : kc p1 = 6) : l1_T wV Q am_i_X0_addTitle [.ref 35, .ref p1, .int p2] c (f_X0_addTitle N c p1 p2) := l1_of (en_X0_addTitle_35 hQ N c p1 p2 hp1) ⟨rfl, rfl, rfl, trivial⟩
set_option maxRecDepth 100000 in
theorem en_X0_addTitle_36 {Q : hS → am_H → Prop} (hQ : l1_em kc Q) (N : Nat) (c : hS) (p1 : Nat) (p2 : Int32) (hp1 : kc p1 = 6) : l1_G (wN wV) Q am_i_X0_addTitle 0 [some (.ref 36), some (.ref p1), some (.int p2)] [] c (f_X0_addTitle N c p1 p2) := by
  rw [f_X0_addTitle]
  refine l1_many mt_X0_addTitle (pc' := 1) (L' := [some (.ref 36), some (.ref p1), some (.int p2)]) (st' := [.ref 36]) 1 rfl ?_
  refine l1_getR hQ mt_X0_addTitle rfl (o := 36) (ci := 4) (k := 0) (a := 0) (b := 1) rfl rfl rfl rfl rfl (q := 3) rfl ?_
  refine l1_many mt_X0_addTitle (pc' := 5) (L' := [some (.ref 36), some (.ref p1), some (.int p2)]) (st' := [.ref p1, .ref 3]) 1 rfl ?_
  refine l1_getR hQ mt_X0_addTitle rfl (o := p1) (ci := 6) (k := 0) (a := 2) (b := 2) hp1 rfl rfl rfl rfl (q := (p1 + 1)) rfl ?_
  refine l1_many mt_X0_addTitle (pc' := 10) (L' := [some (.ref 36), some (.ref p1), some (.int p2)]) (st' := [.ref p1, .int 0, .ref (p1 + 1), .ref 3]) 2 rfl ?_
  refine l1_getR hQ mt_X0_addTitle rfl (o := p1) (ci := 6) (k := 0) (a := 2) (b := 2) hp1 rfl rfl rfl rfl (q := (p1 + 1)) rfl ?_
  refine l1_callV hQ mt_X0_addTitle mt_X2_size rfl rfl (o := (p1 + 1)) (ci := 1) (As := []) (rest := [.int 0, .ref (p1 + 1), .ref 3]) rfl rfl (kc6_0 hp1) rfl rfl rfl (st1 := fun x1 => [.int x1, .int 0, .ref (p1 + 1), .ref 3]) (fun _ => rfl) (ok_X2_size hQ c (p1 + 1) (kc6_0 hp1)) (fun x1 c2 => ?_)
  refine l1_callV hQ mt_X0_addTitle mt_X2_addRow rfl rfl (o := 3) (ci := 1) (As := [.ref (p1 + 1), .int 0, .int x1]) (rest := []) rfl rfl rfl rfl rfl rfl (st1 := fun _ => []) (fun _ => rfl) (ok_X2_addRow hQ N c2 3 (p1 + 1) 0 x1 rfl (kc6_0 hp1)) (fun _ c3 => ?_)
  refine l1_many mt_X0_addTitle (pc' := bif am_cc .eq p2 0 then 39 else 23) (L' := [some (.ref 36), some (.ref p1), some (.int p2)]) (st' := []) 2 rfl ?_
  refine l1_bif rfl ?_ ?_
  · exact l1_ret mt_X0_addTitle rfl rfl rfl
  · refine l1_many mt_X0_addTitle (pc' := 24) (L' := [some (.ref 36), some (.ref p1), some (.int p2)]) (st' := [.ref p1]) 1 rfl ?_
    refine l1_getI hQ mt_X0_addTitle rfl (o := p1) (ci := 6) (k := 2) (a := 2) (b := 0) hp1 rfl rfl rfl rfl ?_
    refine l1_many mt_X0_addTitle (pc' := bif am_cc .eq (c3.1 p1 2) 0 then 39 else 30) (L' := [some (.ref 36), some (.ref p1), some (.int p2)]) (st' := []) 1 rfl ?_
    refine l1_bif rfl ?_ ?_
    · exact l1_ret mt_X0_addTitle rfl rfl rfl
    · refine l1_many mt_X0_addTitle (pc' := 31) (L' := [some (.ref 36), some (.ref p1), some (.int p2)]) (st' := [.ref 36]) 1 rfl ?_
      refine l1_getR hQ mt_X0_addTitle rfl (o := 36) (ci := 4) (k := 0) (a := 0) (b := 1) rfl rfl rfl rfl rfl (q := 3) rfl ?_
      refine l1_many mt_X0_addTitle (pc' := 36) (L' := [some (.ref 36), some (.ref p1), some (.int p2)]) (st' := [.int 47, .ref 3]) 1 rfl ?_
      refine l1_callV hQ mt_X0_addTitle mt_X2_add rfl rfl (o := 3) (ci := 1) (As := [.int 47]) (rest := []) rfl rfl rfl rfl rfl rfl (st1 := fun _ => []) (fun _ => rfl) (ok_X2_add hQ c3 3 47 rfl) (fun _ c4 => ?_)
      exact l1_ret mt_X0_addTitle rfl rfl rfl
theorem ok_X0_addTitle_36 {Q : hS → am_H → Prop} (hQ : l1_em kc Q) (N : Nat) (c : hS) (p1 : Nat) (p2 : Int32) (hp1 : kc p1 = 6) : l1_T wV Q am_i_X0_addTitle [.ref 36, .ref p1, .int p2] c (f_X0_addTitle N c p1 p2) := l1_of (en_X0_addTitle_36 hQ N c p1 p2 hp1) ⟨rfl, rfl, rfl, trivial⟩
set_option maxRecDepth 100000 in
theorem ok_X11_roundedUp_12 {Q : hS → am_H → Prop} (hQ : l1_em kc Q) (p0 : Int32) (p1 : Int32) : ∀ (c : hS) (w0 : Int32), l1_G (wN wI) Q am_i_X11_roundedUp 12 [some (.int p0), some (.int p1)] [.int w0] c (f_X11_roundedUp_12 p0 p1 c w0) := by
  intro c w0
  rw [f_X11_roundedUp_12]
  refine l1_many mt_X11_roundedUp (pc' := bif am_cc .ne w0 0 then 21 else 17) (L' := [some (.int p0), some (.int p1), some (.int w0)]) (st' := []) 3 rfl ?_
  refine l1_bin rfl ?_ ?_
  · refine l1_many mt_X11_roundedUp (pc' := 26) (L' := [some (.int p0), some (.int p1), some (.int w0)]) (st' := [.int p0]) 2 rfl ?_
    exact l1_ret mt_X11_roundedUp rfl rfl rfl
  · refine l1_many mt_X11_roundedUp (pc' := 26) (L' := [some (.int p0), some (.int p1), some (.int w0)]) (st' := [.int ((p0 - w0) + p1)]) 5 rfl ?_
    exact l1_ret mt_X11_roundedUp rfl rfl rfl
set_option maxRecDepth 100000 in
theorem en_X11_roundedUp {Q : hS → am_H → Prop} (hQ : l1_em kc Q) (c : hS) (p0 : Int32) (p1 : Int32) : l1_G (wN wI) Q am_i_X11_roundedUp 0 [some (.int p0), some (.int p1)] [] c (f_X11_roundedUp c p0 p1) := by
  rw [f_X11_roundedUp]
  refine l1_many mt_X11_roundedUp (pc' := bif am_cc .ge p1 1 then 9 else 5) (L' := [some (.int p0), some (.int p1)]) (st' := []) 3 rfl ?_
  refine l1_bif rfl ?_ ?_
  · refine l1_many mt_X11_roundedUp (pc' := 11) (L' := [some (.int p0), some (.int p1)]) (st' := [.int p1, .int p0]) 2 rfl ?_
    refine l1_rem mt_X11_roundedUp rfl ?_
    exact ok_X11_roundedUp_12 hQ p0 p1 c (j_rem p0 p1)
  · refine l1_many mt_X11_roundedUp (pc' := 12) (L' := [some (.int p0), some (.int p1)]) (st' := [.int 0]) 2 rfl ?_
    exact ok_X11_roundedUp_12 hQ p0 p1 c 0
theorem ok_X11_roundedUp {Q : hS → am_H → Prop} (hQ : l1_em kc Q) (c : hS) (p0 : Int32) (p1 : Int32) : l1_T wI Q am_i_X11_roundedUp [.int p0, .int p1] c (f_X11_roundedUp c p0 p1) := l1_of (en_X11_roundedUp hQ c p0 p1) ⟨rfl, rfl, trivial⟩
set_option maxRecDepth 100000 in
theorem ok_X1_isEmptyBlock_2 {Q : hS → am_H → Prop} (hQ : l1_em kc Q) (N : Nat) (p1 : Int32) : ∀ n : Nat, ∀ (c : hS) (v2 : Int32), l1_G (wN wI) Q am_i_X1_isEmptyBlock 2 [some (.ref 34), some (.int p1), some (.int v2)] [] c (f_X1_isEmptyBlock_2 N p1 n c v2) := by
  intro n
  induction n with
  | zero => intro c v2; exact l1_none
  | succ n ih =>
    intro c v2
    rw [f_X1_isEmptyBlock_2]
    refine l1_many mt_X1_isEmptyBlock (pc' := bif am_cc .ge v2 512 then 30 else 9) (L' := [some (.ref 34), some (.int p1), some (.int v2)]) (st' := []) 3 rfl ?_
    refine l1_bif rfl ?_ ?_
    · refine l1_many mt_X1_isEmptyBlock (pc' := 31) (L' := [some (.ref 34), some (.int p1), some (.int v2)]) (st' := [.int 1]) 1 rfl ?_
      exact l1_ret mt_X1_isEmptyBlock rfl rfl rfl
    · refine l1_many mt_X1_isEmptyBlock (pc' := 10) (L' := [some (.ref 34), some (.int p1), some (.int v2)]) (st' := [.ref 34]) 1 rfl ?_
      refine l1_getR hQ mt_X1_isEmptyBlock rfl (o := 34) (ci := 0) (k := 0) (a := 1) (b := 2) rfl rfl rfl rfl rfl (q := 3) rfl ?_
      refine l1_many mt_X1_isEmptyBlock (pc' := 16) (L' := [some (.ref 34), some (.int p1), some (.int v2)]) (st' := [.int (p1 + v2), .ref 3]) 3 rfl ?_
      refine l1_callV hQ mt_X1_isEmptyBlock mt_X2_get rfl rfl (o := 3) (ci := 1) (As := [.int (p1 + v2)]) (rest := []) rfl rfl rfl rfl rfl rfl (st1 := fun x1 => [.int x1]) (fun _ => rfl) (ok_X2_get hQ c 3 (p1 + v2) rfl) (fun x1 c2 => ?_)
      refine l1_many mt_X1_isEmptyBlock (pc' := bif am_cc .eq x1 0 then 24 else 22) (L' := [some (.ref 34), some (.int p1), some (.int v2)]) (st' := []) 1 rfl ?_
      refine l1_bif rfl ?_ ?_
      · refine l1_many mt_X1_isEmptyBlock (pc' := 2) (L' := [some (.ref 34), some (.int p1), some (.int (v2 + 1))]) (st' := []) 2 rfl ?_
        exact ih c2 (v2 + 1)
      · refine l1_many mt_X1_isEmptyBlock (pc' := 23) (L' := [some (.ref 34), some (.int p1), some (.int v2)]) (st' := [.int 0]) 1 rfl ?_
        exact l1_ret mt_X1_isEmptyBlock rfl rfl rfl
set_option maxRecDepth 100000 in
theorem en_X1_isEmptyBlock {Q : hS → am_H → Prop} (hQ : l1_em kc Q) (N : Nat) (c : hS) (p1 : Int32) : l1_G (wN wI) Q am_i_X1_isEmptyBlock 0 [some (.ref 34), some (.int p1)] [] c (f_X1_isEmptyBlock N c p1) := by
  rw [f_X1_isEmptyBlock]
  refine l1_many mt_X1_isEmptyBlock (pc' := 2) (L' := [some (.ref 34), some (.int p1), some (.int 0)]) (st' := []) 2 rfl ?_
  exact ok_X1_isEmptyBlock_2 hQ N p1 N c 0
theorem ok_X1_isEmptyBlock {Q : hS → am_H → Prop} (hQ : l1_em kc Q) (N : Nat) (c : hS) (p1 : Int32) : l1_T wI Q am_i_X1_isEmptyBlock [.ref 34, .int p1] c (f_X1_isEmptyBlock N c p1) := l1_of (en_X1_isEmptyBlock hQ N c p1) ⟨rfl, rfl, trivial⟩
set_option maxRecDepth 100000 in
theorem ok_X1_areDigits_39 {Q : hS → am_H → Prop} (hQ : l1_em kc Q) (N : Nat) (p1 : Int32) (p2 : Int32) (p3 : Int32) : ∀ (c : hS) (v4 : Int32), l1_G (wN wI) Q am_i_X1_areDigits 39 [some (.ref 34), none, none, some (.int p3), some (.int v4)] [] c (f_X1_areDigits_39 N p1 p2 p3 c v4) := by
  intro c v4
  rw [f_X1_areDigits_39]
  refine l1_many mt_X1_areDigits (pc' := 40) (L' := [some (.ref 34), none, none, some (.int p3), some (.int v4)]) (st' := [.ref 34]) 1 rfl ?_
  refine l1_getR hQ mt_X1_areDigits rfl (o := 34) (ci := 0) (k := 2) (a := 1) (b := 2) rfl rfl rfl rfl rfl (q := 9) rfl ?_
  refine l1_many mt_X1_areDigits (pc' := 46) (L' := [some (.ref 34), none, none, some (.int p3), some (.int v4)]) (st' := [.int v4, .int p3, .ref 9]) 2 rfl ?_
  refine l1_callV hQ mt_X1_areDigits mt_X6_tell rfl rfl (o := 9) (ci := 5) (As := [.int p3, .int v4]) (rest := []) rfl rfl rfl rfl rfl rfl (st1 := fun x1 => [.int x1]) (fun _ => rfl) (ok_X6_tell hQ c p3 v4) (fun x1 c2 => ?_)
  refine l1_ck (fun hz => ?_)
  exact l1_retZ mt_X1_areDigits rfl rfl rfl hz
set_option maxRecDepth 100000 in
theorem ok_X1_areDigits_3 {Q : hS → am_H → Prop} (hQ : l1_em kc Q) (N : Nat) (p1 : Int32) (p2 : Int32) (p3 : Int32) : ∀ n : Nat, ∀ (c : hS) (v4 : Int32), l1_G (wN wI) Q am_i_X1_areDigits 3 [some (.ref 34), some (.int p1), some (.int p2), some (.int p3), some (.int v4)] [] c (f_X1_areDigits_3 N p1 p2 p3 n c v4) := by
  intro n
  induction n with
  | zero => intro c v4; exact l1_none
  | succ n ih =>
    intro c v4
    rw [f_X1_areDigits_3]
    refine l1_many mt_X1_areDigits (pc' := bif am_cc .ge v4 (p1 + p2) then 56 else 11) (L' := [some (.ref 34), some (.int p1), some (.int p2), some (.int p3), some (.int v4)]) (st' := []) 5 rfl ?_
    refine l1_bif rfl ?_ ?_
    · refine l1_many mt_X1_areDigits (pc' := 57) (L' := [some (.ref 34), some (.int p1), some (.int p2), some (.int p3), some (.int v4)]) (st' := [.int 1]) 1 rfl ?_
      exact l1_ret mt_X1_areDigits rfl rfl rfl
    · refine l1_many mt_X1_areDigits (pc' := 12) (L' := [some (.ref 34), some (.int p1), some (.int p2), some (.int p3), some (.int v4)]) (st' := [.ref 34]) 1 rfl ?_
      refine l1_getR hQ mt_X1_areDigits rfl (o := 34) (ci := 0) (k := 0) (a := 1) (b := 2) rfl rfl rfl rfl rfl (q := 3) rfl ?_
      refine l1_many mt_X1_areDigits (pc' := 17) (L' := [some (.ref 34), some (.int p1), some (.int p2), some (.int p3), some (.int v4)]) (st' := [.int v4, .ref 3]) 1 rfl ?_
      refine l1_callV hQ mt_X1_areDigits mt_X2_get rfl rfl (o := 3) (ci := 1) (As := [.int v4]) (rest := []) rfl rfl rfl rfl rfl rfl (st1 := fun x1 => [.int x1]) (fun _ => rfl) (ok_X2_get hQ c 3 v4 rfl) (fun x1 c2 => ?_)
      refine l1_many mt_X1_areDigits (pc' := bif am_cc .lt x1 48 then 39 else 25) (L' := [some (.ref 34), some (.int p1), some (.int p2), some (.int p3), some (.int v4)]) (st' := []) 2 rfl ?_
      refine l1_bif rfl ?_ ?_
      · refine l1_weak (m := [true, false, false, true, true]) (L' := [some (.ref 34), none, none, some (.int p3), some (.int v4)]) rfl ?_
        exact ok_X1_areDigits_39 hQ N p1 p2 p3 c2 v4
      · refine l1_many mt_X1_areDigits (pc' := 26) (L' := [some (.ref 34), some (.int p1), some (.int p2), some (.int p3), some (.int v4)]) (st' := [.ref 34]) 1 rfl ?_
        refine l1_getR hQ mt_X1_areDigits rfl (o := 34) (ci := 0) (k := 0) (a := 1) (b := 2) rfl rfl rfl rfl rfl (q := 3) rfl ?_
        refine l1_many mt_X1_areDigits (pc' := 31) (L' := [some (.ref 34), some (.int p1), some (.int p2), some (.int p3), some (.int v4)]) (st' := [.int v4, .ref 3]) 1 rfl ?_
        refine l1_callV hQ mt_X1_areDigits mt_X2_get rfl rfl (o := 3) (ci := 1) (As := [.int v4]) (rest := []) rfl rfl rfl rfl rfl rfl (st1 := fun x3 => [.int x3]) (fun _ => rfl) (ok_X2_get hQ c2 3 v4 rfl) (fun x3 c4 => ?_)
        refine l1_many mt_X1_areDigits (pc' := bif am_cc .le x3 55 then 50 else 39) (L' := [some (.ref 34), some (.int p1), some (.int p2), some (.int p3), some (.int v4)]) (st' := []) 2 rfl ?_
        refine l1_bif rfl ?_ ?_
        · refine l1_many mt_X1_areDigits (pc' := 3) (L' := [some (.ref 34), some (.int p1), some (.int p2), some (.int p3), some (.int (v4 + 1))]) (st' := []) 2 rfl ?_
          exact ih c4 (v4 + 1)
        · refine l1_weak (m := [true, false, false, true, true]) (L' := [some (.ref 34), none, none, some (.int p3), some (.int v4)]) rfl ?_
          exact ok_X1_areDigits_39 hQ N p1 p2 p3 c4 v4
set_option maxRecDepth 100000 in
theorem en_X1_areDigits {Q : hS → am_H → Prop} (hQ : l1_em kc Q) (N : Nat) (c : hS) (p1 : Int32) (p2 : Int32) (p3 : Int32) : l1_G (wN wI) Q am_i_X1_areDigits 0 [some (.ref 34), some (.int p1), some (.int p2), some (.int p3)] [] c (f_X1_areDigits N c p1 p2 p3) := by
  rw [f_X1_areDigits]
  refine l1_many mt_X1_areDigits (pc' := 3) (L' := [some (.ref 34), some (.int p1), some (.int p2), some (.int p3), some (.int p1)]) (st' := []) 2 rfl ?_
  exact ok_X1_areDigits_3 hQ N p1 p2 p3 N c p1
theorem ok_X1_areDigits {Q : hS → am_H → Prop} (hQ : l1_em kc Q) (N : Nat) (c : hS) (p1 : Int32) (p2 : Int32) (p3 : Int32) : l1_T wI Q am_i_X1_areDigits [.ref 34, .int p1, .int p2, .int p3] c (f_X1_areDigits N c p1 p2 p3) := l1_of (en_X1_areDigits hQ N c p1 p2 p3) ⟨rfl, rfl, rfl, rfl, trivial⟩
set_option maxRecDepth 100000 in
theorem en_X1_isOctal {Q : hS → am_H → Prop} (hQ : l1_em kc Q) (N : Nat) (c : hS) (p1 : Int32) (p2 : Int32) : l1_G (wN wI) Q am_i_X1_isOctal 0 [some (.ref 34), some (.int p1), some (.int p2)] [] c (f_X1_isOctal N c p1 p2) := by
  rw [f_X1_isOctal]
  refine l1_many mt_X1_isOctal (pc' := 7) (L' := [some (.ref 34), some (.int p1), some (.int p2)]) (st' := [.int 6, .int (p2 - 1), .int p1, .ref 34]) 6 rfl ?_
  refine l1_callV hQ mt_X1_isOctal mt_X1_areDigits rfl rfl (o := 34) (ci := 0) (As := [.int p1, .int (p2 - 1), .int 6]) (rest := []) rfl rfl rfl rfl rfl rfl (st1 := fun x1 => [.int x1]) (fun _ => rfl) (ok_X1_areDigits hQ N c p1 (p2 - 1) 6) (fun x1 c2 => ?_)
  refine l1_many mt_X1_isOctal (pc' := bif am_cc .ne x1 0 then 15 else 13) (L' := [some (.ref 34), some (.int p1), some (.int p2)]) (st' := []) 1 rfl ?_
  refine l1_bin rfl ?_ ?_
  · refine l1_many mt_X1_isOctal (pc' := 14) (L' := [some (.ref 34), some (.int p1), some (.int p2)]) (st' := [.int 0]) 1 rfl ?_
    exact l1_ret mt_X1_isOctal rfl rfl rfl
  · refine l1_many mt_X1_isOctal (pc' := 16) (L' := [some (.ref 34), some (.int p1), some (.int p2)]) (st' := [.ref 34]) 1 rfl ?_
    refine l1_getR hQ mt_X1_isOctal rfl (o := 34) (ci := 0) (k := 0) (a := 1) (b := 2) rfl rfl rfl rfl rfl (q := 3) rfl ?_
    refine l1_many mt_X1_isOctal (pc' := 24) (L' := [some (.ref 34), some (.int p1), some (.int p2)]) (st' := [.int ((p1 + p2) - 1), .ref 3]) 5 rfl ?_
    refine l1_callV hQ mt_X1_isOctal mt_X2_get rfl rfl (o := 3) (ci := 1) (As := [.int ((p1 + p2) - 1)]) (rest := []) rfl rfl rfl rfl rfl rfl (st1 := fun x3 => [.int x3]) (fun _ => rfl) (ok_X2_get hQ c2 3 ((p1 + p2) - 1) rfl) (fun x3 c4 => ?_)
    refine l1_many mt_X1_isOctal (pc' := bif am_cc .eq x3 0 then 47 else 30) (L' := [some (.ref 34), some (.int p1), some (.int p2)]) (st' := []) 1 rfl ?_
    refine l1_bif rfl ?_ ?_
    · refine l1_many mt_X1_isOctal (pc' := 52) (L' := [some (.ref 34), some (.int p1), some (.int p2)]) (st' := [.int 1]) 2 rfl ?_
      exact l1_ret mt_X1_isOctal rfl rfl rfl
    · refine l1_many mt_X1_isOctal (pc' := 31) (L' := [some (.ref 34), some (.int p1), some (.int p2)]) (st' := [.ref 34]) 1 rfl ?_
      refine l1_getR hQ mt_X1_isOctal rfl (o := 34) (ci := 0) (k := 2) (a := 1) (b := 2) rfl rfl rfl rfl rfl (q := 9) rfl ?_
      refine l1_many mt_X1_isOctal (pc' := 41) (L' := [some (.ref 34), some (.int p1), some (.int p2)]) (st' := [.int ((p1 + p2) - 1), .int 6, .ref 9]) 6 rfl ?_
      refine l1_callV hQ mt_X1_isOctal mt_X6_tell rfl rfl (o := 9) (ci := 5) (As := [.int 6, .int ((p1 + p2) - 1)]) (rest := []) rfl rfl rfl rfl rfl rfl (st1 := fun x5 => [.int x5]) (fun _ => rfl) (ok_X6_tell hQ c4 6 ((p1 + p2) - 1)) (fun x5 c6 => ?_)
      refine l1_many mt_X1_isOctal (pc' := bif am_cc .eq x5 0 then 51 else 47) (L' := [some (.ref 34), some (.int p1), some (.int p2)]) (st' := []) 1 rfl ?_
      refine l1_bif rfl ?_ ?_
      · refine l1_many mt_X1_isOctal (pc' := 52) (L' := [some (.ref 34), some (.int p1), some (.int p2)]) (st' := [.int 0]) 1 rfl ?_
        exact l1_ret mt_X1_isOctal rfl rfl rfl
      · refine l1_many mt_X1_isOctal (pc' := 52) (L' := [some (.ref 34), some (.int p1), some (.int p2)]) (st' := [.int 1]) 2 rfl ?_
        exact l1_ret mt_X1_isOctal rfl rfl rfl
theorem ok_X1_isOctal {Q : hS → am_H → Prop} (hQ : l1_em kc Q) (N : Nat) (c : hS) (p1 : Int32) (p2 : Int32) : l1_T wI Q am_i_X1_isOctal [.ref 34, .int p1, .int p2] c (f_X1_isOctal N c p1 p2) := l1_of (en_X1_isOctal hQ N c p1 p2) ⟨rfl, rfl, rfl, trivial⟩
set_option maxRecDepth 100000 in
theorem ok_X1_octal_5 {Q : hS → am_H → Prop} (hQ : l1_em kc Q) (N : Nat) (p1 : Int32) (p2 : Int32) : ∀ n : Nat, ∀ (c : hS) (v3 : Int64) (v5 : Int32), l1_G (wN wL) Q am_i_X1_octal 5 [some (.ref 34), some (.int p1), some (.int p2), some (.long v3), none, some (.int v5)] [] c (f_X1_octal_5 N p1 p2 n c v3 v5) := by
  intro n
  induction n with
  | zero => intro c v3 v5; exact l1_none
  | succ n ih =>
    intro c v3 v5
    rw [f_X1_octal_5]
    refine l1_many mt_X1_octal (pc' := bif am_cc .ge v5 (p1 + p2) then 37 else 13) (L' := [some (.ref 34), some (.int p1), some (.int p2), some (.long v3), none, some (.int v5)]) (st' := []) 5 rfl ?_
    refine l1_bif rfl ?_ ?_
    · refine l1_many mt_X1_octal (pc' := 38) (L' := [some (.ref 34), some (.int p1), some (.int p2), some (.long v3), none, some (.int v5)]) (st' := [.long v3]) 1 rfl ?_
      exact l1_ret mt_X1_octal rfl rfl rfl
    · refine l1_many mt_X1_octal (pc' := 17) (L' := [some (.ref 34), some (.int p1), some (.int p2), some (.long v3), none, some (.int v5)]) (st' := [.ref 34, .long (j_lshl v3 3)]) 4 rfl ?_
      refine l1_getR hQ mt_X1_octal rfl (o := 34) (ci := 0) (k := 0) (a := 1) (b := 2) rfl rfl rfl rfl rfl (q := 3) rfl ?_
      refine l1_many mt_X1_octal (pc' := 22) (L' := [some (.ref 34), some (.int p1), some (.int p2), some (.long v3), none, some (.int v5)]) (st' := [.int v5, .ref 3, .long (j_lshl v3 3)]) 1 rfl ?_
      refine l1_callV hQ mt_X1_octal mt_X2_get rfl rfl (o := 3) (ci := 1) (As := [.int v5]) (rest := [.long (j_lshl v3 3)]) rfl rfl rfl rfl rfl rfl (st1 := fun x1 => [.int x1, .long (j_lshl v3 3)]) (fun _ => rfl) (ok_X2_get hQ c 3 v5 rfl) (fun x1 c2 => ?_)
      refine l1_many mt_X1_octal (pc' := 5) (L' := [some (.ref 34), some (.int p1), some (.int p2), some (.long ((j_lshl v3 3) ||| ((x1 &&& 7).toInt64))), none, some (.int (v5 + 1))]) (st' := []) 7 rfl ?_
      exact ih c2 ((j_lshl v3 3) ||| ((x1 &&& 7).toInt64)) (v5 + 1)
set_option maxRecDepth 100000 in
theorem en_X1_octal {Q : hS → am_H → Prop} (hQ : l1_em kc Q) (N : Nat) (c : hS) (p1 : Int32) (p2 : Int32) : l1_G (wN wL) Q am_i_X1_octal 0 [some (.ref 34), some (.int p1), some (.int p2)] [] c (f_X1_octal N c p1 p2) := by
  rw [f_X1_octal]
  refine l1_many mt_X1_octal (pc' := 5) (L' := [some (.ref 34), some (.int p1), some (.int p2), some (.long 0), none, some (.int p1)]) (st' := []) 4 rfl ?_
  exact ok_X1_octal_5 hQ N p1 p2 N c 0 p1
theorem ok_X1_octal {Q : hS → am_H → Prop} (hQ : l1_em kc Q) (N : Nat) (c : hS) (p1 : Int32) (p2 : Int32) : l1_T wL Q am_i_X1_octal [.ref 34, .int p1, .int p2] c (f_X1_octal N c p1 p2) := l1_of (en_X1_octal hQ N c p1 p2) ⟨rfl, rfl, rfl, trivial⟩
set_option maxRecDepth 100000 in
theorem ok_X1_isSorted_57 {Q : hS → am_H → Prop} (hQ : l1_em kc Q) (N : Nat) (p1 : Int32) : ∀ (c : hS) (w0 : Int32), l1_G (wN wI) Q am_i_X1_isSorted 57 [some (.ref 34), some (.int p1)] [.int w0] c (f_X1_isSorted_57 N p1 c w0) := by
  intro c w0
  rw [f_X1_isSorted_57]
  refine l1_many mt_X1_isSorted (pc' := 65) (L' := [some (.ref 34), some (.int p1), none, some (.int w0)]) (st' := [.int 11, .int (p1 + 124), .ref 34]) 6 rfl ?_
  refine l1_callV hQ mt_X1_isSorted mt_X1_octal rfl rfl (o := 34) (ci := 0) (As := [.int (p1 + 124), .int 11]) (rest := []) rfl rfl rfl rfl rfl rfl (st1 := fun x1 => [.long x1]) (fun _ => rfl) (ok_X1_octal hQ N c (p1 + 124) 11) (fun x1 c2 => ?_)
  refine l1_many mt_X1_isSorted (pc' := bif am_cc .le (j_cmp x1 w0.toInt64) 0 then 90 else 74) (L' := [some (.ref 34), some (.int p1), none, some (.int w0)]) (st' := []) 4 rfl ?_
  refine l1_bif rfl ?_ ?_
  · refine l1_many mt_X1_isSorted (pc' := 95) (L' := [some (.ref 34), some (.int p1), none, some (.int w0)]) (st' := [.int 1]) 2 rfl ?_
    exact l1_ret mt_X1_isSorted rfl rfl rfl
  · refine l1_many mt_X1_isSorted (pc' := 75) (L' := [some (.ref 34), some (.int p1), none, some (.int w0)]) (st' := [.ref 34]) 1 rfl ?_
    refine l1_getR hQ mt_X1_isSorted rfl (o := 34) (ci := 0) (k := 2) (a := 1) (b := 2) rfl rfl rfl rfl rfl (q := 9) rfl ?_
    refine l1_many mt_X1_isSorted (pc' := 84) (L' := [some (.ref 34), some (.int p1), none, some (.int w0)]) (st' := [.int (p1 + 124), .int 7, .ref 9]) 4 rfl ?_
    refine l1_callV hQ mt_X1_isSorted mt_X6_tell rfl rfl (o := 9) (ci := 5) (As := [.int 7, .int (p1 + 124)]) (rest := []) rfl rfl rfl rfl rfl rfl (st1 := fun x3 => [.int x3]) (fun _ => rfl) (ok_X6_tell hQ c2 7 (p1 + 124)) (fun x3 c4 => ?_)
    refine l1_many mt_X1_isSorted (pc' := bif am_cc .eq x3 0 then 94 else 90) (L' := [some (.ref 34), some (.int p1), none, some (.int w0)]) (st' := []) 1 rfl ?_
    refine l1_bif rfl ?_ ?_
    · refine l1_many mt_X1_isSorted (pc' := 95) (L' := [some (.ref 34), some (.int p1), none, some (.int w0)]) (st' := [.int 0]) 1 rfl ?_
      exact l1_ret mt_X1_isSorted rfl rfl rfl
    · refine l1_many mt_X1_isSorted (pc' := 95) (L' := [some (.ref 34), some (.int p1), none, some (.int w0)]) (st' := [.int 1]) 2 rfl ?_
      exact l1_ret mt_X1_isSorted rfl rfl rfl
set_option maxRecDepth 100000 in
theorem ok_X1_isSorted_44 {Q : hS → am_H → Prop} (hQ : l1_em kc Q) (N : Nat) (p1 : Int32) : ∀ (c : hS) (v2 : Int32), l1_G (wN wI) Q am_i_X1_isSorted 44 [some (.ref 34), some (.int p1), some (.int v2)] [] c (f_X1_isSorted_44 N p1 c v2) := by
  intro c v2
  rw [f_X1_isSorted_44]
  refine l1_many mt_X1_isSorted (pc' := bif am_cc .ne v2 53 then 54 else 50) (L' := [some (.ref 34), some (.int p1), some (.int v2)]) (st' := []) 3 rfl ?_
  refine l1_bin rfl ?_ ?_
  · refine l1_many mt_X1_isSorted (pc' := 57) (L' := [some (.ref 34), some (.int p1), some (.int v2)]) (st' := [.int 0]) 2 rfl ?_
    refine l1_weak (m := [true, true, false, false]) (L' := [some (.ref 34), some (.int p1)]) rfl ?_
    exact ok_X1_isSorted_57 hQ N p1 c 0
  · refine l1_many mt_X1_isSorted (pc' := 57) (L' := [some (.ref 34), some (.int p1), some (.int v2)]) (st' := [.int 400]) 1 rfl ?_
    refine l1_weak (m := [true, true, false, false]) (L' := [some (.ref 34), some (.int p1)]) rfl ?_
    exact ok_X1_isSorted_57 hQ N p1 c 400
set_option maxRecDepth 100000 in
theorem en_X1_isSorted {Q : hS → am_H → Prop} (hQ : l1_em kc Q) (N : Nat) (c : hS) (p1 : Int32) : l1_G (wN wI) Q am_i_X1_isSorted 0 [some (.ref 34), some (.int p1)] [] c (f_X1_isSorted N c p1) := by
  rw [f_X1_isSorted]
  refine l1_many mt_X1_isSorted (pc' := 1) (L' := [some (.ref 34), some (.int p1)]) (st' := [.ref 34]) 1 rfl ?_
  refine l1_getR hQ mt_X1_isSorted rfl (o := 34) (ci := 0) (k := 0) (a := 1) (b := 2) rfl rfl rfl rfl rfl (q := 3) rfl ?_
  refine l1_many mt_X1_isSorted (pc' := 9) (L' := [some (.ref 34), some (.int p1)]) (st' := [.int (p1 + 156), .ref 3]) 3 rfl ?_
  refine l1_callV hQ mt_X1_isSorted mt_X2_get rfl rfl (o := 3) (ci := 1) (As := [.int (p1 + 156)]) (rest := []) rfl rfl rfl rfl rfl rfl (st1 := fun x1 => [.int x1]) (fun _ => rfl) (ok_X2_get hQ c 3 (p1 + 156) rfl) (fun x1 c2 => ?_)
  refine l1_many mt_X1_isSorted (pc' := bif am_cc .eq x1 48 then 44 else 19) (L' := [some (.ref 34), some (.int p1), some (.int x1)]) (st' := []) 4 rfl ?_
  refine l1_bif rfl ?_ ?_
  · exact ok_X1_isSorted_44 hQ N p1 c2 x1
  · refine l1_many mt_X1_isSorted (pc' := bif am_cc .eq x1 0 then 44 else 23) (L' := [some (.ref 34), some (.int p1), some (.int x1)]) (st' := []) 2 rfl ?_
    refine l1_bif rfl ?_ ?_
    · exact ok_X1_isSorted_44 hQ N p1 c2 x1
    · refine l1_many mt_X1_isSorted (pc' := bif am_cc .eq x1 53 then 44 else 29) (L' := [some (.ref 34), some (.int p1), some (.int x1)]) (st' := []) 3 rfl ?_
      refine l1_bif rfl ?_ ?_
      · exact ok_X1_isSorted_44 hQ N p1 c2 x1
      · refine l1_many mt_X1_isSorted (pc' := 30) (L' := [some (.ref 34), some (.int p1), some (.int x1)]) (st' := [.ref 34]) 1 rfl ?_
        refine l1_getR hQ mt_X1_isSorted rfl (o := 34) (ci := 0) (k := 2) (a := 1) (b := 2) rfl rfl rfl rfl rfl (q := 9) rfl ?_
        refine l1_many mt_X1_isSorted (pc' := 40) (L' := [some (.ref 34), some (.int p1), some (.int x1)]) (st' := [.int (p1 + 156), .int 8, .ref 9]) 4 rfl ?_
        refine l1_callV hQ mt_X1_isSorted mt_X6_tell rfl rfl (o := 9) (ci := 5) (As := [.int 8, .int (p1 + 156)]) (rest := []) rfl rfl rfl rfl rfl rfl (st1 := fun x3 => [.int x3]) (fun _ => rfl) (ok_X6_tell hQ c2 8 (p1 + 156)) (fun x3 c4 => ?_)
        refine l1_ck (fun hz => ?_)
        exact l1_retZ mt_X1_isSorted rfl rfl rfl hz
theorem ok_X1_isSorted {Q : hS → am_H → Prop} (hQ : l1_em kc Q) (N : Nat) (c : hS) (p1 : Int32) : l1_T wI Q am_i_X1_isSorted [.ref 34, .int p1] c (f_X1_isSorted N c p1) := l1_of (en_X1_isSorted hQ N c p1) ⟨rfl, rfl, trivial⟩
set_option maxRecDepth 100000 in
theorem ok_X1_sumOf_31 {Q : hS → am_H → Prop} (hQ : l1_em kc Q) (N : Nat) (p1 : Int32) {k4 : hS → Int32 → Int32 → Option (Int32 × hS)} (hk4 : ∀ c v2 v3, l1_G (wN wI) Q am_i_X1_sumOf 4 [some (.ref 34), some (.int p1), some (.int v2), some (.int v3)] [] c (k4 c v2 v3)) : ∀ (c : hS) (v3 : Int32) (w0 : Int32), l1_G (wN wI) Q am_i_X1_sumOf 31 [some (.ref 34), some (.int p1), none, some (.int v3)] [.int w0] c (f_X1_sumOf_31 N p1 k4 c v3 w0) := by
  intro c v3 w0
  rw [f_X1_sumOf_31]
  refine l1_many mt_X1_sumOf (pc' := 32) (L' := [some (.ref 34), some (.int p1), none, some (.int v3)]) (st' := [.ref 34, .int w0]) 1 rfl ?_
  refine l1_getR hQ mt_X1_sumOf rfl (o := 34) (ci := 0) (k := 0) (a := 1) (b := 2) rfl rfl rfl rfl rfl (q := 3) rfl ?_
  refine l1_many mt_X1_sumOf (pc' := 38) (L' := [some (.ref 34), some (.int p1), none, some (.int v3)]) (st' := [.int (p1 + v3), .ref 3, .int w0]) 3 rfl ?_
  refine l1_callV hQ mt_X1_sumOf mt_X2_get rfl rfl (o := 3) (ci := 1) (As := [.int (p1 + v3)]) (rest := [.int w0]) rfl rfl rfl rfl rfl rfl (st1 := fun x1 => [.int x1, .int w0]) (fun _ => rfl) (ok_X2_get hQ c 3 (p1 + v3) rfl) (fun x1 c2 => ?_)
  refine l1_many mt_X1_sumOf (pc' := 4) (L' := [some (.ref 34), some (.int p1), some (.int (w0 + x1)), some (.int (v3 + 1))]) (st' := []) 4 rfl ?_
  exact hk4 c2 (w0 + x1) (v3 + 1)
set_option maxRecDepth 100000 in
theorem ok_X1_sumOf_4 {Q : hS → am_H → Prop} (hQ : l1_em kc Q) (N : Nat) (p1 : Int32) : ∀ n : Nat, ∀ (c : hS) (v2 : Int32) (v3 : Int32), l1_G (wN wI) Q am_i_X1_sumOf 4 [some (.ref 34), some (.int p1), some (.int v2), some (.int v3)] [] c (f_X1_sumOf_4 N p1 n c v2 v3) := by
  intro n
  induction n with
  | zero => intro c v2 v3; exact l1_none
  | succ n ih =>
    intro c v2 v3
    rw [f_X1_sumOf_4]
    refine l1_many mt_X1_sumOf (pc' := bif am_cc .ge v3 512 then 49 else 11) (L' := [some (.ref 34), some (.int p1), some (.int v2), some (.int v3)]) (st' := []) 3 rfl ?_
    refine l1_bif rfl ?_ ?_
    · refine l1_many mt_X1_sumOf (pc' := 50) (L' := [some (.ref 34), some (.int p1), some (.int v2), some (.int v3)]) (st' := [.int v2]) 1 rfl ?_
      exact l1_ret mt_X1_sumOf rfl rfl rfl
    · refine l1_many mt_X1_sumOf (pc' := bif am_cc .lt v3 148 then 31 else 19) (L' := [some (.ref 34), some (.int p1), some (.int v2), some (.int v3)]) (st' := [.int v2]) 4 rfl ?_
      refine l1_bif rfl ?_ ?_
      · refine l1_weak (m := [true, true, false, true]) (L' := [some (.ref 34), some (.int p1), none, some (.int v3)]) rfl ?_
        exact ok_X1_sumOf_31 hQ N p1 ih c v3 v2
      · refine l1_many mt_X1_sumOf (pc' := bif am_cc .ge v3 156 then 31 else 26) (L' := [some (.ref 34), some (.int p1), some (.int v2), some (.int v3)]) (st' := [.int v2]) 3 rfl ?_
        refine l1_bif rfl ?_ ?_
        · refine l1_weak (m := [true, true, false, true]) (L' := [some (.ref 34), some (.int p1), none, some (.int v3)]) rfl ?_
          exact ok_X1_sumOf_31 hQ N p1 ih c v3 v2
        · refine l1_many mt_X1_sumOf (pc' := 4) (L' := [some (.ref 34), some (.int p1), some (.int (v2 + 32)), some (.int (v3 + 1))]) (st' := []) 6 rfl ?_
          exact ih c (v2 + 32) (v3 + 1)
set_option maxRecDepth 100000 in
theorem en_X1_sumOf {Q : hS → am_H → Prop} (hQ : l1_em kc Q) (N : Nat) (c : hS) (p1 : Int32) : l1_G (wN wI) Q am_i_X1_sumOf 0 [some (.ref 34), some (.int p1)] [] c (f_X1_sumOf N c p1) := by
  rw [f_X1_sumOf]
  refine l1_many mt_X1_sumOf (pc' := 4) (L' := [some (.ref 34), some (.int p1), some (.int 0), some (.int 0)]) (st' := []) 4 rfl ?_
  exact ok_X1_sumOf_4 hQ N p1 N c 0 0
theorem ok_X1_sumOf {Q : hS → am_H → Prop} (hQ : l1_em kc Q) (N : Nat) (c : hS) (p1 : Int32) : l1_T wI Q am_i_X1_sumOf [.ref 34, .int p1] c (f_X1_sumOf N c p1) := l1_of (en_X1_sumOf hQ N c p1) ⟨rfl, rfl, trivial⟩
set_option maxRecDepth 100000 in
theorem en_X1_isSummed {Q : hS → am_H → Prop} (hQ : l1_em kc Q) (N : Nat) (c : hS) (p1 : Int32) : l1_G (wN wI) Q am_i_X1_isSummed 0 [some (.ref 34), some (.int p1)] [] c (f_X1_isSummed N c p1) := by
  rw [f_X1_isSummed]
  refine l1_many mt_X1_isSummed (pc' := 9) (L' := [some (.ref 34), some (.int p1)]) (st' := [.int 3, .int 6, .int (p1 + 148), .ref 34]) 6 rfl ?_
  refine l1_callV hQ mt_X1_isSummed mt_X1_areDigits rfl rfl (o := 34) (ci := 0) (As := [.int (p1 + 148), .int 6, .int 3]) (rest := []) rfl rfl rfl rfl rfl rfl (st1 := fun x1 => [.int x1]) (fun _ => rfl) (ok_X1_areDigits hQ N c (p1 + 148) 6 3) (fun x1 c2 => ?_)
  refine l1_many mt_X1_isSummed (pc' := bif am_cc .ne x1 0 then 17 else 15) (L' := [some (.ref 34), some (.int p1)]) (st' := []) 1 rfl ?_
  refine l1_bin rfl ?_ ?_
  · refine l1_many mt_X1_isSummed (pc' := 16) (L' := [some (.ref 34), some (.int p1)]) (st' := [.int 0]) 1 rfl ?_
    exact l1_ret mt_X1_isSummed rfl rfl rfl
  · refine l1_many mt_X1_isSummed (pc' := 18) (L' := [some (.ref 34), some (.int p1)]) (st' := [.ref 34]) 1 rfl ?_
    refine l1_getR hQ mt_X1_isSummed rfl (o := 34) (ci := 0) (k := 0) (a := 1) (b := 2) rfl rfl rfl rfl rfl (q := 3) rfl ?_
    refine l1_many mt_X1_isSummed (pc' := 29) (L' := [some (.ref 34), some (.int p1)]) (st' := [.int ((p1 + 148) + 6), .ref 3]) 5 rfl ?_
    refine l1_callV hQ mt_X1_isSummed mt_X2_get rfl rfl (o := 3) (ci := 1) (As := [.int ((p1 + 148) + 6)]) (rest := []) rfl rfl rfl rfl rfl rfl (st1 := fun x3 => [.int x3]) (fun _ => rfl) (ok_X2_get hQ c2 3 ((p1 + 148) + 6) rfl) (fun x3 c4 => ?_)
    refine l1_many mt_X1_isSummed (pc' := bif am_cc .eq x3 0 then 52 else 35) (L' := [some (.ref 34), some (.int p1)]) (st' := []) 1 rfl ?_
    refine l1_bif rfl ?_ ?_
    · refine l1_many mt_X1_isSummed (pc' := 53) (L' := [some (.ref 34), some (.int p1)]) (st' := [.ref 34]) 1 rfl ?_
      refine l1_getR hQ mt_X1_isSummed rfl (o := 34) (ci := 0) (k := 0) (a := 1) (b := 2) rfl rfl rfl rfl rfl (q := 3) rfl ?_
      refine l1_many mt_X1_isSummed (pc' := 64) (L' := [some (.ref 34), some (.int p1)]) (st' := [.int ((p1 + 148) + 7), .ref 3]) 5 rfl ?_
      refine l1_callV hQ mt_X1_isSummed mt_X2_get rfl rfl (o := 3) (ci := 1) (As := [.int ((p1 + 148) + 7)]) (rest := []) rfl rfl rfl rfl rfl rfl (st1 := fun x5 => [.int x5]) (fun _ => rfl) (ok_X2_get hQ c4 3 ((p1 + 148) + 7) rfl) (fun x5 c6 => ?_)
      refine l1_many mt_X1_isSummed (pc' := bif am_cc .eq x5 32 then 89 else 72) (L' := [some (.ref 34), some (.int p1)]) (st' := []) 2 rfl ?_
      refine l1_bif rfl ?_ ?_
      · refine l1_many mt_X1_isSummed (pc' := 97) (L' := [some (.ref 34), some (.int p1)]) (st' := [.int 6, .int (p1 + 148), .ref 34]) 5 rfl ?_
        refine l1_callV hQ mt_X1_isSummed mt_X1_octal rfl rfl (o := 34) (ci := 0) (As := [.int (p1 + 148), .int 6]) (rest := []) rfl rfl rfl rfl rfl rfl (st1 := fun x7 => [.long x7]) (fun _ => rfl) (ok_X1_octal hQ N c6 (p1 + 148) 6) (fun x7 c8 => ?_)
        refine l1_many mt_X1_isSummed (pc' := 102) (L' := [some (.ref 34), some (.int p1)]) (st' := [.int p1, .ref 34, .long x7]) 2 rfl ?_
        refine l1_callV hQ mt_X1_isSummed mt_X1_sumOf rfl rfl (o := 34) (ci := 0) (As := [.int p1]) (rest := [.long x7]) rfl rfl rfl rfl rfl rfl (st1 := fun x9 => [.int x9, .long x7]) (fun _ => rfl) (ok_X1_sumOf hQ N c8 p1) (fun x9 c10 => ?_)
        refine l1_many mt_X1_isSummed (pc' := bif am_cc .eq (j_cmp x7 x9.toInt64) 0 then 126 else 110) (L' := [some (.ref 34), some (.int p1)]) (st' := []) 3 rfl ?_
        refine l1_bif rfl ?_ ?_
        · refine l1_many mt_X1_isSummed (pc' := 131) (L' := [some (.ref 34), some (.int p1)]) (st' := [.int 1]) 2 rfl ?_
          exact l1_ret mt_X1_isSummed rfl rfl rfl
        · refine l1_many mt_X1_isSummed (pc' := 111) (L' := [some (.ref 34), some (.int p1)]) (st' := [.ref 34]) 1 rfl ?_
          refine l1_getR hQ mt_X1_isSummed rfl (o := 34) (ci := 0) (k := 2) (a := 1) (b := 2) rfl rfl rfl rfl rfl (q := 9) rfl ?_
          refine l1_many mt_X1_isSummed (pc' := 120) (L' := [some (.ref 34), some (.int p1)]) (st' := [.int (p1 + 148), .int 4, .ref 9]) 4 rfl ?_
          refine l1_callV hQ mt_X1_isSummed mt_X6_tell rfl rfl (o := 9) (ci := 5) (As := [.int 4, .int (p1 + 148)]) (rest := []) rfl rfl rfl rfl rfl rfl (st1 := fun x11 => [.int x11]) (fun _ => rfl) (ok_X6_tell hQ c10 4 (p1 + 148)) (fun x11 c12 => ?_)
          refine l1_many mt_X1_isSummed (pc' := bif am_cc .eq x11 0 then 130 else 126) (L' := [some (.ref 34), some (.int p1)]) (st' := []) 1 rfl ?_
          refine l1_bif rfl ?_ ?_
          · refine l1_many mt_X1_isSummed (pc' := 131) (L' := [some (.ref 34), some (.int p1)]) (st' := [.int 0]) 1 rfl ?_
            exact l1_ret mt_X1_isSummed rfl rfl rfl
          · refine l1_many mt_X1_isSummed (pc' := 131) (L' := [some (.ref 34), some (.int p1)]) (st' := [.int 1]) 2 rfl ?_
            exact l1_ret mt_X1_isSummed rfl rfl rfl
      · refine l1_many mt_X1_isSummed (pc' := 73) (L' := [some (.ref 34), some (.int p1)]) (st' := [.ref 34]) 1 rfl ?_
        refine l1_getR hQ mt_X1_isSummed rfl (o := 34) (ci := 0) (k := 2) (a := 1) (b := 2) rfl rfl rfl rfl rfl (q := 9) rfl ?_
        refine l1_many mt_X1_isSummed (pc' := 85) (L' := [some (.ref 34), some (.int p1)]) (st' := [.int ((p1 + 148) + 7), .int 3, .ref 9]) 6 rfl ?_
        refine l1_callV hQ mt_X1_isSummed mt_X6_tell rfl rfl (o := 9) (ci := 5) (As := [.int 3, .int ((p1 + 148) + 7)]) (rest := []) rfl rfl rfl rfl rfl rfl (st1 := fun x13 => [.int x13]) (fun _ => rfl) (ok_X6_tell hQ c6 3 ((p1 + 148) + 7)) (fun x13 c14 => ?_)
        refine l1_ck (fun hz => ?_)
        exact l1_retZ mt_X1_isSummed rfl rfl rfl hz
    · refine l1_many mt_X1_isSummed (pc' := 36) (L' := [some (.ref 34), some (.int p1)]) (st' := [.ref 34]) 1 rfl ?_
      refine l1_getR hQ mt_X1_isSummed rfl (o := 34) (ci := 0) (k := 2) (a := 1) (b := 2) rfl rfl rfl rfl rfl (q := 9) rfl ?_
      refine l1_many mt_X1_isSummed (pc' := 48) (L' := [some (.ref 34), some (.int p1)]) (st' := [.int ((p1 + 148) + 6), .int 3, .ref 9]) 6 rfl ?_
      refine l1_callV hQ mt_X1_isSummed mt_X6_tell rfl rfl (o := 9) (ci := 5) (As := [.int 3, .int ((p1 + 148) + 6)]) (rest := []) rfl rfl rfl rfl rfl rfl (st1 := fun x15 => [.int x15]) (fun _ => rfl) (ok_X6_tell hQ c4 3 ((p1 + 148) + 6)) (fun x15 c16 => ?_)
      refine l1_ck (fun hz => ?_)
      exact l1_retZ mt_X1_isSummed rfl rfl rfl hz
theorem ok_X1_isSummed {Q : hS → am_H → Prop} (hQ : l1_em kc Q) (N : Nat) (c : hS) (p1 : Int32) : l1_T wI Q am_i_X1_isSummed [.ref 34, .int p1] c (f_X1_isSummed N c p1) := l1_of (en_X1_isSummed hQ N c p1) ⟨rfl, rfl, trivial⟩
set_option maxRecDepth 100000 in
theorem en_X1_isHead {Q : hS → am_H → Prop} (hQ : l1_em kc Q) (N : Nat) (c : hS) (p1 : Int32) : l1_G (wN wI) Q am_i_X1_isHead 0 [some (.ref 34), some (.int p1)] [] c (f_X1_isHead N c p1) := by
  rw [f_X1_isHead]
  refine l1_many mt_X1_isHead (pc' := 2) (L' := [some (.ref 34), some (.int p1)]) (st' := [.int p1, .ref 34]) 2 rfl ?_
  refine l1_callV hQ mt_X1_isHead mt_X1_isSummed rfl rfl (o := 34) (ci := 0) (As := [.int p1]) (rest := []) rfl rfl rfl rfl rfl rfl (st1 := fun x1 => [.int x1]) (fun _ => rfl) (ok_X1_isSummed hQ N c p1) (fun x1 c2 => ?_)
  refine l1_many mt_X1_isHead (pc' := bif am_cc .eq x1 0 then 102 else 8) (L' := [some (.ref 34), some (.int p1)]) (st' := []) 1 rfl ?_
  refine l1_bif rfl ?_ ?_
  · refine l1_many mt_X1_isHead (pc' := 103) (L' := [some (.ref 34), some (.int p1)]) (st' := [.int 0]) 1 rfl ?_
    exact l1_ret mt_X1_isHead rfl rfl rfl
  · refine l1_many mt_X1_isHead (pc' := 18) (L' := [some (.ref 34), some (.int p1)]) (st' := [.int 5, .ref 1000000001, .int (p1 + 257), .ref 34]) 6 rfl ?_
    refine l1_callV hQ mt_X1_isHead mt_X0_isMarked rfl rfl (o := 34) (ci := 0) (As := [.int (p1 + 257), .ref 1000000001, .int 5]) (rest := []) rfl rfl rfl rfl rfl rfl (st1 := fun x3 => [.int x3]) (fun _ => rfl) (ok_X0_isMarked_34 hQ N c2 (p1 + 257) sa1 5 oa1) (fun x3 c4 => ?_)
    refine l1_many mt_X1_isHead (pc' := bif am_cc .eq x3 0 then 102 else 24) (L' := [some (.ref 34), some (.int p1)]) (st' := []) 1 rfl ?_
    refine l1_bif rfl ?_ ?_
    · refine l1_many mt_X1_isHead (pc' := 103) (L' := [some (.ref 34), some (.int p1)]) (st' := [.int 0]) 1 rfl ?_
      exact l1_ret mt_X1_isHead rfl rfl rfl
    · refine l1_many mt_X1_isHead (pc' := 31) (L' := [some (.ref 34), some (.int p1)]) (st' := [.int 8, .int (p1 + 100), .ref 34]) 5 rfl ?_
      refine l1_callV hQ mt_X1_isHead mt_X1_isOctal rfl rfl (o := 34) (ci := 0) (As := [.int (p1 + 100), .int 8]) (rest := []) rfl rfl rfl rfl rfl rfl (st1 := fun x5 => [.int x5]) (fun _ => rfl) (ok_X1_isOctal hQ N c4 (p1 + 100) 8) (fun x5 c6 => ?_)
      refine l1_many mt_X1_isHead (pc' := bif am_cc .eq x5 0 then 102 else 37) (L' := [some (.ref 34), some (.int p1)]) (st' := []) 1 rfl ?_
      refine l1_bif rfl ?_ ?_
      · refine l1_many mt_X1_isHead (pc' := 103) (L' := [some (.ref 34), some (.int p1)]) (st' := [.int 0]) 1 rfl ?_
        exact l1_ret mt_X1_isHead rfl rfl rfl
      · refine l1_many mt_X1_isHead (pc' := 44) (L' := [some (.ref 34), some (.int p1)]) (st' := [.int 8, .int (p1 + 108), .ref 34]) 5 rfl ?_
        refine l1_callV hQ mt_X1_isHead mt_X1_isOctal rfl rfl (o := 34) (ci := 0) (As := [.int (p1 + 108), .int 8]) (rest := []) rfl rfl rfl rfl rfl rfl (st1 := fun x7 => [.int x7]) (fun _ => rfl) (ok_X1_isOctal hQ N c6 (p1 + 108) 8) (fun x7 c8 => ?_)
        refine l1_many mt_X1_isHead (pc' := bif am_cc .eq x7 0 then 102 else 50) (L' := [some (.ref 34), some (.int p1)]) (st' := []) 1 rfl ?_
        refine l1_bif rfl ?_ ?_
        · refine l1_many mt_X1_isHead (pc' := 103) (L' := [some (.ref 34), some (.int p1)]) (st' := [.int 0]) 1 rfl ?_
          exact l1_ret mt_X1_isHead rfl rfl rfl
        · refine l1_many mt_X1_isHead (pc' := 57) (L' := [some (.ref 34), some (.int p1)]) (st' := [.int 8, .int (p1 + 116), .ref 34]) 5 rfl ?_
          refine l1_callV hQ mt_X1_isHead mt_X1_isOctal rfl rfl (o := 34) (ci := 0) (As := [.int (p1 + 116), .int 8]) (rest := []) rfl rfl rfl rfl rfl rfl (st1 := fun x9 => [.int x9]) (fun _ => rfl) (ok_X1_isOctal hQ N c8 (p1 + 116) 8) (fun x9 c10 => ?_)
          refine l1_many mt_X1_isHead (pc' := bif am_cc .eq x9 0 then 102 else 63) (L' := [some (.ref 34), some (.int p1)]) (st' := []) 1 rfl ?_
          refine l1_bif rfl ?_ ?_
          · refine l1_many mt_X1_isHead (pc' := 103) (L' := [some (.ref 34), some (.int p1)]) (st' := [.int 0]) 1 rfl ?_
            exact l1_ret mt_X1_isHead rfl rfl rfl
          · refine l1_many mt_X1_isHead (pc' := 70) (L' := [some (.ref 34), some (.int p1)]) (st' := [.int 12, .int (p1 + 124), .ref 34]) 5 rfl ?_
            refine l1_callV hQ mt_X1_isHead mt_X1_isOctal rfl rfl (o := 34) (ci := 0) (As := [.int (p1 + 124), .int 12]) (rest := []) rfl rfl rfl rfl rfl rfl (st1 := fun x11 => [.int x11]) (fun _ => rfl) (ok_X1_isOctal hQ N c10 (p1 + 124) 12) (fun x11 c12 => ?_)
            refine l1_many mt_X1_isHead (pc' := bif am_cc .eq x11 0 then 102 else 76) (L' := [some (.ref 34), some (.int p1)]) (st' := []) 1 rfl ?_
            refine l1_bif rfl ?_ ?_
            · refine l1_many mt_X1_isHead (pc' := 103) (L' := [some (.ref 34), some (.int p1)]) (st' := [.int 0]) 1 rfl ?_
              exact l1_ret mt_X1_isHead rfl rfl rfl
            · refine l1_many mt_X1_isHead (pc' := 84) (L' := [some (.ref 34), some (.int p1)]) (st' := [.int 12, .int (p1 + 136), .ref 34]) 5 rfl ?_
              refine l1_callV hQ mt_X1_isHead mt_X1_isOctal rfl rfl (o := 34) (ci := 0) (As := [.int (p1 + 136), .int 12]) (rest := []) rfl rfl rfl rfl rfl rfl (st1 := fun x13 => [.int x13]) (fun _ => rfl) (ok_X1_isOctal hQ N c12 (p1 + 136) 12) (fun x13 c14 => ?_)
              refine l1_many mt_X1_isHead (pc' := bif am_cc .eq x13 0 then 102 else 90) (L' := [some (.ref 34), some (.int p1)]) (st' := []) 1 rfl ?_
              refine l1_bif rfl ?_ ?_
              · refine l1_many mt_X1_isHead (pc' := 103) (L' := [some (.ref 34), some (.int p1)]) (st' := [.int 0]) 1 rfl ?_
                exact l1_ret mt_X1_isHead rfl rfl rfl
              · refine l1_many mt_X1_isHead (pc' := 92) (L' := [some (.ref 34), some (.int p1)]) (st' := [.int p1, .ref 34]) 2 rfl ?_
                refine l1_callV hQ mt_X1_isHead mt_X1_isSorted rfl rfl (o := 34) (ci := 0) (As := [.int p1]) (rest := []) rfl rfl rfl rfl rfl rfl (st1 := fun x15 => [.int x15]) (fun _ => rfl) (ok_X1_isSorted hQ N c14 p1) (fun x15 c16 => ?_)
                refine l1_many mt_X1_isHead (pc' := bif am_cc .eq x15 0 then 102 else 98) (L' := [some (.ref 34), some (.int p1)]) (st' := []) 1 rfl ?_
                refine l1_bif rfl ?_ ?_
                · refine l1_many mt_X1_isHead (pc' := 103) (L' := [some (.ref 34), some (.int p1)]) (st' := [.int 0]) 1 rfl ?_
                  exact l1_ret mt_X1_isHead rfl rfl rfl
                · refine l1_many mt_X1_isHead (pc' := 103) (L' := [some (.ref 34), some (.int p1)]) (st' := [.int 1]) 2 rfl ?_
                  exact l1_ret mt_X1_isHead rfl rfl rfl
theorem ok_X1_isHead {Q : hS → am_H → Prop} (hQ : l1_em kc Q) (N : Nat) (c : hS) (p1 : Int32) : l1_T wI Q am_i_X1_isHead [.ref 34, .int p1] c (f_X1_isHead N c p1) := l1_of (en_X1_isHead hQ N c p1) ⟨rfl, rfl, trivial⟩
set_option maxRecDepth 100000 in
theorem ok_X1_addToPath_2 {Q : hS → am_H → Prop} (hQ : l1_em kc Q) (N : Nat) (p1 : Int32) (p2 : Int32) : ∀ n : Nat, ∀ (c : hS) (v3 : Int32), l1_G (wN wV) Q am_i_X1_addToPath 2 [some (.ref 34), some (.int p1), some (.int p2), some (.int v3)] [] c (f_X1_addToPath_2 N p1 p2 n c v3) := by
  intro n
  induction n with
  | zero => intro c v3; exact l1_none
  | succ n ih =>
    intro c v3
    rw [f_X1_addToPath_2]
    refine l1_many mt_X1_addToPath (pc' := bif am_cc .ge v3 (p1 + p2) then 41 else 9) (L' := [some (.ref 34), some (.int p1), some (.int p2), some (.int v3)]) (st' := []) 5 rfl ?_
    refine l1_bif rfl ?_ ?_
    · exact l1_ret mt_X1_addToPath rfl rfl rfl
    · refine l1_many mt_X1_addToPath (pc' := 10) (L' := [some (.ref 34), some (.int p1), some (.int p2), some (.int v3)]) (st' := [.ref 34]) 1 rfl ?_
      refine l1_getR hQ mt_X1_addToPath rfl (o := 34) (ci := 0) (k := 0) (a := 1) (b := 2) rfl rfl rfl rfl rfl (q := 3) rfl ?_
      refine l1_many mt_X1_addToPath (pc' := 14) (L' := [some (.ref 34), some (.int p1), some (.int p2), some (.int v3)]) (st' := [.int v3, .ref 3]) 1 rfl ?_
      refine l1_callV hQ mt_X1_addToPath mt_X2_get rfl rfl (o := 3) (ci := 1) (As := [.int v3]) (rest := []) rfl rfl rfl rfl rfl rfl (st1 := fun x1 => [.int x1]) (fun _ => rfl) (ok_X2_get hQ c 3 v3 rfl) (fun x1 c2 => ?_)
      refine l1_many mt_X1_addToPath (pc' := bif am_cc .eq x1 0 then 41 else 20) (L' := [some (.ref 34), some (.int p1), some (.int p2), some (.int v3)]) (st' := []) 1 rfl ?_
      refine l1_bif rfl ?_ ?_
      · exact l1_ret mt_X1_addToPath rfl rfl rfl
      · refine l1_many mt_X1_addToPath (pc' := 21) (L' := [some (.ref 34), some (.int p1), some (.int p2), some (.int v3)]) (st' := [.ref 34]) 1 rfl ?_
        refine l1_getR hQ mt_X1_addToPath rfl (o := 34) (ci := 0) (k := 1) (a := 1) (b := 2) rfl rfl rfl rfl rfl (q := 5) rfl ?_
        refine l1_many mt_X1_addToPath (pc' := 25) (L' := [some (.ref 34), some (.int p1), some (.int p2), some (.int v3)]) (st' := [.ref 34, .ref 5]) 1 rfl ?_
        refine l1_getR hQ mt_X1_addToPath rfl (o := 34) (ci := 0) (k := 0) (a := 1) (b := 2) rfl rfl rfl rfl rfl (q := 3) rfl ?_
        refine l1_many mt_X1_addToPath (pc' := 29) (L' := [some (.ref 34), some (.int p1), some (.int p2), some (.int v3)]) (st' := [.int v3, .ref 3, .ref 5]) 1 rfl ?_
        refine l1_callV hQ mt_X1_addToPath mt_X2_get rfl rfl (o := 3) (ci := 1) (As := [.int v3]) (rest := [.ref 5]) rfl rfl rfl rfl rfl rfl (st1 := fun x3 => [.int x3, .ref 5]) (fun _ => rfl) (ok_X2_get hQ c2 3 v3 rfl) (fun x3 c4 => ?_)
        refine l1_callV hQ mt_X1_addToPath mt_X2_add rfl rfl (o := 5) (ci := 1) (As := [.int x3]) (rest := []) rfl rfl rfl rfl rfl rfl (st1 := fun _ => []) (fun _ => rfl) (ok_X2_add hQ c4 5 x3 rfl) (fun _ c5 => ?_)
        refine l1_many mt_X1_addToPath (pc' := 2) (L' := [some (.ref 34), some (.int p1), some (.int p2), some (.int (v3 + 1))]) (st' := []) 2 rfl ?_
        exact ih c5 (v3 + 1)
set_option maxRecDepth 100000 in
theorem en_X1_addToPath {Q : hS → am_H → Prop} (hQ : l1_em kc Q) (N : Nat) (c : hS) (p1 : Int32) (p2 : Int32) : l1_G (wN wV) Q am_i_X1_addToPath 0 [some (.ref 34), some (.int p1), some (.int p2)] [] c (f_X1_addToPath N c p1 p2) := by
  rw [f_X1_addToPath]
  refine l1_many mt_X1_addToPath (pc' := 2) (L' := [some (.ref 34), some (.int p1), some (.int p2), some (.int p1)]) (st' := []) 2 rfl ?_
  exact ok_X1_addToPath_2 hQ N p1 p2 N c p1
theorem ok_X1_addToPath {Q : hS → am_H → Prop} (hQ : l1_em kc Q) (N : Nat) (c : hS) (p1 : Int32) (p2 : Int32) : l1_T wV Q am_i_X1_addToPath [.ref 34, .int p1, .int p2] c (f_X1_addToPath N c p1 p2) := l1_of (en_X1_addToPath hQ N c p1 p2) ⟨rfl, rfl, rfl, trivial⟩
end
section
/-! THAT THE MACHINE FOLLOWS THEM, printed by gen_l1.py -/
set_option maxRecDepth 100000 in
theorem ok_X1_spell_39 {Q : hS → am_H → Prop} (hQ : l1_em kc Q) (N : Nat) (p1 : Int32) (p2 : Int32) : ∀ (c : hS), l1_G (wN wV) Q am_i_X1_spell 39 [some (.ref 34), some (.int p1), some (.int p2)] [] c (f_X1_spell_39 N p1 p2 c) := by
  intro c
  rw [f_X1_spell_39]
  refine l1_many mt_X1_spell (pc' := 43) (L' := [some (.ref 34), some (.int p1), some (.int p2)]) (st' := [.int 100, .int p1, .ref 34]) 3 rfl ?_
  refine l1_callV hQ mt_X1_spell mt_X1_addToPath rfl rfl (o := 34) (ci := 0) (As := [.int p1, .int 100]) (rest := []) rfl rfl rfl rfl rfl rfl (st1 := fun _ => []) (fun _ => rfl) (ok_X1_addToPath hQ N c p1 100) (fun _ c1 => ?_)
  refine l1_many mt_X1_spell (pc' := 47) (L' := [some (.ref 34), some (.int p1), some (.int p2)]) (st' := [.ref 34]) 1 rfl ?_
  refine l1_getR hQ mt_X1_spell rfl (o := 34) (ci := 0) (k := 1) (a := 1) (b := 2) rfl rfl rfl rfl rfl (q := 5) rfl ?_
  refine l1_callV hQ mt_X1_spell mt_X2_size rfl rfl (o := 5) (ci := 1) (As := []) (rest := []) rfl rfl rfl rfl rfl rfl (st1 := fun x2 => [.int x2]) (fun _ => rfl) (ok_X2_size hQ c1 5 rfl) (fun x2 c3 => ?_)
  refine l1_many mt_X1_spell (pc' := bif am_cc .eq p2 0 then 81 else 60) (L' := [some (.ref 34), some (.int p1), some (.int p2), some (.int (x2 - 1))]) (st' := []) 5 rfl ?_
  refine l1_bif rfl ?_ ?_
  · exact l1_ret mt_X1_spell rfl rfl rfl
  · refine l1_many mt_X1_spell (pc' := 61) (L' := [some (.ref 34), some (.int p1), some (.int p2), some (.int (x2 - 1))]) (st' := [.ref 34]) 1 rfl ?_
    refine l1_getR hQ mt_X1_spell rfl (o := 34) (ci := 0) (k := 1) (a := 1) (b := 2) rfl rfl rfl rfl rfl (q := 5) rfl ?_
    refine l1_many mt_X1_spell (pc' := 65) (L' := [some (.ref 34), some (.int p1), some (.int p2), some (.int (x2 - 1))]) (st' := [.int (x2 - 1), .ref 5]) 1 rfl ?_
    refine l1_callV hQ mt_X1_spell mt_X2_get rfl rfl (o := 5) (ci := 1) (As := [.int (x2 - 1)]) (rest := []) rfl rfl rfl rfl rfl rfl (st1 := fun x4 => [.int x4]) (fun _ => rfl) (ok_X2_get hQ c3 5 (x2 - 1) rfl) (fun x4 c5 => ?_)
    refine l1_many mt_X1_spell (pc' := bif am_cc .ne x4 47 then 81 else 73) (L' := [some (.ref 34), some (.int p1), some (.int p2), some (.int (x2 - 1))]) (st' := []) 2 rfl ?_
    refine l1_bin rfl ?_ ?_
    · refine l1_many mt_X1_spell (pc' := 74) (L' := [some (.ref 34), some (.int p1), some (.int p2), some (.int (x2 - 1))]) (st' := [.ref 34]) 1 rfl ?_
      refine l1_getR hQ mt_X1_spell rfl (o := 34) (ci := 0) (k := 1) (a := 1) (b := 2) rfl rfl rfl rfl rfl (q := 5) rfl ?_
      refine l1_many mt_X1_spell (pc' := 78) (L' := [some (.ref 34), some (.int p1), some (.int p2), some (.int (x2 - 1))]) (st' := [.int (x2 - 1), .ref 5]) 1 rfl ?_
      refine l1_callV hQ mt_X1_spell mt_X2_cutTo rfl rfl (o := 5) (ci := 1) (As := [.int (x2 - 1)]) (rest := []) rfl rfl rfl rfl rfl rfl (st1 := fun _ => []) (fun _ => rfl) (ok_X2_cutTo hQ c5 5 (x2 - 1) rfl) (fun _ c6 => ?_)
      exact l1_ret mt_X1_spell rfl rfl rfl
    · exact l1_ret mt_X1_spell rfl rfl rfl
set_option maxRecDepth 100000 in
theorem en_X1_spell {Q : hS → am_H → Prop} (hQ : l1_em kc Q) (N : Nat) (c : hS) (p1 : Int32) (p2 : Int32) : l1_G (wN wV) Q am_i_X1_spell 0 [some (.ref 34), some (.int p1), some (.int p2)] [] c (f_X1_spell N c p1 p2) := by
  rw [f_X1_spell]
  refine l1_many mt_X1_spell (pc' := 1) (L' := [some (.ref 34), some (.int p1), some (.int p2)]) (st' := [.ref 34]) 1 rfl ?_
  refine l1_getR hQ mt_X1_spell rfl (o := 34) (ci := 0) (k := 1) (a := 1) (b := 2) rfl rfl rfl rfl rfl (q := 5) rfl ?_
  refine l1_many mt_X1_spell (pc' := 5) (L' := [some (.ref 34), some (.int p1), some (.int p2)]) (st' := [.int 0, .ref 5]) 1 rfl ?_
  refine l1_callV hQ mt_X1_spell mt_X2_cutTo rfl rfl (o := 5) (ci := 1) (As := [.int 0]) (rest := []) rfl rfl rfl rfl rfl rfl (st1 := fun _ => []) (fun _ => rfl) (ok_X2_cutTo hQ c 5 0 rfl) (fun _ c1 => ?_)
  refine l1_many mt_X1_spell (pc' := 17) (L' := [some (.ref 34), some (.int p1), some (.int p2)]) (st' := [.int 155, .int (p1 + 345), .ref 34]) 5 rfl ?_
  refine l1_callV hQ mt_X1_spell mt_X1_addToPath rfl rfl (o := 34) (ci := 0) (As := [.int (p1 + 345), .int 155]) (rest := []) rfl rfl rfl rfl rfl rfl (st1 := fun _ => []) (fun _ => rfl) (ok_X1_addToPath hQ N c1 (p1 + 345) 155) (fun _ c2 => ?_)
  refine l1_many mt_X1_spell (pc' := 21) (L' := [some (.ref 34), some (.int p1), some (.int p2)]) (st' := [.ref 34]) 1 rfl ?_
  refine l1_getR hQ mt_X1_spell rfl (o := 34) (ci := 0) (k := 1) (a := 1) (b := 2) rfl rfl rfl rfl rfl (q := 5) rfl ?_
  refine l1_callV hQ mt_X1_spell mt_X2_size rfl rfl (o := 5) (ci := 1) (As := []) (rest := []) rfl rfl rfl rfl rfl rfl (st1 := fun x3 => [.int x3]) (fun _ => rfl) (ok_X2_size hQ c2 5 rfl) (fun x3 c4 => ?_)
  refine l1_many mt_X1_spell (pc' := bif am_cc .le x3 0 then 39 else 30) (L' := [some (.ref 34), some (.int p1), some (.int p2)]) (st' := []) 1 rfl ?_
  refine l1_bif rfl ?_ ?_
  · exact ok_X1_spell_39 hQ N p1 p2 c4
  · refine l1_many mt_X1_spell (pc' := 31) (L' := [some (.ref 34), some (.int p1), some (.int p2)]) (st' := [.ref 34]) 1 rfl ?_
    refine l1_getR hQ mt_X1_spell rfl (o := 34) (ci := 0) (k := 1) (a := 1) (b := 2) rfl rfl rfl rfl rfl (q := 5) rfl ?_
    refine l1_many mt_X1_spell (pc' := 36) (L' := [some (.ref 34), some (.int p1), some (.int p2)]) (st' := [.int 47, .ref 5]) 1 rfl ?_
    refine l1_callV hQ mt_X1_spell mt_X2_add rfl rfl (o := 5) (ci := 1) (As := [.int 47]) (rest := []) rfl rfl rfl rfl rfl rfl (st1 := fun _ => []) (fun _ => rfl) (ok_X2_add hQ c4 5 47 rfl) (fun _ c5 => ?_)
    exact ok_X1_spell_39 hQ N p1 p2 c5
theorem ok_X1_spell {Q : hS → am_H → Prop} (hQ : l1_em kc Q) (N : Nat) (c : hS) (p1 : Int32) (p2 : Int32) : l1_T wV Q am_i_X1_spell [.ref 34, .int p1, .int p2] c (f_X1_spell N c p1 p2) := l1_of (en_X1_spell hQ N c p1 p2) ⟨rfl, rfl, rfl, trivial⟩
set_option maxRecDepth 100000 in
theorem ok_X1_takeIn_92 {Q : hS → am_H → Prop} (hQ : l1_em kc Q) (N : Nat) (p1 : Nat) (hp1 : kc p1 = 8) {k4 : hS → Int32 → Int32 → Option (Int32 × hS)} (hk4 : ∀ c v2 v3, l1_G (wN wI) Q am_i_X1_takeIn 4 [some (.ref 34), some (.ref p1), some (.int v2), some (.int v3)] [] c (k4 c v2 v3)) : ∀ (c : hS) (v2 : Int32) (v3 : Int32) (w0 : Int32), l1_G (wN wI) Q am_i_X1_takeIn 92 [some (.ref 34), some (.ref p1), some (.int v2), some (.int v3)] [.int w0] c (f_X1_takeIn_92 N p1 k4 c v2 v3 w0) := by
  intro c v2 v3 w0
  rw [f_X1_takeIn_92]
  refine l1_many mt_X1_takeIn (pc' := 108) (L' := [some (.ref 34), some (.ref p1), some (.int v2), some (.int v3), some (.int w0), some (.int (v2 + 512))]) (st' := [.int 11, .int (v2 + 124), .ref 34]) 10 rfl ?_
  refine l1_callV hQ mt_X1_takeIn mt_X1_octal rfl rfl (o := 34) (ci := 0) (As := [.int (v2 + 124), .int 11]) (rest := []) rfl rfl rfl rfl rfl rfl (st1 := fun x1 => [.long x1]) (fun _ => rfl) (ok_X1_octal hQ N c (v2 + 124) 11) (fun x1 c2 => ?_)
  refine l1_many mt_X1_takeIn (pc' := 121) (L' := [some (.ref 34), some (.ref p1), some (.int v2), some (.int v3), some (.int w0), some (.int (v2 + 512)), some (.int x1.toInt32)]) (st' := [.int 512, .int x1.toInt32, .int (v2 + 512)]) 5 rfl ?_
  refine l1_callS mt_X1_takeIn mt_X11_roundedUp rfl rfl (As := [.int x1.toInt32, .int 512]) (rest := [.int (v2 + 512)]) rfl rfl rfl (st1 := fun x3 => [.int x3, .int (v2 + 512)]) (fun _ => rfl) (ok_X11_roundedUp hQ c2 x1.toInt32 512) (fun x3 c4 => ?_)
  refine l1_many mt_X1_takeIn (pc' := 131) (L' := [some (.ref 34), some (.ref p1), some (.int v2), some (.int v3), some (.int w0), some (.int (v2 + 512)), some (.int x1.toInt32), some (.int ((v2 + 512) + x3))]) (st' := [.int w0, .int v2, .ref 34]) 5 rfl ?_
  refine l1_callV hQ mt_X1_takeIn mt_X1_spell rfl rfl (o := 34) (ci := 0) (As := [.int v2, .int w0]) (rest := []) rfl rfl rfl rfl rfl rfl (st1 := fun _ => []) (fun _ => rfl) (ok_X1_spell hQ N c4 v2 w0) (fun _ c5 => ?_)
  refine l1_many mt_X1_takeIn (pc' := 136) (L' := [some (.ref 34), some (.ref p1), some (.int v2), some (.int v3), some (.int w0), some (.int (v2 + 512)), some (.int x1.toInt32), some (.int ((v2 + 512) + x3))]) (st' := [.int v2, .ref 34]) 2 rfl ?_
  refine l1_callV hQ mt_X1_takeIn mt_X0_isNamed rfl rfl (o := 34) (ci := 0) (As := [.int v2]) (rest := []) rfl rfl rfl rfl rfl rfl (st1 := fun x6 => [.int x6]) (fun _ => rfl) (ok_X0_isNamed_34 hQ N c5 v2) (fun x6 c7 => ?_)
  refine l1_many mt_X1_takeIn (pc' := bif am_cc .eq x6 0 then 173 else 142) (L' := [some (.ref 34), some (.ref p1), some (.int v2), some (.int v3), some (.int w0), some (.int (v2 + 512)), some (.int x1.toInt32), some (.int ((v2 + 512) + x3))]) (st' := []) 1 rfl ?_
  refine l1_bif rfl ?_ ?_
  · refine l1_many mt_X1_takeIn (pc' := 174) (L' := [some (.ref 34), some (.ref p1), some (.int v2), some (.int v3), some (.int w0), some (.int (v2 + 512)), some (.int x1.toInt32), some (.int ((v2 + 512) + x3))]) (st' := [.int 0]) 1 rfl ?_
    exact l1_ret mt_X1_takeIn rfl rfl rfl
  · refine l1_many mt_X1_takeIn (pc' := 145) (L' := [some (.ref 34), some (.ref p1), some (.int v2), some (.int v3), some (.int w0), some (.int (v2 + 512)), some (.int x1.toInt32), some (.int ((v2 + 512) + x3))]) (st' := [.int ((v2 + 512) + x3), .ref 34]) 2 rfl ?_
    refine l1_callV hQ mt_X1_takeIn mt_X0_reaches rfl rfl (o := 34) (ci := 0) (As := [.int ((v2 + 512) + x3)]) (rest := []) rfl rfl rfl rfl rfl rfl (st1 := fun x8 => [.int x8]) (fun _ => rfl) (ok_X0_reaches_34 hQ c7 ((v2 + 512) + x3)) (fun x8 c9 => ?_)
    refine l1_many mt_X1_takeIn (pc' := bif am_cc .eq x8 0 then 173 else 151) (L' := [some (.ref 34), some (.ref p1), some (.int v2), some (.int v3), some (.int w0), some (.int (v2 + 512)), some (.int x1.toInt32), some (.int ((v2 + 512) + x3))]) (st' := []) 1 rfl ?_
    refine l1_bif rfl ?_ ?_
    · refine l1_many mt_X1_takeIn (pc' := 174) (L' := [some (.ref 34), some (.ref p1), some (.int v2), some (.int v3), some (.int w0), some (.int (v2 + 512)), some (.int x1.toInt32), some (.int ((v2 + 512) + x3))]) (st' := [.int 0]) 1 rfl ?_
      exact l1_ret mt_X1_takeIn rfl rfl rfl
    · refine l1_many mt_X1_takeIn (pc' := 156) (L' := [some (.ref 34), some (.ref p1), some (.int v2), some (.int v3), some (.int w0), some (.int (v2 + 512)), some (.int x1.toInt32), some (.int ((v2 + 512) + x3))]) (st' := [.ref 34, .int w0, .ref p1, .ref 34]) 4 rfl ?_
      refine l1_getR hQ mt_X1_takeIn rfl (o := 34) (ci := 0) (k := 0) (a := 1) (b := 2) rfl rfl rfl rfl rfl (q := 3) rfl ?_
      refine l1_many mt_X1_takeIn (pc' := 167) (L' := [some (.ref 34), some (.ref p1), some (.int v2), some (.int v3), some (.int w0), some (.int (v2 + 512)), some (.int x1.toInt32), some (.int ((v2 + 512) + x3))]) (st' := [.int v2, .int ((v2 + 512) + x1.toInt32), .int (v2 + 512), .ref 3, .int w0, .ref p1, .ref 34]) 5 rfl ?_
      refine l1_callV hQ mt_X1_takeIn mt_X0_arrives rfl rfl (o := 34) (ci := 0) (As := [.ref p1, .int w0, .ref 3, .int (v2 + 512), .int ((v2 + 512) + x1.toInt32), .int v2]) (rest := []) rfl rfl rfl rfl rfl rfl (st1 := fun x10 => [.int x10]) (fun _ => rfl) (ok_X0_arrives_34 hQ N c9 p1 w0 3 (v2 + 512) ((v2 + 512) + x1.toInt32) v2 hp1 rfl) (fun x10 c11 => ?_)
      refine l1_many mt_X1_takeIn (pc' := bif am_cc .ne x10 0 then 175 else 173) (L' := [some (.ref 34), some (.ref p1), some (.int v2), some (.int v3), some (.int w0), some (.int (v2 + 512)), some (.int x1.toInt32), some (.int ((v2 + 512) + x3))]) (st' := []) 1 rfl ?_
      refine l1_bin rfl ?_ ?_
      · refine l1_many mt_X1_takeIn (pc' := 174) (L' := [some (.ref 34), some (.ref p1), some (.int v2), some (.int v3), some (.int w0), some (.int (v2 + 512)), some (.int x1.toInt32), some (.int ((v2 + 512) + x3))]) (st' := [.int 0]) 1 rfl ?_
        exact l1_ret mt_X1_takeIn rfl rfl rfl
      · refine l1_many mt_X1_takeIn (pc' := 4) (L' := [some (.ref 34), some (.ref p1), some (.int ((v2 + 512) + x3)), some (.int (v3 + 1)), some (.int w0), some (.int (v2 + 512)), some (.int x1.toInt32), some (.int ((v2 + 512) + x3))]) (st' := []) 4 rfl ?_
        refine l1_weak (m := [true, true, true, true, false, false, false, false]) (L' := [some (.ref 34), some (.ref p1), some (.int ((v2 + 512) + x3)), some (.int (v3 + 1))]) rfl ?_
        exact hk4 c11 ((v2 + 512) + x3) (v3 + 1)
set_option maxRecDepth 100000 in
theorem ok_X1_takeIn_184 {Q : hS → am_H → Prop} (hQ : l1_em kc Q) (N : Nat) (p1 : Nat) (hp1 : kc p1 = 8) : ∀ (c : hS), l1_G (wN wI) Q am_i_X1_takeIn 184 [some (.ref 34)] [] c (f_X1_takeIn_184 N p1 c) := by
  intro c
  rw [f_X1_takeIn_184]
  refine l1_many mt_X1_takeIn (pc' := 185) (L' := [some (.ref 34)]) (st' := [.ref 34]) 1 rfl ?_
  refine l1_getR hQ mt_X1_takeIn rfl (o := 34) (ci := 0) (k := 2) (a := 1) (b := 2) rfl rfl rfl rfl rfl (q := 9) rfl ?_
  refine l1_many mt_X1_takeIn (pc' := 190) (L' := [some (.ref 34)]) (st' := [.ref 34, .int 1, .ref 9]) 2 rfl ?_
  refine l1_getR hQ mt_X1_takeIn rfl (o := 34) (ci := 0) (k := 0) (a := 1) (b := 2) rfl rfl rfl rfl rfl (q := 3) rfl ?_
  refine l1_callV hQ mt_X1_takeIn mt_X2_size rfl rfl (o := 3) (ci := 1) (As := []) (rest := [.int 1, .ref 9]) rfl rfl rfl rfl rfl rfl (st1 := fun x1 => [.int x1, .int 1, .ref 9]) (fun _ => rfl) (ok_X2_size hQ c 3 rfl) (fun x1 c2 => ?_)
  refine l1_callV hQ mt_X1_takeIn mt_X6_tell rfl rfl (o := 9) (ci := 5) (As := [.int 1, .int x1]) (rest := []) rfl rfl rfl rfl rfl rfl (st1 := fun x3 => [.int x3]) (fun _ => rfl) (ok_X6_tell hQ c2 1 x1) (fun x3 c4 => ?_)
  refine l1_ck (fun hz => ?_)
  exact l1_retZ mt_X1_takeIn rfl rfl rfl hz
set_option maxRecDepth 100000 in
theorem ok_X1_takeIn_4 {Q : hS → am_H → Prop} (hQ : l1_em kc Q) (N : Nat) (p1 : Nat) (hp1 : kc p1 = 8) : ∀ n : Nat, ∀ (c : hS) (v2 : Int32) (v3 : Int32), l1_G (wN wI) Q am_i_X1_takeIn 4 [some (.ref 34), some (.ref p1), some (.int v2), some (.int v3)] [] c (f_X1_takeIn_4 N p1 n c v2 v3) := by
  intro n
  induction n with
  | zero => intro c v2 v3; exact l1_none
  | succ n ih =>
    intro c v2 v3
    rw [f_X1_takeIn_4]
    refine l1_many mt_X1_takeIn (pc' := bif am_cc .ge v3 20000 then 184 else 11) (L' := [some (.ref 34), some (.ref p1), some (.int v2), some (.int v3)]) (st' := []) 3 rfl ?_
    refine l1_bif rfl ?_ ?_
    · refine l1_weak (m := [true, false, false, false, false, false, false, false]) (L' := [some (.ref 34)]) rfl ?_
      exact ok_X1_takeIn_184 hQ N p1 hp1 c
    · refine l1_many mt_X1_takeIn (pc' := 17) (L' := [some (.ref 34), some (.ref p1), some (.int v2), some (.int v3)]) (st' := [.ref 34, .int (v2 + 512)]) 4 rfl ?_
      refine l1_getR hQ mt_X1_takeIn rfl (o := 34) (ci := 0) (k := 0) (a := 1) (b := 2) rfl rfl rfl rfl rfl (q := 3) rfl ?_
      refine l1_callV hQ mt_X1_takeIn mt_X2_size rfl rfl (o := 3) (ci := 1) (As := []) (rest := [.int (v2 + 512)]) rfl rfl rfl rfl rfl rfl (st1 := fun x1 => [.int x1, .int (v2 + 512)]) (fun _ => rfl) (ok_X2_size hQ c 3 rfl) (fun x1 c2 => ?_)
      refine l1_many mt_X1_takeIn (pc' := bif am_cc .gt (v2 + 512) x1 then 184 else 26) (L' := [some (.ref 34), some (.ref p1), some (.int v2), some (.int v3)]) (st' := []) 1 rfl ?_
      refine l1_bif rfl ?_ ?_
      · refine l1_weak (m := [true, false, false, false, false, false, false, false]) (L' := [some (.ref 34)]) rfl ?_
        exact ok_X1_takeIn_184 hQ N p1 hp1 c2
      · refine l1_many mt_X1_takeIn (pc' := 28) (L' := [some (.ref 34), some (.ref p1), some (.int v2), some (.int v3)]) (st' := [.int v2, .ref 34]) 2 rfl ?_
        refine l1_callV hQ mt_X1_takeIn mt_X1_isEmptyBlock rfl rfl (o := 34) (ci := 0) (As := [.int v2]) (rest := []) rfl rfl rfl rfl rfl rfl (st1 := fun x3 => [.int x3]) (fun _ => rfl) (ok_X1_isEmptyBlock hQ N c2 v2) (fun x3 c4 => ?_)
        refine l1_many mt_X1_takeIn (pc' := bif am_cc .eq x3 0 then 60 else 34) (L' := [some (.ref 34), some (.ref p1), some (.int v2), some (.int v3)]) (st' := []) 1 rfl ?_
        refine l1_bif rfl ?_ ?_
        · refine l1_many mt_X1_takeIn (pc' := 62) (L' := [some (.ref 34), some (.ref p1), some (.int v2), some (.int v3)]) (st' := [.int v2, .ref 34]) 2 rfl ?_
          refine l1_callV hQ mt_X1_takeIn mt_X1_isHead rfl rfl (o := 34) (ci := 0) (As := [.int v2]) (rest := []) rfl rfl rfl rfl rfl rfl (st1 := fun x5 => [.int x5]) (fun _ => rfl) (ok_X1_isHead hQ N c4 v2) (fun x5 c6 => ?_)
          refine l1_many mt_X1_takeIn (pc' := bif am_cc .ne x5 0 then 70 else 68) (L' := [some (.ref 34), some (.ref p1), some (.int v2), some (.int v3)]) (st' := []) 1 rfl ?_
          refine l1_bin rfl ?_ ?_
          · refine l1_many mt_X1_takeIn (pc' := 69) (L' := [some (.ref 34), some (.ref p1), some (.int v2), some (.int v3)]) (st' := [.int 0]) 1 rfl ?_
            exact l1_ret mt_X1_takeIn rfl rfl rfl
          · refine l1_many mt_X1_takeIn (pc' := 71) (L' := [some (.ref 34), some (.ref p1), some (.int v2), some (.int v3)]) (st' := [.ref 34]) 1 rfl ?_
            refine l1_getR hQ mt_X1_takeIn rfl (o := 34) (ci := 0) (k := 0) (a := 1) (b := 2) rfl rfl rfl rfl rfl (q := 3) rfl ?_
            refine l1_many mt_X1_takeIn (pc' := 79) (L' := [some (.ref 34), some (.ref p1), some (.int v2), some (.int v3)]) (st' := [.int (v2 + 156), .ref 3]) 3 rfl ?_
            refine l1_callV hQ mt_X1_takeIn mt_X2_get rfl rfl (o := 3) (ci := 1) (As := [.int (v2 + 156)]) (rest := []) rfl rfl rfl rfl rfl rfl (st1 := fun x7 => [.int x7]) (fun _ => rfl) (ok_X2_get hQ c6 3 (v2 + 156) rfl) (fun x7 c8 => ?_)
            refine l1_many mt_X1_takeIn (pc' := bif am_cc .ne x7 53 then 91 else 87) (L' := [some (.ref 34), some (.ref p1), some (.int v2), some (.int v3)]) (st' := []) 2 rfl ?_
            refine l1_bin rfl ?_ ?_
            · refine l1_many mt_X1_takeIn (pc' := 92) (L' := [some (.ref 34), some (.ref p1), some (.int v2), some (.int v3)]) (st' := [.int 1]) 2 rfl ?_
              exact ok_X1_takeIn_92 hQ N p1 hp1 ih c8 v2 v3 1
            · refine l1_many mt_X1_takeIn (pc' := 92) (L' := [some (.ref 34), some (.ref p1), some (.int v2), some (.int v3)]) (st' := [.int 0]) 1 rfl ?_
              exact ok_X1_takeIn_92 hQ N p1 hp1 ih c8 v2 v3 0
        · refine l1_many mt_X1_takeIn (pc' := 40) (L' := [some (.ref 34), some (.ref p1), some (.int v2), some (.int v3)]) (st' := [.int (v2 + 1024), .ref 34]) 4 rfl ?_
          refine l1_callV hQ mt_X1_takeIn mt_X0_reaches rfl rfl (o := 34) (ci := 0) (As := [.int (v2 + 1024)]) (rest := []) rfl rfl rfl rfl rfl rfl (st1 := fun x9 => [.int x9]) (fun _ => rfl) (ok_X0_reaches_34 hQ c4 (v2 + 1024)) (fun x9 c10 => ?_)
          refine l1_many mt_X1_takeIn (pc' := bif am_cc .eq x9 0 then 58 else 46) (L' := [some (.ref 34), some (.ref p1), some (.int v2), some (.int v3)]) (st' := []) 1 rfl ?_
          refine l1_bif rfl ?_ ?_
          · refine l1_many mt_X1_takeIn (pc' := 59) (L' := [some (.ref 34), some (.ref p1), some (.int v2), some (.int v3)]) (st' := [.int 0]) 1 rfl ?_
            exact l1_ret mt_X1_takeIn rfl rfl rfl
          · refine l1_many mt_X1_takeIn (pc' := 48) (L' := [some (.ref 34), some (.ref p1), some (.int v2), some (.int v3)]) (st' := [.int v2, .ref 34]) 2 rfl ?_
            refine l1_callV hQ mt_X1_takeIn mt_X0_isZeroFrom rfl rfl (o := 34) (ci := 0) (As := [.int v2]) (rest := []) rfl rfl rfl rfl rfl rfl (st1 := fun x11 => [.int x11]) (fun _ => rfl) (ok_X0_isZeroFrom_34 hQ N c10 v2) (fun x11 c12 => ?_)
            refine l1_many mt_X1_takeIn (pc' := bif am_cc .eq x11 0 then 58 else 54) (L' := [some (.ref 34), some (.ref p1), some (.int v2), some (.int v3)]) (st' := []) 1 rfl ?_
            refine l1_bif rfl ?_ ?_
            · refine l1_many mt_X1_takeIn (pc' := 59) (L' := [some (.ref 34), some (.ref p1), some (.int v2), some (.int v3)]) (st' := [.int 0]) 1 rfl ?_
              exact l1_ret mt_X1_takeIn rfl rfl rfl
            · refine l1_many mt_X1_takeIn (pc' := 59) (L' := [some (.ref 34), some (.ref p1), some (.int v2), some (.int v3)]) (st' := [.int 1]) 2 rfl ?_
              exact l1_ret mt_X1_takeIn rfl rfl rfl
set_option maxRecDepth 100000 in
theorem en_X1_takeIn {Q : hS → am_H → Prop} (hQ : l1_em kc Q) (N : Nat) (c : hS) (p1 : Nat) (hp1 : kc p1 = 8) : l1_G (wN wI) Q am_i_X1_takeIn 0 [some (.ref 34), some (.ref p1)] [] c (f_X1_takeIn N c p1) := by
  rw [f_X1_takeIn]
  refine l1_many mt_X1_takeIn (pc' := 4) (L' := [some (.ref 34), some (.ref p1), some (.int 0), some (.int 0)]) (st' := []) 4 rfl ?_
  exact ok_X1_takeIn_4 hQ N p1 hp1 N c 0 0
theorem ok_X1_takeIn {Q : hS → am_H → Prop} (hQ : l1_em kc Q) (N : Nat) (c : hS) (p1 : Nat) (hp1 : kc p1 = 8) : l1_T wI Q am_i_X1_takeIn [.ref 34, .ref p1] c (f_X1_takeIn N c p1) := l1_of (en_X1_takeIn hQ N c p1 hp1) ⟨rfl, rfl, trivial⟩
set_option maxRecDepth 100000 in
theorem ok_X1_addOctal_4 {Q : hS → am_H → Prop} (hQ : l1_em kc Q) (N : Nat) (p1 : Int32) (p2 : Int32) : ∀ n : Nat, ∀ (c : hS) (v3 : Int32), l1_G (wN wV) Q am_i_X1_addOctal 4 [some (.ref 34), some (.int p1), none, some (.int v3)] [] c (f_X1_addOctal_4 N p1 p2 n c v3) := by
  intro n
  induction n with
  | zero => intro c v3; exact l1_none
  | succ n ih =>
    intro c v3
    rw [f_X1_addOctal_4]
    refine l1_many mt_X1_addOctal (pc' := bif am_cc .lt v3 0 then 32 else 8) (L' := [some (.ref 34), some (.int p1), none, some (.int v3)]) (st' := []) 2 rfl ?_
    refine l1_bif rfl ?_ ?_
    · exact l1_ret mt_X1_addOctal rfl rfl rfl
    · refine l1_many mt_X1_addOctal (pc' := 9) (L' := [some (.ref 34), some (.int p1), none, some (.int v3)]) (st' := [.ref 34]) 1 rfl ?_
      refine l1_getR hQ mt_X1_addOctal rfl (o := 34) (ci := 0) (k := 0) (a := 1) (b := 2) rfl rfl rfl rfl rfl (q := 3) rfl ?_
      refine l1_many mt_X1_addOctal (pc' := 23) (L' := [some (.ref 34), some (.int p1), none, some (.int v3)]) (st' := [.int (48 + ((j_ushr p1 (3 * v3)) &&& 7)), .ref 3]) 9 rfl ?_
      refine l1_callV hQ mt_X1_addOctal mt_X2_add rfl rfl (o := 3) (ci := 1) (As := [.int (48 + ((j_ushr p1 (3 * v3)) &&& 7))]) (rest := []) rfl rfl rfl rfl rfl rfl (st1 := fun _ => []) (fun _ => rfl) (ok_X2_add hQ c 3 (48 + ((j_ushr p1 (3 * v3)) &&& 7)) rfl) (fun _ c1 => ?_)
      refine l1_many mt_X1_addOctal (pc' := 4) (L' := [some (.ref 34), some (.int p1), none, some (.int (v3 + (-1)))]) (st' := []) 2 rfl ?_
      exact ih c1 (v3 + (-1))
set_option maxRecDepth 100000 in
theorem en_X1_addOctal {Q : hS → am_H → Prop} (hQ : l1_em kc Q) (N : Nat) (c : hS) (p1 : Int32) (p2 : Int32) : l1_G (wN wV) Q am_i_X1_addOctal 0 [some (.ref 34), some (.int p1), some (.int p2)] [] c (f_X1_addOctal N c p1 p2) := by
  rw [f_X1_addOctal]
  refine l1_many mt_X1_addOctal (pc' := 4) (L' := [some (.ref 34), some (.int p1), some (.int p2), some (.int (p2 - 1))]) (st' := []) 4 rfl ?_
  refine l1_weak (m := [true, true, false, true]) (L' := [some (.ref 34), some (.int p1), none, some (.int (p2 - 1))]) rfl ?_
  exact ok_X1_addOctal_4 hQ N p1 p2 N c (p2 - 1)
theorem ok_X1_addOctal {Q : hS → am_H → Prop} (hQ : l1_em kc Q) (N : Nat) (c : hS) (p1 : Int32) (p2 : Int32) : l1_T wV Q am_i_X1_addOctal [.ref 34, .int p1, .int p2] c (f_X1_addOctal N c p1 p2) := l1_of (en_X1_addOctal hQ N c p1 p2) ⟨rfl, rfl, rfl, trivial⟩
set_option maxRecDepth 100000 in
theorem en_X2_set {Q : hS → am_H → Prop} (hQ : l1_em kc Q) (c : hS) (b : Nat) (p1 : Int32) (p2 : Int32) (hb : kc b = 1) : l1_G (wN wV) Q am_i_X2_set 0 [some (.ref b), some (.int p1), some (.int p2)] [] c (f_X2_set c b p1 p2) := by
  rw [f_X2_set]
  refine l1_many mt_X2_set (pc' := bif am_cc .lt p1 0 then 32 else 4) (L' := [some (.ref b), some (.int p1), some (.int p2)]) (st' := []) 2 rfl ?_
  refine l1_bif rfl ?_ ?_
  · exact l1_ret mt_X2_set rfl rfl rfl
  · refine l1_many mt_X2_set (pc' := 6) (L' := [some (.ref b), some (.int p1), some (.int p2)]) (st' := [.ref b, .int p1]) 2 rfl ?_
    refine l1_getI hQ mt_X2_set rfl (o := b) (ci := 1) (k := 1) (a := 0) (b := 0) hb rfl rfl rfl rfl ?_
    refine l1_many mt_X2_set (pc' := bif am_cc .ge p1 (c.1 b 1) then 32 else 12) (L' := [some (.ref b), some (.int p1), some (.int p2)]) (st' := []) 1 rfl ?_
    refine l1_bif rfl ?_ ?_
    · exact l1_ret mt_X2_set rfl rfl rfl
    · refine l1_many mt_X2_set (pc' := 14) (L' := [some (.ref b), some (.int p1), some (.int p2)]) (st' := [.ref b, .int p1]) 2 rfl ?_
      refine l1_getR hQ mt_X2_set rfl (o := b) (ci := 1) (k := 0) (a := 0) (b := 1) hb rfl rfl rfl rfl (q := (b + 1)) rfl ?_
      refine l1_len hQ mt_X2_set rfl (o := (b + 1)) (ci := 20) (kc1_1 hb) rfl rfl ?_
      refine l1_many mt_X2_set (pc' := bif am_cc .ge p1 (Int32.ofNat (ln (b + 1))) then 32 else 21) (L' := [some (.ref b), some (.int p1), some (.int p2)]) (st' := []) 1 rfl ?_
      refine l1_bif rfl ?_ ?_
      · exact l1_ret mt_X2_set rfl rfl rfl
      · refine l1_many mt_X2_set (pc' := 22) (L' := [some (.ref b), some (.int p1), some (.int p2)]) (st' := [.ref b]) 1 rfl ?_
        refine l1_getR hQ mt_X2_set rfl (o := b) (ci := 1) (k := 0) (a := 0) (b := 1) hb rfl rfl rfl rfl (q := (b + 1)) rfl ?_
        refine l1_many mt_X2_set (pc' := 31) (L' := [some (.ref b), some (.int p1), some (.int p2)]) (st' := [.int (p2 &&& 255), .int p1, .ref (b + 1)]) 4 rfl ?_
        refine l1_ck (fun hx => ?_)
        refine l1_ast hQ mt_X2_set rfl (o := (b + 1)) (kc1_1 hb) hx (fun c1 => ?_)
        exact l1_ret mt_X2_set rfl rfl rfl
theorem ok_X2_set {Q : hS → am_H → Prop} (hQ : l1_em kc Q) (c : hS) (b : Nat) (p1 : Int32) (p2 : Int32) (hb : kc b = 1) : l1_T wV Q am_i_X2_set [.ref b, .int p1, .int p2] c (f_X2_set c b p1 p2) := l1_of (en_X2_set hQ c b p1 p2 hb) ⟨rfl, rfl, rfl, trivial⟩
set_option maxRecDepth 100000 in
theorem ok_X1_setSum_8 {Q : hS → am_H → Prop} (hQ : l1_em kc Q) (N : Nat) (p1 : Int32) : ∀ n : Nat, ∀ (c : hS) (v2 : Int32) (v3 : Int32), l1_G (wN wV) Q am_i_X1_setSum 8 [some (.ref 34), some (.int p1), some (.int v2), some (.int v3)] [] c (f_X1_setSum_8 N p1 n c v2 v3) := by
  intro n
  induction n with
  | zero => intro c v2 v3; exact l1_none
  | succ n ih =>
    intro c v2 v3
    rw [f_X1_setSum_8]
    refine l1_many mt_X1_setSum (pc' := bif am_cc .ge v3 6 then 47 else 14) (L' := [some (.ref 34), some (.int p1), some (.int v2), some (.int v3)]) (st' := []) 3 rfl ?_
    refine l1_bif rfl ?_ ?_
    · exact l1_ret mt_X1_setSum rfl rfl rfl
    · refine l1_many mt_X1_setSum (pc' := 15) (L' := [some (.ref 34), some (.int p1), some (.int v2), some (.int v3)]) (st' := [.ref 34]) 1 rfl ?_
      refine l1_getR hQ mt_X1_setSum rfl (o := 34) (ci := 0) (k := 0) (a := 1) (b := 2) rfl rfl rfl rfl rfl (q := 3) rfl ?_
      refine l1_many mt_X1_setSum (pc' := 38) (L' := [some (.ref 34), some (.int p1), some (.int v2), some (.int v3)]) (st' := [.int (48 + ((j_ushr v2 (3 * (5 - v3))) &&& 7)), .int ((p1 + 148) + v3), .ref 3]) 16 rfl ?_
      refine l1_callV hQ mt_X1_setSum mt_X2_set rfl rfl (o := 3) (ci := 1) (As := [.int ((p1 + 148) + v3), .int (48 + ((j_ushr v2 (3 * (5 - v3))) &&& 7))]) (rest := []) rfl rfl rfl rfl rfl rfl (st1 := fun _ => []) (fun _ => rfl) (ok_X2_set hQ c 3 ((p1 + 148) + v3) (48 + ((j_ushr v2 (3 * (5 - v3))) &&& 7)) rfl) (fun _ c1 => ?_)
      refine l1_many mt_X1_setSum (pc' := 8) (L' := [some (.ref 34), some (.int p1), some (.int v2), some (.int (v3 + 1))]) (st' := []) 2 rfl ?_
      exact ih c1 v2 (v3 + 1)
set_option maxRecDepth 100000 in
theorem en_X1_setSum {Q : hS → am_H → Prop} (hQ : l1_em kc Q) (N : Nat) (c : hS) (p1 : Int32) : l1_G (wN wV) Q am_i_X1_setSum 0 [some (.ref 34), some (.int p1)] [] c (f_X1_setSum N c p1) := by
  rw [f_X1_setSum]
  refine l1_many mt_X1_setSum (pc' := 2) (L' := [some (.ref 34), some (.int p1)]) (st' := [.int p1, .ref 34]) 2 rfl ?_
  refine l1_callV hQ mt_X1_setSum mt_X1_sumOf rfl rfl (o := 34) (ci := 0) (As := [.int p1]) (rest := []) rfl rfl rfl rfl rfl rfl (st1 := fun x1 => [.int x1]) (fun _ => rfl) (ok_X1_sumOf hQ N c p1) (fun x1 c2 => ?_)
  refine l1_many mt_X1_setSum (pc' := 8) (L' := [some (.ref 34), some (.int p1), some (.int x1), some (.int 0)]) (st' := []) 3 rfl ?_
  exact ok_X1_setSum_8 hQ N p1 N c2 x1 0
theorem ok_X1_setSum {Q : hS → am_H → Prop} (hQ : l1_em kc Q) (N : Nat) (c : hS) (p1 : Int32) : l1_T wV Q am_i_X1_setSum [.ref 34, .int p1] c (f_X1_setSum N c p1) := l1_of (en_X1_setSum hQ N c p1) ⟨rfl, rfl, trivial⟩
set_option maxRecDepth 100000 in
theorem ok_X2_addMark_2 {Q : hS → am_H → Prop} (hQ : l1_em kc Q) (N : Nat) (b : Nat) (p1 : List Int32) (hb : kc b = 1) {q1 : Nat} (hp1 : l1_OA q1 p1) : ∀ n : Nat, ∀ (c : hS) (v2 : Int32), l1_G (wN wV) Q am_i_X2_addMark 2 [some (.ref b), some (.ref q1), some (.int v2)] [] c (f_X2_addMark_2 N b p1 n c v2) := by
  intro n
  induction n with
  | zero => intro c v2; exact l1_none
  | succ n ih =>
    intro c v2
    rw [f_X2_addMark_2]
    refine l1_many mt_X2_addMark (pc' := 4) (L' := [some (.ref b), some (.ref q1), some (.int v2)]) (st' := [.ref q1, .int v2]) 2 rfl ?_
    refine l1_slen hQ mt_X2_addMark rfl hp1 ?_
    refine l1_many mt_X2_addMark (pc' := bif am_cc .ge v2 (Int32.ofNat p1.length) then 21 else 8) (L' := [some (.ref b), some (.ref q1), some (.int v2)]) (st' := []) 1 rfl ?_
    refine l1_bif rfl ?_ ?_
    · exact l1_ret mt_X2_addMark rfl rfl rfl
    · refine l1_many mt_X2_addMark (pc' := 11) (L' := [some (.ref b), some (.ref q1), some (.int v2)]) (st' := [.int v2, .ref q1, .ref b]) 3 rfl ?_
      refine l1_ck (fun hx => ?_)
      refine l1_sald hQ mt_X2_addMark rfl hp1 hx ?_
      refine l1_callV hQ mt_X2_addMark mt_X2_add rfl rfl (o := b) (ci := 1) (As := [.int (p1.getD v2.toNatClampNeg 0)]) (rest := []) rfl rfl hb rfl rfl rfl (st1 := fun _ => []) (fun _ => rfl) (ok_X2_add hQ c b (p1.getD v2.toNatClampNeg 0) hb) (fun _ c1 => ?_)
      refine l1_many mt_X2_addMark (pc' := 2) (L' := [some (.ref b), some (.ref q1), some (.int (v2 + 1))]) (st' := []) 2 rfl ?_
      exact ih c1 (v2 + 1)
set_option maxRecDepth 100000 in
theorem en_X2_addMark {Q : hS → am_H → Prop} (hQ : l1_em kc Q) (N : Nat) (c : hS) (b : Nat) (p1 : List Int32) (hb : kc b = 1) {q1 : Nat} (hp1 : l1_OA q1 p1) : l1_G (wN wV) Q am_i_X2_addMark 0 [some (.ref b), some (.ref q1)] [] c (f_X2_addMark N c b p1) := by
  rw [f_X2_addMark]
  refine l1_many mt_X2_addMark (pc' := 2) (L' := [some (.ref b), some (.ref q1), some (.int 0)]) (st' := []) 2 rfl ?_
  exact ok_X2_addMark_2 hQ N b p1 hb hp1 N c 0
theorem ok_X2_addMark {Q : hS → am_H → Prop} (hQ : l1_em kc Q) (N : Nat) (c : hS) (b : Nat) (p1 : List Int32) (hb : kc b = 1) {q1 : Nat} (hp1 : l1_OA q1 p1) : l1_T wV Q am_i_X2_addMark [.ref b, .ref q1] c (f_X2_addMark N c b p1) := l1_of (en_X2_addMark hQ N c b p1 hb hp1) ⟨rfl, rfl, trivial⟩
set_option maxRecDepth 100000 in
theorem ok_X2_addText_2 {Q : hS → am_H → Prop} (hQ : l1_em kc Q) (N : Nat) (b : Nat) (p1 : List Int32) (hb : kc b = 1) {q1 : Nat} (hp1 : l1_OT q1 p1) : ∀ n : Nat, ∀ (c : hS) (v2 : Int32), l1_G (wN wV) Q am_i_X2_addText 2 [some (.ref b), some (.ref q1), some (.int v2)] [] c (f_X2_addText_2 N b p1 n c v2) := by
  intro n
  induction n with
  | zero => intro c v2; exact l1_none
  | succ n ih =>
    intro c v2
    rw [f_X2_addText_2]
    refine l1_many mt_X2_addText (pc' := 4) (L' := [some (.ref b), some (.ref q1), some (.int v2)]) (st' := [.ref q1, .int v2]) 2 rfl ?_
    refine l1_tlen mt_X2_addText rfl rfl rfl hp1 rfl ?_
    refine l1_many mt_X2_addText (pc' := bif am_cc .ge v2 (Int32.ofNat p1.length) then 25 else 10) (L' := [some (.ref b), some (.ref q1), some (.int v2)]) (st' := []) 1 rfl ?_
    refine l1_bif rfl ?_ ?_
    · exact l1_ret mt_X2_addText rfl rfl rfl
    · refine l1_many mt_X2_addText (pc' := 13) (L' := [some (.ref b), some (.ref q1), some (.int v2)]) (st' := [.int v2, .ref q1, .ref b]) 3 rfl ?_
      refine l1_ck (fun hx => ?_)
      refine l1_tch mt_X2_addText rfl rfl rfl hp1 hx rfl ?_
      refine l1_callV hQ mt_X2_addText mt_X2_add rfl rfl (o := b) (ci := 1) (As := [.int (p1.getD v2.toNatClampNeg 0)]) (rest := []) rfl rfl hb rfl rfl rfl (st1 := fun _ => []) (fun _ => rfl) (ok_X2_add hQ c b (p1.getD v2.toNatClampNeg 0) hb) (fun _ c1 => ?_)
      refine l1_many mt_X2_addText (pc' := 2) (L' := [some (.ref b), some (.ref q1), some (.int (v2 + 1))]) (st' := []) 2 rfl ?_
      exact ih c1 (v2 + 1)
set_option maxRecDepth 100000 in
theorem en_X2_addText {Q : hS → am_H → Prop} (hQ : l1_em kc Q) (N : Nat) (c : hS) (b : Nat) (p1 : List Int32) (hb : kc b = 1) {q1 : Nat} (hp1 : l1_OT q1 p1) : l1_G (wN wV) Q am_i_X2_addText 0 [some (.ref b), some (.ref q1)] [] c (f_X2_addText N c b p1) := by
  rw [f_X2_addText]
  refine l1_many mt_X2_addText (pc' := 2) (L' := [some (.ref b), some (.ref q1), some (.int 0)]) (st' := []) 2 rfl ?_
  exact ok_X2_addText_2 hQ N b p1 hb hp1 N c 0
theorem ok_X2_addText {Q : hS → am_H → Prop} (hQ : l1_em kc Q) (N : Nat) (c : hS) (b : Nat) (p1 : List Int32) (hb : kc b = 1) {q1 : Nat} (hp1 : l1_OT q1 p1) : l1_T wV Q am_i_X2_addText [.ref b, .ref q1] c (f_X2_addText N c b p1) := l1_of (en_X2_addText hQ N c b p1 hb hp1) ⟨rfl, rfl, trivial⟩
set_option maxRecDepth 100000 in
theorem ok_X2_addZeros_2 {Q : hS → am_H → Prop} (hQ : l1_em kc Q) (N : Nat) (b : Nat) (p1 : Int32) (hb : kc b = 1) : ∀ n : Nat, ∀ (c : hS) (v2 : Int32), l1_G (wN wV) Q am_i_X2_addZeros 2 [some (.ref b), some (.int p1), some (.int v2)] [] c (f_X2_addZeros_2 N b p1 n c v2) := by
  intro n
  induction n with
  | zero => intro c v2; exact l1_none
  | succ n ih =>
    intro c v2
    rw [f_X2_addZeros_2]
    refine l1_many mt_X2_addZeros (pc' := bif am_cc .ge v2 p1 then 18 else 7) (L' := [some (.ref b), some (.int p1), some (.int v2)]) (st' := []) 3 rfl ?_
    refine l1_bif rfl ?_ ?_
    · exact l1_ret mt_X2_addZeros rfl rfl rfl
    · refine l1_many mt_X2_addZeros (pc' := 9) (L' := [some (.ref b), some (.int p1), some (.int v2)]) (st' := [.int 0, .ref b]) 2 rfl ?_
      refine l1_callV hQ mt_X2_addZeros mt_X2_add rfl rfl (o := b) (ci := 1) (As := [.int 0]) (rest := []) rfl rfl hb rfl rfl rfl (st1 := fun _ => []) (fun _ => rfl) (ok_X2_add hQ c b 0 hb) (fun _ c1 => ?_)
      refine l1_many mt_X2_addZeros (pc' := 2) (L' := [some (.ref b), some (.int p1), some (.int (v2 + 1))]) (st' := []) 2 rfl ?_
      exact ih c1 (v2 + 1)
set_option maxRecDepth 100000 in
theorem en_X2_addZeros {Q : hS → am_H → Prop} (hQ : l1_em kc Q) (N : Nat) (c : hS) (b : Nat) (p1 : Int32) (hb : kc b = 1) : l1_G (wN wV) Q am_i_X2_addZeros 0 [some (.ref b), some (.int p1)] [] c (f_X2_addZeros N c b p1) := by
  rw [f_X2_addZeros]
  refine l1_many mt_X2_addZeros (pc' := 2) (L' := [some (.ref b), some (.int p1), some (.int 0)]) (st' := []) 2 rfl ?_
  exact ok_X2_addZeros_2 hQ N b p1 hb N c 0
theorem ok_X2_addZeros {Q : hS → am_H → Prop} (hQ : l1_em kc Q) (N : Nat) (c : hS) (b : Nat) (p1 : Int32) (hb : kc b = 1) : l1_T wV Q am_i_X2_addZeros [.ref b, .int p1] c (f_X2_addZeros N c b p1) := l1_of (en_X2_addZeros hQ N c b p1 hb) ⟨rfl, rfl, trivial⟩
set_option maxRecDepth 100000 in
theorem ok_X1_addHead_176 {Q : hS → am_H → Prop} (hQ : l1_em kc Q) (N : Nat) (p1 : Nat) (hp1 : kc p1 = 6) : ∀ (c : hS) (v2 : Int32) (w0 : Int32), l1_G (wN wV) Q am_i_X1_addHead 176 [some (.ref 34), none, some (.int v2)] [.int w0, .ref 3] c (f_X1_addHead_176 N p1 c v2 w0) := by
  intro c v2 w0
  rw [f_X1_addHead_176]
  refine l1_callV hQ mt_X1_addHead mt_X2_add rfl rfl (o := 3) (ci := 1) (As := [.int w0]) (rest := []) rfl rfl rfl rfl rfl rfl (st1 := fun _ => []) (fun _ => rfl) (ok_X2_add hQ c 3 w0 rfl) (fun _ c1 => ?_)
  refine l1_many mt_X1_addHead (pc' := 180) (L' := [some (.ref 34), none, some (.int v2)]) (st' := [.ref 34]) 1 rfl ?_
  refine l1_getR hQ mt_X1_addHead rfl (o := 34) (ci := 0) (k := 0) (a := 1) (b := 2) rfl rfl rfl rfl rfl (q := 3) rfl ?_
  refine l1_many mt_X1_addHead (pc' := 189) (L' := [some (.ref 34), none, some (.int v2)]) (st' := [.ref 34, .int (v2 + 257), .ref 3]) 4 rfl ?_
  refine l1_getR hQ mt_X1_addHead rfl (o := 34) (ci := 0) (k := 0) (a := 1) (b := 2) rfl rfl rfl rfl rfl (q := 3) rfl ?_
  refine l1_callV hQ mt_X1_addHead mt_X2_size rfl rfl (o := 3) (ci := 1) (As := []) (rest := [.int (v2 + 257), .ref 3]) rfl rfl rfl rfl rfl rfl (st1 := fun x2 => [.int x2, .int (v2 + 257), .ref 3]) (fun _ => rfl) (ok_X2_size hQ c1 3 rfl) (fun x2 c3 => ?_)
  refine l1_many mt_X1_addHead (pc' := 196) (L' := [some (.ref 34), none, some (.int v2)]) (st' := [.int ((v2 + 257) - x2), .ref 3]) 1 rfl ?_
  refine l1_callV hQ mt_X1_addHead mt_X2_addZeros rfl rfl (o := 3) (ci := 1) (As := [.int ((v2 + 257) - x2)]) (rest := []) rfl rfl rfl rfl rfl rfl (st1 := fun _ => []) (fun _ => rfl) (ok_X2_addZeros hQ N c3 3 ((v2 + 257) - x2) rfl) (fun _ c4 => ?_)
  refine l1_many mt_X1_addHead (pc' := 200) (L' := [some (.ref 34), none, some (.int v2)]) (st' := [.ref 34]) 1 rfl ?_
  refine l1_getR hQ mt_X1_addHead rfl (o := 34) (ci := 0) (k := 0) (a := 1) (b := 2) rfl rfl rfl rfl rfl (q := 3) rfl ?_
  refine l1_many mt_X1_addHead (pc' := 206) (L' := [some (.ref 34), none, some (.int v2)]) (st' := [.ref 1000000001, .ref 3]) 1 rfl ?_
  refine l1_callV hQ mt_X1_addHead mt_X2_addMark rfl rfl (o := 3) (ci := 1) (As := [.ref 1000000001]) (rest := []) rfl rfl rfl rfl rfl rfl (st1 := fun _ => []) (fun _ => rfl) (ok_X2_addMark hQ N c4 3 sa1 rfl oa1) (fun _ c5 => ?_)
  refine l1_many mt_X1_addHead (pc' := 210) (L' := [some (.ref 34), none, some (.int v2)]) (st' := [.ref 34]) 1 rfl ?_
  refine l1_getR hQ mt_X1_addHead rfl (o := 34) (ci := 0) (k := 0) (a := 1) (b := 2) rfl rfl rfl rfl rfl (q := 3) rfl ?_
  refine l1_many mt_X1_addHead (pc' := 219) (L' := [some (.ref 34), none, some (.int v2)]) (st' := [.ref 34, .int (v2 + 329), .ref 3]) 4 rfl ?_
  refine l1_getR hQ mt_X1_addHead rfl (o := 34) (ci := 0) (k := 0) (a := 1) (b := 2) rfl rfl rfl rfl rfl (q := 3) rfl ?_
  refine l1_callV hQ mt_X1_addHead mt_X2_size rfl rfl (o := 3) (ci := 1) (As := []) (rest := [.int (v2 + 329), .ref 3]) rfl rfl rfl rfl rfl rfl (st1 := fun x6 => [.int x6, .int (v2 + 329), .ref 3]) (fun _ => rfl) (ok_X2_size hQ c5 3 rfl) (fun x6 c7 => ?_)
  refine l1_many mt_X1_addHead (pc' := 226) (L' := [some (.ref 34), none, some (.int v2)]) (st' := [.int ((v2 + 329) - x6), .ref 3]) 1 rfl ?_
  refine l1_callV hQ mt_X1_addHead mt_X2_addZeros rfl rfl (o := 3) (ci := 1) (As := [.int ((v2 + 329) - x6)]) (rest := []) rfl rfl rfl rfl rfl rfl (st1 := fun _ => []) (fun _ => rfl) (ok_X2_addZeros hQ N c7 3 ((v2 + 329) - x6) rfl) (fun _ c8 => ?_)
  refine l1_many mt_X1_addHead (pc' := 230) (L' := [some (.ref 34), none, some (.int v2)]) (st' := [.ref 34]) 1 rfl ?_
  refine l1_getR hQ mt_X1_addHead rfl (o := 34) (ci := 0) (k := 0) (a := 1) (b := 2) rfl rfl rfl rfl rfl (q := 3) rfl ?_
  refine l1_many mt_X1_addHead (pc' := 235) (L' := [some (.ref 34), none, some (.int v2)]) (st' := [.ref 1000000117, .ref 3]) 1 rfl ?_
  refine l1_callV hQ mt_X1_addHead mt_X2_addText rfl rfl (o := 3) (ci := 1) (As := [.ref 1000000117]) (rest := []) rfl rfl rfl rfl rfl rfl (st1 := fun _ => []) (fun _ => rfl) (ok_X2_addText hQ N c8 3 tx17 rfl ot17) (fun _ c9 => ?_)
  refine l1_many mt_X1_addHead (pc' := 239) (L' := [some (.ref 34), none, some (.int v2)]) (st' := [.ref 34]) 1 rfl ?_
  refine l1_getR hQ mt_X1_addHead rfl (o := 34) (ci := 0) (k := 0) (a := 1) (b := 2) rfl rfl rfl rfl rfl (q := 3) rfl ?_
  refine l1_many mt_X1_addHead (pc' := 243) (L' := [some (.ref 34), none, some (.int v2)]) (st' := [.int 0, .ref 3]) 1 rfl ?_
  refine l1_callV hQ mt_X1_addHead mt_X2_add rfl rfl (o := 3) (ci := 1) (As := [.int 0]) (rest := []) rfl rfl rfl rfl rfl rfl (st1 := fun _ => []) (fun _ => rfl) (ok_X2_add hQ c9 3 0 rfl) (fun _ c10 => ?_)
  refine l1_many mt_X1_addHead (pc' := 247) (L' := [some (.ref 34), none, some (.int v2)]) (st' := [.ref 34]) 1 rfl ?_
  refine l1_getR hQ mt_X1_addHead rfl (o := 34) (ci := 0) (k := 0) (a := 1) (b := 2) rfl rfl rfl rfl rfl (q := 3) rfl ?_
  refine l1_many mt_X1_addHead (pc' := 252) (L' := [some (.ref 34), none, some (.int v2)]) (st' := [.ref 1000000117, .ref 3]) 1 rfl ?_
  refine l1_callV hQ mt_X1_addHead mt_X2_addText rfl rfl (o := 3) (ci := 1) (As := [.ref 1000000117]) (rest := []) rfl rfl rfl rfl rfl rfl (st1 := fun _ => []) (fun _ => rfl) (ok_X2_addText hQ N c10 3 tx17 rfl ot17) (fun _ c11 => ?_)
  refine l1_many mt_X1_addHead (pc' := 256) (L' := [some (.ref 34), none, some (.int v2)]) (st' := [.ref 34]) 1 rfl ?_
  refine l1_getR hQ mt_X1_addHead rfl (o := 34) (ci := 0) (k := 0) (a := 1) (b := 2) rfl rfl rfl rfl rfl (q := 3) rfl ?_
  refine l1_many mt_X1_addHead (pc' := 265) (L' := [some (.ref 34), none, some (.int v2)]) (st' := [.ref 34, .int (v2 + 512), .ref 3]) 4 rfl ?_
  refine l1_getR hQ mt_X1_addHead rfl (o := 34) (ci := 0) (k := 0) (a := 1) (b := 2) rfl rfl rfl rfl rfl (q := 3) rfl ?_
  refine l1_callV hQ mt_X1_addHead mt_X2_size rfl rfl (o := 3) (ci := 1) (As := []) (rest := [.int (v2 + 512), .ref 3]) rfl rfl rfl rfl rfl rfl (st1 := fun x12 => [.int x12, .int (v2 + 512), .ref 3]) (fun _ => rfl) (ok_X2_size hQ c11 3 rfl) (fun x12 c13 => ?_)
  refine l1_many mt_X1_addHead (pc' := 272) (L' := [some (.ref 34), none, some (.int v2)]) (st' := [.int ((v2 + 512) - x12), .ref 3]) 1 rfl ?_
  refine l1_callV hQ mt_X1_addHead mt_X2_addZeros rfl rfl (o := 3) (ci := 1) (As := [.int ((v2 + 512) - x12)]) (rest := []) rfl rfl rfl rfl rfl rfl (st1 := fun _ => []) (fun _ => rfl) (ok_X2_addZeros hQ N c13 3 ((v2 + 512) - x12) rfl) (fun _ c14 => ?_)
  refine l1_many mt_X1_addHead (pc' := 277) (L' := [some (.ref 34), none, some (.int v2)]) (st' := [.int v2, .ref 34]) 2 rfl ?_
  refine l1_callV hQ mt_X1_addHead mt_X1_setSum rfl rfl (o := 34) (ci := 0) (As := [.int v2]) (rest := []) rfl rfl rfl rfl rfl rfl (st1 := fun _ => []) (fun _ => rfl) (ok_X1_setSum hQ N c14 v2) (fun _ c15 => ?_)
  exact l1_ret mt_X1_addHead rfl rfl rfl
set_option maxRecDepth 100000 in
theorem ok_X1_addHead_51 {Q : hS → am_H → Prop} (hQ : l1_em kc Q) (N : Nat) (p1 : Nat) (hp1 : kc p1 = 6) : ∀ (c : hS) (v2 : Int32) (w0 : List Int32) (qw0 : Nat) (hw0 : l1_OT qw0 w0), l1_G (wN wV) Q am_i_X1_addHead 51 [some (.ref 34), some (.ref p1), some (.int v2)] [.ref qw0, .ref 3] c (f_X1_addHead_51 N p1 c v2 w0) := by
  intro c v2 w0 qw0 hw0
  rw [f_X1_addHead_51]
  refine l1_callV hQ mt_X1_addHead mt_X2_addText rfl rfl (o := 3) (ci := 1) (As := [.ref qw0]) (rest := []) rfl rfl rfl rfl rfl rfl (st1 := fun _ => []) (fun _ => rfl) (ok_X2_addText hQ N c 3 w0 rfl hw0) (fun _ c1 => ?_)
  refine l1_many mt_X1_addHead (pc' := 55) (L' := [some (.ref 34), some (.ref p1), some (.int v2)]) (st' := [.ref 34]) 1 rfl ?_
  refine l1_getR hQ mt_X1_addHead rfl (o := 34) (ci := 0) (k := 0) (a := 1) (b := 2) rfl rfl rfl rfl rfl (q := 3) rfl ?_
  refine l1_many mt_X1_addHead (pc' := 59) (L' := [some (.ref 34), some (.ref p1), some (.int v2)]) (st' := [.int 0, .ref 3]) 1 rfl ?_
  refine l1_callV hQ mt_X1_addHead mt_X2_add rfl rfl (o := 3) (ci := 1) (As := [.int 0]) (rest := []) rfl rfl rfl rfl rfl rfl (st1 := fun _ => []) (fun _ => rfl) (ok_X2_add hQ c1 3 0 rfl) (fun _ c2 => ?_)
  refine l1_many mt_X1_addHead (pc' := 63) (L' := [some (.ref 34), some (.ref p1), some (.int v2)]) (st' := [.ref 34]) 1 rfl ?_
  refine l1_getR hQ mt_X1_addHead rfl (o := 34) (ci := 0) (k := 0) (a := 1) (b := 2) rfl rfl rfl rfl rfl (q := 3) rfl ?_
  refine l1_many mt_X1_addHead (pc' := 68) (L' := [some (.ref 34), some (.ref p1), some (.int v2)]) (st' := [.ref 1000000117, .ref 3]) 1 rfl ?_
  refine l1_callV hQ mt_X1_addHead mt_X2_addText rfl rfl (o := 3) (ci := 1) (As := [.ref 1000000117]) (rest := []) rfl rfl rfl rfl rfl rfl (st1 := fun _ => []) (fun _ => rfl) (ok_X2_addText hQ N c2 3 tx17 rfl ot17) (fun _ c3 => ?_)
  refine l1_many mt_X1_addHead (pc' := 72) (L' := [some (.ref 34), some (.ref p1), some (.int v2)]) (st' := [.ref 34]) 1 rfl ?_
  refine l1_getR hQ mt_X1_addHead rfl (o := 34) (ci := 0) (k := 0) (a := 1) (b := 2) rfl rfl rfl rfl rfl (q := 3) rfl ?_
  refine l1_many mt_X1_addHead (pc' := 76) (L' := [some (.ref 34), some (.ref p1), some (.int v2)]) (st' := [.int 0, .ref 3]) 1 rfl ?_
  refine l1_callV hQ mt_X1_addHead mt_X2_add rfl rfl (o := 3) (ci := 1) (As := [.int 0]) (rest := []) rfl rfl rfl rfl rfl rfl (st1 := fun _ => []) (fun _ => rfl) (ok_X2_add hQ c3 3 0 rfl) (fun _ c4 => ?_)
  refine l1_many mt_X1_addHead (pc' := 80) (L' := [some (.ref 34), some (.ref p1), some (.int v2)]) (st' := [.ref 34]) 1 rfl ?_
  refine l1_getR hQ mt_X1_addHead rfl (o := 34) (ci := 0) (k := 0) (a := 1) (b := 2) rfl rfl rfl rfl rfl (q := 3) rfl ?_
  refine l1_many mt_X1_addHead (pc' := 85) (L' := [some (.ref 34), some (.ref p1), some (.int v2)]) (st' := [.ref 1000000117, .ref 3]) 1 rfl ?_
  refine l1_callV hQ mt_X1_addHead mt_X2_addText rfl rfl (o := 3) (ci := 1) (As := [.ref 1000000117]) (rest := []) rfl rfl rfl rfl rfl rfl (st1 := fun _ => []) (fun _ => rfl) (ok_X2_addText hQ N c4 3 tx17 rfl ot17) (fun _ c5 => ?_)
  refine l1_many mt_X1_addHead (pc' := 89) (L' := [some (.ref 34), some (.ref p1), some (.int v2)]) (st' := [.ref 34]) 1 rfl ?_
  refine l1_getR hQ mt_X1_addHead rfl (o := 34) (ci := 0) (k := 0) (a := 1) (b := 2) rfl rfl rfl rfl rfl (q := 3) rfl ?_
  refine l1_many mt_X1_addHead (pc' := 93) (L' := [some (.ref 34), some (.ref p1), some (.int v2)]) (st' := [.int 0, .ref 3]) 1 rfl ?_
  refine l1_callV hQ mt_X1_addHead mt_X2_add rfl rfl (o := 3) (ci := 1) (As := [.int 0]) (rest := []) rfl rfl rfl rfl rfl rfl (st1 := fun _ => []) (fun _ => rfl) (ok_X2_add hQ c5 3 0 rfl) (fun _ c6 => ?_)
  refine l1_many mt_X1_addHead (pc' := 98) (L' := [some (.ref 34), some (.ref p1), some (.int v2)]) (st' := [.ref p1, .ref 34]) 2 rfl ?_
  refine l1_getR hQ mt_X1_addHead rfl (o := p1) (ci := 6) (k := 1) (a := 2) (b := 2) hp1 rfl rfl rfl rfl (q := (p1 + 3)) rfl ?_
  refine l1_callV hQ mt_X1_addHead mt_X2_size rfl rfl (o := (p1 + 3)) (ci := 1) (As := []) (rest := [.ref 34]) rfl rfl (kc6_1 hp1) rfl rfl rfl (st1 := fun x7 => [.int x7, .ref 34]) (fun _ => rfl) (ok_X2_size hQ c6 (p1 + 3) (kc6_1 hp1)) (fun x7 c8 => ?_)
  refine l1_many mt_X1_addHead (pc' := 106) (L' := [some (.ref 34), some (.ref p1), some (.int v2)]) (st' := [.int 11, .int x7, .ref 34]) 1 rfl ?_
  refine l1_callV hQ mt_X1_addHead mt_X1_addOctal rfl rfl (o := 34) (ci := 0) (As := [.int x7, .int 11]) (rest := []) rfl rfl rfl rfl rfl rfl (st1 := fun _ => []) (fun _ => rfl) (ok_X1_addOctal hQ N c8 x7 11) (fun _ c9 => ?_)
  refine l1_many mt_X1_addHead (pc' := 110) (L' := [some (.ref 34), some (.ref p1), some (.int v2)]) (st' := [.ref 34]) 1 rfl ?_
  refine l1_getR hQ mt_X1_addHead rfl (o := 34) (ci := 0) (k := 0) (a := 1) (b := 2) rfl rfl rfl rfl rfl (q := 3) rfl ?_
  refine l1_many mt_X1_addHead (pc' := 114) (L' := [some (.ref 34), some (.ref p1), some (.int v2)]) (st' := [.int 0, .ref 3]) 1 rfl ?_
  refine l1_callV hQ mt_X1_addHead mt_X2_add rfl rfl (o := 3) (ci := 1) (As := [.int 0]) (rest := []) rfl rfl rfl rfl rfl rfl (st1 := fun _ => []) (fun _ => rfl) (ok_X2_add hQ c9 3 0 rfl) (fun _ c10 => ?_)
  refine l1_many mt_X1_addHead (pc' := 121) (L' := [some (.ref 34), some (.ref p1), some (.int v2)]) (st' := [.int 11, .int 0, .ref 34]) 3 rfl ?_
  refine l1_callV hQ mt_X1_addHead mt_X1_addOctal rfl rfl (o := 34) (ci := 0) (As := [.int 0, .int 11]) (rest := []) rfl rfl rfl rfl rfl rfl (st1 := fun _ => []) (fun _ => rfl) (ok_X1_addOctal hQ N c10 0 11) (fun _ c11 => ?_)
  refine l1_many mt_X1_addHead (pc' := 125) (L' := [some (.ref 34), some (.ref p1), some (.int v2)]) (st' := [.ref 34]) 1 rfl ?_
  refine l1_getR hQ mt_X1_addHead rfl (o := 34) (ci := 0) (k := 0) (a := 1) (b := 2) rfl rfl rfl rfl rfl (q := 3) rfl ?_
  refine l1_many mt_X1_addHead (pc' := 129) (L' := [some (.ref 34), some (.ref p1), some (.int v2)]) (st' := [.int 0, .ref 3]) 1 rfl ?_
  refine l1_callV hQ mt_X1_addHead mt_X2_add rfl rfl (o := 3) (ci := 1) (As := [.int 0]) (rest := []) rfl rfl rfl rfl rfl rfl (st1 := fun _ => []) (fun _ => rfl) (ok_X2_add hQ c11 3 0 rfl) (fun _ c12 => ?_)
  refine l1_many mt_X1_addHead (pc' := 133) (L' := [some (.ref 34), some (.ref p1), some (.int v2)]) (st' := [.ref 34]) 1 rfl ?_
  refine l1_getR hQ mt_X1_addHead rfl (o := 34) (ci := 0) (k := 0) (a := 1) (b := 2) rfl rfl rfl rfl rfl (q := 3) rfl ?_
  refine l1_many mt_X1_addHead (pc' := 138) (L' := [some (.ref 34), some (.ref p1), some (.int v2)]) (st' := [.ref 1000000118, .ref 3]) 1 rfl ?_
  refine l1_callV hQ mt_X1_addHead mt_X2_addText rfl rfl (o := 3) (ci := 1) (As := [.ref 1000000118]) (rest := []) rfl rfl rfl rfl rfl rfl (st1 := fun _ => []) (fun _ => rfl) (ok_X2_addText hQ N c12 3 tx18 rfl ot18) (fun _ c13 => ?_)
  refine l1_many mt_X1_addHead (pc' := 142) (L' := [some (.ref 34), some (.ref p1), some (.int v2)]) (st' := [.ref 34]) 1 rfl ?_
  refine l1_getR hQ mt_X1_addHead rfl (o := 34) (ci := 0) (k := 0) (a := 1) (b := 2) rfl rfl rfl rfl rfl (q := 3) rfl ?_
  refine l1_many mt_X1_addHead (pc' := 146) (L' := [some (.ref 34), some (.ref p1), some (.int v2)]) (st' := [.int 0, .ref 3]) 1 rfl ?_
  refine l1_callV hQ mt_X1_addHead mt_X2_add rfl rfl (o := 3) (ci := 1) (As := [.int 0]) (rest := []) rfl rfl rfl rfl rfl rfl (st1 := fun _ => []) (fun _ => rfl) (ok_X2_add hQ c13 3 0 rfl) (fun _ c14 => ?_)
  refine l1_many mt_X1_addHead (pc' := 150) (L' := [some (.ref 34), some (.ref p1), some (.int v2)]) (st' := [.ref 34]) 1 rfl ?_
  refine l1_getR hQ mt_X1_addHead rfl (o := 34) (ci := 0) (k := 0) (a := 1) (b := 2) rfl rfl rfl rfl rfl (q := 3) rfl ?_
  refine l1_many mt_X1_addHead (pc' := 155) (L' := [some (.ref 34), some (.ref p1), some (.int v2)]) (st' := [.int 32, .ref 3]) 1 rfl ?_
  refine l1_callV hQ mt_X1_addHead mt_X2_add rfl rfl (o := 3) (ci := 1) (As := [.int 32]) (rest := []) rfl rfl rfl rfl rfl rfl (st1 := fun _ => []) (fun _ => rfl) (ok_X2_add hQ c14 3 32 rfl) (fun _ c15 => ?_)
  refine l1_many mt_X1_addHead (pc' := 159) (L' := [some (.ref 34), some (.ref p1), some (.int v2)]) (st' := [.ref 34]) 1 rfl ?_
  refine l1_getR hQ mt_X1_addHead rfl (o := 34) (ci := 0) (k := 0) (a := 1) (b := 2) rfl rfl rfl rfl rfl (q := 3) rfl ?_
  refine l1_many mt_X1_addHead (pc' := 163) (L' := [some (.ref 34), some (.ref p1), some (.int v2)]) (st' := [.ref p1, .ref 3]) 1 rfl ?_
  refine l1_getI hQ mt_X1_addHead rfl (o := p1) (ci := 6) (k := 2) (a := 2) (b := 0) hp1 rfl rfl rfl rfl ?_
  refine l1_many mt_X1_addHead (pc' := bif am_cc .eq (c15.1 p1 2) 0 then 174 else 169) (L' := [some (.ref 34), some (.ref p1), some (.int v2)]) (st' := [.ref 3]) 1 rfl ?_
  refine l1_bif rfl ?_ ?_
  · refine l1_many mt_X1_addHead (pc' := 176) (L' := [some (.ref 34), some (.ref p1), some (.int v2)]) (st' := [.int 48, .ref 3]) 1 rfl ?_
    refine l1_weak (m := [true, false, true]) (L' := [some (.ref 34), none, some (.int v2)]) rfl ?_
    exact ok_X1_addHead_176 hQ N p1 hp1 c15 v2 48
  · refine l1_many mt_X1_addHead (pc' := 176) (L' := [some (.ref 34), some (.ref p1), some (.int v2)]) (st' := [.int 53, .ref 3]) 2 rfl ?_
    refine l1_weak (m := [true, false, true]) (L' := [some (.ref 34), none, some (.int v2)]) rfl ?_
    exact ok_X1_addHead_176 hQ N p1 hp1 c15 v2 53
set_option maxRecDepth 100000 in
theorem en_X1_addHead {Q : hS → am_H → Prop} (hQ : l1_em kc Q) (N : Nat) (c : hS) (p1 : Nat) (hp1 : kc p1 = 6) : l1_G (wN wV) Q am_i_X1_addHead 0 [some (.ref 34), some (.ref p1)] [] c (f_X1_addHead N c p1) := by
  rw [f_X1_addHead]
  refine l1_many mt_X1_addHead (pc' := 1) (L' := [some (.ref 34), some (.ref p1)]) (st' := [.ref 34]) 1 rfl ?_
  refine l1_getR hQ mt_X1_addHead rfl (o := 34) (ci := 0) (k := 0) (a := 1) (b := 2) rfl rfl rfl rfl rfl (q := 3) rfl ?_
  refine l1_callV hQ mt_X1_addHead mt_X2_size rfl rfl (o := 3) (ci := 1) (As := []) (rest := []) rfl rfl rfl rfl rfl rfl (st1 := fun x1 => [.int x1]) (fun _ => rfl) (ok_X2_size hQ c 3 rfl) (fun x1 c2 => ?_)
  refine l1_many mt_X1_addHead (pc' := 11) (L' := [some (.ref 34), some (.ref p1), some (.int x1)]) (st' := [.int 1, .ref p1, .ref 34]) 4 rfl ?_
  refine l1_callV hQ mt_X1_addHead mt_X0_addTitle rfl rfl (o := 34) (ci := 0) (As := [.ref p1, .int 1]) (rest := []) rfl rfl rfl rfl rfl rfl (st1 := fun _ => []) (fun _ => rfl) (ok_X0_addTitle_34 hQ N c2 p1 1 hp1) (fun _ c3 => ?_)
  refine l1_many mt_X1_addHead (pc' := 15) (L' := [some (.ref 34), some (.ref p1), some (.int x1)]) (st' := [.ref 34]) 1 rfl ?_
  refine l1_getR hQ mt_X1_addHead rfl (o := 34) (ci := 0) (k := 0) (a := 1) (b := 2) rfl rfl rfl rfl rfl (q := 3) rfl ?_
  refine l1_many mt_X1_addHead (pc' := 23) (L' := [some (.ref 34), some (.ref p1), some (.int x1)]) (st' := [.ref 34, .int (x1 + 100), .ref 3]) 4 rfl ?_
  refine l1_getR hQ mt_X1_addHead rfl (o := 34) (ci := 0) (k := 0) (a := 1) (b := 2) rfl rfl rfl rfl rfl (q := 3) rfl ?_
  refine l1_callV hQ mt_X1_addHead mt_X2_size rfl rfl (o := 3) (ci := 1) (As := []) (rest := [.int (x1 + 100), .ref 3]) rfl rfl rfl rfl rfl rfl (st1 := fun x4 => [.int x4, .int (x1 + 100), .ref 3]) (fun _ => rfl) (ok_X2_size hQ c3 3 rfl) (fun x4 c5 => ?_)
  refine l1_many mt_X1_addHead (pc' := 30) (L' := [some (.ref 34), some (.ref p1), some (.int x1)]) (st' := [.int ((x1 + 100) - x4), .ref 3]) 1 rfl ?_
  refine l1_callV hQ mt_X1_addHead mt_X2_addZeros rfl rfl (o := 3) (ci := 1) (As := [.int ((x1 + 100) - x4)]) (rest := []) rfl rfl rfl rfl rfl rfl (st1 := fun _ => []) (fun _ => rfl) (ok_X2_addZeros hQ N c5 3 ((x1 + 100) - x4) rfl) (fun _ c6 => ?_)
  refine l1_many mt_X1_addHead (pc' := 34) (L' := [some (.ref 34), some (.ref p1), some (.int x1)]) (st' := [.ref 34]) 1 rfl ?_
  refine l1_getR hQ mt_X1_addHead rfl (o := 34) (ci := 0) (k := 0) (a := 1) (b := 2) rfl rfl rfl rfl rfl (q := 3) rfl ?_
  refine l1_many mt_X1_addHead (pc' := 38) (L' := [some (.ref 34), some (.ref p1), some (.int x1)]) (st' := [.ref p1, .ref 3]) 1 rfl ?_
  refine l1_getI hQ mt_X1_addHead rfl (o := p1) (ci := 6) (k := 2) (a := 2) (b := 0) hp1 rfl rfl rfl rfl ?_
  refine l1_many mt_X1_addHead (pc' := bif am_cc .eq (c6.1 p1 2) 0 then 49 else 44) (L' := [some (.ref 34), some (.ref p1), some (.int x1)]) (st' := [.ref 3]) 1 rfl ?_
  refine l1_bif rfl ?_ ?_
  · refine l1_many mt_X1_addHead (pc' := 51) (L' := [some (.ref 34), some (.ref p1), some (.int x1)]) (st' := [.ref 1000000116, .ref 3]) 1 rfl ?_
    exact ok_X1_addHead_51 hQ N p1 hp1 c6 x1 tx16 1000000116 ot16
  · refine l1_many mt_X1_addHead (pc' := 51) (L' := [some (.ref 34), some (.ref p1), some (.int x1)]) (st' := [.ref 1000000115, .ref 3]) 2 rfl ?_
    exact ok_X1_addHead_51 hQ N p1 hp1 c6 x1 tx15 1000000115 ot15
theorem ok_X1_addHead {Q : hS → am_H → Prop} (hQ : l1_em kc Q) (N : Nat) (c : hS) (p1 : Nat) (hp1 : kc p1 = 6) : l1_T wV Q am_i_X1_addHead [.ref 34, .ref p1] c (f_X1_addHead N c p1) := l1_of (en_X1_addHead hQ N c p1 hp1) ⟨rfl, rfl, trivial⟩
set_option maxRecDepth 100000 in
theorem en_X9_size {Q : hS → am_H → Prop} (hQ : l1_em kc Q) (c : hS) (s : Nat) (hs : kc s = 8) : l1_G (wN wI) Q am_i_X9_size 0 [some (.ref s)] [] c (f_X9_size c s) := by
  rw [f_X9_size]
  refine l1_many mt_X9_size (pc' := 1) (L' := [some (.ref s)]) (st' := [.ref s]) 1 rfl ?_
  refine l1_getI hQ mt_X9_size rfl (o := s) (ci := 8) (k := 1) (a := 0) (b := 0) hs rfl rfl rfl rfl ?_
  exact l1_ret mt_X9_size rfl rfl rfl
theorem ok_X9_size {Q : hS → am_H → Prop} (hQ : l1_em kc Q) (c : hS) (s : Nat) (hs : kc s = 8) : l1_T wI Q am_i_X9_size [.ref s] c (f_X9_size c s) := l1_of (en_X9_size hQ c s hs) ⟨rfl, trivial⟩
set_option maxRecDepth 100000 in
theorem ok_X1_layOut_2 {Q : hS → am_H → Prop} (hQ : l1_em kc Q) (N : Nat) (p1 : Nat) (p2 : Int32) (hp1 : kc p1 = 8) : ∀ n : Nat, ∀ (c : hS) (v3 : Int32), l1_G (wN wV) Q am_i_X1_layOut 2 [some (.ref 34), some (.ref p1), none, some (.int v3)] [] c (f_X1_layOut_2 N p1 p2 n c v3) := by
  intro n
  induction n with
  | zero => intro c v3; exact l1_none
  | succ n ih =>
    intro c v3
    rw [f_X1_layOut_2]
    refine l1_many mt_X1_layOut (pc' := 4) (L' := [some (.ref 34), some (.ref p1), none, some (.int v3)]) (st' := [.ref p1, .int v3]) 2 rfl ?_
    refine l1_callV hQ mt_X1_layOut mt_X9_size rfl rfl (o := p1) (ci := 8) (As := []) (rest := [.int v3]) rfl rfl hp1 rfl rfl rfl (st1 := fun x1 => [.int x1, .int v3]) (fun _ => rfl) (ok_X9_size hQ c p1 hp1) (fun x1 c2 => ?_)
    refine l1_many mt_X1_layOut (pc' := bif am_cc .ge v3 x1 then 77 else 10) (L' := [some (.ref 34), some (.ref p1), none, some (.int v3)]) (st' := []) 1 rfl ?_
    refine l1_bif rfl ?_ ?_
    · refine l1_many mt_X1_layOut (pc' := 78) (L' := [some (.ref 34), some (.ref p1), none, some (.int v3)]) (st' := [.ref 34]) 1 rfl ?_
      refine l1_getR hQ mt_X1_layOut rfl (o := 34) (ci := 0) (k := 0) (a := 1) (b := 2) rfl rfl rfl rfl rfl (q := 3) rfl ?_
      refine l1_many mt_X1_layOut (pc' := 84) (L' := [some (.ref 34), some (.ref p1), none, some (.int v3)]) (st' := [.int 1024, .ref 3]) 1 rfl ?_
      refine l1_callV hQ mt_X1_layOut mt_X2_addZeros rfl rfl (o := 3) (ci := 1) (As := [.int 1024]) (rest := []) rfl rfl rfl rfl rfl rfl (st1 := fun _ => []) (fun _ => rfl) (ok_X2_addZeros hQ N c2 3 1024 rfl) (fun _ c3 => ?_)
      exact l1_ret mt_X1_layOut rfl rfl rfl
    · refine l1_many mt_X1_layOut (pc' := 12) (L' := [some (.ref 34), some (.ref p1), none, some (.int v3)]) (st' := [.int v3, .ref p1]) 2 rfl ?_
      refine l1_callV hQ mt_X1_layOut mt_X9_member rfl rfl (o := p1) (ci := 8) (As := [.int v3]) (rest := []) rfl rfl hp1 rfl rfl rfl (st1 := fun x4 => l1_mv x4 :: []) (fun _ => rfl) (ok_X9_member hQ c2 p1 v3 hp1) (fun x4 c5 => ?_)
      refine l1_opt (x := x4) ?_ (fun y6 => ?_)
      · refine l1_many mt_X1_layOut (pc' := 2) (L' := [some (.ref 34), some (.ref p1), none, some (.int (v3 + 1)), some (.null)]) (st' := []) 5 rfl ?_
        refine l1_weak (m := [true, true, false, true, false, false]) (L' := [some (.ref 34), some (.ref p1), none, some (.int (v3 + 1))]) rfl ?_
        exact ih c5 (v3 + 1)
      · refine l1_ck (fun hy => ?_)
        have hy6 : kc y6 = 6 := Nat.eq_of_beq_eq_true hy
        refine l1_many mt_X1_layOut (pc' := 25) (L' := [some (.ref 34), some (.ref p1), none, some (.int v3), some (.ref y6)]) (st' := [.ref y6, .ref 34]) 5 rfl ?_
        refine l1_callV hQ mt_X1_layOut mt_X1_addHead rfl rfl (o := 34) (ci := 0) (As := [.ref y6]) (rest := []) rfl rfl rfl rfl rfl rfl (st1 := fun _ => []) (fun _ => rfl) (ok_X1_addHead hQ N c5 y6 hy6) (fun _ c7 => ?_)
        refine l1_many mt_X1_layOut (pc' := 30) (L' := [some (.ref 34), some (.ref p1), none, some (.int v3), some (.ref y6)]) (st' := [.ref y6]) 1 rfl ?_
        refine l1_getR hQ mt_X1_layOut rfl (o := y6) (ci := 6) (k := 1) (a := 2) (b := 2) hy6 rfl rfl rfl rfl (q := (y6 + 3)) rfl ?_
        refine l1_callV hQ mt_X1_layOut mt_X2_size rfl rfl (o := (y6 + 3)) (ci := 1) (As := []) (rest := []) rfl rfl (kc6_1 hy6) rfl rfl rfl (st1 := fun x8 => [.int x8]) (fun _ => rfl) (ok_X2_size hQ c7 (y6 + 3) (kc6_1 hy6)) (fun x8 c9 => ?_)
        refine l1_many mt_X1_layOut (pc' := 39) (L' := [some (.ref 34), some (.ref p1), none, some (.int v3), some (.ref y6), some (.int x8)]) (st' := [.ref 34]) 2 rfl ?_
        refine l1_getR hQ mt_X1_layOut rfl (o := 34) (ci := 0) (k := 0) (a := 1) (b := 2) rfl rfl rfl rfl rfl (q := 3) rfl ?_
        refine l1_many mt_X1_layOut (pc' := 44) (L' := [some (.ref 34), some (.ref p1), none, some (.int v3), some (.ref y6), some (.int x8)]) (st' := [.ref y6, .ref 3]) 1 rfl ?_
        refine l1_getR hQ mt_X1_layOut rfl (o := y6) (ci := 6) (k := 1) (a := 2) (b := 2) hy6 rfl rfl rfl rfl (q := (y6 + 3)) rfl ?_
        refine l1_many mt_X1_layOut (pc' := 50) (L' := [some (.ref 34), some (.ref p1), none, some (.int v3), some (.ref y6), some (.int x8)]) (st' := [.int x8, .int 0, .ref (y6 + 3), .ref 3]) 2 rfl ?_
        refine l1_callV hQ mt_X1_layOut mt_X2_addRow rfl rfl (o := 3) (ci := 1) (As := [.ref (y6 + 3), .int 0, .int x8]) (rest := []) rfl rfl rfl rfl rfl rfl (st1 := fun _ => []) (fun _ => rfl) (ok_X2_addRow hQ N c9 3 (y6 + 3) 0 x8 rfl (kc6_1 hy6)) (fun _ c10 => ?_)
        refine l1_many mt_X1_layOut (pc' := 54) (L' := [some (.ref 34), some (.ref p1), none, some (.int v3), some (.ref y6), some (.int x8)]) (st' := [.ref 34]) 1 rfl ?_
        refine l1_getR hQ mt_X1_layOut rfl (o := 34) (ci := 0) (k := 0) (a := 1) (b := 2) rfl rfl rfl rfl rfl (q := 3) rfl ?_
        refine l1_many mt_X1_layOut (pc' := 62) (L' := [some (.ref 34), some (.ref p1), none, some (.int v3), some (.ref y6), some (.int x8)]) (st' := [.int 512, .int x8, .ref 3]) 2 rfl ?_
        refine l1_callS mt_X1_layOut mt_X11_roundedUp rfl rfl (As := [.int x8, .int 512]) (rest := [.ref 3]) rfl rfl rfl (st1 := fun x11 => [.int x11, .ref 3]) (fun _ => rfl) (ok_X11_roundedUp hQ c10 x8 512) (fun x11 c12 => ?_)
        refine l1_many mt_X1_layOut (pc' := 68) (L' := [some (.ref 34), some (.ref p1), none, some (.int v3), some (.ref y6), some (.int x8)]) (st' := [.int (x11 - x8), .ref 3]) 2 rfl ?_
        refine l1_callV hQ mt_X1_layOut mt_X2_addZeros rfl rfl (o := 3) (ci := 1) (As := [.int (x11 - x8)]) (rest := []) rfl rfl rfl rfl rfl rfl (st1 := fun _ => []) (fun _ => rfl) (ok_X2_addZeros hQ N c12 3 (x11 - x8) rfl) (fun _ c13 => ?_)
        refine l1_many mt_X1_layOut (pc' := 2) (L' := [some (.ref 34), some (.ref p1), none, some (.int (v3 + 1)), some (.ref y6), some (.int x8)]) (st' := []) 2 rfl ?_
        refine l1_weak (m := [true, true, false, true, false, false]) (L' := [some (.ref 34), some (.ref p1), none, some (.int (v3 + 1))]) rfl ?_
        exact ih c13 (v3 + 1)
set_option maxRecDepth 100000 in
theorem en_X1_layOut {Q : hS → am_H → Prop} (hQ : l1_em kc Q) (N : Nat) (c : hS) (p1 : Nat) (p2 : Int32) (hp1 : kc p1 = 8) : l1_G (wN wV) Q am_i_X1_layOut 0 [some (.ref 34), some (.ref p1), some (.int p2)] [] c (f_X1_layOut N c p1 p2) := by
  rw [f_X1_layOut]
  refine l1_many mt_X1_layOut (pc' := 2) (L' := [some (.ref 34), some (.ref p1), some (.int p2), some (.int 0)]) (st' := []) 2 rfl ?_
  refine l1_weak (m := [true, true, false, true, false, false]) (L' := [some (.ref 34), some (.ref p1), none, some (.int 0)]) rfl ?_
  exact ok_X1_layOut_2 hQ N p1 p2 hp1 N c 0
theorem ok_X1_layOut {Q : hS → am_H → Prop} (hQ : l1_em kc Q) (N : Nat) (c : hS) (p1 : Nat) (p2 : Int32) (hp1 : kc p1 = 8) : l1_T wV Q am_i_X1_layOut [.ref 34, .ref p1, .int p2] c (f_X1_layOut N c p1 p2) := l1_of (en_X1_layOut hQ N c p1 p2 hp1) ⟨rfl, rfl, rfl, trivial⟩
set_option maxRecDepth 100000 in
theorem en_X2_has {Q : hS → am_H → Prop} (hQ : l1_em kc Q) (c : hS) (b : Nat) (p1 : Int32) (hb : kc b = 1) : l1_G (wN wI) Q am_i_X2_has 0 [some (.ref b), some (.int p1)] [] c (f_X2_has c b p1) := by
  rw [f_X2_has]
  refine l1_many mt_X2_has (pc' := bif am_cc .lt p1 0 then 16 else 4) (L' := [some (.ref b), some (.int p1)]) (st' := []) 2 rfl ?_
  refine l1_bif rfl ?_ ?_
  · refine l1_many mt_X2_has (pc' := 17) (L' := [some (.ref b), some (.int p1)]) (st' := [.int 0]) 1 rfl ?_
    exact l1_ret mt_X2_has rfl rfl rfl
  · refine l1_many mt_X2_has (pc' := 6) (L' := [some (.ref b), some (.int p1)]) (st' := [.ref b, .int p1]) 2 rfl ?_
    refine l1_getI hQ mt_X2_has rfl (o := b) (ci := 1) (k := 1) (a := 0) (b := 0) hb rfl rfl rfl rfl ?_
    refine l1_many mt_X2_has (pc' := bif am_cc .ge p1 (c.1 b 1) then 16 else 12) (L' := [some (.ref b), some (.int p1)]) (st' := []) 1 rfl ?_
    refine l1_bif rfl ?_ ?_
    · refine l1_many mt_X2_has (pc' := 17) (L' := [some (.ref b), some (.int p1)]) (st' := [.int 0]) 1 rfl ?_
      exact l1_ret mt_X2_has rfl rfl rfl
    · refine l1_many mt_X2_has (pc' := 17) (L' := [some (.ref b), some (.int p1)]) (st' := [.int 1]) 2 rfl ?_
      exact l1_ret mt_X2_has rfl rfl rfl
theorem ok_X2_has {Q : hS → am_H → Prop} (hQ : l1_em kc Q) (c : hS) (b : Nat) (p1 : Int32) (hb : kc b = 1) : l1_T wI Q am_i_X2_has [.ref b, .int p1] c (f_X2_has c b p1) := l1_of (en_X2_has hQ c b p1 hb) ⟨rfl, rfl, trivial⟩
set_option maxRecDepth 100000 in
theorem ok_X2_addBig_5 {Q : hS → am_H → Prop} (hQ : l1_em kc Q) (N : Nat) (b : Nat) (p1 : Int64) (p3 : Int32) (hb : kc b = 1) : ∀ n : Nat, ∀ (c : hS) (v4 : Int32), l1_G (wN wV) Q am_i_X2_addBig 5 [some (.ref b), some (.long p1), none, none, some (.int v4)] [] c (f_X2_addBig_5 N b p1 p3 n c v4) := by
  intro n
  induction n with
  | zero => intro c v4; exact l1_none
  | succ n ih =>
    intro c v4
    rw [f_X2_addBig_5]
    refine l1_many mt_X2_addBig (pc' := bif am_cc .lt v4 0 then 28 else 10) (L' := [some (.ref b), some (.long p1), none, none, some (.int v4)]) (st' := []) 2 rfl ?_
    refine l1_bif rfl ?_ ?_
    · exact l1_ret mt_X2_addBig rfl rfl rfl
    · refine l1_many mt_X2_addBig (pc' := 19) (L' := [some (.ref b), some (.long p1), none, none, some (.int v4)]) (st' := [.int ((j_lushr p1 (8 * v4)).toInt32), .ref b]) 7 rfl ?_
      refine l1_callV hQ mt_X2_addBig mt_X2_add rfl rfl (o := b) (ci := 1) (As := [.int ((j_lushr p1 (8 * v4)).toInt32)]) (rest := []) rfl rfl hb rfl rfl rfl (st1 := fun _ => []) (fun _ => rfl) (ok_X2_add hQ c b ((j_lushr p1 (8 * v4)).toInt32) hb) (fun _ c1 => ?_)
      refine l1_many mt_X2_addBig (pc' := 5) (L' := [some (.ref b), some (.long p1), none, none, some (.int (v4 + (-1)))]) (st' := []) 2 rfl ?_
      exact ih c1 (v4 + (-1))
set_option maxRecDepth 100000 in
theorem en_X2_addBig {Q : hS → am_H → Prop} (hQ : l1_em kc Q) (N : Nat) (c : hS) (b : Nat) (p1 : Int64) (p3 : Int32) (hb : kc b = 1) : l1_G (wN wV) Q am_i_X2_addBig 0 [some (.ref b), some (.long p1), none, some (.int p3)] [] c (f_X2_addBig N c b p1 p3) := by
  rw [f_X2_addBig]
  refine l1_many mt_X2_addBig (pc' := 5) (L' := [some (.ref b), some (.long p1), none, some (.int p3), some (.int (p3 - 1))]) (st' := []) 4 rfl ?_
  refine l1_weak (m := [true, true, false, false, true]) (L' := [some (.ref b), some (.long p1), none, none, some (.int (p3 - 1))]) rfl ?_
  exact ok_X2_addBig_5 hQ N b p1 p3 hb N c (p3 - 1)
theorem ok_X2_addBig {Q : hS → am_H → Prop} (hQ : l1_em kc Q) (N : Nat) (c : hS) (b : Nat) (p1 : Int64) (p3 : Int32) (hb : kc b = 1) : l1_T wV Q am_i_X2_addBig [.ref b, .long p1, .int p3] c (f_X2_addBig N c b p1 p3) := l1_of (en_X2_addBig hQ N c b p1 p3 hb) ⟨rfl, rfl, rfl, trivial⟩
set_option maxRecDepth 100000 in
theorem ok_X2_addLittle_3 {Q : hS → am_H → Prop} (hQ : l1_em kc Q) (N : Nat) (b : Nat) (p1 : Int64) (p3 : Int32) (hb : kc b = 1) : ∀ n : Nat, ∀ (c : hS) (v4 : Int32), l1_G (wN wV) Q am_i_X2_addLittle 3 [some (.ref b), some (.long p1), none, some (.int p3), some (.int v4)] [] c (f_X2_addLittle_3 N b p1 p3 n c v4) := by
  intro n
  induction n with
  | zero => intro c v4; exact l1_none
  | succ n ih =>
    intro c v4
    rw [f_X2_addLittle_3]
    refine l1_many mt_X2_addLittle (pc' := bif am_cc .ge v4 p3 then 27 else 9) (L' := [some (.ref b), some (.long p1), none, some (.int p3), some (.int v4)]) (st' := []) 3 rfl ?_
    refine l1_bif rfl ?_ ?_
    · exact l1_ret mt_X2_addLittle rfl rfl rfl
    · refine l1_many mt_X2_addLittle (pc' := 18) (L' := [some (.ref b), some (.long p1), none, some (.int p3), some (.int v4)]) (st' := [.int ((j_lushr p1 (8 * v4)).toInt32), .ref b]) 7 rfl ?_
      refine l1_callV hQ mt_X2_addLittle mt_X2_add rfl rfl (o := b) (ci := 1) (As := [.int ((j_lushr p1 (8 * v4)).toInt32)]) (rest := []) rfl rfl hb rfl rfl rfl (st1 := fun _ => []) (fun _ => rfl) (ok_X2_add hQ c b ((j_lushr p1 (8 * v4)).toInt32) hb) (fun _ c1 => ?_)
      refine l1_many mt_X2_addLittle (pc' := 3) (L' := [some (.ref b), some (.long p1), none, some (.int p3), some (.int (v4 + 1))]) (st' := []) 2 rfl ?_
      exact ih c1 (v4 + 1)
set_option maxRecDepth 100000 in
theorem en_X2_addLittle {Q : hS → am_H → Prop} (hQ : l1_em kc Q) (N : Nat) (c : hS) (b : Nat) (p1 : Int64) (p3 : Int32) (hb : kc b = 1) : l1_G (wN wV) Q am_i_X2_addLittle 0 [some (.ref b), some (.long p1), none, some (.int p3)] [] c (f_X2_addLittle N c b p1 p3) := by
  rw [f_X2_addLittle]
  refine l1_many mt_X2_addLittle (pc' := 3) (L' := [some (.ref b), some (.long p1), none, some (.int p3), some (.int 0)]) (st' := []) 2 rfl ?_
  exact ok_X2_addLittle_3 hQ N b p1 p3 hb N c 0
theorem ok_X2_addLittle {Q : hS → am_H → Prop} (hQ : l1_em kc Q) (N : Nat) (c : hS) (b : Nat) (p1 : Int64) (p3 : Int32) (hb : kc b = 1) : l1_T wV Q am_i_X2_addLittle [.ref b, .long p1, .int p3] c (f_X2_addLittle N c b p1 p3) := l1_of (en_X2_addLittle hQ N c b p1 p3 hb) ⟨rfl, rfl, rfl, trivial⟩
set_option maxRecDepth 100000 in
theorem ok_X2_little_7 {Q : hS → am_H → Prop} (hQ : l1_em kc Q) (N : Nat) (b : Nat) (p1 : Int32) (p2 : Int32) (hb : kc b = 1) : ∀ n : Nat, ∀ (c : hS) (v3 : Int64) (v5 : Int32), l1_G (wN wL) Q am_i_X2_little 7 [some (.ref b), some (.int p1), none, some (.long v3), none, some (.int v5)] [] c (f_X2_little_7 N b p1 p2 n c v3 v5) := by
  intro n
  induction n with
  | zero => intro c v3 v5; exact l1_none
  | succ n ih =>
    intro c v3 v5
    rw [f_X2_little_7]
    refine l1_many mt_X2_little (pc' := bif am_cc .lt v5 0 then 33 else 12) (L' := [some (.ref b), some (.int p1), none, some (.long v3), none, some (.int v5)]) (st' := []) 2 rfl ?_
    refine l1_bif rfl ?_ ?_
    · refine l1_many mt_X2_little (pc' := 34) (L' := [some (.ref b), some (.int p1), none, some (.long v3), none, some (.int v5)]) (st' := [.long v3]) 1 rfl ?_
      exact l1_ret mt_X2_little rfl rfl rfl
    · refine l1_many mt_X2_little (pc' := 21) (L' := [some (.ref b), some (.int p1), none, some (.long v3), none, some (.int v5)]) (st' := [.int (p1 + v5), .ref b, .long (j_lshl v3 8)]) 7 rfl ?_
      refine l1_callV hQ mt_X2_little mt_X2_get rfl rfl (o := b) (ci := 1) (As := [.int (p1 + v5)]) (rest := [.long (j_lshl v3 8)]) rfl rfl hb rfl rfl rfl (st1 := fun x1 => [.int x1, .long (j_lshl v3 8)]) (fun _ => rfl) (ok_X2_get hQ c b (p1 + v5) hb) (fun x1 c2 => ?_)
      refine l1_many mt_X2_little (pc' := 7) (L' := [some (.ref b), some (.int p1), none, some (.long ((j_lshl v3 8) ||| x1.toInt64)), none, some (.int (v5 + (-1)))]) (st' := []) 5 rfl ?_
      exact ih c2 ((j_lshl v3 8) ||| x1.toInt64) (v5 + (-1))
set_option maxRecDepth 100000 in
theorem en_X2_little {Q : hS → am_H → Prop} (hQ : l1_em kc Q) (N : Nat) (c : hS) (b : Nat) (p1 : Int32) (p2 : Int32) (hb : kc b = 1) : l1_G (wN wL) Q am_i_X2_little 0 [some (.ref b), some (.int p1), some (.int p2)] [] c (f_X2_little N c b p1 p2) := by
  rw [f_X2_little]
  refine l1_many mt_X2_little (pc' := 7) (L' := [some (.ref b), some (.int p1), some (.int p2), some (.long 0), none, some (.int (p2 - 1))]) (st' := []) 6 rfl ?_
  refine l1_weak (m := [true, true, false, true, false, true]) (L' := [some (.ref b), some (.int p1), none, some (.long 0), none, some (.int (p2 - 1))]) rfl ?_
  exact ok_X2_little_7 hQ N b p1 p2 hb N c 0 (p2 - 1)
theorem ok_X2_little {Q : hS → am_H → Prop} (hQ : l1_em kc Q) (N : Nat) (c : hS) (b : Nat) (p1 : Int32) (p2 : Int32) (hb : kc b = 1) : l1_T wL Q am_i_X2_little [.ref b, .int p1, .int p2] c (f_X2_little N c b p1 p2) := l1_of (en_X2_little hQ N c b p1 p2 hb) ⟨rfl, rfl, rfl, trivial⟩
set_option maxRecDepth 100000 in
theorem ok_X2_isText_15 {Q : hS → am_H → Prop} (hQ : l1_em kc Q) (N : Nat) (b : Nat) (p1 : List Int32) (hb : kc b = 1) {q1 : Nat} (hp1 : l1_OT q1 p1) : ∀ n : Nat, ∀ (c : hS) (v2 : Int32), l1_G (wN wI) Q am_i_X2_isText 15 [some (.ref b), some (.ref q1), some (.int v2)] [] c (f_X2_isText_15 N b p1 n c v2) := by
  intro n
  induction n with
  | zero => intro c v2; exact l1_none
  | succ n ih =>
    intro c v2
    rw [f_X2_isText_15]
    refine l1_many mt_X2_isText (pc' := 17) (L' := [some (.ref b), some (.ref q1), some (.int v2)]) (st' := [.ref q1, .int v2]) 2 rfl ?_
    refine l1_tlen mt_X2_isText rfl rfl rfl hp1 rfl ?_
    refine l1_many mt_X2_isText (pc' := bif am_cc .ge v2 (Int32.ofNat p1.length) then 44 else 23) (L' := [some (.ref b), some (.ref q1), some (.int v2)]) (st' := []) 1 rfl ?_
    refine l1_bif rfl ?_ ?_
    · refine l1_many mt_X2_isText (pc' := 45) (L' := [some (.ref b), some (.ref q1), some (.int v2)]) (st' := [.int 1]) 1 rfl ?_
      exact l1_ret mt_X2_isText rfl rfl rfl
    · refine l1_many mt_X2_isText (pc' := 25) (L' := [some (.ref b), some (.ref q1), some (.int v2)]) (st' := [.int v2, .ref b]) 2 rfl ?_
      refine l1_callV hQ mt_X2_isText mt_X2_get rfl rfl (o := b) (ci := 1) (As := [.int v2]) (rest := []) rfl rfl hb rfl rfl rfl (st1 := fun x1 => [.int x1]) (fun _ => rfl) (ok_X2_get hQ c b v2 hb) (fun x1 c2 => ?_)
      refine l1_many mt_X2_isText (pc' := 30) (L' := [some (.ref b), some (.ref q1), some (.int v2)]) (st' := [.int v2, .ref q1, .int x1]) 2 rfl ?_
      refine l1_ck (fun hx => ?_)
      refine l1_tch mt_X2_isText rfl rfl rfl hp1 hx rfl ?_
      refine l1_many mt_X2_isText (pc' := bif am_cc .eq x1 (p1.getD v2.toNatClampNeg 0) then 38 else 36) (L' := [some (.ref b), some (.ref q1), some (.int v2)]) (st' := []) 1 rfl ?_
      refine l1_bif rfl ?_ ?_
      · refine l1_many mt_X2_isText (pc' := 15) (L' := [some (.ref b), some (.ref q1), some (.int (v2 + 1))]) (st' := []) 2 rfl ?_
        exact ih c2 (v2 + 1)
      · refine l1_many mt_X2_isText (pc' := 37) (L' := [some (.ref b), some (.ref q1), some (.int v2)]) (st' := [.int 0]) 1 rfl ?_
        exact l1_ret mt_X2_isText rfl rfl rfl
set_option maxRecDepth 100000 in
theorem en_X2_isText {Q : hS → am_H → Prop} (hQ : l1_em kc Q) (N : Nat) (c : hS) (b : Nat) (p1 : List Int32) (hb : kc b = 1) {q1 : Nat} (hp1 : l1_OT q1 p1) : l1_G (wN wI) Q am_i_X2_isText 0 [some (.ref b), some (.ref q1)] [] c (f_X2_isText N c b p1) := by
  rw [f_X2_isText]
  refine l1_many mt_X2_isText (pc' := 1) (L' := [some (.ref b), some (.ref q1)]) (st' := [.ref b]) 1 rfl ?_
  refine l1_getI hQ mt_X2_isText rfl (o := b) (ci := 1) (k := 1) (a := 0) (b := 0) hb rfl rfl rfl rfl ?_
  refine l1_many mt_X2_isText (pc' := 5) (L' := [some (.ref b), some (.ref q1)]) (st' := [.ref q1, .int (c.1 b 1)]) 1 rfl ?_
  refine l1_tlen mt_X2_isText rfl rfl rfl hp1 rfl ?_
  refine l1_many mt_X2_isText (pc' := bif am_cc .eq (c.1 b 1) (Int32.ofNat p1.length) then 13 else 11) (L' := [some (.ref b), some (.ref q1)]) (st' := []) 1 rfl ?_
  refine l1_bif rfl ?_ ?_
  · refine l1_many mt_X2_isText (pc' := 15) (L' := [some (.ref b), some (.ref q1), some (.int 0)]) (st' := []) 2 rfl ?_
    exact ok_X2_isText_15 hQ N b p1 hb hp1 N c 0
  · refine l1_many mt_X2_isText (pc' := 12) (L' := [some (.ref b), some (.ref q1)]) (st' := [.int 0]) 1 rfl ?_
    exact l1_ret mt_X2_isText rfl rfl rfl
theorem ok_X2_isText {Q : hS → am_H → Prop} (hQ : l1_em kc Q) (N : Nat) (c : hS) (b : Nat) (p1 : List Int32) (hb : kc b = 1) {q1 : Nat} (hp1 : l1_OT q1 p1) : l1_T wI Q am_i_X2_isText [.ref b, .ref q1] c (f_X2_isText N c b p1) := l1_of (en_X2_isText hQ N c b p1 hb hp1) ⟨rfl, rfl, trivial⟩
set_option maxRecDepth 100000 in
theorem en_X3_longest {Q : hS → am_H → Prop} (hQ : l1_em kc Q) (c : hS) (d : Nat) (hd : kc d = 2) : l1_G (wN wI) Q am_i_X3_longest 0 [some (.ref d)] [] c (f_X3_longest c d) := by
  rw [f_X3_longest]
  refine l1_many mt_X3_longest (pc' := 1) (L' := [some (.ref d)]) (st' := [.ref d]) 1 rfl ?_
  refine l1_getI hQ mt_X3_longest rfl (o := d) (ci := 2) (k := 4) (a := 0) (b := 0) hd rfl rfl rfl rfl ?_
  exact l1_ret mt_X3_longest rfl rfl rfl
theorem ok_X3_longest {Q : hS → am_H → Prop} (hQ : l1_em kc Q) (c : hS) (d : Nat) (hd : kc d = 2) : l1_T wI Q am_i_X3_longest [.ref d] c (f_X3_longest c d) := l1_of (en_X3_longest hQ c d hd) ⟨rfl, trivial⟩
set_option maxRecDepth 100000 in
theorem en_X3_amount {Q : hS → am_H → Prop} (hQ : l1_em kc Q) (c : hS) (d : Nat) (p1 : Int32) (hd : kc d = 2) : l1_G (wN wI) Q am_i_X3_amount 0 [some (.ref d), some (.int p1)] [] c (f_X3_amount c d p1) := by
  rw [f_X3_amount]
  refine l1_many mt_X3_amount (pc' := bif am_cc .le p1 0 then 22 else 4) (L' := [some (.ref d), some (.int p1)]) (st' := []) 2 rfl ?_
  refine l1_bif rfl ?_ ?_
  · refine l1_many mt_X3_amount (pc' := 23) (L' := [some (.ref d), some (.int p1)]) (st' := [.int 0]) 1 rfl ?_
    exact l1_ret mt_X3_amount rfl rfl rfl
  · refine l1_many mt_X3_amount (pc' := 6) (L' := [some (.ref d), some (.int p1)]) (st' := [.ref d, .int p1]) 2 rfl ?_
    refine l1_getR hQ mt_X3_amount rfl (o := d) (ci := 2) (k := 0) (a := 0) (b := 1) hd rfl rfl rfl rfl (q := (d + 1)) rfl ?_
    refine l1_len hQ mt_X3_amount rfl (o := (d + 1)) (ci := 20) (kc2_0 hd) rfl rfl ?_
    refine l1_many mt_X3_amount (pc' := bif am_cc .ge p1 (Int32.ofNat (ln (d + 1))) then 22 else 13) (L' := [some (.ref d), some (.int p1)]) (st' := []) 1 rfl ?_
    refine l1_bif rfl ?_ ?_
    · refine l1_many mt_X3_amount (pc' := 23) (L' := [some (.ref d), some (.int p1)]) (st' := [.int 0]) 1 rfl ?_
      exact l1_ret mt_X3_amount rfl rfl rfl
    · refine l1_many mt_X3_amount (pc' := 14) (L' := [some (.ref d), some (.int p1)]) (st' := [.ref d]) 1 rfl ?_
      refine l1_getR hQ mt_X3_amount rfl (o := d) (ci := 2) (k := 0) (a := 0) (b := 1) hd rfl rfl rfl rfl (q := (d + 1)) rfl ?_
      refine l1_many mt_X3_amount (pc' := 18) (L' := [some (.ref d), some (.int p1)]) (st' := [.int p1, .ref (d + 1)]) 1 rfl ?_
      refine l1_ck (fun hx => ?_)
      refine l1_ald hQ mt_X3_amount rfl (o := (d + 1)) (kc2_0 hd) hx ?_
      refine l1_many mt_X3_amount (pc' := 23) (L' := [some (.ref d), some (.int p1)]) (st' := [.int (c.1 (d + 1) p1.toNatClampNeg)]) 1 rfl ?_
      exact l1_ret mt_X3_amount rfl rfl rfl
theorem ok_X3_amount {Q : hS → am_H → Prop} (hQ : l1_em kc Q) (c : hS) (d : Nat) (p1 : Int32) (hd : kc d = 2) : l1_T wI Q am_i_X3_amount [.ref d, .int p1] c (f_X3_amount c d p1) := l1_of (en_X3_amount hQ c d p1 hd) ⟨rfl, rfl, trivial⟩
set_option maxRecDepth 100000 in
theorem en_X3_symbol {Q : hS → am_H → Prop} (hQ : l1_em kc Q) (c : hS) (d : Nat) (p1 : Int32) (hd : kc d = 2) : l1_G (wN wI) Q am_i_X3_symbol 0 [some (.ref d), some (.int p1)] [] c (f_X3_symbol c d p1) := by
  rw [f_X3_symbol]
  refine l1_many mt_X3_symbol (pc' := bif am_cc .lt p1 0 then 30 else 4) (L' := [some (.ref d), some (.int p1)]) (st' := []) 2 rfl ?_
  refine l1_bif rfl ?_ ?_
  · refine l1_many mt_X3_symbol (pc' := 31) (L' := [some (.ref d), some (.int p1)]) (st' := [.int (-1)]) 1 rfl ?_
    exact l1_ret mt_X3_symbol rfl rfl rfl
  · refine l1_many mt_X3_symbol (pc' := 6) (L' := [some (.ref d), some (.int p1)]) (st' := [.ref d, .int p1]) 2 rfl ?_
    refine l1_getI hQ mt_X3_symbol rfl (o := d) (ci := 2) (k := 3) (a := 0) (b := 0) hd rfl rfl rfl rfl ?_
    refine l1_many mt_X3_symbol (pc' := bif am_cc .ge p1 (c.1 d 3) then 30 else 12) (L' := [some (.ref d), some (.int p1)]) (st' := []) 1 rfl ?_
    refine l1_bif rfl ?_ ?_
    · refine l1_many mt_X3_symbol (pc' := 31) (L' := [some (.ref d), some (.int p1)]) (st' := [.int (-1)]) 1 rfl ?_
      exact l1_ret mt_X3_symbol rfl rfl rfl
    · refine l1_many mt_X3_symbol (pc' := 14) (L' := [some (.ref d), some (.int p1)]) (st' := [.ref d, .int p1]) 2 rfl ?_
      refine l1_getR hQ mt_X3_symbol rfl (o := d) (ci := 2) (k := 2) (a := 0) (b := 1) hd rfl rfl rfl rfl (q := (d + 3)) rfl ?_
      refine l1_len hQ mt_X3_symbol rfl (o := (d + 3)) (ci := 20) (kc2_2 hd) rfl rfl ?_
      refine l1_many mt_X3_symbol (pc' := bif am_cc .ge p1 (Int32.ofNat (ln (d + 3))) then 30 else 21) (L' := [some (.ref d), some (.int p1)]) (st' := []) 1 rfl ?_
      refine l1_bif rfl ?_ ?_
      · refine l1_many mt_X3_symbol (pc' := 31) (L' := [some (.ref d), some (.int p1)]) (st' := [.int (-1)]) 1 rfl ?_
        exact l1_ret mt_X3_symbol rfl rfl rfl
      · refine l1_many mt_X3_symbol (pc' := 22) (L' := [some (.ref d), some (.int p1)]) (st' := [.ref d]) 1 rfl ?_
        refine l1_getR hQ mt_X3_symbol rfl (o := d) (ci := 2) (k := 2) (a := 0) (b := 1) hd rfl rfl rfl rfl (q := (d + 3)) rfl ?_
        refine l1_many mt_X3_symbol (pc' := 26) (L' := [some (.ref d), some (.int p1)]) (st' := [.int p1, .ref (d + 3)]) 1 rfl ?_
        refine l1_ck (fun hx => ?_)
        refine l1_ald hQ mt_X3_symbol rfl (o := (d + 3)) (kc2_2 hd) hx ?_
        refine l1_many mt_X3_symbol (pc' := 31) (L' := [some (.ref d), some (.int p1)]) (st' := [.int (c.1 (d + 3) p1.toNatClampNeg)]) 1 rfl ?_
        exact l1_ret mt_X3_symbol rfl rfl rfl
theorem ok_X3_symbol {Q : hS → am_H → Prop} (hQ : l1_em kc Q) (c : hS) (d : Nat) (p1 : Int32) (hd : kc d = 2) : l1_T wI Q am_i_X3_symbol [.ref d, .int p1] c (f_X3_symbol c d p1) := l1_of (en_X3_symbol hQ c d p1 hd) ⟨rfl, rfl, trivial⟩
set_option maxRecDepth 100000 in
theorem ok_X3_placeLengths_12 {Q : hS → am_H → Prop} (hQ : l1_em kc Q) (N : Nat) (d : Nat) (hd : kc d = 2) : ∀ n : Nat, ∀ (c : hS) (v1 : Int32), l1_G (wN wV) Q am_i_X3_placeLengths 12 [some (.ref d), some (.int v1)] [] c (f_X3_placeLengths_12 N d n c v1) := by
  intro n
  induction n with
  | zero => intro c v1; exact l1_none
  | succ n ih =>
    intro c v1
    rw [f_X3_placeLengths_12]
    refine l1_many mt_X3_placeLengths (pc' := 14) (L' := [some (.ref d), some (.int v1)]) (st' := [.ref d, .int v1]) 2 rfl ?_
    refine l1_getR hQ mt_X3_placeLengths rfl (o := d) (ci := 2) (k := 0) (a := 0) (b := 1) hd rfl rfl rfl rfl (q := (d + 1)) rfl ?_
    refine l1_len hQ mt_X3_placeLengths rfl (o := (d + 1)) (ci := 20) (kc2_0 hd) rfl rfl ?_
    refine l1_many mt_X3_placeLengths (pc' := bif am_cc .ge v1 (Int32.ofNat (ln (d + 1))) then 75 else 21) (L' := [some (.ref d), some (.int v1)]) (st' := []) 1 rfl ?_
    refine l1_bif rfl ?_ ?_
    · exact l1_ret mt_X3_placeLengths rfl rfl rfl
    · refine l1_many mt_X3_placeLengths (pc' := 23) (L' := [some (.ref d), some (.int v1)]) (st' := [.ref d, .int v1]) 2 rfl ?_
      refine l1_getR hQ mt_X3_placeLengths rfl (o := d) (ci := 2) (k := 1) (a := 0) (b := 1) hd rfl rfl rfl rfl (q := (d + 2)) rfl ?_
      refine l1_len hQ mt_X3_placeLengths rfl (o := (d + 2)) (ci := 20) (kc2_1 hd) rfl rfl ?_
      refine l1_many mt_X3_placeLengths (pc' := bif am_cc .ge v1 (Int32.ofNat (ln (d + 2))) then 75 else 30) (L' := [some (.ref d), some (.int v1)]) (st' := []) 1 rfl ?_
      refine l1_bif rfl ?_ ?_
      · exact l1_ret mt_X3_placeLengths rfl rfl rfl
      · refine l1_many mt_X3_placeLengths (pc' := 31) (L' := [some (.ref d), some (.int v1)]) (st' := [.ref d]) 1 rfl ?_
        refine l1_getR hQ mt_X3_placeLengths rfl (o := d) (ci := 2) (k := 1) (a := 0) (b := 1) hd rfl rfl rfl rfl (q := (d + 2)) rfl ?_
        refine l1_many mt_X3_placeLengths (pc' := 36) (L' := [some (.ref d), some (.int v1)]) (st' := [.ref d, .int v1, .ref (d + 2)]) 2 rfl ?_
        refine l1_getI hQ mt_X3_placeLengths rfl (o := d) (ci := 2) (k := 3) (a := 0) (b := 0) hd rfl rfl rfl rfl ?_
        refine l1_ck (fun hx => ?_)
        refine l1_ast hQ mt_X3_placeLengths rfl (o := (d + 2)) (kc2_1 hd) hx (fun c1 => ?_)
        refine l1_many mt_X3_placeLengths (pc' := 42) (L' := [some (.ref d), some (.int v1)]) (st' := [.ref d, .ref d]) 2 rfl ?_
        refine l1_getI hQ mt_X3_placeLengths rfl (o := d) (ci := 2) (k := 3) (a := 0) (b := 0) hd rfl rfl rfl rfl ?_
        refine l1_many mt_X3_placeLengths (pc' := 46) (L' := [some (.ref d), some (.int v1)]) (st' := [.ref d, .int (c1.1 d 3), .ref d]) 1 rfl ?_
        refine l1_getR hQ mt_X3_placeLengths rfl (o := d) (ci := 2) (k := 0) (a := 0) (b := 1) hd rfl rfl rfl rfl (q := (d + 1)) rfl ?_
        refine l1_many mt_X3_placeLengths (pc' := 50) (L' := [some (.ref d), some (.int v1)]) (st' := [.int v1, .ref (d + 1), .int (c1.1 d 3), .ref d]) 1 rfl ?_
        refine l1_ck (fun hx => ?_)
        refine l1_ald hQ mt_X3_placeLengths rfl (o := (d + 1)) (kc2_0 hd) hx ?_
        refine l1_many mt_X3_placeLengths (pc' := 52) (L' := [some (.ref d), some (.int v1)]) (st' := [.int ((c1.1 d 3) + (c1.1 (d + 1) v1.toNatClampNeg)), .ref d]) 1 rfl ?_
        refine l1_putI hQ mt_X3_placeLengths rfl (o := d) (ci := 2) (k := 3) (a := 0) hd rfl rfl rfl rfl rfl (fun c2 => ?_)
        refine l1_many mt_X3_placeLengths (pc' := 56) (L' := [some (.ref d), some (.int v1)]) (st' := [.ref d]) 1 rfl ?_
        refine l1_getR hQ mt_X3_placeLengths rfl (o := d) (ci := 2) (k := 0) (a := 0) (b := 1) hd rfl rfl rfl rfl (q := (d + 1)) rfl ?_
        refine l1_many mt_X3_placeLengths (pc' := 60) (L' := [some (.ref d), some (.int v1)]) (st' := [.int v1, .ref (d + 1)]) 1 rfl ?_
        refine l1_ck (fun hx => ?_)
        refine l1_ald hQ mt_X3_placeLengths rfl (o := (d + 1)) (kc2_0 hd) hx ?_
        refine l1_many mt_X3_placeLengths (pc' := bif am_cc .le (c2.1 (d + 1) v1.toNatClampNeg) 0 then 69 else 64) (L' := [some (.ref d), some (.int v1)]) (st' := []) 1 rfl ?_
        refine l1_bif rfl ?_ ?_
        · refine l1_many mt_X3_placeLengths (pc' := 12) (L' := [some (.ref d), some (.int (v1 + 1))]) (st' := []) 2 rfl ?_
          exact ih c2 (v1 + 1)
        · refine l1_many mt_X3_placeLengths (pc' := 66) (L' := [some (.ref d), some (.int v1)]) (st' := [.int v1, .ref d]) 2 rfl ?_
          refine l1_putI hQ mt_X3_placeLengths rfl (o := d) (ci := 2) (k := 4) (a := 0) hd rfl rfl rfl rfl rfl (fun c3 => ?_)
          refine l1_many mt_X3_placeLengths (pc' := 12) (L' := [some (.ref d), some (.int (v1 + 1))]) (st' := []) 2 rfl ?_
          exact ih c3 (v1 + 1)
set_option maxRecDepth 100000 in
theorem en_X3_placeLengths {Q : hS → am_H → Prop} (hQ : l1_em kc Q) (N : Nat) (c : hS) (d : Nat) (hd : kc d = 2) : l1_G (wN wV) Q am_i_X3_placeLengths 0 [some (.ref d)] [] c (f_X3_placeLengths N c d) := by
  rw [f_X3_placeLengths]
  refine l1_many mt_X3_placeLengths (pc' := 2) (L' := [some (.ref d)]) (st' := [.int 0, .ref d]) 2 rfl ?_
  refine l1_putI hQ mt_X3_placeLengths rfl (o := d) (ci := 2) (k := 3) (a := 0) hd rfl rfl rfl rfl rfl (fun c1 => ?_)
  refine l1_many mt_X3_placeLengths (pc' := 7) (L' := [some (.ref d)]) (st' := [.int 0, .ref d]) 2 rfl ?_
  refine l1_putI hQ mt_X3_placeLengths rfl (o := d) (ci := 2) (k := 4) (a := 0) hd rfl rfl rfl rfl rfl (fun c2 => ?_)
  refine l1_many mt_X3_placeLengths (pc' := 12) (L' := [some (.ref d), some (.int 1)]) (st' := []) 2 rfl ?_
  exact ok_X3_placeLengths_12 hQ N d hd N c2 1
theorem ok_X3_placeLengths {Q : hS → am_H → Prop} (hQ : l1_em kc Q) (N : Nat) (c : hS) (d : Nat) (hd : kc d = 2) : l1_T wV Q am_i_X3_placeLengths [.ref d] c (f_X3_placeLengths N c d) := l1_of (en_X3_placeLengths hQ N c d hd) ⟨rfl, trivial⟩
end
