/-! L1: RULES by which the abstract machine follows functions over data -/
noncomputable def wI (x : Int32) : Option Value := some (.int x)
noncomputable def wL (x : Int64) : Option Value := some (.long x)
noncomputable def wV (_ : Unit) : Option Value := none
noncomputable def l1_mv (x : Option Nat) : Value := match x with
  | none => .null
  | some k => .ref k
noncomputable def wM (x : Option Nat) : Option Value := some (l1_mv x)
noncomputable def wN {α : Type} (w : α → Option Value) (a : α) : Option Value ⊕ Nat := .inl (w a)
noncomputable def wT {α : Type} (w : α → Option Value) (a : α ⊕ Nat) : Option Value ⊕ Nat := match a with
  | .inl a => .inl (w a)
  | .inr t => .inr t
/-- how a run ends: with a return, or at a place that throws -/
noncomputable def l1_E (mi pc : Nat) (lo : List (Nat × Value)) (st : List Value) (h : am_H) (o : Option Value ⊕ Nat) (h' : am_H) : Prop := match o with
  | .inl v => am_P mi pc lo st h v h'
  | .inr t => ∃ (n k : Nat) (lo' : List (Nat × Value)), am_go n mi k pc lo st h = some (t, lo', [], h')
theorem l1_one_st1 {n mi pc : Nat} {lo : List (Nat × Value)} {st : List Value} {h : am_H} {u : Nat × List (Nat × Value) × List Value × am_H} (hs : am_one mi pc lo st h = some u) : am_st1 n mi pc lo st h = some u := by
  unfold am_one at hs
  unfold am_st1
  split at hs
  · cases hs
  · rename_i M hM
    rw [hM]; dsimp only
    split at hs
    · cases hs
    · rename_i x hx
      rw [hx]; dsimp only
      split at hs
      · cases hs
      · split at hs
        · cases hs
        · rename_i ht
          rw [ht]
          exact hs
theorem l1_st1_mono {n n' mi pc : Nat} {lo : List (Nat × Value)} {st : List Value} {h : am_H} {u : Nat × List (Nat × Value) × List Value × am_H} (hn : n ≤ n') (hs : am_st1 n mi pc lo st h = some u) : am_st1 n' mi pc lo st h = some u := by
  unfold am_st1 at hs ⊢
  split at hs
  · cases hs
  · rename_i M hM
    try rw [hM]
    try dsimp only
    split at hs
    · cases hs
    · rename_i x hx
      try rw [hx]
      try dsimp only
      split at hs
      · rename_i w hw
        try rw [hw]
        try dsimp only
        split at hs
        · cases hs
        · rename_i M' hM'
          try rw [hM']
          try dsimp only
          obtain ⟨hb, hs⟩ := am_cg hs
          rw [hb, cond_true]
          split at hs
          · rename_i r hr
            rw [am_exec_le hn hr]
            exact hs
          · cases hs
      · rename_i hw
        try rw [hw]
        exact hs
theorem l1_go_mono {n n' mi : Nat} (hn : n ≤ n') : ∀ {k pc : Nat} {lo : List (Nat × Value)} {st : List Value} {h : am_H} {u : Nat × List (Nat × Value) × List Value × am_H}, am_go n mi k pc lo st h = some u → am_go n' mi k pc lo st h = some u := by
  intro k
  induction k with
  | zero => intro pc lo st h u hs; exact hs
  | succ k ih =>
    intro pc lo st h u hs
    unfold am_go at hs ⊢
    split at hs
    · rename_i u0 h0
      rw [l1_st1_mono hn h0]
      exact ih hs
    · cases hs
theorem l1_E.one {mi pc : Nat} {lo : List (Nat × Value)} {st : List Value} {h h' : am_H} {o : Option Value ⊕ Nat} {u : Nat × List (Nat × Value) × List Value × am_H} (hs : am_one mi pc lo st h = some u) (hE : l1_E mi u.1 u.2.1 u.2.2.1 u.2.2.2 o h') : l1_E mi pc lo st h o h' := by
  cases o with
  | inl v =>
    refine am_P.many (u := u) 1 ?_ hE
    show (match am_one mi pc lo st h with | some u => am_many 0 mi u.1 u.2.1 u.2.2.1 u.2.2.2 | none => none) = some u
    rw [hs]
    rfl
  | inr t =>
    obtain ⟨n, k, lo', hk⟩ := hE
    refine ⟨n, k + 1, lo', ?_⟩
    rw [am_go, l1_one_st1 hs]
    exact hk
theorem l1_E.call {mi pc : Nat} {lo : List (Nat × Value)} {st : List Value} {h h1 h' : am_H} {v1 : Option Value} {o : Option Value ⊕ Nat} {M M' : am_M} {x : Instr × Nat} {w : Nat × List Value × List Value} (hM : am_tab[mi]? = some M) (hc : M.1.2.2.2.2.2 pc = some x) (hr : am_retv x.1 M.2.2.1 st = none) (ht : am_tgt M.1.1 x.1 st h = some w) (hM' : am_tab[w.1]? = some M') (hk : am_can M M' x.1 w = true) (hT : am_T w.1 w.2.1 h v1 h1) (hE : l1_E mi (pc + 3) lo (v1.toList ++ w.2.2) h1 o h') : l1_E mi pc lo st h o h' := by
  cases o with
  | inl v => exact am_P.call hM hc hr ht hM' hk hT hE
  | inr t =>
    obtain ⟨a, ha⟩ := hT
    obtain ⟨n, k, lo', hg⟩ := hE
    refine ⟨max a n, k + 1, lo', ?_⟩
    have hs : am_st1 (max a n) mi pc lo st h = some (pc + 3, lo, v1.toList ++ w.2.2, h1) := by
      unfold am_st1
      rw [hM]; dsimp only
      rw [hc]; dsimp only
      rw [ht]; dsimp only
      rw [hM']; dsimp only
      rw [hk, cond_true, am_exec_le (Nat.le_max_left a n) ha]
    rw [am_go, hs]
    exact l1_go_mono (Nat.le_max_right a n) hg
/-! locals by place -/
noncomputable def l1_ag (L : List (Option Value)) (lo : List (Nat × Value)) : Prop := ∀ k v, L[k]? = some (some v) → am_get lo k = some v
noncomputable def l1_agl : Nat → List (Option Value) → List (Nat × Value) → Prop
  | _, [], _ => True
  | i, none :: r, lo => l1_agl (i + 1) r lo
  | i, some v :: r, lo => am_get lo i = some v ∧ l1_agl (i + 1) r lo
theorem l1_agl_ag {lo : List (Nat × Value)} : ∀ {L : List (Option Value)} {i : Nat}, l1_agl i L lo → ∀ k v, L[k]? = some (some v) → am_get lo (i + k) = some v := by
  intro L
  induction L with
  | nil => intro i _ k v h; simp at h
  | cons x r ih =>
    intro i ha k v h
    cases x with
    | none =>
      cases k with
      | zero => simp at h
      | succ k =>
        rw [show i + (k + 1) = i + 1 + k by omega]
        exact ih (i := i + 1) ha k v (by simpa using h)
    | some w =>
      cases k with
      | zero =>
        simp at h
        subst h
        exact ha.1
      | succ k =>
        rw [show i + (k + 1) = i + 1 + k by omega]
        exact ih (i := i + 1) ha.2 k v (by simpa using h)
theorem l1_ag_of {lo : List (Nat × Value)} {L : List (Option Value)} (h : l1_agl 0 L lo) : l1_ag L lo := fun k v hk => by
  have := l1_agl_ag h k v hk
  rwa [Nat.zero_add] at this
noncomputable def l1_msk : List Bool → List (Option Value) → List (Option Value)
  | [], _ => []
  | _, [] => []
  | true :: m, x :: r => x :: l1_msk m r
  | false :: m, _ :: r => none :: l1_msk m r
theorem l1_msk_at : ∀ {m : List Bool} {L : List (Option Value)} {k : Nat} {v : Value}, (l1_msk m L)[k]? = some (some v) → L[k]? = some (some v)
  | [], L, k, v, h => by simp [l1_msk] at h
  | b :: m, [], k, v, h => by cases b <;> simp [l1_msk] at h
  | true :: m, x :: r, 0, v, h => by simpa [l1_msk] using h
  | true :: m, x :: r, k + 1, v, h => by
    have h : (l1_msk m r)[k]? = some (some v) := by simpa [l1_msk] using h
    simpa using l1_msk_at h
  | false :: m, x :: r, 0, v, h => by simp [l1_msk] at h
  | false :: m, x :: r, k + 1, v, h => by
    have h : (l1_msk m r)[k]? = some (some v) := by simpa [l1_msk] using h
    simpa using l1_msk_at h
noncomputable def l1_trim : List (Option Value) → List (Option Value)
  | [] => []
  | x :: r => match x, l1_trim r with
    | none, [] => []
    | x, r => x :: r
theorem l1_trim_at : ∀ {L : List (Option Value)} {k : Nat} {v : Value}, (l1_trim L)[k]? = some (some v) → L[k]? = some (some v) := by
  intro L
  induction L with
  | nil => intro k v h; exact h
  | cons x r ih =>
    intro k v h
    unfold l1_trim at h
    split at h
    · simp at h
    · cases k with
      | zero => simpa using h
      | succ k => simpa using ih (by simpa using h)
noncomputable def l1_kill (n : Nat) (x : Option Value) : Option Value := match n, x with
  | 0, some (.long _) => none
  | 0, some (.double _) => none
  | _, x => x
noncomputable def l1_put : Nat → List (Option Value) → Value → List (Option Value)
  | 0, [], v => [some v]
  | 0, _ :: r, v => some v :: r
  | n + 1, [], v => none :: l1_put n [] v
  | n + 1, x :: r, v => l1_kill n x :: l1_put n r v
theorem l1_put_at : ∀ {i : Nat} {L : List (Option Value)} {v w : Value} {k : Nat}, (l1_put i L v)[k]? = some (some w) → (k = i ∧ w = v) ∨ (k ≠ i ∧ L[k]? = some (some w) ∧ ¬ (k + 1 = i ∧ w.category = 2))
  | 0, [], v, w, 0, h => by simp [l1_put] at h; exact Or.inl ⟨rfl, h.symm⟩
  | 0, [], v, w, k + 1, h => by simp [l1_put] at h
  | 0, x :: r, v, w, 0, h => by simp [l1_put] at h; exact Or.inl ⟨rfl, h.symm⟩
  | 0, x :: r, v, w, k + 1, h => Or.inr ⟨by omega, by simpa [l1_put] using h, by omega⟩
  | n + 1, [], v, w, 0, h => by simp [l1_put] at h
  | n + 1, [], v, w, k + 1, h => by
    have h : (l1_put n [] v)[k]? = some (some w) := by simpa [l1_put] using h
    rcases l1_put_at h with ⟨h1, h2⟩ | ⟨_, h2, _⟩
    · exact Or.inl ⟨by omega, h2⟩
    · simp at h2
  | n + 1, x :: r, v, w, 0, h => by
    have h : l1_kill n x = some w := by simpa [l1_put] using h
    refine Or.inr ⟨by omega, ?_, ?_⟩
    · unfold l1_kill at h
      split at h
      · cases h
      · cases h
      · simp [h]
    · rintro ⟨h1, h2⟩
      have : n = 0 := by omega
      subst this
      cases x with
      | none => simp [l1_kill] at h
      | some y => cases y <;> simp [l1_kill] at h <;> subst h <;> simp [Value.category] at h2
  | n + 1, x :: r, v, w, k + 1, h => by
    have h : (l1_put n r v)[k]? = some (some w) := by simpa [l1_put] using h
    rcases l1_put_at h with ⟨h1, h2⟩ | ⟨h1, h2, h3⟩
    · exact Or.inl ⟨by omega, h2⟩
    · exact Or.inr ⟨by omega, by simpa using h2, by omega⟩
noncomputable def l1_un : Nat → List (Option Value) → List (Option Value)
  | _, [] => []
  | 0, _ :: r => none :: r
  | n + 1, x :: r => x :: l1_un n r
theorem l1_un_at : ∀ {i : Nat} {L : List (Option Value)} {w : Value} {k : Nat}, (l1_un i L)[k]? = some (some w) → k ≠ i ∧ L[k]? = some (some w)
  | _, [], w, k, h => by simp [l1_un] at h
  | 0, x :: r, w, 0, h => by simp [l1_un] at h
  | 0, x :: r, w, k + 1, h => ⟨by omega, by simpa [l1_un] using h⟩
  | n + 1, x :: r, w, 0, h => ⟨by omega, by simpa [l1_un] using h⟩
  | n + 1, x :: r, w, k + 1, h => by
    have h : (l1_un n r)[k]? = some (some w) := by simpa [l1_un] using h
    have := l1_un_at h
    exact ⟨by omega, by simpa using this.2⟩
theorem l1_get_filter {p : Nat × Value → Bool} {k : Nat} {w : Value} (hp : p (k, w) = true) : ∀ {lo : List (Nat × Value)}, am_get lo k = some w → am_get (lo.filter p) k = some w
  | [], h => by simp [am_get] at h
  | (j, u) :: r, h => by
    unfold am_get at h
    cases hb : Nat.beq j k with
    | true =>
      rw [hb, cond_true] at h
      cases h
      cases Nat.eq_of_beq_eq_true hb
      rw [List.filter_cons, if_pos hp]
      unfold am_get
      rw [hb, cond_true]
    | false =>
      rw [hb, cond_false] at h
      have ih := l1_get_filter hp h
      rw [List.filter_cons]
      split
      · unfold am_get
        rw [hb, cond_false]
        exact ih
      · exact ih
theorem l1_get_cons {i k : Nat} {v : Value} {r : List (Nat × Value)} (h : k ≠ i) : am_get ((i, v) :: r) k = am_get r k := by
  unfold am_get
  cases hb : Nat.beq i k with
  | true => exact absurd (Nat.eq_of_beq_eq_true hb).symm h
  | false => rw [cond_false]; cases r <;> rfl
theorem l1_ag_set {L : List (Option Value)} {lo : List (Nat × Value)} {i : Nat} {v : Value} (ha : l1_ag L lo) : l1_ag (l1_put i L v) (am_set lo i v) := by
  intro k w h
  rcases l1_put_at h with ⟨rfl, rfl⟩ | ⟨h1, h2, h3⟩
  · simp [am_set, am_get]
  · unfold am_set
    rw [l1_get_cons h1]
    refine l1_get_filter ?_ (ha k w h2)
    have hki : (k == i) = false := by simpa using h1
    by_cases e : k + 1 = i
    · have : ¬ w.category = 2 := fun q => h3 ⟨e, q⟩
      simp [hki, this]
    · simp [hki, e]
theorem l1_ag_setL {L : List (Option Value)} {lo : List (Nat × Value)} {i : Nat} {v : Value} (ha : l1_ag L lo) : l1_ag (l1_un (i + 1) (l1_put i L v)) (am_setL lo i v) := by
  intro k w h
  obtain ⟨h0, h⟩ := l1_un_at h
  rcases l1_put_at h with ⟨rfl, rfl⟩ | ⟨h1, h2, h3⟩
  · simp [am_setL, am_get]
  · unfold am_setL
    rw [l1_get_cons h1]
    refine l1_get_filter ?_ (ha k w h2)
    have hki : (k == i) = false := by simpa using h1
    have hk1 : (k == i + 1) = false := by simpa using h0
    by_cases e : k + 1 = i
    · have : ¬ w.category = 2 := fun q => h3 ⟨e, q⟩
      simp [hki, hk1, this]
    · simp [hki, hk1, e]
/-! the frame's steps over locals by place -/
noncomputable def l1_ld (i : Instr) : Option (Nat × Nat × Nat) := match i with
  | .iload n => some (0, n, 2)
  | .iload_n n => some (0, (n : Nat), 1)
  | .lload n => some (1, n, 2)
  | .lload_n n => some (1, (n : Nat), 1)
  | .aload n => some (2, n, 2)
  | .aload_n n => some (2, (n : Nat), 1)
  | _ => none
noncomputable def l1_sto (i : Instr) : Option (Nat × Nat × Nat) := match i with
  | .istore n => some (0, n, 2)
  | .istore_n n => some (0, (n : Nat), 1)
  | .lstore n => some (1, n, 2)
  | .lstore_n n => some (1, (n : Nat), 1)
  | .astore n => some (2, n, 2)
  | .astore_n n => some (2, (n : Nat), 1)
  | _ => none
noncomputable def l1_is (kd : Nat) (v : Value) : Bool := match kd, v with
  | 0, .int _ => true
  | 1, .long _ => true
  | 2, .ref _ => true
  | 2, .null => true
  | _, _ => false
noncomputable def l1_set (kd i : Nat) (L : List (Option Value)) (v : Value) : List (Option Value) := match kd with
  | 1 => l1_un (i + 1) (l1_put i L v)
  | _ => l1_put i L v
noncomputable def l1_two (kd : Nat) : Nat := match kd with
  | 1 => 1
  | _ => 0
noncomputable def l1_ps (M : am_M) (pc : Nat) (L : List (Option Value)) (st : List Value) : Option (Nat × List (Option Value) × List Value) := match M.1.2.2.2.2.2 pc with
  | none => none
  | some x => match l1_ld x.1 with
    | some u => match L[u.2.1]? with
      | some (some v) => bif l1_is u.1 v then some (pc + u.2.2, L, v :: st) else none
      | _ => none
    | none => match l1_sto x.1 with
      | some u => match st with
        | v :: r => bif l1_is u.1 v && Nat.blt (u.2.1 + l1_two u.1) M.1.2.1 then some (pc + u.2.2, l1_set u.1 u.2.1 L v, r) else none
        | _ => none
      | none => match x.1 with
        | .iinc n d => match L[n]? with
          | some (some (.int y)) => bif Nat.blt n M.1.2.1 then some (pc + 3, l1_put n L (.int (y + Int32.ofInt d)), st) else none
          | _ => none
        | .ldc idx => match am_fnd (am_ct M.1.1) idx with
          | some v => some (pc + 2, L, .int v :: st)
          | none => match am_fnd (am_stt M.1.1) idx with
            | some j => some (pc + 2, L, .ref (1000000100 + j) :: st)
            | none => none
        | .ldc_w idx => match am_fnd (am_ct M.1.1) idx with
          | some v => some (pc + 3, L, .int v :: st)
          | none => none
        | .ldc2_w idx => match am_fnd (am_lt0 M.1.1) idx with
          | some v => some (pc + 3, L, .long v :: st)
          | none => none
        | .getstatic idx => match am_fnd (am_gt M.1.1) idx with
          | some j => some (pc + 3, L, .ref (1000000000 + j) :: st)
          | none => none
        | i => match am_s0 M.1.2.1 i pc [] st with
          | some u => some (u.1, L, u.2.2)
          | none => none
noncomputable def l1_fr (i : Instr) : Bool := match i with
  | .iinc _ _ => false
  | i => (l1_ld i).isNone && (l1_sto i).isNone
set_option maxHeartbeats 4000000 in
theorem l1_s0_fr {nL pc : Nat} {i : Instr} {st : List Value} {u : Nat × List (Nat × Value) × List Value} (hf : l1_fr i = true) (hs : am_s0 nL i pc [] st = some u) (lo : List (Nat × Value)) : am_s0 nL i pc lo st = some (u.1, lo, u.2.2) ∧ ∀ ret own h, am_retv i ret st = none ∧ am_tgt own i st h = none := by
  cases i <;> first
    | (exfalso; cases hs; done)
    | (exfalso; cases hf; done)
    | (refine ⟨?_, fun _ _ _ => ⟨rfl, rfl⟩⟩
       unfold am_s0 at hs ⊢
       dsimp only at hs ⊢
       first
         | (cases hs; rfl)
         | ((repeat' split at hs) <;> first
             | (cases hs; done)
             | (cases hs; rfl)
             | (cases hs; (repeat' split) <;> first | rfl | (simp_all; done) | (exfalso; simp_all; done))))
