/-! PURE: the class's public methods: answers -/
noncomputable def atF (t : List Nat) (p : Nat) : Nat → Nat → Int64 → Int64
  | 0, _, v => v
  | d + 1, j, v => atF t p d (j + 1) ((j_lshl v 8) ||| (nI (gt t (p + j))).toInt64)
noncomputable def atK (t : List Nat) (i n : Int32) : Nat := if n < 1 ∨ 8 < n then 1 else if i < 0 ∨ t.length < i.toNatClampNeg + n.toNatClampNeg then 2 else 0
noncomputable def atV (t : List Nat) (i n : Int32) : Int64 := atF t i.toNatClampNeg n.toNatClampNeg 0 0
noncomputable def atM (p : Nat) : Nat := if p = 11 then 1 else 2
theorem c_at {N : Nat} {g c : hS} {b t : List Nat} {ms : List Mb} {i n : Int32} (hN : 1000000 ≤ N) (h : PC g c b t ms) : AN g (f_X11_at N c i n) atM (atK t i n) (atV t i n) b t ms := by
  have ht := h.2.1
  have htl := ht.lt
  unfold f_X11_at
  by_cases h1 : n < 1
  · have k1 : atK t i n = 1 := by unfold atK; rw [if_pos (Or.inl h1)]
    rw [if_pos h1, k1]
    exact AN.no rfl rfl (by decide) h
  · rw [if_neg h1]
    by_cases h8 : n ≤ 8
    · rw [if_pos h8]
      have hor : ¬ (n < 1 ∨ 8 < n) := fun q => q.elim h1 (fun z => absurd h8 (Int32.not_le.mpr z))
      rcases i_cases n with q | ⟨k, hk, rfl⟩
      · exact absurd (Int32.lt_of_lt_of_le q (by decide)) h1
      · have k8 : k ≤ 8 := (nI_leI hk (show 8 < 2 ^ 31 by decide)).mp h8
        rcases i_cases i with q | ⟨p, hp, rfl⟩
        · have k1 : atK t i (nI k) = 2 := by unfold atK; rw [if_neg hor, if_pos (Or.inl q)]
          rw [if_pos q, k1]
          exact AN.no rfl rfl (by decide) h
        · rw [if_neg (nI_pos hp), f_size ht, bnd_some]
          by_cases w : p + k ≤ t.length
          · have k1 : atK t (nI p) (nI k) = 0 := by
              unfold atK
              rw [if_neg hor, nI_clamp hp, nI_clamp hk, if_neg]
              rintro (z | z)
              · exact nI_pos hp z
              · omega
            rw [subI (by omega), if_pos (nI_le (show p ≤ t.length - k by omega) (by omega)), k1]
            have key : ∀ d m j v, j + d = k → d < m → f_X11_at_53 N (nI p) (nI k) m c v (nI j) = some (.inl (atF t p d j v), c) := by
              intro d
              induction d with
              | zero =>
                intro m j v hj hm
                obtain ⟨m, rfl⟩ : ∃ m', m = m' + 1 := ⟨m - 1, by omega⟩
                rw [f_X11_at_53, if_pos (nI_le (by omega) (by omega))]
                rfl
              | succ d ih =>
                intro m j v hj hm
                obtain ⟨m, rfl⟩ : ∃ m', m = m' + 1 := ⟨m - 1, by omega⟩
                rw [f_X11_at_53, if_neg (nI_ge (by omega) (by omega)), nI_add, f_get ht (by omega), bnd_some, nI_1, ih m (j + 1) _ (by omega) (by omega)]
                rfl
            unfold atV
            rw [nI_clamp hp, nI_clamp hk]
            exact AN.ok (key k N 0 0 (by omega) (by omega)) rfl h
          · have k1 : atK t (nI p) (nI k) = 2 := by unfold atK; rw [if_neg hor, nI_clamp hp, nI_clamp hk, if_pos (Or.inr (by omega))]
            have ng : ¬ nI p ≤ nI t.length - nI k := by
              by_cases w2 : k ≤ t.length
              · rw [subI w2]; exact nI_ge (by omega) hp
              · intro z
                have := (by decide +kernel : ∀ a, a < 8 → ∀ b, b < 9 → a < b → nI a - nI b < 0) t.length (by omega) k (by omega) (by omega)
                exact nI_pos hp (Int32.lt_of_le_of_lt z this)
            rw [if_neg ng, k1]
            exact AN.no rfl rfl (by decide) h
    · have k1 : atK t i n = 1 := by unfold atK; rw [if_pos (Or.inr (Int32.not_le.mp h8))]
      rw [if_neg h8, k1]
      exact AN.no rfl rfl (by decide) h
theorem c_check {N : Nat} {g c : hS} {b t : List Nat} {ms : List Mb} (hN : 1000000 ≤ N) (h : PC g c b t ms) : f_X11_check N c = some (crc b, c) := by
  unfold f_X11_check
  rw [f_checkOf hN h.1, bnd_some]
noncomputable def faK (w : Int32) : Nat := if w = 0 ∨ w = 1 then 0 else 1
theorem c_fault {g c : hS} {b t : List Nat} {ms : List Mb} {w : Int32} (h : PC g c b t ms) : ∃ v, AN g (f_X11_fault c w) onM (faK w) v b t ms := by
  unfold f_X11_fault faK
  by_cases w0 : w = 0
  · rw [if_pos w0, if_pos (Or.inl w0)]
    exact ⟨_, AN.ok rfl rfl h⟩
  · by_cases w1 : w = 1
    · rw [if_neg w0, if_pos w1, if_pos (Or.inr w1)]
      exact ⟨_, AN.ok rfl rfl h⟩
    · rw [if_neg w0, if_neg w1, if_neg (fun z => z.elim w0 w1)]
      exact ⟨0, AN.no rfl rfl (by decide) h⟩
theorem c_pack {N : Nat} {g c : hS} {b t : List Nat} {ms : List Mb} (hN : 1000000 ≤ N) (h : PC g c b t ms) : ∃ c', f_X11_pack N c = some (nI (packed b).length, c') ∧ PC g c' b (packed b) ms := by
  have hbl : b.length ≤ 512 := h.1.1
  unfold f_X11_pack
  obtain ⟨c1, e1, r1, f1⟩ := f_cut0 h.2.1
  have h1 := h.tap (f1.mono (by decide)) r1
  rw [e1, bnd_some]
  obtain ⟨c2, e2, r2, f2⟩ := f_addPacked hN (b := 1) (by decide) (by decide) h1.1 h1.2.1 hbl (by simp; omega)
  rw [List.nil_append] at r2
  rw [e2, bnd_some, f_size r2, bnd_some]
  exact ⟨c2, rfl, h1.tap f2 r2⟩
noncomputable def unB1 (b t : List Nat) : List Nat := match opn t 0 t.length 512 with
  | none => b
  | some out => out
noncomputable def unV (t : List Nat) : Int32 := match opn t 0 t.length 512 with
  | none => -1
  | some out => nI out.length
theorem PC.op {g c c1 : hS} {b t : List Nat} {ms : List Mb} (h : PC g c b t ms) (hf : fr Sop c c1) : PC g c1 b t ms := by
  obtain ⟨r1, r3, r5, r7, fx, ok, s, s', ms', e1, e2, e3, e4, e5⟩ := h
  have z : ∀ o, o ∈ Sop → o < 37 := by decide
  refine ⟨r1.fr hf (by decide) (by decide), r3.fr hf (by decide) (by decide), hf.2.1 r5, hf.2.2 r7, fx.fr hf Sop_fx, ⟨ok.1, ok.2.mv hf (by decide)⟩, s, s', ms', (hf.r (by decide) 8).trans e1, (hf.r (by decide) 9).trans e2, e3, e4.fr hf (fun o ho => by have := z o ho; omega), e5.fr hf (fun o ho => by have := z o ho; omega)⟩
theorem f_clear6 (c : hS) : ∃ c', f_X6_clear c = some ((), c') ∧ fr [9] c c' := ⟨_, rfl, (fr.sI (by simp)).tr (fr.sI (by simp))⟩
theorem c_unpack {N : Nat} {g c : hS} {b t : List Nat} {ms : List Mb} (hN : 1000000 ≤ N) (h : PC g c b t ms) : ∃ c', f_X11_unpack N c = some (unV t, c') ∧ PC g c' (unB1 b t) t ms := by
  unfold f_X11_unpack unV unB1
  obtain ⟨c1, e1, f1⟩ := f_clear6 c
  have h1 := h.kp f1 (by decide)
  rw [e1, bnd_some, f_size h1.2.1, bnd_some, show (0 : Int32) = nI 0 from rfl, show (512 : Int32) = nI 512 from rfl]
  obtain ⟨c5, e5, f5, g5⟩ := f_open (a := 0) (behind := t.length) (most := 512) hN h1.2.1 h1.2.2.2.1 h1.2.2.2.2.1 (by omega) (by omega) (by decide)
  have h5 := h1.op f5
  rw [e5, bnd_some]
  cases ho : opn t 0 t.length 512 with
  | none =>
    rw [if_pos (show bI (none : Option (List Nat)).isSome = nI 0 from rfl)]
    exact ⟨c5, rfl, h5⟩
  | some out =>
    have r7 := g5 out ho
    have hol : out.length ≤ 512 := r7.1
    rw [if_neg (show ¬ bI (some out).isSome = nI 0 from (by decide : ¬ bI true = nI 0))]
    obtain ⟨c6, e6, r6, f6⟩ := f_cut0 h5.1
    have r7' := r7.fr f6 (by decide) (by decide)
    rw [show nI 0 = (0 : Int32) from rfl, e6, bnd_some, f_size r7', bnd_some, show (0 : Int32) = nI 0 from rfl]
    obtain ⟨c9, e9, r9, f9⟩ := f_addPart (b := 1) (f := 7) (i := 0) (j := out.length) hN r6 r7' (by decide) (by decide) (by decide) (by omega) (by omega) (show ([] : List Nat).length + _ ≤ 512 by simp; omega)
    rw [List.nil_append, List.drop_zero, Nat.sub_zero, List.take_length] at r9
    rw [e9, bnd_some, f_size r9, bnd_some]
    exact ⟨c9, rfl, h5.buf ((f6.mono (by decide)).tr f9) r9⟩
