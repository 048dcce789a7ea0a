/-! PURE: a member goes, a member comes -/
noncomputable def rot (c : hS) (s k i : Nat) : hS := (c.1, c.2.1, fun o j => if o = s + 1 ∧ k ≤ j ∧ j < i then c.2.2 (s + 1) (j + 1) else c.2.2 o j)
theorem rot_0 (c : hS) (s k : Nat) : rot c s k k = c := by
  obtain ⟨a, b, d⟩ := c
  unfold rot
  congr 2
  funext o j
  rw [if_neg (by omega)]
theorem rot_at (c : hS) {s k i j : Nat} (h : i ≤ j) : (rot c s k i).2.2 (s + 1) j = c.2.2 (s + 1) j := by
  unfold rot
  dsimp only
  rw [if_neg (by omega)]
theorem rot_s (c : hS) {s k i : Nat} (h : k ≤ i) : sR (rot c s k i) (s + 1) i (c.2.2 (s + 1) (i + 1)) = rot c s k (i + 1) := by
  unfold rot sR
  congr 2
  funext o j
  dsimp only
  by_cases e1 : o = s + 1 ∧ j = i
  · rw [if_pos e1, if_pos ⟨e1.1, by omega, by omega⟩, e1.2]
  · rw [if_neg e1]
    by_cases e2 : o = s + 1 ∧ k ≤ j ∧ j < i
    · rw [if_pos e2, if_pos ⟨e2.1, e2.2.1, by omega⟩]
    · rw [if_neg e2, if_neg (fun q => e2 ⟨q.1, q.2.1, by
        have : j ≠ i := fun z => e1 ⟨q.1, z⟩
        omega⟩)]
/-- where the members stand when one goes -/
noncomputable def perm (k n j : Nat) : Nat := if k ≤ j ∧ j + 1 < n then j + 1 else if j + 1 = n then k else j
noncomputable def dropC (c : hS) (s k n : Nat) : hS := sR (sI (rot c s k (n - 1)) s 1 (nI (n - 1))) (s + 1) (n - 1) (c.2.2 (s + 1) k)
theorem dropC_at (c : hS) {s k n j : Nat} (hk : k < n) : (dropC c s k n).2.2 (s + 1) j = c.2.2 (s + 1) (perm k n j) := by
  unfold dropC sR sI rot perm
  dsimp only
  by_cases e : j = n - 1
  · rw [if_pos ⟨rfl, e⟩, if_neg (by omega), if_pos (by omega)]
  · rw [if_neg (fun q => e q.2)]
    by_cases e2 : k ≤ j ∧ j + 1 < n
    · rw [if_pos ⟨rfl, e2.1, by omega⟩, if_pos e2]
    · rw [if_neg (fun q => e2 ⟨q.2.1, by omega⟩), if_neg e2, if_neg (by omega)]
theorem dropC_fr (c : hS) {s k n : Nat} (hs : s = 37 ∨ s = 119) : fr [s, s + 1] c (dropC c s k n) := by
  have e : ∀ a j, a ≠ s → (dropC c s k n).1 a j = c.1 a j := fun a j ha => by
    unfold dropC sR sI rot
    dsimp only
    rw [if_neg (fun q => ha q.1)]
  refine ⟨fun o ho => ?_, fun h => ?_, fun h => ?_⟩
  · simp at ho
    unfold dropC sR sI rot
    refine ⟨fun j => ?_, fun _ => rfl, fun j => ?_⟩
    · dsimp only
      rw [if_neg (fun q => ho.1 q.1)]
    · dsimp only
      rw [if_neg (fun q => ho.2 q.1), if_neg (fun q => ho.2 q.1)]
  · rw [e 5 1 (by omega)]; exact h
  · rw [e 7 1 (by omega)]; exact h
theorem f_drop {N : Nat} {c : hS} {s k : Nat} {ms : List Mb} (hN : 1000000 ≤ N) (h : shf c s ms) (hs : s = 37 ∨ s = 119) (hk : k < ms.length) : f_X9_drop N c s (nI k) = some ((), dropC c s k ms.length) := by
  have h1 := h.1
  have key : ∀ d n i, i + 1 + d = ms.length → k ≤ i → d < n → f_X9_drop_13 N s (nI k) n (rot c s k i) (c.2.2 (s + 1) k) (nI i) = some ((), dropC c s k ms.length) := by
    intro d
    induction d with
    | zero =>
      intro n i hi hki hn
      obtain ⟨n, rfl⟩ : ∃ m, n = m + 1 := ⟨n - 1, by omega⟩
      have e0 : (rot c s k i).1 s 1 = nI ms.length := h.2.1
      rw [f_X9_drop_13, e0, nI_1, if_pos (nI_le (by omega) (by omega))]
      unfold f_X9_drop_54
      rw [e0]
      dsimp only [st1]
      rw [sI_s, show nI ms.length - 1 = nI (ms.length - 1) by rw [← nI_pred (ms.length - 1)]; congr 2; omega, if_neg (nI_pos (by omega)), ofNat_nI, ln_sh hs, if_neg (nI_ge (by omega) (by decide)), j_in_nI (by omega) (by decide), cond_true, nI_clamp (by omega)]
      unfold dropC
      rw [show ms.length - 1 = i by omega]
    | succ d ih =>
      intro n i hi hki hn
      obtain ⟨n, rfl⟩ : ∃ m, n = m + 1 := ⟨n - 1, by omega⟩
      have e0 : (rot c s k i).1 s 1 = nI ms.length := h.2.1
      rw [f_X9_drop_13, e0, nI_1, if_neg (nI_ge (by omega) (by omega)), ofNat_nI, ln_sh hs, if_neg (nI_ge (by omega) (by decide)), j_in_nI (by omega) (by decide), cond_true, nI_clamp (show i + 1 < 2 ^ 31 by omega), rot_at c (by omega), beq6 (h.kc6 hs (by omega)), cond_true, j_in_nI (by omega) (by decide), cond_true, nI_clamp (show i < 2 ^ 31 by omega)]
      dsimp only [st1]
      rw [rot_s c hki]
      exact ih n (i + 1) (by omega) (by omega) (by omega)
  unfold f_X9_drop
  rw [f_member h hs hk, bnd_some]
  dsimp only [opt]
  rw [beq6 (h.kc6 hs (by omega)), cond_true]
  have := key (ms.length - 1 - k) N k (by omega) (Nat.le_refl _) (by omega)
  rwa [rot_0] at this
theorem perm_lt {k n j : Nat} (hk : k < n) (hn : n ≤ 16) (hj : j < 16) : perm k n j < 16 := by
  unfold perm
  split
  · omega
  · split <;> omega
theorem perm_inj {k n i j : Nat} (hk : k < n) (h : perm k n i = perm k n j) : i = j := by
  unfold perm at h
  split at h <;> split at h <;> try omega
  all_goals (split at h <;> try omega)
  all_goals (try (split at h <;> omega))
theorem shf_drop {c : hS} {s k : Nat} {ms : List Mb} (h : shf c s ms) (hs : s = 37 ∨ s = 119) (hk : k < ms.length) : shf (dropC c s k ms.length) s (ms.eraseIdx k) := by
  have h1 := h.1
  have hl : (ms.eraseIdx k).length = ms.length - 1 := List.length_eraseIdx_of_lt hk
  have hf := dropC_fr c (k := k) (n := ms.length) hs
  refine ⟨by omega, ?_, fun i hi => ?_, fun i j hi hj e => ?_, fun i hi => ?_⟩
  · rw [hl]
    unfold dropC
    rw [sR_1, sI_s]
  · rw [dropC_at c hk]
    exact h.2.2.1 _ (perm_lt hk h1 hi)
  · rw [dropC_at c hk, dropC_at c hk] at e
    exact perm_inj hk (h.2.2.2.1 _ _ (perm_lt hk h1 hi) (perm_lt hk h1 hj) e)
  · rw [dropC_at c hk]
    obtain ⟨x, m1, m2⟩ := h.2.2.2.2 _ (perm_lt hk h1 hi)
    obtain ⟨q, hq, e⟩ := h.2.2.1 _ (perm_lt hk h1 hi)
    refine ⟨x, m1.fr hf (by rw [e]; simp; omega) (by rw [e]; simp; omega) (by rw [e]; simp; omega) (by rw [e]; simp; omega) (by rw [e]; simp; omega), fun hi2 => ?_⟩
    rw [hl] at hi2
    rw [List.getElem_eraseIdx]
    by_cases e2 : i < k
    · have ep : perm k ms.length i = i := by unfold perm; rw [if_neg (by omega), if_neg (by omega)]
      rw [dif_pos e2]
      simp only [ep] at m2
      exact m2 (by omega)
    · have ep : perm k ms.length i = i + 1 := by unfold perm; rw [if_pos (by omega)]
      rw [dif_neg e2]
      simp only [ep] at m2
      exact m2 (by omega)
/-- the shelf's own numbers -/
noncomputable def shR (s : Nat) : List Nat := List.range' s 82
theorem shR_mem {s o : Nat} : o ∈ shR s ↔ s ≤ o ∧ o < s + 82 := by
  unfold shR
  rw [List.mem_range'_1]
/-- a member at the end -/
theorem f_takeEnd {N : Nat} {c : hS} {s b r i0 j0 : Nat} {ms : List Mb} {t g : List Nat} {d : Bool} (hN : 1000000 ≤ N) (h : shf c s ms) (hs : s = 37 ∨ s = 119) (hb : row c b t) (hr : row c r g) (hb0 : b + 1 < s) (hr0 : r + 1 < s) (ht : t.length ≤ 90) (hij : i0 ≤ j0) (hj : j0 ≤ g.length) (hji : j0 - i0 ≤ 400) (hms : ms.length < 16) :
    ∃ c', (if c.1 s 1 < 0 then some ((), c) else if c.1 s 1 < (Int32.ofNat (ln (s + 1))) then st1 (sI c s 1 ((c.1 s 1) + 1)) fun c4 => bnd (f_X9_member c4 s ((c4.1 s 1) - 1)) fun x5 c6 => opt x5 (some ((), c6)) fun y7 => bif Nat.beq (kc y7) 6 then bnd (f_X2_cutTo c6 (y7 + 1) 0) fun _ c8 => bnd (f_X2_size c8 b) fun x9 c10 => bnd (f_X2_addRow N c10 (y7 + 1) b 0 x9) fun _ c11 => bnd (f_X2_cutTo c11 (y7 + 3) 0) fun _ c12 => bnd (f_X2_addRow N c12 (y7 + 3) r (nI i0) (nI j0)) fun _ c13 => bif j_b (bI d) then st1 (sI c13 y7 2 (bI d)) fun c14 => some ((), c14) else none else none else some ((), c)) = some ((), c') ∧ shf c' s (ms ++ [(t, (g.drop i0).take (j0 - i0), d)]) ∧ fr (shR s) c c' := by
  have h1 := h.1
  have l1 := hb.lt
  have hs2 : s ∈ shR s := shR_mem.mpr (by omega)
  -- the place of the new one
  have c4f : fr [s] c (sI c s 1 (nI (ms.length + 1))) := fr.sI (by simp)
  obtain ⟨k, hk, ek⟩ := h.2.2.1 ms.length hms
  have k6 := h.kc6 hs hms
  have lnt : ln (c.2.2 (s + 1) ms.length + 1 + 1) = 90 := by
    rw [ek]
    rcases hs with rfl | rfl
    · exact (by decide +kernel : ∀ k, k < 16 → ln (37 + 2 + 5 * k + 1 + 1) = 90) k hk
    · exact (by decide +kernel : ∀ k, k < 16 → ln (119 + 2 + 5 * k + 1 + 1) = 90) k hk
  have lnb : ln (c.2.2 (s + 1) ms.length + 3 + 1) = 400 := by
    rw [ek]
    rcases hs with rfl | rfl
    · exact (by decide +kernel : ∀ k, k < 16 → ln (37 + 2 + 5 * k + 3 + 1) = 400) k hk
    · exact (by decide +kernel : ∀ k, k < 16 → ln (119 + 2 + 5 * k + 3 + 1) = 400) k hk
  obtain ⟨x, mx, -⟩ := h.2.2.2.2 ms.length hms
  rw [h.2.1, if_neg (nI_pos (by omega)), ofNat_nI, ln_sh hs, if_pos (nI_lt hms (by decide)), nI_1]
  generalize hm : c.2.2 (s + 1) ms.length = m at *
  have mem4 : f_X9_member (sI c s 1 (nI (ms.length + 1))) s (nI ms.length) = some (some m, sI c s 1 (nI (ms.length + 1))) := by
    unfold f_X9_member
    rw [if_neg (nI_pos (by omega)), sI_s, if_neg (nI_ge (by omega) (by omega)), ofNat_nI, ln_sh hs, if_neg (nI_ge hms (by decide)), j_in_nI hms (by decide), cond_true, nI_clamp (by omega), show (sI c s 1 (nI (ms.length + 1))).2.2 (s + 1) ms.length = m from hm, beq6 k6, cond_true]
  dsimp only [st1]
  rw [sI_s, nI_pred, mem4, bnd_some]
  dsimp only [opt]
  rw [beq6 k6, cond_true]
  generalize hc4 : sI c s 1 (nI (ms.length + 1)) = c4 at *
  have m4 := mx.fr c4f (by simp only [List.mem_cons, List.not_mem_nil, or_false]; omega) (by simp only [List.mem_cons, List.not_mem_nil, or_false]; omega) (by simp only [List.mem_cons, List.not_mem_nil, or_false]; omega) (by simp only [List.mem_cons, List.not_mem_nil, or_false]; omega) (by simp only [List.mem_cons, List.not_mem_nil, or_false]; omega)
  have b4 := hb.fr c4f (by simp only [List.mem_cons, List.not_mem_nil, or_false]; omega) (by simp only [List.mem_cons, List.not_mem_nil, or_false]; omega)
  have r4 := hr.fr c4f (by simp only [List.mem_cons, List.not_mem_nil, or_false]; omega) (by simp only [List.mem_cons, List.not_mem_nil, or_false]; omega)
  obtain ⟨c8, e8, w8, f8⟩ := f_cut0 m4.1
  have b8' := b4.fr f8 (by simp only [List.mem_cons, List.not_mem_nil, or_false]; omega) (by simp only [List.mem_cons, List.not_mem_nil, or_false]; omega)
  have r8 := r4.fr f8 (by simp only [List.mem_cons, List.not_mem_nil, or_false]; omega) (by simp only [List.mem_cons, List.not_mem_nil, or_false]; omega)
  have v8 := m4.2.1.fr f8 (by simp only [List.mem_cons, List.not_mem_nil, or_false]; omega) (by simp only [List.mem_cons, List.not_mem_nil, or_false]; omega)
  rw [e8, bnd_some, f_size b8', bnd_some, show (0 : Int32) = nI 0 from rfl]
  obtain ⟨c11, e11, w11, f11⟩ := f_addPart (b := m + 1) (f := b) (i := 0) (j := t.length) hN w8 b8' (by omega) (by omega) (by omega) (by omega) (by omega) (by rw [lnt]; simp; omega)
  rw [e11, bnd_some]
  have r11 := r8.fr f11 (by simp only [List.mem_cons, List.not_mem_nil, or_false]; omega) (by simp only [List.mem_cons, List.not_mem_nil, or_false]; omega)
  have v11 := v8.fr f11 (by simp only [List.mem_cons, List.not_mem_nil, or_false]; omega) (by simp only [List.mem_cons, List.not_mem_nil, or_false]; omega)
  obtain ⟨c12, e12, w12, f12⟩ := f_cut0 v11
  rw [show nI 0 = (0 : Int32) from rfl, e12, bnd_some]
  have r12 := r11.fr f12 (by simp only [List.mem_cons, List.not_mem_nil, or_false]; omega) (by simp only [List.mem_cons, List.not_mem_nil, or_false]; omega)
  have t12 := w11.fr f12 (by simp only [List.mem_cons, List.not_mem_nil, or_false]; omega) (by simp only [List.mem_cons, List.not_mem_nil, or_false]; omega)
  obtain ⟨c13, e13, w13, f13⟩ := f_addPart (b := m + 3) (f := r) (i := i0) (j := j0) hN w12 r12 (by omega) (by omega) (by omega) hij hj (by rw [lnb]; simp; omega)
  rw [e13, bnd_some, show j_b (bI d) = true by cases d <;> rfl, cond_true]
  have t13 := t12.fr f13 (by simp only [List.mem_cons, List.not_mem_nil, or_false]; omega) (by simp only [List.mem_cons, List.not_mem_nil, or_false]; omega)
  have f14 : fr [m] c13 (sI c13 m 2 (bI d)) := fr.sI (by simp)
  have t14 := t13.fr f14 (by simp only [List.mem_cons, List.not_mem_nil, or_false]; omega) (by simp only [List.mem_cons, List.not_mem_nil, or_false]; omega)
  have v14 := w13.fr f14 (by simp only [List.mem_cons, List.not_mem_nil, or_false]; omega) (by simp only [List.mem_cons, List.not_mem_nil, or_false]; omega)
  -- all that changed
  have big : ∀ {S : List Nat} {a b : hS}, fr S a b → (∀ o, o ∈ S → o = s ∨ (m ≤ o ∧ o < m + 5)) → fr ([s] ++ List.range' m 5) a b := fun hf hS => hf.mono (fun o ho => by
    rw [List.mem_append, List.mem_range'_1]
    rcases hS o ho with q | q
    · exact Or.inl (by simp [q])
    · exact Or.inr q)
  have fall : fr ([s] ++ List.range' m 5) c (sI c13 m 2 (bI d)) := ((((((big c4f (fun o ho => by simp only [List.mem_cons, List.not_mem_nil, or_false] at ho; omega)).tr (big f8 (fun o ho => by simp only [List.mem_cons, List.not_mem_nil, or_false] at ho; omega))).tr (big f11 (fun o ho => by simp only [List.mem_cons, List.not_mem_nil, or_false] at ho; omega))).tr (big f12 (fun o ho => by simp only [List.mem_cons, List.not_mem_nil, or_false] at ho; omega))).tr (big f13 (fun o ho => by simp only [List.mem_cons, List.not_mem_nil, or_false] at ho; omega))).tr (big f14 (fun o ho => by simp only [List.mem_cons, List.not_mem_nil, or_false] at ho; omega)))
  refine ⟨_, rfl, ⟨by simp; omega, ?_, fun i hi => ?_, fun i j hi hj e => ?_, fun i hi => ?_⟩, fall.mono (fun o ho => ?_)⟩
  · have e1 : (sI c13 m 2 (bI d)).1 s 1 = c4.1 s 1 := by
      rw [f14.i (by simp only [List.mem_cons, List.not_mem_nil, or_false]; omega), f13.i (by simp only [List.mem_cons, List.not_mem_nil, or_false]; omega), f12.i (by simp only [List.mem_cons, List.not_mem_nil, or_false]; omega), f11.i (by simp only [List.mem_cons, List.not_mem_nil, or_false]; omega), f8.i (by simp only [List.mem_cons, List.not_mem_nil, or_false]; omega)]
    rw [e1, ← hc4, sI_s]
    simp
  · rw [fall.r (by rw [List.mem_append, List.mem_range'_1]; simp; omega)]
    exact h.2.2.1 i hi
  · rw [fall.r (by rw [List.mem_append, List.mem_range'_1]; simp; omega), fall.r (by rw [List.mem_append, List.mem_range'_1]; simp; omega)] at e
    exact h.2.2.2.1 i j hi hj e
  · rw [fall.r (by rw [List.mem_append, List.mem_range'_1]; simp; omega)]
    by_cases e : i = ms.length
    · subst e
      rw [hm]
      refine ⟨(t, (g.drop i0).take (j0 - i0), d), ⟨?_, ?_, ?_⟩, fun _ => by simp⟩
      · simpa using t14
      · simpa using v14
      · exact sI_s _ _ _ _
    · obtain ⟨k', hk', ek'⟩ := h.2.2.1 i hi
      have hne : c.2.2 (s + 1) i ≠ m := fun q => e (h.2.2.2.1 i ms.length hi hms (by rw [q, hm]))
      obtain ⟨y, y1, y2⟩ := h.2.2.2.2 i hi
      refine ⟨y, y1.fr fall ?_ ?_ ?_ ?_ ?_, fun hi2 => ?_⟩
      · rw [ek', List.mem_append, List.mem_range'_1]; simp; omega
      · rw [ek', List.mem_append, List.mem_range'_1]; simp; omega
      · rw [ek', List.mem_append, List.mem_range'_1]; simp; omega
      · rw [ek', List.mem_append, List.mem_range'_1]; simp; omega
      · rw [ek', List.mem_append, List.mem_range'_1]; simp; omega
      · have : i < ms.length := by simp at hi2; omega
        rw [List.getElem_append_left this]
        exact y2 this
  · rw [List.mem_append, List.mem_range'_1] at ho
    rw [shR_mem]
    rcases ho with q | q
    · simp at q; omega
    · omega
