/-! PURE: rows that are full; a member comes -/
theorem f_addSat {c : hS} {b : Nat} {l : List Nat} (x : Int32) (h : row c b l) : ∃ c', f_X2_add c b x = some ((), c') ∧ row c' b ((l ++ [b8 x]).take (ln (b + 1))) ∧ fr [b, b + 1] c c' := by
  by_cases e : l.length < ln (b + 1)
  · obtain ⟨c', e1, e2, e3⟩ := f_add x h e
    refine ⟨c', e1, ?_, e3⟩
    rw [List.take_of_length_le (by simp; omega)]
    exact e2
  · have h1 := h.1
    have h2 := ln_lt (b + 1)
    refine ⟨c, ?_, ?_, fr.rf⟩
    · unfold f_X2_add
      rw [h.2.1, if_neg (nI_pos h.lt), ofNat_nI, if_pos (nI_le (by omega) h.lt)]
    · rw [List.take_append_of_le_length (by omega), List.take_of_length_le (by omega)]
      exact h
theorem take_app {l : List Nat} {n : Nat} (a r : List Nat) (h : l = a.take n) : (l ++ r).take n = (a ++ r).take n := by
  subst h
  by_cases e : a.length ≤ n
  · rw [List.take_of_length_le e]
  · rw [List.take_append_of_le_length (l₁ := a.take n) (by rw [List.length_take]; omega), List.take_append_of_le_length (l₁ := a) (by omega), List.take_take, Nat.min_self]
theorem app_loopS {F : Nat → hS → Int32 → Option (Unit × hS)} {b j : Nat} {val : Nat → Int32} (I : hS → Prop) (hI : ∀ c c', I c → fr [b, b + 1] c c' → I c')
    (hs : ∀ n c k, k < j → I c → F (n + 1) c (nI k) = bnd (f_X2_add c b (val k)) fun _ c1 => F n c1 (nI k + 1)) (h0 : ∀ n c, I c → F (n + 1) c (nI j) = some ((), c)) :
    ∀ d n c k l, k + d = j → d < n → I c → row c b l → ∃ c', F n c (nI k) = some ((), c') ∧ row c' b ((l ++ (List.range' k d).map fun i => b8 (val i)).take (ln (b + 1))) ∧ fr [b, b + 1] c c' := by
  intro d
  induction d with
  | zero =>
    intro n c k l hk hn hi hr
    obtain ⟨n, rfl⟩ : ∃ m, n = m + 1 := ⟨n - 1, by omega⟩
    have : k = j := by omega
    subst this
    refine ⟨c, h0 n c hi, ?_, fr.rf⟩
    rw [List.take_of_length_le (by simpa using hr.1)]
    simpa using hr
  | succ d ih =>
    intro n c k l hk hn hi hr
    obtain ⟨n, rfl⟩ : ∃ m, n = m + 1 := ⟨n - 1, by omega⟩
    obtain ⟨c1, e1, r1, f1⟩ := f_addSat (val k) hr
    obtain ⟨c2, e2, r2, f2⟩ := ih n c1 (k + 1) _ (by omega) (by omega) (hI c c1 hi f1) r1
    refine ⟨c2, ?_, ?_, f1.tr f2⟩
    · rw [hs n c k (by omega) hi, e1, bnd_some, nI_1]
      exact e2
    · rw [take_app (l ++ [b8 (val k)]) _ rfl] at r2
      rw [List.range'_succ]
      simpa using r2
theorem f_addRowS {N : Nat} {c : hS} {b f i j : Nat} {l g : List Nat} (hN : 1000000 ≤ N) (hr : row c b l) (hg : row c f g) (hfb : f ≠ b) (hf1 : f ≠ b + 1) (hf2 : f + 1 ≠ b) (hij : i ≤ j) (hj : j - i < 1000000) (hj2 : j < 2 ^ 31) :
    ∃ c', f_X2_addRow N c b f (nI i) (nI j) = some ((), c') ∧ row c' b ((l ++ (List.range' i (j - i)).map (gt g)).take (ln (b + 1))) ∧ fr [b, b + 1] c c' := by
  obtain ⟨c', e, r, q⟩ := app_loopS (F := f_X2_addRow_3 N b f (nI i) (nI j)) (j := j) (val := fun k => nI (gt g k)) (fun c => row c f g) (fun c c' h q => h.fr q (by simp; omega) (by simp; omega)) (fun n c k hk hi => by rw [f_X2_addRow_3, if_neg (nI_ge hk hj2), f_get hi (by omega), bnd_some]) (fun n c _ => by rw [f_X2_addRow_3, if_pos (nI_le (Nat.le_refl _) hj2)]) (j - i) N c i l (by omega) (by omega) hg hr
  refine ⟨c', e, ?_, q⟩
  have : (List.range' i (j - i)).map (fun k => b8 (nI (gt g k))) = (List.range' i (j - i)).map (gt g) := List.map_congr_left (fun k _ => b8_nI' (hg.2.2.2.gt k))
  rwa [this] at r
/-- the members when one comes -/
noncomputable def comeM (ms : List Mb) (x : Mb) : List Mb := ms.eraseP (fun y => decide (y.1 = x.1)) ++ [x]
theorem fnI_er {t : List Nat} : ∀ {ms : List Mb} {i : Nat}, (fnI t ms i = -1 ∧ ms.eraseP (fun y => decide (y.1 = t)) = ms) ∨ ∃ k, k < ms.length ∧ fnI t ms i = nI (i + k) ∧ ms.eraseP (fun y => decide (y.1 = t)) = ms.eraseIdx k
  | [], i => Or.inl ⟨rfl, rfl⟩
  | x :: r, i => by
    unfold fnI
    by_cases e : x.1 = t
    · rw [if_pos e]
      refine Or.inr ⟨0, by simp, rfl, ?_⟩
      rw [List.eraseP_cons_of_pos (by simpa using e)]
      rfl
    · rw [if_neg e, List.eraseP_cons_of_neg (by simpa using e)]
      rcases fnI_er (t := t) (ms := r) (i := i + 1) with ⟨h1, h2⟩ | ⟨k, h1, h2, h3⟩
      · exact Or.inl ⟨h1, by rw [h2]⟩
      · exact Or.inr ⟨k + 1, by simp; omega, by rw [h2]; congr 1; omega, by rw [h3]; rfl⟩
theorem f_take {N : Nat} {c : hS} {s b r i j : Nat} {ms : List Mb} {t g : List Nat} {d : Bool} (hN : 1000000 ≤ N) (h : shf c s ms) (hs : s = 37 ∨ s = 119) (hb : row c b t) (hr : row c r g) (hb0 : b + 1 < s) (hr0 : r + 1 < s) (ht : t.length ≤ 90) (hij : i ≤ j) (hj : j ≤ g.length) (hji : j - i ≤ 400) (hms : ms.length < 16 ∨ ∃ x ∈ ms, x.1 = t) :
    ∃ c', f_X9_take N c s b (bI d) r (nI i) (nI j) = some ((), c') ∧ shf c' s (comeM ms (t, (g.drop i).take (j - i), d)) ∧ fr (shR s) c c' := by
  unfold f_X9_take
  rw [f_find hN h hs hb, bnd_some]
  unfold comeM
  rcases fnI_er (t := t) (ms := ms) (i := 0) with ⟨h1, h2⟩ | ⟨k, h1, h2, h3⟩
  · have hlt : ms.length < 16 := by
      rcases hms with q | ⟨x, hx, ex⟩
      · exact q
      · exfalso
        rcases fnI_at (t := t) (ms := ms) (i := 0) with ⟨_, q⟩ | ⟨k, q1, q2, _⟩
        · exact q x hx ex
        · have := h.1
          have z := nI_pos (n := 0 + k) (by omega)
          rw [← q2, h1] at z
          exact z (by decide)
    rw [h1, show f_X9_drop N c s (-1) = some ((), c) by unfold f_X9_drop; rw [f_member_neg (by decide), bnd_some]; rfl, bnd_some, h2]
    exact f_takeEnd hN h hs hb hr hb0 hr0 ht hij hj hji hlt
  · rw [h2, Nat.zero_add, f_drop hN h hs h1, bnd_some, h3]
    have hf := dropC_fr c (k := k) (n := ms.length) hs
    have hd := shf_drop h hs h1
    have hl : (ms.eraseIdx k).length = ms.length - 1 := List.length_eraseIdx_of_lt h1
    have := h.1
    obtain ⟨c', e1, e2, e3⟩ := f_takeEnd (d := d) hN hd hs (hb.fr hf (by simp only [List.mem_cons, List.not_mem_nil, or_false]; omega) (by simp only [List.mem_cons, List.not_mem_nil, or_false]; omega)) (hr.fr hf (by simp only [List.mem_cons, List.not_mem_nil, or_false]; omega) (by simp only [List.mem_cons, List.not_mem_nil, or_false]; omega)) hb0 hr0 ht hij hj hji (by omega)
    exact ⟨c', e1, e2, (hf.mono (fun o ho => by
      simp only [List.mem_cons, List.not_mem_nil, or_false] at ho
      rw [shR_mem]; omega)).tr e3⟩
