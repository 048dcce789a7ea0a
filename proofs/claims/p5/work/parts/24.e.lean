/-! PURE: the class's shelf -/
noncomputable abbrev Mb : Type := List Nat × List Nat × Bool
noncomputable def mbr (c : hS) (m : Nat) (x : Mb) : Prop := row c (m + 1) x.1 ∧ row c (m + 3) x.2.1 ∧ c.1 m 2 = bI x.2.2
theorem mbr.fr {S : List Nat} {c c1 : hS} {m : Nat} {x : Mb} (h : mbr c m x) (hf : fr S c c1) (h0 : m ∉ S) (h1 : m + 1 ∉ S) (h2 : m + 2 ∉ S) (h3 : m + 3 ∉ S) (h4 : m + 4 ∉ S) : mbr c1 m x := ⟨h.1.fr hf h1 h2, h.2.1.fr hf h3 h4, (hf.i h0 2).trans h.2.2⟩
/-- the shelf s has these members -/
noncomputable def shf (c : hS) (s : Nat) (ms : List Mb) : Prop := ms.length ≤ 16 ∧ c.1 s 1 = nI ms.length ∧ (∀ i, i < 16 → ∃ k, k < 16 ∧ c.2.2 (s + 1) i = s + 2 + 5 * k) ∧ (∀ i j, i < 16 → j < 16 → c.2.2 (s + 1) i = c.2.2 (s + 1) j → i = j) ∧ (∀ i, i < 16 → ∃ x, mbr c (c.2.2 (s + 1) i) x ∧ ∀ h : i < ms.length, x = ms[i])
theorem shf.kc6 {c : hS} {s : Nat} {ms : List Mb} (h : shf c s ms) (hs : s = 37 ∨ s = 119) {i : Nat} (hi : i < 16) : kc (c.2.2 (s + 1) i) = 6 := by
  obtain ⟨k, hk, e⟩ := h.2.2.1 i hi
  rw [e]
  rcases hs with rfl | rfl
  · exact (by decide +kernel : ∀ k, k < 16 → kc (37 + 2 + 5 * k) = 6) k hk
  · exact (by decide +kernel : ∀ k, k < 16 → kc (119 + 2 + 5 * k) = 6) k hk
theorem shf.mb {c : hS} {s : Nat} {ms : List Mb} (h : shf c s ms) {i : Nat} (hi : i < ms.length) : mbr c (c.2.2 (s + 1) i) ms[i] := by
  obtain ⟨x, h1, h2⟩ := h.2.2.2.2 i (Nat.lt_of_lt_of_le hi h.1)
  rw [← h2 hi]
  exact h1
theorem ln_sh {s : Nat} (hs : s = 37 ∨ s = 119) : ln (s + 1) = 16 := by rcases hs with rfl | rfl <;> rfl
theorem beq6 {k : Nat} (h : kc k = 6) : Nat.beq (kc k) 6 = true := by rw [h]; rfl
theorem f_member {c : hS} {s i : Nat} {ms : List Mb} (h : shf c s ms) (hs : s = 37 ∨ s = 119) (hi : i < ms.length) : f_X9_member c s (nI i) = some (some (c.2.2 (s + 1) i), c) := by
  have h1 := h.1
  unfold f_X9_member
  rw [if_neg (nI_pos (by omega)), h.2.1, if_neg (nI_ge hi (by omega)), ofNat_nI, ln_sh hs, if_neg (nI_ge (show i < 16 by omega) (by decide)), j_in_nI (by omega) (by decide), cond_true, nI_clamp (by omega), beq6 (h.kc6 hs (by omega)), cond_true]
theorem f_member_no {c : hS} {s i : Nat} {ms : List Mb} (h : shf c s ms) (hi : ms.length ≤ i) (hi2 : i < 2 ^ 31) : f_X9_member c s (nI i) = some (none, c) := by
  unfold f_X9_member
  rw [if_neg (nI_pos hi2), h.2.1, if_pos (nI_le hi hi2)]
theorem f_member_neg {c : hS} {s : Nat} {x : Int32} (h : x < 0) : f_X9_member c s x = some (none, c) := by
  unfold f_X9_member
  rw [if_pos h]
/-- where the name stands, from place i on -/
noncomputable def fnI (t : List Nat) : List Mb → Nat → Int32
  | [], _ => -1
  | x :: r, i => if x.1 = t then nI i else fnI t r (i + 1)
theorem eq_pfx {a o : List Nat} (h : a.length = o.length) : pfx o a = decide (a = o) := by
  unfold pfx
  rw [← h, List.take_length]
theorem f_find {N : Nat} {c : hS} {s b : Nat} {ms : List Mb} {t : List Nat} (hN : 1000000 ≤ N) (h : shf c s ms) (hs : s = 37 ∨ s = 119) (hb : row c b t) : f_X9_find N c s b = some (fnI t ms 0, c) := by
  have h1 := h.1
  have key : ∀ d n i, i + d = ms.length → d < n → f_X9_find_2 N s b n c (nI i) = some (fnI t (ms.drop i) i, c) := by
    intro d
    induction d with
    | zero =>
      intro n i hi hn
      obtain ⟨n, rfl⟩ : ∃ m, n = m + 1 := ⟨n - 1, by omega⟩
      rw [f_X9_find_2, h.2.1, if_pos (nI_le (by omega) (by omega)), List.drop_eq_nil_of_le (by omega)]
      rfl
    | succ d ih =>
      intro n i hi hn
      obtain ⟨n, rfl⟩ : ∃ m, n = m + 1 := ⟨n - 1, by omega⟩
      have hil : i < ms.length := by omega
      have hm := h.mb hil
      rw [f_X9_find_2, h.2.1, if_neg (nI_ge hil (by omega)), f_member h hs hil, bnd_some]
      dsimp only [opt]
      rw [beq6 (h.kc6 hs (by omega)), cond_true, f_size hm.1, bnd_some, f_size hb, bnd_some, List.drop_eq_getElem_cons hil]
      unfold fnI
      by_cases e : ms[i].1.length = t.length
      · rw [if_pos (by rw [e]), f_beginsWith hN hm.1 hb, bnd_some, eq_pfx e]
        by_cases e2 : ms[i].1 = t
        · rw [decide_eq_true e2, if_pos e2, if_neg (by decide)]
        · rw [decide_eq_false e2, if_neg e2, if_pos (show bI false = 0 from rfl), nI_1]
          exact ih n (i + 1) (by omega) (by omega)
      · have l1 := hm.1.lt
        have l2 := hb.lt
        rw [if_neg (fun q => e ((nI_eq l1 l2).mp q)), if_neg (fun q => e (by rw [q])), nI_1]
        exact ih n (i + 1) (by omega) (by omega)
  unfold f_X9_find
  rw [show (0 : Int32) = nI 0 from rfl, key ms.length N 0 (by omega) (by omega), List.drop_zero]
theorem fnI_at {t : List Nat} : ∀ {ms : List Mb} {i : Nat}, (fnI t ms i = -1 ∧ ∀ x ∈ ms, x.1 ≠ t) ∨ ∃ k, k < ms.length ∧ fnI t ms i = nI (i + k) ∧ (∀ h : k < ms.length, ms[k].1 = t)
  | [], i => Or.inl ⟨rfl, fun x hx => by cases hx⟩
  | x :: r, i => by
    unfold fnI
    by_cases e : x.1 = t
    · rw [if_pos e]
      exact Or.inr ⟨0, by simp, rfl, fun _ => e⟩
    · rw [if_neg e]
      rcases fnI_at (t := t) (ms := r) (i := i + 1) with ⟨h1, h2⟩ | ⟨k, h1, h2, h3⟩
      · exact Or.inl ⟨h1, fun y hy => by
          rcases List.mem_cons.mp hy with q | q
          · rw [q]; exact e
          · exact h2 y q⟩
      · refine Or.inr ⟨k + 1, by simp; omega, by rw [h2]; congr 1; omega, fun h => ?_⟩
        simpa using h3 h1
/-- lies under, or the other one is the root -/
noncomputable def lu (a o : List Nat) : Bool := decide (o.length = 0) || und a o
theorem f_hasUnder {N : Nat} {c : hS} {s b : Nat} {ms : List Mb} {t : List Nat} (hN : 1000000 ≤ N) (h : shf c s ms) (hs : s = 37 ∨ s = 119) (hb : row c b t) : f_X9_hasUnder N c s b = some (bI (ms.any fun x => lu x.1 t), c) := by
  have h1 := h.1
  have key : ∀ d n i, i + d = ms.length → d < n → f_X9_hasUnder_2 N s b n c (nI i) = some (bI ((ms.drop i).any fun x => lu x.1 t), c) := by
    intro d
    induction d with
    | zero =>
      intro n i hi hn
      obtain ⟨n, rfl⟩ : ∃ m, n = m + 1 := ⟨n - 1, by omega⟩
      rw [f_X9_hasUnder_2, h.2.1, if_pos (nI_le (by omega) (by omega)), List.drop_eq_nil_of_le (by omega)]
      rfl
    | succ d ih =>
      intro n i hi hn
      obtain ⟨n, rfl⟩ : ∃ m, n = m + 1 := ⟨n - 1, by omega⟩
      have hil : i < ms.length := by omega
      have hm := h.mb hil
      rw [f_X9_hasUnder_2, h.2.1, if_neg (nI_ge hil (by omega)), f_member h hs hil, bnd_some]
      dsimp only [opt]
      rw [beq6 (h.kc6 hs (by omega)), cond_true, f_liesUnder hN hm.1 hb, bnd_some, List.drop_eq_getElem_cons hil, List.any_cons, nI_1]
      unfold lu
      cases (decide (t.length = 0) || und ms[i].1 t) with
      | false => rw [if_pos (show bI false = 0 from rfl), Bool.false_or]; exact ih n (i + 1) (by omega) (by omega)
      | true => rw [if_neg (by decide)]; rfl
  unfold f_X9_hasUnder
  rw [show (0 : Int32) = nI 0 from rfl, key ms.length N 0 (by omega) (by omega), List.drop_zero]
/-- the member stands in the way of the name -/
noncomputable def wayB (t : List Nat) (d : Bool) (x : Mb) : Bool := (!d && lu x.1 t) || (!x.2.2 && lu t x.1)
theorem f_isInTheWay {N : Nat} {c : hS} {s b : Nat} {ms : List Mb} {t : List Nat} {d : Bool} (hN : 1000000 ≤ N) (h : shf c s ms) (hs : s = 37 ∨ s = 119) (hb : row c b t) : f_X9_isInTheWay N c s b (bI d) = some (bI (ms.any (wayB t d)), c) := by
  have h1 := h.1
  have key : ∀ e n i, i + e = ms.length → e < n → f_X9_isInTheWay_2 N s b (bI d) n c (nI i) = some (bI ((ms.drop i).any (wayB t d)), c) := by
    intro e
    induction e with
    | zero =>
      intro n i hi hn
      obtain ⟨n, rfl⟩ : ∃ m, n = m + 1 := ⟨n - 1, by omega⟩
      rw [f_X9_isInTheWay_2, h.2.1, if_pos (nI_le (by omega) (by omega)), List.drop_eq_nil_of_le (by omega)]
      rfl
    | succ e ih =>
      intro n i hi hn
      obtain ⟨n, rfl⟩ : ∃ m, n = m + 1 := ⟨n - 1, by omega⟩
      have hil : i < ms.length := by omega
      have hm := h.mb hil
      have rest : ∀ {b2 : Bool}, b2 = (!ms[i].2.2 && lu t ms[i].1) → f_X9_isInTheWay_43 N s b (bI d) (f_X9_isInTheWay_2 N s b (bI d) n) c (nI i) (c.2.2 (s + 1) i) = some (bI (b2 || (ms.drop (i + 1)).any (wayB t d)), c) := by
        intro b2 hb2
        unfold f_X9_isInTheWay_43
        rw [hm.2.2, nI_1]
        cases hd : ms[i].2.2 with
        | true =>
          rw [if_neg (by decide), ih n (i + 1) (by omega) (by omega)]
          rw [hd] at hb2
          subst hb2
          rfl
        | false =>
          rw [if_pos (show bI false = 0 from rfl), f_liesUnder hN hb hm.1, bnd_some]
          rw [hd] at hb2
          have : b2 = (decide (ms[i].1.length = 0) || und t ms[i].1) := hb2
          rw [← this]
          cases b2 with
          | true => rw [if_neg (by decide)]; rfl
          | false => rw [if_pos (show bI false = 0 from rfl), Bool.false_or]; exact ih n (i + 1) (by omega) (by omega)
      rw [f_X9_isInTheWay_2, h.2.1, if_neg (nI_ge hil (by omega)), f_member h hs hil, bnd_some]
      dsimp only [opt]
      rw [beq6 (h.kc6 hs (by omega)), cond_true, List.drop_eq_getElem_cons hil, List.any_cons]
      unfold wayB
      cases d with
      | true => rw [if_neg (by decide), rest rfl]; rfl
      | false =>
        rw [if_pos (show bI false = 0 from rfl), f_liesUnder hN hm.1 hb, bnd_some]
        unfold lu
        cases (decide (t.length = 0) || und ms[i].1 t) with
        | true => rw [if_neg (by decide)]; rfl
        | false => rw [if_pos (show bI false = 0 from rfl), rest rfl]; rfl
  unfold f_X9_isInTheWay
  rw [show (0 : Int32) = nI 0 from rfl, key ms.length N 0 (by omega) (by omega), List.drop_zero]
theorem f_hasRoomFor {N : Nat} {c : hS} {s b : Nat} {ms : List Mb} {t : List Nat} (hN : 1000000 ≤ N) (h : shf c s ms) (hs : s = 37 ∨ s = 119) (hb : row c b t) : f_X9_hasRoomFor N c s b = some (bI (decide (ms.length < 16) || ms.any fun x => decide (x.1 = t)), c) := by
  have h1 := h.1
  unfold f_X9_hasRoomFor
  rw [h.2.1]
  by_cases e : ms.length < 16
  · rw [if_pos (show nI ms.length < 16 from nI_lt (b := 16) e (by decide)), decide_eq_true e]
    rfl
  · rw [if_neg (show ¬ nI ms.length < 16 from nI_nlt (b := 16) (by omega) (by omega)), f_find hN h hs hb, bnd_some, decide_eq_false e, Bool.false_or]
    rcases fnI_at (t := t) (ms := ms) (i := 0) with ⟨q1, q2⟩ | ⟨k, q1, q2, q3⟩
    · rw [q1, if_pos rfl]
      have : (ms.any fun x => decide (x.1 = t)) = false := by
        rw [List.any_eq_false]
        intro x hx
        simpa using q2 x hx
      rw [this]
      rfl
    · rw [q2, if_neg (show ¬ nI (0 + k) = -1 from fun q => by
        have := nI_pos (n := 0 + k) (by omega)
        rw [q] at this
        exact this (by decide))]
      have : (ms.any fun x => decide (x.1 = t)) = true := by
        rw [List.any_eq_true]
        exact ⟨ms[k], List.getElem_mem q1, by simpa using q3 q1⟩
      rw [this]
      rfl
