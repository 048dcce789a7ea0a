/-! PURE: comparing rows, names, checks -/
noncomputable def bI (b : Bool) : Int32 := bif b then 1 else 0
theorem bI_ne {b : Bool} : (bI b = 0) ↔ b = false := by cases b <;> decide
theorem fr_nil {c c' : hS} (h : fr [] c c') : c' = c := by
  obtain ⟨a, b, d⟩ := c
  obtain ⟨a', b', d'⟩ := c'
  have h1 : a' = a := by funext o j; exact (h.1 o (by simp)).1 j
  have h2 : b' = b := by funext o j; exact (h.1 o (by simp)).2.1 j
  have h3 : d' = d := by funext o j; exact (h.1 o (by simp)).2.2 j
  rw [h1, h2, h3]
/-- a loop that tests one place a turn -/
theorem all_loop {F : Nat → hS → Int32 → Option (Int32 × hS)} {c : hS} {j : Nat} {P : Nat → Bool} {S : List Nat} (hs : ∀ n k, k < j → (P k = true → F (n + 1) c (nI k) = F n c (nI k + 1)) ∧ (P k = false → ∃ c', F (n + 1) c (nI k) = some (0, c') ∧ fr S c c')) (h0 : ∀ n, F (n + 1) c (nI j) = some (1, c)) :
    ∀ d n k, k + d = j → d < n → ∃ c', F n c (nI k) = some (bI ((List.range' k d).all P), c') ∧ fr S c c' ∧ ((List.range' k d).all P = true → c' = c) := by
  intro d
  induction d with
  | zero =>
    intro n k hk hn
    cases n with
    | zero => exact absurd hn (Nat.not_lt_zero 0)
    | succ n =>
      have : k = j := by omega
      subst this
      exact ⟨c, h0 n, fr.rf, fun _ => rfl⟩
  | succ d ih =>
    intro n k hk hn
    cases n with
    | zero => exact absurd hn (by omega)
    | succ n =>
      rw [List.range'_succ, List.all_cons]
      cases hP : P k with
      | true =>
        rw [(hs n k (by omega)).1 hP, nI_1, Bool.true_and]
        exact ih n (k + 1) (by omega) (by omega)
      | false =>
        obtain ⟨c', e, q⟩ := (hs n k (by omega)).2 hP
        rw [Bool.false_and]
        exact ⟨c', e, q, fun h => by cases h⟩
theorem all_loop0 {F : Nat → hS → Int32 → Option (Int32 × hS)} {c : hS} {j : Nat} {P : Nat → Bool} (hs : ∀ n k, k < j → F (n + 1) c (nI k) = if P k = true then F n c (nI k + 1) else some (0, c)) (h0 : ∀ n, F (n + 1) c (nI j) = some (1, c)) {d n k : Nat} (hk : k + d = j) (hd : d < n) : F n c (nI k) = some (bI ((List.range' k d).all P), c) := by
  obtain ⟨c', e, q, -⟩ := all_loop (S := []) (P := P) (fun n k h => ⟨fun hp => by rw [hs n k h, if_pos hp], fun hp => ⟨c, by rw [hs n k h, if_neg (by simp [hp])], fr.rf⟩⟩) h0 d n k hk hd
  rw [e, fr_nil q]
theorem nI_iff {a b : Nat} (ha : a < 2 ^ 31) (hb : b < 2 ^ 31) : (nI a = nI b) = (a = b) := propext (nI_eq ha hb)
/-! numbers of two and four bytes -/
noncomputable def le2 (t : List Nat) (p : Nat) : Nat := gt t p + 256 * gt t (p + 1)
noncomputable def le4 (t : List Nat) (p : Nat) : Nat := le2 t p + 65536 * le2 t (p + 2)
theorem le2_lt {t : List Nat} (h : byt t) (p : Nat) : le2 t p < 65536 := by
  have h1 := h.gt p
  have h2 := h.gt (p + 1)
  unfold le2; omega
theorem le4_lt {t : List Nat} (h : byt t) (p : Nat) : le4 t p < 2 ^ 32 := by
  have h1 := le2_lt h p
  have h2 := le2_lt h (p + 2)
  unfold le4; omega
theorem lit_step {a b : Nat} (ha : a < 2 ^ 48) (hb : b < 256) : (j_lshl (lN a) 8) ||| (nI b).toInt64 = lN (a * 256 + b) := by
  rw [show (8 : Int32) = nI 8 from rfl, lshl_lN a (by decide), nI_l (by omega), wb_or (by omega) (by omega), show a * 2 ^ 8 = a * 2 ^ 8 from rfl, or_add (k := 8) (by omega)]
theorem f_lit_step {N n : Nat} {c : hS} {b p v a : Nat} {l : List Nat} {m : Int32} (h : row c b l) (hp : p + v < 2 ^ 31) (ha : a < 2 ^ 48) : f_X2_little_7 N b (nI p) m (n + 1) c (lN a) (nI v) = f_X2_little_7 N b (nI p) m n c (lN (a * 256 + gt l (p + v))) (nI v + (-1)) := by
  rw [f_X2_little_7, if_neg (nI_pos (by omega)), nI_add, f_get h hp, bnd_some, lit_step ha (h.2.2.2.gt _)]
theorem f_lit_end {N n : Nat} {c : hS} {b : Nat} {p m : Int32} {a : Int64} : f_X2_little_7 N b p m (n + 1) c a (-1) = some (a, c) := by
  rw [f_X2_little_7, if_pos (by decide)]
theorem f_little2 {N : Nat} {c : hS} {b p : Nat} {l : List Nat} (hN : 1000000 ≤ N) (h : row c b l) (hp : p < 2 ^ 30) : f_X2_little N c b (nI p) 2 = some (lN (le2 l p), c) := by
  unfold f_X2_little
  have b0 := h.2.2.2.gt p
  have b1 := h.2.2.2.gt (p + 1)
  obtain ⟨n, hn⟩ : ∃ n, N = n + 3 := ⟨N - 3, by omega⟩
  have e : ∀ n, f_X2_little_7 N b (nI p) 2 (n + 3) c 0 (2 - 1) = some (lN (le2 l p), c) := by
    intro n
    rw [show (0 : Int64) = lN 0 from rfl, show (2 : Int32) - 1 = nI 1 from rfl, f_lit_step h (by omega) (by decide), show nI 1 + (-1) = nI 0 from rfl, f_lit_step h (by omega) (by omega), show nI 0 + (-1) = -1 from rfl, f_lit_end]
    unfold le2
    congr 3
    simp only [Nat.add_zero]
    omega
  rw [show f_X2_little_7 N b (nI p) 2 N c 0 (2 - 1) = f_X2_little_7 N b (nI p) 2 (n + 3) c 0 (2 - 1) by rw [← hn]]
  exact e n
theorem f_little4 {N : Nat} {c : hS} {b p : Nat} {l : List Nat} (hN : 1000000 ≤ N) (h : row c b l) (hp : p < 2 ^ 30) : f_X2_little N c b (nI p) 4 = some (lN (le4 l p), c) := by
  unfold f_X2_little
  have b0 := h.2.2.2.gt p
  have b1 := h.2.2.2.gt (p + 1)
  have b2 := h.2.2.2.gt (p + 2)
  have b3 := h.2.2.2.gt (p + 3)
  obtain ⟨n, hn⟩ : ∃ n, N = n + 5 := ⟨N - 5, by omega⟩
  have e : ∀ n, f_X2_little_7 N b (nI p) 4 (n + 5) c 0 (4 - 1) = some (lN (le4 l p), c) := by
    intro n
    rw [show (0 : Int64) = lN 0 from rfl, show (4 : Int32) - 1 = nI 3 from rfl, f_lit_step h (by omega) (by decide), show nI 3 + (-1) = nI 2 from rfl, f_lit_step h (by omega) (by omega), show nI 2 + (-1) = nI 1 from rfl, f_lit_step h (by omega) (by omega), show nI 1 + (-1) = nI 0 from rfl, f_lit_step h (by omega) (by omega), show nI 0 + (-1) = -1 from rfl, f_lit_end]
    unfold le4 le2
    congr 3
    simp only [Nat.add_zero, show p + 2 + 1 = p + 3 from rfl]
    omega
  rw [show f_X2_little_7 N b (nI p) 4 N c 0 (4 - 1) = f_X2_little_7 N b (nI p) 4 (n + 5) c 0 (4 - 1) by rw [← hn]]
  exact e n
/-! one row at the head of another -/
noncomputable def pfx (o a : List Nat) : Bool := decide (a.take o.length = o)
theorem pfx_iff {o a : List Nat} : pfx o a = true ↔ o.length ≤ a.length ∧ ∀ i, i < o.length → gt a i = gt o i := by
  unfold pfx
  rw [decide_eq_true_eq]
  constructor
  · intro h
    have h1 : o.length ≤ a.length := by
      have := congrArg List.length h
      simp at this; omega
    refine ⟨h1, fun i hi => ?_⟩
    have := congrArg (fun z => gt z i) h
    rwa [gt_take hi] at this
  · rintro ⟨h1, h2⟩
    apply gt_ext
    · simp; omega
    · intro k hk
      have hk : k < o.length := by simp at hk; omega
      rw [gt_take hk, h2 k hk]
theorem all_range {d : Nat} {P : Nat → Bool} : (List.range' 0 d).all P = true ↔ ∀ i, i < d → P i = true := by
  simp [List.all_eq_true, List.mem_range']
theorem bool_eq {a b : Bool} (h : a = true ↔ b = true) : a = b := by
  cases a <;> cases b <;> simp_all
theorem f_beginsWith {N : Nat} {c : hS} {b o : Nat} {l g : List Nat} (hN : 1000000 ≤ N) (h : row c b l) (hg : row c o g) : f_X2_beginsWith N c b o = some (bI (pfx g l), c) := by
  have l1 := h.lt
  have l2 := hg.lt
  have l3 := hg.1
  have l4 := ln_le (o + 1)
  unfold f_X2_beginsWith
  rw [h.2.1, hg.2.1]
  by_cases e : g.length ≤ l.length
  · rw [if_pos (nI_le e l1)]
    have := all_loop0 (F := f_X2_beginsWith_15 N b o) (c := c) (j := g.length) (P := fun k => decide (gt l k = gt g k)) (fun n k hk => ?_) (fun n => ?_) (d := g.length) (n := N) (k := 0) (by omega) (by omega)
    · rw [show (0 : Int32) = nI 0 from rfl, this]
      congr 3
      apply bool_eq
      rw [all_range, pfx_iff]
      simp only [decide_eq_true_eq]
      exact ⟨fun q => ⟨e, q⟩, fun q => q.2⟩
    · rw [f_X2_beginsWith_15, hg.2.1, if_neg (nI_ge hk l2), f_get h (by omega), bnd_some, f_get hg (by omega), bnd_some]
      have e1 := h.2.2.2.gt k
      have e2 := hg.2.2.2.gt k
      simp only [nI_iff (show gt l k < 2 ^ 31 by omega) (show gt g k < 2 ^ 31 by omega), decide_eq_true_eq]
    · rw [f_X2_beginsWith_15, hg.2.1, if_pos (nI_le (Nat.le_refl _) l2)]
  · rw [if_neg (nI_ge (by omega) l2)]
    have : pfx g l = false := by
      cases hp : pfx g l with
      | false => rfl
      | true => exact absurd (pfx_iff.mp hp).1 e
    rw [this]
    rfl
/-- as a name: lies under the other one -/
noncomputable def und (a o : List Nat) : Bool := decide (o.length + 1 < a.length) && decide (gt a o.length = 47) && pfx o a
theorem f_liesUnder {N : Nat} {c : hS} {b o : Nat} {l g : List Nat} (hN : 1000000 ≤ N) (h : row c b l) (hg : row c o g) : f_X2_liesUnder N c b o = some (bI (decide (g.length = 0) || und l g), c) := by
  have l1 := h.lt
  have l2 := hg.lt
  have l3 := hg.1
  have l4 := ln_le (o + 1)
  unfold f_X2_liesUnder
  rw [h.2.1, hg.2.1]
  by_cases e : g.length = 0
  · rw [e, if_pos nI_0]; rfl
  · rw [if_neg (nI_ne0 (by omega) l2), nI_1, decide_eq_false e, Bool.false_or]
    unfold und
    by_cases e1 : g.length + 1 < l.length
    · rw [if_neg (nI_ge e1 l1), f_get h l2, bnd_some, decide_eq_true e1, Bool.true_and]
      have b1 := h.2.2.2.gt g.length
      by_cases e2 : gt l g.length = 47
      · rw [e2, if_pos (show nI 47 = 47 from rfl), f_beginsWith hN h hg, bnd_some]
        cases pfx g l <;> rfl
      · rw [if_neg (show ¬ nI (gt l g.length) = 47 from fun q => e2 ((nI_eq (by omega) (show 47 < 2 ^ 31 by decide)).mp q)), decide_eq_false e2]
        rfl
    · rw [if_pos (nI_le (by omega) (by omega)), decide_eq_false e1]
      rfl
theorem f_isText {N : Nat} {c : hS} {b : Nat} {l : List Nat} {t : List Int32} {g : List Nat} (hN : 1000000 ≤ N) (h : row c b l) (hg : t = g.map nI) (hb : byt g) (hl : g.length < 1000) : f_X2_isText N c b t = some (bI (decide (l = g)), c) := by
  have l1 := h.lt
  have tl : t.length = g.length := by rw [hg]; simp
  have tg : ∀ k, k < g.length → t.getD k 0 = nI (gt g k) := by
    intro k hk
    rw [hg, List.getD_eq_getElem?_getD, List.getElem?_eq_getElem (by simpa using hk), gt_lt hk]
    simp
  unfold f_X2_isText
  rw [h.2.1, ofNat_nI, tl]
  by_cases e : l.length = g.length
  · rw [if_pos (by rw [e])]
    have := all_loop0 (F := f_X2_isText_15 N b t) (c := c) (j := g.length) (P := fun k => decide (gt l k = gt g k)) (fun n k hk => ?_) (fun n => ?_) (d := g.length) (n := N) (k := 0) (by omega) (by omega)
    · rw [show (0 : Int32) = nI 0 from rfl, this]
      congr 3
      apply bool_eq
      rw [all_range]
      simp only [decide_eq_true_eq]
      exact ⟨fun q => gt_ext e (fun k hk => q k (by omega)), fun q i _ => by rw [q]⟩
    · rw [f_X2_isText_15, ofNat_nI, tl, if_neg (nI_ge hk (by omega)), f_get h (by omega), bnd_some, j_in_nI hk (by omega), cond_true, nI_clamp (by omega), tg k hk]
      have e1 := h.2.2.2.gt k
      have e2 := hb.gt k
      simp only [nI_iff (show gt l k < 2 ^ 31 by omega) (show gt g k < 2 ^ 31 by omega), decide_eq_true_eq]
    · rw [f_X2_isText_15, ofNat_nI, tl, if_pos (nI_le (Nat.le_refl _) (by omega))]
  · rw [if_neg (fun q => e ((nI_eq l1 (by omega)).mp q))]
    rw [decide_eq_false (fun q => e (by rw [q]))]
    rfl
/-! the check -/
noncomputable def crcS (v : Int32) : Int32 := if v &&& 1 = 1 then (j_ushr v 1) ^^^ (-306674912) else j_ushr v 1
noncomputable def crcN : Nat → Int32 → Int32
  | 0, v => v
  | n + 1, v => crcN n (crcS v)
noncomputable def crcL (v : Int32) (l : List Nat) : Int32 := l.foldl (fun v b => crcN 8 (v ^^^ nI b)) v
noncomputable def crc (l : List Nat) : Int32 := crcL (-1) l ^^^ (-1)
theorem f_check_in {N : Nat} {b : Nat} {k4 : hS → Int32 → Int32 → Option (Int32 × hS)} {c : hS} {v2 : Int32} : ∀ d n j v, j + d = 8 → d < n → f_X11_checkOf_22 N b k4 n c v v2 (nI j) = k4 c (crcN d v) (v2 + 1) := by
  intro d
  induction d with
  | zero =>
    intro n j v hj hn
    cases n with
    | zero => exact absurd hn (Nat.not_lt_zero 0)
    | succ n =>
      have : j = 8 := by omega
      subst this
      rw [f_X11_checkOf_22, if_pos (by decide)]
      rfl
  | succ d ih =>
    intro n j v hj hn
    cases n with
    | zero => exact absurd hn (by omega)
    | succ n =>
      rw [f_X11_checkOf_22, if_neg (show ¬ (8 : Int32) ≤ nI j from nI_ge (b := 8) (by omega) (by decide)), nI_1]
      unfold crcN crcS
      split
      · rw [ih n (j + 1) _ (by omega) (by omega)]
      · rw [ih n (j + 1) _ (by omega) (by omega)]
theorem f_checkOf {N : Nat} {c : hS} {b : Nat} {l : List Nat} (hN : 1000000 ≤ N) (h : row c b l) : f_X11_checkOf N c b = some (crc l, c) := by
  have l1 := h.lt
  have l3 := h.1
  have l4 := ln_le (b + 1)
  have key : ∀ d n j v, j + d = l.length → d < n → f_X11_checkOf_4 N b n c v (nI j) = some (crcL v (l.drop j) ^^^ (-1), c) := by
    intro d
    induction d with
    | zero =>
      intro n j v hj hn
      cases n with
      | zero => exact absurd hn (Nat.not_lt_zero 0)
      | succ n =>
        rw [f_X11_checkOf_4, f_size h, bnd_some, if_pos (nI_le (by omega) (by omega)), List.drop_eq_nil_of_le (by omega)]
        rfl
    | succ d ih =>
      intro n j v hj hn
      cases n with
      | zero => exact absurd hn (by omega)
      | succ n =>
        rw [f_X11_checkOf_4, f_size h, bnd_some, if_neg (nI_ge (by omega) l1), f_get h (by omega), bnd_some, show (0 : Int32) = nI 0 from rfl, f_check_in 8 N 0 _ (by omega) (by omega), nI_1, ih n (j + 1) _ (by omega) (by omega)]
        rw [List.drop_eq_getElem_cons (show j < l.length by omega), gt_lt (show j < l.length by omega)]
        rfl
  unfold f_X11_checkOf
  rw [show (0 : Int32) = nI 0 from rfl, key l.length N 0 (-1) (by omega) (by omega), List.drop_zero]
  rfl
