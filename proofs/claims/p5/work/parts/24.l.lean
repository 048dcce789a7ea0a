/-! PURE: lengths, distances, symbols -/
noncomputable def lbits (s : Nat) : Nat := if s < 8 ∨ s = 28 then 0 else (s - 4) / 4
noncomputable def lbase (s : Nat) : Nat := if s = 28 then 258 else if s < 8 then 3 + s else (4 + s % 4) * 2 ^ ((s - 4) / 4) + 3
noncomputable def dbits (s : Nat) : Nat := if s < 4 then 0 else (s - 2) / 2
noncomputable def dbase (s : Nat) : Nat := if s < 4 then 1 + s else (2 + s % 2) * 2 ^ ((s - 2) / 2) + 1
theorem f_lengthBits {c : hS} {s : Nat} (hs : s < 29) : f_X11_lengthBits c (nI s) = some (nI (lbits s), c) := by
  unfold f_X11_lengthBits lbits
  by_cases e : s < 8
  · rw [if_pos (show nI s < 8 from nI_lt (b := 8) e (by decide)), if_pos (Or.inl e)]; rfl
  · rw [if_neg (show ¬ nI s < 8 from nI_nlt (b := 8) (by omega) (by omega))]
    by_cases e2 : s = 28
    · subst e2; rfl
    · rw [if_neg (show ¬ nI s = 28 from fun q => e2 ((nI_eq (by omega) (show 28 < 2 ^ 31 by decide)).mp q)), if_neg (by omega), (by decide +kernel : ∀ s, s < 29 → 8 ≤ s → j_shr (nI s - 4) 2 = nI ((s - 4) / 4)) s hs (by omega)]
theorem f_lengthBase {c : hS} {s : Nat} (hs : s < 29) : f_X11_lengthBase c (nI s) = some (nI (lbase s), c) := by
  unfold f_X11_lengthBase
  by_cases e2 : s = 28
  · subst e2; rfl
  · rw [if_neg (show ¬ nI s = 28 from fun q => e2 ((nI_eq (by omega) (show 28 < 2 ^ 31 by decide)).mp q))]
    by_cases e : s < 8
    · rw [if_neg (show ¬ (8 : Int32) ≤ nI s from nI_ge (b := 8) e (by decide)), show (3 : Int32) = nI 3 from rfl, nI_add]
      unfold lbase
      rw [if_neg e2, if_pos e]
    · rw [if_pos (show (8 : Int32) ≤ nI s from nI_le (a := 8) (by omega) (by omega)), f_lengthBits hs, bnd_some, (by decide +kernel : ∀ s, s < 29 → 8 ≤ s → s ≠ 28 → j_shl (4 + (nI s &&& 3)) (nI (lbits s)) + 3 = nI (lbase s)) s hs (by omega) e2]
theorem f_distanceBits {c : hS} {s : Nat} (hs : s < 30) : f_X11_distanceBits c (nI s) = some (nI (dbits s), c) := by
  unfold f_X11_distanceBits dbits
  by_cases e : s < 4
  · rw [if_neg (show ¬ (4 : Int32) ≤ nI s from nI_ge (b := 4) e (by decide)), if_pos e]; rfl
  · rw [if_pos (show (4 : Int32) ≤ nI s from nI_le (a := 4) (by omega) (by omega)), if_neg e, (by decide +kernel : ∀ s, s < 30 → 4 ≤ s → j_shr (nI s - 2) 1 = nI ((s - 2) / 2)) s hs (by omega)]
theorem f_distanceBase {c : hS} {s : Nat} (hs : s < 30) : f_X11_distanceBase c (nI s) = some (nI (dbase s), c) := by
  unfold f_X11_distanceBase
  by_cases e : s < 4
  · rw [if_neg (show ¬ (4 : Int32) ≤ nI s from nI_ge (b := 4) e (by decide)), show (1 : Int32) = nI 1 from rfl, nI_add]
    unfold dbase
    rw [if_pos e]
  · rw [if_pos (show (4 : Int32) ≤ nI s from nI_le (a := 4) (by omega) (by omega)), f_distanceBits hs, bnd_some, (by decide +kernel : ∀ s, s < 30 → 4 ≤ s → j_shl (2 + (nI s &&& 1)) (nI (dbits s)) + 1 = nI (dbase s)) s hs (by omega)]
theorem lbase_lt : ∀ s, s < 29 → lbase s < 300 := by decide +kernel
theorem dbase_lt : ∀ s, s < 30 → dbase s < 2 ^ 16 := by decide +kernel
theorem lbits_lt : ∀ s, s < 29 → lbits s ≤ 5 := by decide +kernel
theorem dbits_lt : ∀ s, s < 30 → dbits s ≤ 13 := by decide +kernel
/-- the largest step whose base is not above n -/
noncomputable def lst (n : Nat) : Nat → Nat
  | 0 => 0
  | s + 1 => if lbase (s + 1) ≤ n then s + 1 else lst n s
noncomputable def dst (n : Nat) : Nat → Nat
  | 0 => 0
  | s + 1 => if dbase (s + 1) ≤ n then s + 1 else dst n s
theorem lst_le (n : Nat) : ∀ s, lst n s ≤ s
  | 0 => Nat.le_refl _
  | s + 1 => by
    unfold lst
    split
    · exact Nat.le_refl _
    · exact Nat.le_succ_of_le (lst_le n s)
theorem dst_le (n : Nat) : ∀ s, dst n s ≤ s
  | 0 => Nat.le_refl _
  | s + 1 => by
    unfold dst
    split
    · exact Nat.le_refl _
    · exact Nat.le_succ_of_le (dst_le n s)
theorem lst_base {n : Nat} (hn : 3 ≤ n) : ∀ s, lbase (lst n s) ≤ n
  | 0 => hn
  | s + 1 => by
    unfold lst
    split
    · assumption
    · exact lst_base hn s
theorem dst_base {n : Nat} (hn : 1 ≤ n) : ∀ s, dbase (dst n s) ≤ n
  | 0 => hn
  | s + 1 => by
    unfold dst
    split
    · assumption
    · exact dst_base hn s
theorem f_lengthStep {N n : Nat} {c : hS} (hN : 1000000 ≤ N) (hn : n < 2 ^ 31) : f_X8_lengthStep N c (nI n) = some (nI (lst n 28), c) := by
  have key : ∀ s k, s < 29 → s < k → f_X8_lengthStep_3 N (nI n) k c (nI s) = some (nI (lst n s), c) := by
    intro s
    induction s with
    | zero =>
      intro k _ hk
      obtain ⟨k, rfl⟩ : ∃ m, k = m + 1 := ⟨k - 1, by omega⟩
      rw [f_X8_lengthStep_3, if_pos (by decide)]
      rfl
    | succ s ih =>
      intro k hs hk
      obtain ⟨k, rfl⟩ : ∃ m, k = m + 1 := ⟨k - 1, by omega⟩
      have lb := lbase_lt (s + 1) hs
      rw [f_X8_lengthStep_3, if_neg (show ¬ nI (s + 1) ≤ 0 from nI_nle (by omega) (by omega)), f_lengthBase hs, bnd_some]
      unfold lst
      by_cases e : lbase (s + 1) ≤ n
      · rw [if_pos (nI_le e hn), if_pos e]
      · rw [if_neg (nI_ge (by omega) (by omega)), if_neg e, show nI (s + 1) + (-1) = nI s from by rw [← Int32.sub_eq_add_neg, nI_pred]]
        exact ih k (by omega) (by omega)
  exact key 28 N (by decide) (by omega)
theorem f_distanceSymbol {N n : Nat} {c : hS} (hN : 1000000 ≤ N) (hn : n < 2 ^ 31) (hd : c.1 10 3 = nI n) : f_X8_distanceSymbol N c = some (nI (dst n 29), c) := by
  have key : ∀ s k, s < 30 → s < k → f_X8_distanceSymbol_3 N k c (nI s) = some (nI (dst n s), c) := by
    intro s
    induction s with
    | zero =>
      intro k _ hk
      obtain ⟨k, rfl⟩ : ∃ m, k = m + 1 := ⟨k - 1, by omega⟩
      rw [f_X8_distanceSymbol_3, if_pos (by decide)]
      rfl
    | succ s ih =>
      intro k hs hk
      obtain ⟨k, rfl⟩ : ∃ m, k = m + 1 := ⟨k - 1, by omega⟩
      have lb := dbase_lt (s + 1) hs
      rw [f_X8_distanceSymbol_3, if_neg (show ¬ nI (s + 1) ≤ 0 from nI_nle (by omega) (by omega)), f_distanceBase hs, bnd_some, hd]
      unfold dst
      by_cases e : dbase (s + 1) ≤ n
      · rw [if_pos (nI_le e hn), if_pos e]
      · rw [if_neg (nI_ge (by omega) (by omega)), if_neg e, show nI (s + 1) + (-1) = nI s from by rw [← Int32.sub_eq_add_neg, nI_pred]]
        exact ih k (by omega) (by omega)
  exact key 29 N (by decide) (by omega)
/-- the fixed code of a symbol, and how many bits it has -/
noncomputable def fxC (s : Nat) : Nat := if s < 144 then 48 + s else if s < 256 then 400 + s - 144 else if s < 280 then s - 256 else 192 + s - 280
noncomputable def fxL (s : Nat) : Nat := if s < 144 then 8 else if s < 256 then 9 else if s < 280 then 7 else 8
theorem fxL_le (s : Nat) : fxL s ≤ 9 := by
  unfold fxL
  split
  · decide
  · split
    · decide
    · split <;> decide
noncomputable def symB (s : Nat) : List Nat := bBE (fxC s) (fxL s)
theorem PB.symbol {N : Nat} {c : hS} {t : List Nat} {s : Pk} {x : Int32} {v : Nat} (hN : 1000000 ≤ N) (h : pkC c t s) (hl : t.length + s.1.length + 9 ≤ 20000) (hx : x = nI v) (hv : v < 288) : PB (f_X8_addSymbol N c x) c t s (symB v) := by
  subst hx
  unfold f_X8_addSymbol symB fxC fxL
  by_cases e1 : v < 144
  · rw [if_neg (show ¬ (144 : Int32) ≤ nI v from nI_ge (b := 144) e1 (by decide)), if_pos e1, if_pos e1]
    exact PB.last_ (PB.code hN h (by omega) (by rw [show (48 : Int32) = nI 48 from rfl, nI_add]) (by omega) (by decide) rfl)
  · rw [if_pos (show (144 : Int32) ≤ nI v from nI_le (a := 144) (by omega) (by omega)), if_neg e1, if_neg e1]
    by_cases e2 : v < 256
    · rw [if_neg (show ¬ (256 : Int32) ≤ nI v from nI_ge (b := 256) e2 (by decide)), if_pos e2, if_pos e2]
      exact PB.last_ (PB.code hN h (by omega) (by rw [show (400 : Int32) = nI 400 from rfl, nI_add, show (144 : Int32) = nI 144 from rfl, subI (by omega)]) (by omega) (by decide) rfl)
    · rw [if_pos (show (256 : Int32) ≤ nI v from nI_le (a := 256) (by omega) (by omega)), if_neg e2, if_neg e2]
      by_cases e3 : v < 280
      · rw [if_neg (show ¬ (280 : Int32) ≤ nI v from nI_ge (b := 280) e3 (by decide)), if_pos e3, if_pos e3]
        exact PB.last_ (PB.code hN h (by omega) (by rw [show (256 : Int32) = nI 256 from rfl, subI (by omega)]) (by omega) (by decide) rfl)
      · rw [if_pos (show (280 : Int32) ≤ nI v from nI_le (a := 280) (by omega) (by omega)), if_neg e3, if_neg e3]
        exact PB.last_ (PB.code hN h (by omega) (by rw [show (192 : Int32) = nI 192 from rfl, nI_add, show (280 : Int32) = nI 280 from rfl, subI (by omega)]) (by omega) (by decide) rfl)
/-! the longest row that begins before, too -/
noncomputable def mlf (l : List Nat) (q p : Nat) : Nat → Nat → Nat
  | 0, n => n
  | r + 1, n => if gt l (q + n) = gt l (p + n) then mlf l q p r (n + 1) else n
theorem mlf_le (l : List Nat) (q p : Nat) : ∀ r n, mlf l q p r n ≤ n + r
  | 0, n => Nat.le_refl _
  | r + 1, n => by
    unfold mlf
    split
    · have := mlf_le l q p r (n + 1); omega
    · omega
noncomputable def mst (l : List Nat) (p : Nat) : Nat := min 258 (l.length - p)
noncomputable def bst (l : List Nat) (p : Nat) : Nat → Nat × Nat → Nat × Nat
  | 0, b => b
  | q + 1, b => bst l p q (if b.1 < mlf l q p (mst l p) 0 then (mlf l q p (mst l p) 0, p - q) else b)
theorem bst_full {l : List Nat} {p : Nat} : ∀ {q : Nat} {b : Nat × Nat}, mst l p ≤ b.1 → bst l p q b = b
  | 0, b, _ => rfl
  | q + 1, b, h => by
    unfold bst
    have := mlf_le l q p (mst l p) 0
    rw [if_neg (by omega)]
    exact bst_full h
theorem bst_le {l : List Nat} {p : Nat} : ∀ {q : Nat} {b : Nat × Nat}, q ≤ p → b.1 ≤ mst l p → (b.1 = 0 ∨ (1 ≤ b.2 ∧ b.2 ≤ p)) → (bst l p q b).1 ≤ mst l p ∧ ((bst l p q b).1 = 0 ∨ (1 ≤ (bst l p q b).2 ∧ (bst l p q b).2 ≤ p))
  | 0, b, _, h, h2 => ⟨h, h2⟩
  | q + 1, b, hq, h, h2 => by
    unfold bst
    have := mlf_le l q p (mst l p) 0
    by_cases e : b.1 < mlf l q p (mst l p) 0
    · rw [if_pos e]
      exact bst_le (by omega) (by simpa using this) (Or.inr ⟨by simp only; omega, by simp only; omega⟩)
    · rw [if_neg e]
      exact bst_le (by omega) h h2
theorem f_longestBefore {N : Nat} {c : hS} {b p : Nat} {l : List Nat} (hN : 1000000 ≤ N) (h : row c b l) (hp : p < l.length) (hb : b ≠ 10) (hb1 : b + 1 ≠ 10) : ∃ c', f_X8_longestBefore N c b (nI p) = some (nI (bst l p p (0, 0)).1, c') ∧ ((bst l p p (0, 0)).1 = 0 ∨ c'.1 10 3 = nI (bst l p p (0, 0)).2) ∧ (c' = c ∨ ∃ z, c' = sI c 10 3 z) := by
  have l1 := h.lt
  have l2 : l.length ≤ 20000 := Nat.le_trans h.1 (ln_le _)
  have hm : mst l p ≤ l.length - p := Nat.min_le_right _ _
  have hm2 : mst l p ≤ 258 := Nat.min_le_left _ _
  -- how far they are alike
  have inner : ∀ (k21 : hS → Int32 → Int32 → Int32 → Option (Int32 × hS)) (c : hS) (v4 : Int32) (q : Nat), row c b l → q < p → ∀ r n j, j + r = mst l p → r < n → f_X8_longestBefore_35 N b (nI p) k21 n c (nI (mst l p)) v4 (nI q) (nI j) = f_X8_longestBefore_67 N b (nI p) k21 c (nI (mst l p)) v4 (nI q) (nI (mlf l q p r j)) := by
    intro k21 c v4 q h hq r
    induction r with
    | zero =>
      intro n j hj hn
      obtain ⟨n, rfl⟩ : ∃ m, n = m + 1 := ⟨n - 1, by omega⟩
      rw [f_X8_longestBefore_35, if_pos (nI_le (by omega) (by omega))]
      rfl
    | succ r ih =>
      intro n j hj hn
      obtain ⟨n, rfl⟩ : ∃ m, n = m + 1 := ⟨n - 1, by omega⟩
      rw [f_X8_longestBefore_35, if_neg (nI_ge (by omega) (by omega)), nI_add, f_get h (by omega), bnd_some, nI_add, f_get h (by omega), bnd_some]
      unfold mlf
      have b1 := h.2.2.2.gt (q + j)
      have b2 := h.2.2.2.gt (p + j)
      by_cases e : gt l (q + j) = gt l (p + j)
      · rw [e, if_pos rfl, if_pos rfl, nI_1]
        exact ih n (j + 1) (by omega) (by omega)
      · rw [if_neg (fun z => e ((nI_eq (by omega) (by omega)).mp z)), if_neg e]
  have key : ∀ q n c (w : Nat × Nat), q ≤ p → q < n → row c b l → w.1 ≤ mst l p → (w.1 = 0 ∨ c.1 10 3 = nI w.2) → ∃ c', f_X8_longestBefore_21 N b (nI p) n c (nI (mst l p)) (nI w.1) (nI q - 1) = some (nI (bst l p q w).1, c') ∧ ((bst l p q w).1 = 0 ∨ c'.1 10 3 = nI (bst l p q w).2) ∧ (c' = c ∨ ∃ z, c' = sI c 10 3 z) := by
    intro q
    induction q with
    | zero =>
      intro n c w _ hn h hw hd
      obtain ⟨n, rfl⟩ : ∃ m, n = m + 1 := ⟨n - 1, by omega⟩
      rw [f_X8_longestBefore_21, if_pos (by decide)]
      exact ⟨c, rfl, hd, Or.inl rfl⟩
    | succ q ih =>
      intro n c w hq hn h hw hd
      obtain ⟨n, rfl⟩ : ∃ m, n = m + 1 := ⟨n - 1, by omega⟩
      rw [nI_pred, f_X8_longestBefore_21, if_neg (nI_pos (by omega))]
      by_cases e : mst l p ≤ w.1
      · rw [if_pos (nI_le e (by omega)), bst_full e]
        exact ⟨c, rfl, hd, Or.inl rfl⟩
      · rw [if_neg (nI_ge (by omega) (by omega)), show (0 : Int32) = nI 0 from rfl, inner _ c _ q h (by omega) (mst l p) N 0 (by omega) (by omega)]
        unfold f_X8_longestBefore_67 bst
        have ml := mlf_le l q p (mst l p) 0
        rw [show nI q + (-1) = nI q - 1 from (Int32.sub_eq_add_neg _ _).symm]
        by_cases e2 : w.1 < mlf l q p (mst l p) 0
        · rw [if_neg (nI_ge e2 (by omega)), if_pos e2, subI (by omega)]
          dsimp only [st1]
          obtain ⟨c', g1, g2, g3⟩ := ih n (sI c 10 3 (nI (p - q))) (mlf l q p (mst l p) 0, p - q) (by omega) (by omega) (h.fr (S := [10]) (fr.sI (by simp)) (by simpa using hb) (by simpa using hb1)) (by simpa using ml) (Or.inr (sI_s _ _ _ _))
          refine ⟨c', g1, g2, ?_⟩
          rcases g3 with g3 | ⟨z, g3⟩
          · exact Or.inr ⟨_, g3⟩
          · refine Or.inr ⟨z, ?_⟩
            rw [g3]
            unfold sI
            congr 1
            funext a b
            by_cases q : a = 10 ∧ b = 3
            · rw [if_pos q, if_pos q]
            · rw [if_neg q, if_neg q]
              dsimp only
              rw [if_neg q]
        · rw [if_pos (nI_le (by omega) (by omega)), if_neg e2]
          exact ih n c w (by omega) (by omega) h hw hd
  unfold f_X8_longestBefore
  rw [f_size h, bnd_some, subI (by omega)]
  have em : j_min 258 (nI (l.length - p)) = nI (mst l p) := by
    unfold j_min mst
    by_cases e : l.length - p < 258
    · rw [if_pos (show nI (l.length - p) < 258 from nI_lt (b := 258) e (by decide)), Nat.min_eq_right (by omega)]
    · rw [if_neg (show ¬ nI (l.length - p) < 258 from nI_nlt (b := 258) (by omega) (by omega)), Nat.min_eq_left (by omega)]
      rfl
  rw [em]
  exact key p N c (0, 0) (Nat.le_refl _) (by omega) h (Nat.zero_le _) (Or.inl rfl)
