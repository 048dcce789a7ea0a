/-! PURE: the class reads kind 1 -/
noncomputable def hxD (x : Nat) : Nat := if 48 ≤ x ∧ x ≤ 57 then x - 48 else if 97 ≤ x ∧ x ≤ 102 then x - 87 else if 65 ≤ x ∧ x ≤ 70 then x - 55 else 99
noncomputable def hxI (x : Nat) : Int32 := if hxD x = 99 then -1 else nI (hxD x)
theorem f_digit {c : hS} {x : Nat} (hx : x < 256) : f_X4_digit c (nI x) = some (hxI x, c) := by
  have d34 : 57 < x ∨ x < 48 → 102 < x ∨ x < 97 → f_X4_digit_34 (nI x) c = some (hxI x, c) := by
    intro q1 q2
    unfold f_X4_digit_34
    by_cases e1 : x < 65
    · rw [if_pos (show nI x < 65 from nI_lt (b := 65) e1 (by decide))]
      have : hxD x = 99 := by unfold hxD; rw [if_neg (by omega), if_neg (by omega), if_neg (by omega)]
      unfold hxI
      rw [if_pos this]
    · rw [if_neg (show ¬ nI x < 65 from nI_nlt (b := 65) (by omega) (by omega))]
      by_cases e2 : 70 < x
      · rw [if_pos (show (70 : Int32) < nI x from nI_lt (a := 70) e2 (by omega))]
        have : hxD x = 99 := by unfold hxD; rw [if_neg (by omega), if_neg (by omega), if_neg (by omega)]
        unfold hxI
        rw [if_pos this]
      · rw [if_neg (show ¬ (70 : Int32) < nI x from nI_nlt (a := 70) (by omega) (by decide)), show (55 : Int32) = nI 55 from rfl, subI (by omega)]
        have : hxD x = x - 55 := by unfold hxD; rw [if_neg (by omega), if_neg (by omega), if_pos (by omega)]
        unfold hxI
        rw [this, if_neg (by omega)]
  have d17 : 57 < x ∨ x < 48 → f_X4_digit_17 (nI x) c = some (hxI x, c) := by
    intro q1
    unfold f_X4_digit_17
    by_cases e1 : x < 97
    · rw [if_pos (show nI x < 97 from nI_lt (b := 97) e1 (by decide))]; exact d34 q1 (Or.inr e1)
    · rw [if_neg (show ¬ nI x < 97 from nI_nlt (b := 97) (by omega) (by omega))]
      by_cases e2 : 102 < x
      · rw [if_pos (show (102 : Int32) < nI x from nI_lt (a := 102) e2 (by omega))]; exact d34 q1 (Or.inl e2)
      · rw [if_neg (show ¬ (102 : Int32) < nI x from nI_nlt (a := 102) (by omega) (by decide)), show (87 : Int32) = nI 87 from rfl, subI (by omega)]
        have : hxD x = x - 87 := by unfold hxD; rw [if_neg (by omega), if_pos (by omega)]
        unfold hxI
        rw [this, if_neg (by omega)]
  unfold f_X4_digit
  by_cases e1 : x < 48
  · rw [if_pos (show nI x < 48 from nI_lt (b := 48) e1 (by decide))]; exact d17 (Or.inr e1)
  · rw [if_neg (show ¬ nI x < 48 from nI_nlt (b := 48) (by omega) (by omega))]
    by_cases e2 : 57 < x
    · rw [if_pos (show (57 : Int32) < nI x from nI_lt (a := 57) e2 (by omega))]; exact d17 (Or.inl e2)
    · rw [if_neg (show ¬ (57 : Int32) < nI x from nI_nlt (a := 57) (by omega) (by decide)), show (48 : Int32) = nI 48 from rfl, subI (by omega)]
      have : hxD x = x - 48 := by unfold hxD; rw [if_pos (by omega)]
      unfold hxI
      rw [this, if_neg (by omega)]
theorem hxD_lt (x : Nat) : hxD x < 16 ∨ hxD x = 99 := by
  unfold hxD
  split
  · omega
  · split
    · omega
    · split <;> omega
theorem hxI_neg {x : Nat} : (hxI x = -1) ↔ hxD x = 99 := by
  unfold hxI
  constructor
  · intro h
    split at h
    · assumption
    · rename_i q
      have h2 := (hxD_lt x).resolve_right q
      exact absurd h (fun z => by
        have := nI_pos (n := hxD x) (by omega)
        rw [z] at this
        exact this (by decide))
  · intro h
    rw [if_pos h]
/-- a digit's four bits -/
noncomputable def hx4 (x : Nat) : Nat := if hxD x = 99 then 15 else hxD x
theorem hx4_lt (x : Nat) : hx4 x < 16 := by
  unfold hx4
  have := hxD_lt x
  split <;> omega
theorem hxI_and (x : Nat) : hxI x &&& 15 = nI (hx4 x) := by
  unfold hxI hx4
  split
  · rfl
  · rw [and15]
    have := (hxD_lt x).resolve_right (by assumption)
    congr 1
    omega
noncomputable def hexV (t : List Nat) : Nat → Nat → Nat → Nat
  | _, 0, v => v
  | p, n + 1, v => hexV t (p + 1) n (v * 16 + hx4 (gt t p))
theorem hexV_lt {t : List Nat} : ∀ {n p v : Nat}, hexV t p n v < (v + 1) * 16 ^ n
  | 0, p, v => by simp [hexV]
  | n + 1, p, v => by
    have h1 := hexV_lt (t := t) (n := n) (p := p + 1) (v := v * 16 + hx4 (gt t p))
    have h2 := hx4_lt (gt t p)
    have h3 : (v * 16 + hx4 (gt t p) + 1) * 16 ^ n ≤ ((v + 1) * 16) * 16 ^ n := Nat.mul_le_mul_right _ (by omega)
    unfold hexV
    rw [Nat.pow_succ, show (v + 1) * (16 ^ n * 16) = (v + 1) * 16 * 16 ^ n by rw [Nat.mul_assoc, Nat.mul_comm 16]]
    omega
noncomputable def hex8 (t : List Nat) (p : Nat) : Nat := hexV t p 8 0
theorem hex8_lt (t : List Nat) (p : Nat) : hex8 t p < 2 ^ 32 := by
  have := hexV_lt (t := t) (n := 8) (p := p) (v := 0)
  unfold hex8
  omega
theorem f_number {N : Nat} {c : hS} {t : List Nat} {p : Nat} (hN : 1000000 ≤ N) (h : row c 3 t) (hp : p < 2 ^ 30) : f_X4_number N c (nI p) = some (lN (hex8 t p), c) := by
  have key : ∀ d n' k v, k + d = p + 8 → d < n' → v < 16 ^ (8 - d) → d ≤ 8 → f_X4_number_5 N (nI p) n' c (lN v) (nI k) = some (lN (hexV t k d v), c) := by
    intro d
    induction d with
    | zero =>
      intro n' k v hk hn' hv hdn
      obtain ⟨n', rfl⟩ : ∃ m, n' = m + 1 := ⟨n' - 1, by omega⟩
      rw [f_X4_number_5, show nI p + 8 = nI (p + 8) from nI_add p 8, if_pos (nI_le (by omega) (by omega))]
      rfl
    | succ d ih =>
      intro n' k v hk hn' hv hdn
      obtain ⟨n', rfl⟩ : ∃ m, n' = m + 1 := ⟨n' - 1, by omega⟩
      have bb := h.2.2.2.gt k
      have hm := hx4_lt (gt t k)
      have hv2 : v < 2 ^ 32 := Nat.lt_of_lt_of_le hv (by
        rw [show (2 : Nat) ^ 32 = 16 ^ 8 from rfl]
        exact Nat.pow_le_pow_right (by decide) (by omega))
      rw [f_X4_number_5, show nI p + 8 = nI (p + 8) from nI_add p 8, if_neg (nI_ge (by omega) (by omega)), f_get h (by omega), bnd_some, f_digit bb, bnd_some, hxI_and, show (4 : Int32) = nI 4 from rfl, lshl_lN v (by decide), nI_l (by omega), wb_or (by omega) (by omega), or_add (k := 4) (by omega), nI_1]
      unfold hexV
      refine ih n' (k + 1) (v * 16 + hx4 (gt t k)) (by omega) (by omega) ?_ (by omega)
      rw [show 8 - d = 8 - (d + 1) + 1 by omega, Nat.pow_succ]
      omega
  unfold f_X4_number
  rw [show (0 : Int64) = lN 0 from rfl]
  exact key 8 N p 0 rfl (by omega) (by decide) (by decide)
noncomputable def hexB (t : List Nat) (p n : Nat) : Bool := (List.range' p n).all fun i => decide (hxD (gt t i) ≠ 99)
noncomputable def h1B (t : List Nat) (p : Nat) : Bool := mkB t p mk1 && hexB t (p + 6) 104
theorem f_isHead1 {N : Nat} {c : hS} {t : List Nat} {p : Nat} (hN : 1000000 ≤ N) (h : row c 3 t) (hp : p < 2 ^ 29) : RB (f_X4_isHead N c (nI p)) c [9] (h1B t p) := by
  unfold f_X4_isHead h1B
  refine RB.and_ (f_isMarked (m := mk1) hN h (by omega) (by decide) (show byt mk1 from (by decide : ∀ x ∈ mk1, x < 256)) (by decide)) (fun _ => ?_)
  rw [show nI p + Int32.ofNat sa2.length = nI (p + 6) from nI_add p 6]
  refine all_loop (F := f_X4_isHead_21 N (nI p)) (c := c) (j := p + 110) (P := fun i => decide (hxD (gt t i) ≠ 99)) (fun n' k hk => ?_) (fun n' => ?_) 104 N (p + 6) (by omega) (by omega)
  · have bb := h.2.2.2.gt k
    rw [f_X4_isHead_21, show nI p + 110 = nI (p + 110) from nI_add p 110, if_neg (nI_ge hk (by omega)), f_get h (by omega), bnd_some, f_digit bb, bnd_some]
    constructor
    · intro q
      rw [if_neg (fun z => (of_decide_eq_true q) (hxI_neg.mp z))]
    · intro q
      have q2 : hxD (gt t k) = 99 := Classical.byContradiction (fun z => (of_decide_eq_false q) z)
      rw [if_pos (hxI_neg.mpr q2)]
      obtain ⟨c', a1, a2, _⟩ := RB.tellb (c := c) (a := 6) (p := nI k)
      exact ⟨c', a1, a2⟩
  · rw [f_X4_isHead_21, show nI p + 110 = nI (p + 110) from nI_add p 110, if_pos (nI_le (Nat.le_refl _) (by omega))]
/-- a name's length, the name -/
noncomputable def spB (t : List Nat) (p : Nat) : Bool := decide (1 ≤ hex8 t (p + 94)) && (decide (hex8 t (p + 94) ≤ 100) && (decide (p + 110 + hex8 t (p + 94) ≤ t.length) && decide (gt t (p + 110 + hex8 t (p + 94) - 1) = 0)))
noncomputable def nm1 (t : List Nat) (p : Nat) : List Nat := (t.drop (p + 110)).take (hex8 t (p + 94) - 1)
theorem cmp_lt {a b : Nat} (ha : a < 2 ^ 63) (hb : b < 2 ^ 63) : (j_cmp (lN a) (lN b) < 0) = (a < b) := by
  have h1 := cmp_le ha hb
  have h2 := cmp_eq ha hb
  apply propext
  constructor
  · intro q
    have q1 : a ≤ b := by rw [← h1]; exact Int32.le_of_lt q
    have q2 : a ≠ b := fun z => by rw [← h2] at z; rw [z] at q; exact absurd q (by decide)
    omega
  · intro q
    have q1 : j_cmp (lN a) (lN b) ≤ 0 := by rw [h1]; omega
    have q2 : ¬ j_cmp (lN a) (lN b) = 0 := by rw [h2]; omega
    exact Int32.lt_of_le_of_ne q1 q2
theorem f_isSpelt {N : Nat} {c : hS} {t : List Nat} {p : Nat} (hN : 1000000 ≤ N) (h : row c 3 t) (hl : 0 ≤ c.1 5 1) (hp : p < 2 ^ 29) : ∃ c', f_X4_isSpelt N c (nI p) = some (bI (spB t p), c') ∧ fr [9, 5, 6] c c' ∧ (spB t p = true → row c' 5 (nm1 t p) ∧ fr [5, 6] c c') := by
  have hv := hex8_lt t (p + 94)
  have t9 : ∀ {a : hS}, fr [9] c a → fr [9, 5, 6] c a := fun q => q.mono (fun o ho => by simp at ho ⊢; omega)
  have tl : ∀ (b : Bool) (f q : Int32), b = false → ∃ c', (bnd (f_X6_tell c f q) fun x1 c2 => bif j_b x1 then some (x1, c2) else none) = some (bI b, c') ∧ fr [9, 5, 6] c c' ∧ (b = true → row c' 5 (nm1 t p) ∧ fr [5, 6] c c') := by
    intro b f q hb
    subst hb
    obtain ⟨c', a1, a2, _⟩ := RB.tellb (c := c) (a := f) (p := q)
    exact ⟨c', a1, t9 a2, fun z => by cases z⟩
  unfold f_X4_isSpelt
  rw [show nI p + 94 = nI (p + 94) from nI_add p 94, f_number hN h (by omega), bnd_some, show (1 : Int64) = lN 1 from rfl, show (100 : Int64) = lN 100 from rfl, show nI p + 110 = nI (p + 110) from nI_add p 110, lN_i]
  unfold spB nm1
  by_cases e1 : 1 ≤ hex8 t (p + 94)
  · rw [if_neg (by rw [cmp_lt (by omega) (by decide)]; omega), decide_eq_true e1, Bool.true_and]
    by_cases e2 : hex8 t (p + 94) ≤ 100
    · rw [if_pos (by rw [cmp_le (by omega) (by decide)]; exact e2), decide_eq_true e2, Bool.true_and, nI_add, show nI (p + 110 + hex8 t (p + 94)) - 1 = nI (p + 110 + hex8 t (p + 94) - 1) from subI (b := 1) (by omega), nI_1, show p + 110 + hex8 t (p + 94) - 1 + 1 = p + 110 + hex8 t (p + 94) by omega]
      obtain ⟨c4, g1, g2, g3⟩ := f_reaches (k := p + 110 + hex8 t (p + 94)) h (by omega)
      rw [g1, bnd_some]
      by_cases e3 : p + 110 + hex8 t (p + 94) ≤ t.length
      · rw [decide_eq_true e3] at g3 ⊢
        cases g3 rfl
        have bb := h.2.2.2.gt (p + 110 + hex8 t (p + 94) - 1)
        rw [if_neg (by decide), f_get h (by omega), bnd_some, Bool.true_and]
        by_cases e4 : gt t (p + 110 + hex8 t (p + 94) - 1) = 0
        · rw [e4, if_pos nI_0]
          obtain ⟨c7, a1, a2, a3⟩ := f_cutN hl
          rw [a1, bnd_some]
          obtain ⟨c8, b1, b2, b3⟩ := f_addPart (b := 5) (f := 3) (i := p + 110) (j := p + 110 + hex8 t (p + 94) - 1) hN a2 (h.fr a3 (by decide) (by decide)) (by decide) (by decide) (by decide) (by omega) (by omega) (show ([] : List Nat).length + _ ≤ 256 by simp; omega)
          rw [b1, bnd_some]
          have f56 : fr [5, 6] c c8 := (a3.mono (fun o ho => by simp at ho ⊢; omega)).tr b3
          rw [List.nil_append, show p + 110 + hex8 t (p + 94) - 1 - (p + 110) = hex8 t (p + 94) - 1 by omega] at b2
          exact ⟨c8, rfl, f56.mono (fun o ho => by simp at ho ⊢; omega), fun _ => ⟨b2, f56⟩⟩
        · rw [if_neg (nI_ne0 (by omega) (by omega))]
          exact tl _ _ _ (decide_eq_false e4)
      · rw [decide_eq_false e3, if_pos (show bI false = 0 from rfl)]
        exact ⟨c4, rfl, t9 g2, fun z => by cases z⟩
    · rw [if_neg (by rw [cmp_le (by omega) (by decide)]; exact e2)]
      exact tl _ _ _ (by rw [decide_eq_false e2]; rfl)
  · rw [if_pos (by rw [cmp_lt (by omega) (by decide)]; omega)]
    exact tl _ _ _ (by rw [decide_eq_false e1]; rfl)
theorem f_isSized {N : Nat} {c : hS} {t : List Nat} {p k : Nat} (hN : 1000000 ≤ N) (h : row c 3 t) (hp : p < 2 ^ 29) (hk : k < 1000) : RB (f_X4_isSized N c (nI p) (nI k)) c [9] (decide (hex8 t (p + 54) ≤ k)) := by
  have hv := hex8_lt t (p + 54)
  unfold f_X4_isSized
  rw [show nI p + 54 = nI (p + 54) from nI_add p 54, f_number hN h (by omega), bnd_some, nI_l (by omega)]
  by_cases e : hex8 t (p + 54) ≤ k
  · rw [if_pos (by rw [cmp_le (by omega) (by omega)]; exact e), decide_eq_true e]; exact RB.yes
  · rw [if_neg (by rw [cmp_le (by omega) (by omega)]; exact e), decide_eq_false e]; exact RB.last_ RB.tell
noncomputable def so1 (t : List Nat) (p : Nat) : Nat := hex8 t (p + 14) / 4096 % 16
theorem f_sortBits {c : hS} {v : Nat} (hv : v < 2 ^ 63) : f_X4_sortBits c (lN v) = some (nI (v / 4096 % 16), c) := by
  unfold f_X4_sortBits
  rw [show (12 : Int32) = nI 12 from rfl, lushr_lN (by omega) (by decide), show (15 : Int64) = lN (2 ^ 4 - 1) from rfl, wb_mask (Nat.lt_of_le_of_lt (Nat.div_le_self _ _) (by omega)) (by decide), lN_i]
theorem f_sortOf {N : Nat} {c : hS} {t : List Nat} {p : Nat} (hN : 1000000 ≤ N) (h : row c 3 t) (hp : p < 2 ^ 29) : f_X4_sortOf N c (nI p) = some (nI (so1 t p), c) := by
  have hv := hex8_lt t (p + 14)
  unfold f_X4_sortOf
  rw [show nI p + 14 = nI (p + 14) from nI_add p 14, f_number hN h (by omega), bnd_some, f_sortBits (by omega), bnd_some]
  rfl
theorem f_isDirectory1 {N : Nat} {c : hS} {t : List Nat} {p : Nat} (hN : 1000000 ≤ N) (h : row c 3 t) (hp : p < 2 ^ 29) : f_X4_isDirectory N c (nI p) = some (bI (decide (so1 t p = 4)), c) := by
  have hs : so1 t p < 16 := Nat.mod_lt _ (by decide)
  unfold f_X4_isDirectory
  rw [f_sortOf hN h hp, bnd_some, show (16877 : Int64) = lN 16877 from rfl, f_sortBits (by decide), bnd_some, show 16877 / 4096 % 16 = 4 from rfl]
  by_cases e : so1 t p = 4
  · rw [e, if_pos rfl]; rfl
  · rw [if_neg (fun z => e ((nI_eq (by omega) (by decide)).mp z)), decide_eq_false e]; rfl
noncomputable def meB (t : List Nat) (p : Nat) (nm : List Nat) : Bool := (decide (so1 t p = 8) || decide (so1 t p = 4)) && (decide (hex8 t (p + 102) = 0) && (decide (hex8 t (p + 54) ≤ if so1 t p = 4 then 0 else 400) && nameB nm))
theorem f_isMember1 {N : Nat} {c : hS} {t nm : List Nat} {p : Nat} (hN : 1000000 ≤ N) (h : row c 3 t) (hnm : row c 5 nm) (hp : p < 2 ^ 29) : RB (f_X4_isMember N c (nI p)) c [9] (meB t p nm) := by
  have hs : so1 t p < 16 := Nat.mod_lt _ (by decide)
  have hv := hex8_lt t (p + 102)
  have m83 : ∀ k, k < 1000 → RB (f_X4_isMember_83 N (nI p) c (nI k) (nI p)) c [9] (decide (hex8 t (p + 54) ≤ k) && nameB nm) := by
    intro k hk
    unfold f_X4_isMember_83
    exact RB.and_ (f_isSized hN h hp hk) (fun _ => RB.last_ (f_isNamed hN hnm))
  have m40 : RB (f_X4_isMember_40 N (nI p) c) c [9] (decide (hex8 t (p + 102) = 0) && (decide (hex8 t (p + 54) ≤ if so1 t p = 4 then 0 else 400) && nameB nm)) := by
    unfold f_X4_isMember_40
    rw [show nI p + 102 = nI (p + 102) from nI_add p 102, f_number hN h (by omega), bnd_some, show (0 : Int64) = lN 0 from rfl]
    by_cases e : hex8 t (p + 102) = 0
    · rw [if_pos (by rw [cmp_eq (by omega) (by decide)]; exact e), decide_eq_true e, Bool.true_and, f_isDirectory1 hN h hp, bnd_some]
      by_cases e2 : so1 t p = 4
      · rw [decide_eq_true e2, if_neg (by decide), if_pos e2]; exact m83 0 (by decide)
      · rw [decide_eq_false e2, if_pos (show bI false = 0 from rfl), if_neg e2]; exact m83 400 (by decide)
    · rw [if_neg (by rw [cmp_eq (by omega) (by decide)]; exact e), decide_eq_false e]; exact RB.tellb
  unfold f_X4_isMember meB
  rw [f_sortOf hN h hp, bnd_some, show (33188 : Int64) = lN 33188 from rfl, f_sortBits (by decide), bnd_some, show 33188 / 4096 % 16 = 8 from rfl]
  by_cases e : so1 t p = 8
  · rw [if_pos (by rw [e]), decide_eq_true e, Bool.true_or, Bool.true_and]; exact m40
  · rw [if_neg (fun z => e ((nI_eq (by omega) (by decide)).mp z)), decide_eq_false e, Bool.false_or, show (16877 : Int64) = lN 16877 from rfl, f_sortBits (by decide), bnd_some, show 16877 / 4096 % 16 = 4 from rfl]
    by_cases e2 : so1 t p = 4
    · rw [if_pos (by rw [e2]), decide_eq_true e2, Bool.true_and]; exact m40
    · rw [if_neg (fun z => e2 ((nI_eq (by omega) (by decide)).mp z)), decide_eq_false e2]; exact RB.tellb
/-- the members that kind 1 tells -/
noncomputable def beg1 (t : List Nat) (p : Nat) : Nat := upTo (p + 110 + (nm1 t p).length + 1) 4
noncomputable def beh1 (t : List Nat) (p : Nat) : Nat := upTo (beg1 t p + hex8 t (p + 54)) 4
noncomputable def rd1 (t : List Nat) : Nat → Nat → List Mb → Option (List Mb)
  | 0, _, _ => none
  | n + 1, p, ms => if t.length < p + 110 then none else if ¬ (h1B t p = true ∧ spB t p = true) then none else if nm1 t p = trl then (if hex8 t (p + 54) ≤ 0 ∧ zerB t (p + 110 + (nm1 t p).length + 1) = true then some ms else none) else if meB t p (nm1 t p) = true ∧ beh1 t p ≤ t.length ∧ mayB ms (nm1 t p) (decide (so1 t p = 4)) = true then rd1 t n (beh1 t p) (comeM ms (nm1 t p, (t.drop (beg1 t p)).take (hex8 t (p + 54)), decide (so1 t p = 4))) else none
theorem f_takeIn1 {N : Nat} {c : hS} {s : Nat} {t : List Nat} {ms : List Mb} (hN : 1000000 ≤ N) (h : row c 3 t) (hl : 0 ≤ c.1 5 1) (hsh : shf c s ms) (hs : s = 37 ∨ s = 119) : RD (f_X4_takeIn N c s) c s (S0 s) (rd1 t 190 0 ms) := by
  have hln : t.length ≤ 20000 := h.1
  have tell180 : ∀ c1, row c1 3 t → ∃ c', f_X4_takeIn_180 N s c1 = some (bI false, c') ∧ fr [9] c1 c' := by
    intro c1 h1
    unfold f_X4_takeIn_180
    rw [f_size h1, bnd_some]
    obtain ⟨c', a1, a2, _⟩ := RB.tellb (c := c1) (a := 1) (p := nI t.length)
    exact ⟨c', a1, a2⟩
  have key : ∀ d n p k c ms, t.length < p + 110 * d → d < n → 110 * k ≤ p → p ≤ t.length → row c 3 t → 0 ≤ c.1 5 1 → shf c s ms → RD (f_X4_takeIn_4 N s n c (nI p) (nI k)) c s (S0 s) (rd1 t d p ms) := by
    intro d
    induction d with
    | zero => intro n p k c ms h1 _ _ h2; omega
    | succ d ih =>
      intro n p k c ms hpd hn hk hp h hl hsh
      obtain ⟨n, rfl⟩ : ∃ m, n = m + 1 := ⟨n - 1, by omega⟩
      rw [f_X4_takeIn_4, if_neg (show ¬ (20000 : Int32) ≤ nI k from nI_ge (b := 20000) (by omega) (by decide)), f_size h, bnd_some, show nI p + 110 = nI (p + 110) from nI_add p 110]
      unfold rd1
      by_cases e1 : t.length < p + 110
      · rw [if_pos (nI_lt e1 (by omega)), if_pos e1]
        exact RD.no (tell180 c h) rfl fr.rf hsh hs S0n9
      · rw [if_neg (nI_nlt (by omega) h.lt), if_neg e1]
        obtain ⟨c4, b1, b2, b3⟩ := f_isHead1 hN h (p := p) (by omega)
        rw [b1, bnd_some]
        cases hh : h1B t p with
        | false =>
          rw [if_pos (show bI false = 0 from rfl), if_pos (by simp)]
          exact RD.no ⟨c4, rfl, b2⟩ rfl fr.rf hsh hs S0n9
        | true =>
          cases b3 hh
          rw [if_neg (by decide)]
          obtain ⟨c6, g1, g2, g3⟩ := f_isSpelt hN h hl (p := p) (by omega)
          have g2' : fr (S0 s) c c6 := g2.mono (fun o ho => by simp at ho; rcases ho with q | q | q <;> simp [S0, q])
          rw [g1, bnd_some]
          cases hsp : spB t p with
          | false =>
            rw [if_pos (show bI false = 0 from rfl), if_pos (by simp)]
            exact RD.no ⟨c6, rfl, g2⟩ rfl fr.rf hsh hs S0n956
          | true =>
            obtain ⟨g4, g5⟩ := g3 hsp
            have h6 := h.fr g5 (by decide) (by decide)
            have s6 := hsh.fr g5 (fun o ho => by simp only [List.mem_cons, List.not_mem_nil, or_false] at ho; omega)
            have hsp2 := hsp
            unfold spB at hsp2
            simp only [Bool.and_eq_true, decide_eq_true_eq] at hsp2
            obtain ⟨z1, z2, z3, z4⟩ := hsp2
            have nl : (nm1 t p).length = hex8 t (p + 94) - 1 := by unfold nm1; rw [List.length_take, List.length_drop]; omega
            have hu1 := upTo_le (a := p + 110 + (nm1 t p).length + 1) (b := 4) (by decide)
            rw [if_neg (by decide), if_neg (by simp), f_size g4, bnd_some, f_isText hN g4 (g := trl) (by decide) (show byt trl from (by decide : ∀ x ∈ trl, x < 256)) (by decide), bnd_some]
            rw [show nI (p + 110) + nI (nm1 t p).length + 1 = nI (p + 110 + (nm1 t p).length + 1) by rw [nI_add, nI_1]]
            by_cases etr : nm1 t p = trl
            · rw [decide_eq_true etr, if_neg (by decide), if_pos etr]
              obtain ⟨c', a1, a2, a3⟩ := RB.and_ (B := fun c26 => bnd (f_X0_isZeroFrom N c26 (nI (p + 110 + (nm1 t p).length + 1))) fun x27 c28 => if x27 = 0 then some (0, c28) else some (1, c28)) (f_isSized (k := 0) hN h6 (p := p) (by omega) (by decide)) (fun _ => RB.last_ (f_isZeroFrom hN h6 (p := p + 110 + (nm1 t p).length + 1) (by omega)))
              by_cases q : hex8 t (p + 54) ≤ 0 ∧ zerB t (p + 110 + (nm1 t p).length + 1) = true
              · rw [decide_eq_true q.1, q.2] at a1 a3
                cases a3 rfl
                rw [if_pos q]
                exact ⟨c6, a1, g2', ⟨_, s6⟩, fun ms' e => by cases e; exact s6⟩
              · rw [if_neg q]
                refine RD.no ⟨c', a1, a2⟩ ?_ g2' s6 hs S0n9
                cases hz : zerB t (p + 110 + (nm1 t p).length + 1) with
                | false => rw [Bool.and_false]
                | true => rw [decide_eq_false (fun z => q ⟨z, hz⟩)]; rfl
            · rw [decide_eq_false etr, if_pos (show bI false = 0 from rfl), if_neg etr]
              obtain ⟨c12, a1, a2, a3⟩ := f_isMember1 hN h6 g4 (p := p) (by omega)
              rw [a1, bnd_some]
              cases hme : meB t p (nm1 t p) with
              | false =>
                rw [if_pos (show bI false = 0 from rfl), if_neg (by simp)]
                exact RD.no ⟨c12, rfl, a2⟩ rfl g2' s6 hs S0n9
              | true =>
                cases a3 hme
                have hme2 := hme
                unfold meB at hme2
                simp only [Bool.and_eq_true, decide_eq_true_eq] at hme2
                obtain ⟨y1, y2, y3, y4⟩ := hme2
                have hsz : hex8 t (p + 54) ≤ 400 := by split at y3 <;> omega
                have hu2 := upTo_le (a := beg1 t p + hex8 t (p + 54)) (b := 4) (by decide)
                rw [if_neg (by decide), show (4 : Int32) = nI 4 from rfl, f_roundedUp (by omega) (by decide) (by decide), bnd_some, show nI p + 54 = nI (p + 54) from nI_add p 54, f_number hN h6 (by omega), bnd_some, lN_i, nI_add]
                rw [show upTo (p + 110 + (nm1 t p).length + 1) 4 = beg1 t p from rfl] at hu1 ⊢
                rw [f_roundedUp (by omega) (by decide) (by decide), bnd_some]
                rw [show upTo (beg1 t p + hex8 t (p + 54)) 4 = beh1 t p from rfl] at hu2 ⊢
                obtain ⟨c20, r1, r2, r3⟩ := f_reaches (k := beh1 t p) h6 (by omega)
                rw [r1, bnd_some]
                by_cases q2 : beh1 t p ≤ t.length
                · rw [decide_eq_true q2] at r3 ⊢
                  cases r3 rfl
                  rw [if_neg (by decide), f_isDirectory1 hN h6 (by omega), bnd_some]
                  have nl90 : (nm1 t p).length ≤ 90 := by
                    unfold nameB at y4
                    simp only [Bool.and_eq_true, decide_eq_true_eq] at y4
                    exact y4.1.2
                  obtain ⟨c24, m1, m2, m3, mf⟩ := f_arrives (d := decide (so1 t p = 4)) (p := nI p) (i := beg1 t p) (j := beg1 t p + hex8 t (p + 54)) hN s6 hs g4 h6 (by decide) nl90 (by omega) (by omega) (by omega)
                  rw [m1, bnd_some]
                  have m2' : fr (S0 s) c6 c24 := m2.mono (fun o ho => by rcases List.mem_cons.mp ho with q | q <;> simp [S0, q])
                  cases hmy : mayB ms (nm1 t p) (decide (so1 t p = 4)) with
                  | false =>
                    rw [if_pos (show bI false = 0 from rfl), if_neg (by simp)]
                    exact RD.no ⟨c24, rfl, mf hmy⟩ rfl g2' s6 hs S0n9
                  | true =>
                    rw [if_neg (by decide), if_pos ⟨rfl, q2, rfl⟩]
                    obtain ⟨m4, m5⟩ := m3 hmy
                    rw [show beg1 t p + hex8 t (p + 54) - beg1 t p = hex8 t (p + 54) by omega] at m4
                    rw [nI_1]
                    have ns : ∀ o, o < 37 → o ∉ shR s := fun o ho q => by rw [shR_mem] at q; omega
                    obtain ⟨c25, w1, w2, w3⟩ := ih n _ (k + 1) c24 _ (by omega) (by omega) (by omega) q2 (h6.fr m5 (ns _ (by decide)) (ns _ (by decide))) (g4.fr m5 (ns _ (by decide)) (ns _ (by decide))).nn m4
                    exact ⟨c25, w1, (g2'.tr m2').tr w2, w3⟩
                · rw [decide_eq_false q2, if_pos (show bI false = 0 from rfl), if_neg (fun z => q2 z.2.1)]
                  exact RD.no ⟨c20, rfl, r2⟩ rfl g2' s6 hs S0n9
  exact key 190 N 0 0 c ms (by omega) (by omega) (by omega) (by omega) h hl hsh
