/-! PURE: names -/
/-- what is behind, with so many bytes of a part before it, all dots or not -/
noncomputable def nmB : List Nat → Nat → Bool → Bool
  | [], part, dots => !(decide (part = 0) || (dots && decide (part < 3)))
  | x :: r, part, dots => if x = 47 then !(decide (part = 0) || (dots && decide (part < 3))) && nmB r 0 true else (decide (33 ≤ x) && decide (x ≤ 126)) && nmB r (part + 1) (dots && decide (x = 46))
noncomputable def nameB (l : List Nat) : Bool := decide (1 ≤ l.length) && decide (l.length ≤ 90) && nmB l 0 true
/-- the bytes from p up to i are dots -/
noncomputable def dotsB (l : List Nat) (p i : Nat) : Bool := (List.range' p (i - p)).all fun k => decide (gt l k = 46)
theorem dotsB_s {l : List Nat} {p i : Nat} (h : p ≤ i) : dotsB l p (i + 1) = (dotsB l p i && decide (gt l i = 46)) := by
  unfold dotsB
  rw [show i + 1 - p = i - p + 1 by omega, List.range'_concat]
  simp
  rw [show p + (i - p) = i by omega]
theorem dotsB_0 (l : List Nat) (p : Nat) : dotsB l p p = true := by
  unfold dotsB
  simp
theorem f_isPart {c : hS} {b p m : Nat} {l : List Nat} (h : row c b l) (hp : p + m ≤ l.length) : f_X11_isPart c b (nI p) (nI m) = some (bI (!(decide (m = 0) || (dotsB l p (p + m) && decide (m < 3)))), c) := by
  have l1 := h.lt
  unfold f_X11_isPart f_X11_isPart_39
  match m with
  | 0 => rw [if_pos nI_0]; rfl
  | 1 =>
    rw [if_neg (by decide), if_neg (by decide), f_get h (by omega), bnd_some, nI_add, nI_pred, f_get h (by omega), bnd_some]
    have b1 := h.2.2.2.gt p
    have e : dotsB l p (p + 1) = decide (gt l p = 46) := by rw [dotsB_s (Nat.le_refl _), dotsB_0, Bool.true_and]
    rw [e]
    by_cases q : gt l p = 46
    · rw [q, if_pos (show nI 46 = 46 from rfl), if_pos (show nI 46 = 46 from rfl)]; rfl
    · rw [if_neg (show ¬ nI (gt l p) = 46 from fun z => q ((nI_eq (by omega) (show 46 < 2 ^ 31 by decide)).mp z)), decide_eq_false q]
      rfl
  | 2 =>
    rw [if_neg (by decide), if_neg (by decide), f_get h (by omega), bnd_some, nI_add, nI_pred, f_get h (by omega), bnd_some]
    have b1 := h.2.2.2.gt p
    have b2 := h.2.2.2.gt (p + 1)
    have e : dotsB l p (p + 2) = (decide (gt l p = 46) && decide (gt l (p + 1) = 46)) := by rw [dotsB_s (by omega), dotsB_s (Nat.le_refl _), dotsB_0, Bool.true_and]
    rw [e]
    by_cases q : gt l p = 46
    · rw [q, if_pos (show nI 46 = 46 from rfl)]
      by_cases q2 : gt l (p + 1) = 46
      · rw [q2, if_pos (show nI 46 = 46 from rfl)]; rfl
      · rw [if_neg (show ¬ nI (gt l (p + 1)) = 46 from fun z => q2 ((nI_eq (by omega) (show 46 < 2 ^ 31 by decide)).mp z)), decide_eq_false q2]
        rfl
    · rw [if_neg (show ¬ nI (gt l p) = 46 from fun z => q ((nI_eq (by omega) (show 46 < 2 ^ 31 by decide)).mp z)), decide_eq_false q]
      rfl
  | m + 3 =>
    rw [if_neg (nI_ne0 (by omega) (by omega)), if_pos (show (2 : Int32) < nI (m + 3) from nI_lt (a := 2) (by omega) (by omega))]
    rw [decide_eq_false (show ¬ m + 3 = 0 by omega), decide_eq_false (show ¬ m + 3 < 3 by omega), Bool.and_false]
    rfl
theorem f_isName {N : Nat} {c : hS} {b : Nat} {l : List Nat} (hN : 1000000 ≤ N) (h : row c b l) : f_X11_isName N c b = some (bI (nameB l), c) := by
  have l1 := h.lt
  have l3 := h.1
  have l4 := ln_le (b + 1)
  -- one turn, at a byte x of 33 .. 126 or not
  have key : ∀ d n p i, i + d = l.length → p ≤ i → d + 1 < n → f_X11_isName_23 N b n c (nI p) (nI i) = some (bI (nmB (l.drop i) (i - p) (dotsB l p i)), c) := by
    intro d
    induction d with
    | zero =>
      intro n p i hi hp hn
      obtain ⟨n, rfl⟩ : ∃ m, n = m + 2 := ⟨n - 2, by omega⟩
      rw [f_X11_isName_23, f_size h, bnd_some, if_neg (nI_nlt (by omega) l1), f_size h, bnd_some, if_pos (nI_le (by omega) (by omega))]
      unfold f_X11_isName_49
      rw [if_neg (by decide), if_pos (by decide), if_pos (show (47 : Int32) = 47 from rfl), show nI i - nI p = nI (i - p) from by rw [show nI i = nI (i - p) + nI p by rw [nI_add]; congr 1; omega, Int32.add_sub_cancel], f_isPart h (by omega), bnd_some, List.drop_eq_nil_of_le (by omega), show p + (i - p) = i by omega]
      unfold nmB
      cases hq : (!(decide (i - p = 0) || (dotsB l p i && decide (i - p < 3)))) with
      | false => rw [if_pos (show bI false = 0 from rfl)]; rfl
      | true =>
        rw [if_neg (by decide), f_X11_isName_23, f_size h, bnd_some, nI_1, if_pos (nI_lt (by omega) (by omega))]
        rfl
    | succ d ih =>
      intro n p i hi hp hn
      obtain ⟨n, rfl⟩ : ∃ m, n = m + 1 := ⟨n - 1, by omega⟩
      have hil : i < l.length := by omega
      rw [f_X11_isName_23, f_size h, bnd_some, if_neg (nI_nlt (by omega) l1), f_size h, bnd_some, if_neg (nI_ge hil l1), f_get h (by omega), bnd_some]
      have bx := h.2.2.2.gt i
      rw [List.drop_eq_getElem_cons hil, ← gt_lt hil]
      have ed : dotsB l p (i + 1) = (dotsB l p i && decide (gt l i = 46)) := dotsB_s hp
      revert bx ed
      generalize gt l i = x
      intro bx ed
      unfold f_X11_isName_49 nmB
      by_cases x1 : x < 33
      · rw [if_pos (show nI x < 33 from nI_lt (b := 33) x1 (by decide)), if_neg (show ¬ x = 47 by omega), decide_eq_false (show ¬ 33 ≤ x by omega)]
        rfl
      · rw [if_neg (show ¬ nI x < 33 from nI_nlt (b := 33) (by omega) (by omega))]
        by_cases x2 : x ≤ 126
        · rw [if_pos (show nI x ≤ 126 from nI_le (b := 126) x2 (by decide))]
          by_cases x3 : x = 47
          · subst x3
            rw [if_pos (show nI 47 = 47 from rfl), if_pos rfl, show nI i - nI p = nI (i - p) from by rw [show nI i = nI (i - p) + nI p by rw [nI_add]; congr 1; omega, Int32.add_sub_cancel], f_isPart h (by omega), bnd_some, show p + (i - p) = i by omega]
            cases hq : (!(decide (i - p = 0) || (dotsB l p i && decide (i - p < 3)))) with
            | false => rw [if_pos (show bI false = 0 from rfl)]; rfl
            | true =>
              rw [if_neg (by decide), nI_1, ih n (i + 1) (i + 1) (by omega) (by omega) (by omega), Nat.sub_self, dotsB_0, Bool.true_and]
          · rw [if_neg (show ¬ nI x = 47 from fun z => x3 ((nI_eq (by omega) (show 47 < 2 ^ 31 by decide)).mp z)), nI_1, ih n p (i + 1) (by omega) (by omega) (by omega), if_neg x3, ed, show i + 1 - p = i - p + 1 by omega, decide_eq_true (show 33 ≤ x by omega), decide_eq_true x2]
            rfl
        · rw [if_neg (show ¬ nI x ≤ 126 from nI_ge (a := 126) (by omega) (by omega)), if_neg (show ¬ x = 47 by omega), decide_eq_false x2, Bool.and_false]
          rfl
  unfold f_X11_isName nameB
  rw [f_size h, bnd_some]
  by_cases e1 : 1 ≤ l.length
  · rw [if_neg (show ¬ nI l.length < 1 from nI_nlt (b := 1) e1 l1), f_size h, bnd_some, decide_eq_true e1, Bool.true_and]
    by_cases e2 : l.length ≤ 90
    · rw [if_pos (show nI l.length ≤ 90 from nI_le (b := 90) e2 (by decide)), decide_eq_true e2, Bool.true_and, show (0 : Int32) = nI 0 from rfl, key l.length N 0 0 (by omega) (by omega) (by omega), dotsB_0]
      rfl
    · rw [if_neg (show ¬ nI l.length ≤ 90 from nI_ge (a := 90) (by omega) l1), decide_eq_false e2]
      rfl
  · rw [if_pos (show nI l.length < 1 from nI_lt (b := 1) (by omega) (by decide)), decide_eq_false e1]
    rfl
/-! up to a multiple -/
noncomputable def upTo (n k : Nat) : Nat := (n + (k - 1)) / k * k
theorem j_rem_nI {a b : Nat} (ha : a < 2 ^ 31) (hb : b < 2 ^ 31) (h0 : 0 < b) : j_rem (nI a) (nI b) = nI (a % b) := by
  unfold j_rem
  have h1 : nI a / nI b = nI (a / b) := by
    apply Int32.toInt_inj.mp
    rw [Int32.toInt_div, nI_toInt ha, nI_toInt hb, nI_toInt (Nat.lt_of_le_of_lt (Nat.div_le_self _ _) ha)]
    have e : ((a : Int).tdiv (b : Int)) = ((a / b : Nat) : Int) := by
      rw [Int.tdiv_eq_ediv_of_nonneg (by omega)]
      rfl
    rw [e]
    have := Nat.div_le_self a b
    generalize a / b = q at this ⊢
    apply Int.bmod_eq_of_le <;> omega
  rw [h1, nI_mul]
  have e := Nat.div_add_mod a b
  have : nI a = nI (a % b) + nI (a / b * b) := by rw [nI_add]; congr 1; rw [Nat.mul_comm]; omega
  rw [this, Int32.add_sub_cancel]
theorem upTo_eq {a b : Nat} (h0 : 0 < b) : upTo a b = if a % b = 0 then a else a - a % b + b := by
  have e := Nat.div_add_mod a b
  have l := Nat.mod_lt a h0
  unfold upTo
  split
  · rename_i q
    have : (a + (b - 1)) / b = a / b := by
      have : a + (b - 1) = (b - 1) + b * (a / b) := by omega
      rw [this, Nat.add_mul_div_left _ _ h0, Nat.div_eq_of_lt (by omega)]
      omega
    rw [this, Nat.mul_comm]
    omega
  · rename_i q
    have : (a + (b - 1)) / b = a / b + 1 := by
      have : a + (b - 1) = (a % b - 1) + b * (a / b + 1) := by rw [Nat.mul_add]; omega
      rw [this, Nat.add_mul_div_left _ _ h0, Nat.div_eq_of_lt (by omega)]
      omega
    rw [this, Nat.mul_comm, Nat.mul_add]
    omega
theorem f_roundedUp {c : hS} {a b : Nat} (ha : a < 2 ^ 30) (hb : b < 2 ^ 30) (h0 : 0 < b) : f_X11_roundedUp c (nI a) (nI b) = some (nI (upTo a b), c) := by
  unfold f_X11_roundedUp f_X11_roundedUp_12
  rw [if_pos (show (1 : Int32) ≤ nI b from nI_le (a := 1) h0 (by omega)), if_neg (nI_ne0 h0 (by omega)), j_rem_nI (by omega) (by omega) h0, upTo_eq h0]
  have l := Nat.mod_lt a h0
  have l2 := Nat.mod_le a b
  by_cases e : a % b = 0
  · rw [e, if_pos nI_0, if_pos rfl]
  · rw [if_neg (nI_ne0 (by omega) (by omega)), if_neg e]
    have : nI a = nI (a - a % b) + nI (a % b) := by rw [nI_add]; congr 1; omega
    rw [this, Int32.add_sub_cancel, nI_add]
