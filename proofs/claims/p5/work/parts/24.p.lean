/-! PURE: the class reads: tests that tell a FAULT -/
/-- a test: when it holds nothing has changed, when not, no more than S -/
noncomputable def RB (X : Option (Int32 × hS)) (c : hS) (S : List Nat) (b : Bool) : Prop := ∃ c', X = some (bI b, c') ∧ fr S c c' ∧ (b = true → c' = c)
theorem RB.yes {c : hS} {S : List Nat} : RB (some (1, c)) c S true := ⟨c, rfl, fr.rf, fun _ => rfl⟩
theorem RB.tell {c : hS} {a p : Int32} : RB (f_X6_tell c a p) c [9] false := ⟨_, rfl, (fr.sI (by simp)).tr (fr.sI (by simp)), fun h => by cases h⟩
theorem RB.and_ {A : Option (Int32 × hS)} {B : hS → Option (Int32 × hS)} {c : hS} {S : List Nat} {a b : Bool} (hA : RB A c S a) (hB : a = true → RB (B c) c S b) : RB (bnd A fun x c2 => if x = 0 then some (0, c2) else B c2) c S (a && b) := by
  obtain ⟨c1, e1, f1, g1⟩ := hA
  cases a with
  | false =>
    refine ⟨c1, ?_, f1, fun h => by cases h⟩
    rw [e1, bnd_some, if_pos (show bI false = 0 from rfl)]
    rfl
  | true =>
    cases g1 rfl
    obtain ⟨c2, e2, f2, g2⟩ := hB rfl
    refine ⟨c2, ?_, f2, fun h => g2 (by simpa using h)⟩
    rw [e1, bnd_some, if_neg (by decide), e2, Bool.true_and]
theorem RB.last_ {A : Option (Int32 × hS)} {c : hS} {S : List Nat} {a : Bool} (hA : RB A c S a) : RB (bnd A fun x c2 => if x = 0 then some (0, c2) else some (1, c2)) c S a := by
  have := RB.and_ (B := fun c2 => some (1, c2)) (b := true) hA (fun _ => RB.yes)
  rwa [Bool.and_true] at this
/-- or a FAULT -/
theorem RB.or_ {A : Option (Int32 × hS)} {c : hS} {a : Bool} {f p : Int32} (hA : ∃ c', A = some (bI a, c') ∧ c' = c) : RB (bnd A fun x c2 => if x = 0 then bnd (f_X6_tell c2 f p) fun x c4 => if x = 0 then some (0, c4) else some (1, c4) else some (1, c2)) c [9] a := by
  obtain ⟨c1, e1, rfl⟩ := hA
  rw [e1, bnd_some]
  cases a with
  | false => rw [if_pos (show bI false = 0 from rfl)]; exact RB.last_ RB.tell
  | true => rw [if_neg (by decide)]; exact RB.yes
theorem RB.if_ {p : Prop} [Decidable p] {c : hS} {S : List Nat} {a b : Bool} {X Y : Option (Int32 × hS)} (h1 : p → RB X c S a) (h2 : ¬ p → RB Y c S b) : RB (if p then X else Y) c S (if p then a else b) := by
  by_cases h : p
  · rw [if_pos h, if_pos h]; exact h1 h
  · rw [if_neg h, if_neg h]; exact h2 h
theorem RB.tellb {c : hS} {a p : Int32} : RB (bnd (f_X6_tell c a p) fun x c2 => bif j_b x then some (x, c2) else none) c [9] false := RB.tell
theorem f_reaches {c : hS} {t : List Nat} {k : Nat} (h : row c 3 t) (hk : k < 2 ^ 31) : RB (f_X0_reaches c (nI k)) c [9] (decide (k ≤ t.length)) := by
  unfold f_X0_reaches
  rw [f_size h, bnd_some]
  by_cases e : k ≤ t.length
  · rw [if_pos (nI_le e h.lt), decide_eq_true e]; exact RB.yes
  · rw [if_neg (nI_ge (by omega) hk), decide_eq_false e, f_size h, bnd_some]; exact RB.last_ RB.tell
noncomputable def mkB (t : List Nat) (p : Nat) (m : List Nat) : Bool := (List.range' 0 m.length).all fun i => decide (gt t (p + i) = gt m i)
theorem f_isMarked {N : Nat} {c : hS} {t m : List Nat} {w : List Int32} {p : Nat} {f : Int32} (hN : 1000000 ≤ N) (h : row c 3 t) (hp : p < 2 ^ 30) (hw : w = m.map nI) (hm : byt m) (hl : m.length < 100) : RB (f_X0_isMarked N c (nI p) w f) c [9] (mkB t p m) := by
  have tl : w.length = m.length := by rw [hw]; simp
  have tg : ∀ k, k < m.length → w.getD k 0 = nI (gt m k) := by
    intro k hk
    rw [hw, List.getD_eq_getElem?_getD, List.getElem?_eq_getElem (by simpa using hk), gt_lt hk]
    simp
  refine all_loop (F := f_X0_isMarked_3 N (nI p) w f) (c := c) (j := m.length) (P := fun k => decide (gt t (p + k) = gt m k)) (fun n k hk => ?_) (fun n => ?_) m.length N 0 (by omega) (by omega)
  · have e1 := h.2.2.2.gt (p + k)
    have e2 := hm.gt k
    rw [f_X0_isMarked_3, ofNat_nI, tl, if_neg (nI_ge hk (by omega)), nI_add, f_get h (by omega), bnd_some, j_in_nI hk (by omega), cond_true, nI_clamp (by omega), tg k hk]
    constructor
    · intro q
      rw [of_decide_eq_true q, if_pos rfl]
    · intro q
      rw [if_neg (fun z => (of_decide_eq_false q) ((nI_eq (by omega) (by omega)).mp z))]
      obtain ⟨c', a1, a2, _⟩ := RB.tellb (c := c) (a := f) (p := nI (p + k))
      exact ⟨c', a1, a2⟩
  · rw [f_X0_isMarked_3, ofNat_nI, tl, if_pos (nI_le (Nat.le_refl _) (by omega))]
noncomputable def zerB (t : List Nat) (p : Nat) : Bool := (List.range' p (t.length - p)).all fun i => decide (gt t i = 0)
theorem f_isZeroFrom {N : Nat} {c : hS} {t : List Nat} {p : Nat} (hN : 1000000 ≤ N) (h : row c 3 t) (hp : p ≤ t.length) : RB (f_X0_isZeroFrom N c (nI p)) c [9] (zerB t p) := by
  have hln : t.length ≤ 20000 := h.1
  refine all_loop (F := f_X0_isZeroFrom_2 N (nI p)) (c := c) (j := t.length) (P := fun k => decide (gt t k = 0)) (fun n k hk => ?_) (fun n => ?_) (t.length - p) N p (by omega) (by omega)
  · have e1 := h.2.2.2.gt k
    rw [f_X0_isZeroFrom_2, f_size h, bnd_some, if_neg (nI_ge hk h.lt), f_get h (by omega), bnd_some]
    constructor
    · intro q
      rw [of_decide_eq_true q, if_pos nI_0]
    · intro q
      rw [if_neg (nI_ne0 (by have := of_decide_eq_false q; omega) (by omega))]
      obtain ⟨c', a1, a2, _⟩ := RB.tellb (c := c) (a := 2) (p := nI k)
      exact ⟨c', a1, a2⟩
  · rw [f_X0_isZeroFrom_2, f_size h, bnd_some, if_pos (nI_le (Nat.le_refl _) h.lt)]
theorem f_isNamed {N : Nat} {c : hS} {l : List Nat} {p : Int32} (hN : 1000000 ≤ N) (h : row c 5 l) : RB (f_X0_isNamed N c p) c [9] (nameB l) := by
  unfold f_X0_isNamed
  exact RB.or_ ⟨c, f_isName hN h, rfl⟩
/-- may the member come -/
noncomputable def mayB (ms : List Mb) (t : List Nat) (d : Bool) : Bool := !ms.any (wayB t d) && (decide (ms.length < 16) || ms.any fun x => decide (x.1 = t))
theorem f_arrives {N : Nat} {c : hS} {s r i j : Nat} {ms : List Mb} {t g : List Nat} {d : Bool} {p : Int32} (hN : 1000000 ≤ N) (h : shf c s ms) (hs : s = 37 ∨ s = 119) (hb : row c 5 t) (hr : row c r g) (hr0 : r + 1 < 37) (ht : t.length ≤ 90) (hij : i ≤ j) (hj : j ≤ g.length) (hji : j - i ≤ 400) :
    ∃ c', f_X0_arrives N c s (bI d) r (nI i) (nI j) p = some (bI (mayB ms t d), c') ∧ fr (9 :: shR s) c c' ∧ (mayB ms t d = true → shf c' s (comeM ms (t, (g.drop i).take (j - i), d)) ∧ fr (shR s) c c') ∧ (mayB ms t d = false → fr [9] c c') := by
  unfold f_X0_arrives mayB
  rw [f_isInTheWay hN h hs hb, bnd_some]
  have tell : ∀ {b : Bool}, b = false → ∃ c', f_X0_arrives_23 N s (bI d) r (nI i) (nI j) p c = some (bI b, c') ∧ fr (9 :: shR s) c c' ∧ (b = true → shf c' s (comeM ms (t, (g.drop i).take (j - i), d)) ∧ fr (shR s) c c') ∧ (b = false → fr [9] c c') := by
    intro b hb
    subst hb
    obtain ⟨c', a1, a2, _⟩ := RB.tellb (c := c) (a := 11) (p := p)
    exact ⟨c', a1, a2.mono (fun o ho => by simp at ho; simp [ho]), (fun h => by cases h), fun _ => a2⟩
  cases hw : ms.any (wayB t d) with
  | true => rw [if_neg (by decide)]; exact tell rfl
  | false =>
    rw [if_pos (show bI false = 0 from rfl), f_hasRoomFor hN h hs hb, bnd_some]
    cases hm : (decide (ms.length < 16) || ms.any fun x => decide (x.1 = t)) with
    | false => rw [if_pos (show bI false = 0 from rfl)]; exact tell rfl
    | true =>
      rw [if_neg (by decide)]
      have hms : ms.length < 16 ∨ ∃ x ∈ ms, x.1 = t := by
        rcases Bool.or_eq_true _ _ |>.mp hm with q | q
        · exact Or.inl (of_decide_eq_true q)
        · obtain ⟨x, h1, h2⟩ := List.any_eq_true.mp q
          exact Or.inr ⟨x, h1, of_decide_eq_true h2⟩
      obtain ⟨c', e1, e2, e3⟩ := f_take (d := d) hN h hs hb hr (by omega) (by omega) ht hij hj hji hms
      rw [e1, bnd_some]
      exact ⟨c', rfl, e3.mono (fun o ho => List.mem_cons_of_mem _ ho), fun _ => ⟨e2, e3⟩, fun z => absurd z (by decide)⟩
/-! kind 0 -/
noncomputable def emB (t : List Nat) (p : Nat) : Bool := (List.range' 0 512).all fun i => decide (gt t (p + i) = 0)
theorem f_isEmptyBlock {N : Nat} {c : hS} {t : List Nat} {p : Nat} (hN : 1000000 ≤ N) (h : row c 3 t) (hp : p < 2 ^ 30) : f_X1_isEmptyBlock N c (nI p) = some (bI (emB t p), c) := by
  refine all_loop0 (F := f_X1_isEmptyBlock_2 N (nI p)) (c := c) (j := 512) (P := fun k => decide (gt t (p + k) = 0)) (fun n k hk => ?_) (fun n => ?_) (d := 512) (n := N) (k := 0) (by omega) (by omega)
  · have e1 := h.2.2.2.gt (p + k)
    rw [f_X1_isEmptyBlock_2, if_neg (show ¬ (512 : Int32) ≤ nI k from nI_ge (b := 512) hk (by decide)), nI_add, f_get h (by omega), bnd_some]
    by_cases e : gt t (p + k) = 0
    · rw [e, if_pos nI_0, if_pos (by rfl)]
    · rw [if_neg (nI_ne0 (by omega) (by omega)), if_neg (by simpa using e)]
  · rw [f_X1_isEmptyBlock_2, if_pos (by decide)]
/-- n octal digits -/
noncomputable def digB (t : List Nat) (p n : Nat) : Bool := (List.range' p n).all fun i => decide (48 ≤ gt t i) && decide (gt t i ≤ 55)
theorem f_areDigits {N : Nat} {c : hS} {t : List Nat} {p n : Nat} {f : Int32} (hN : 1000000 ≤ N) (h : row c 3 t) (hp : p < 2 ^ 30) (hn : n < 100) : RB (f_X1_areDigits N c (nI p) (nI n) f) c [9] (digB t p n) := by
  refine all_loop (F := f_X1_areDigits_3 N (nI p) (nI n) f) (c := c) (j := p + n) (P := fun i => decide (48 ≤ gt t i) && decide (gt t i ≤ 55)) (fun n' k hk => ?_) (fun n' => ?_) n N p (by omega) (by omega)
  · have e1 := h.2.2.2.gt k
    rw [f_X1_areDigits_3, nI_add, if_neg (nI_ge hk (by omega)), f_get h (by omega), bnd_some]
    obtain ⟨c', a1, a2, _⟩ := RB.tellb (c := c) (a := f) (p := nI k)
    by_cases e2 : 48 ≤ gt t k
    · rw [if_neg (show ¬ nI (gt t k) < 48 from nI_nlt (b := 48) e2 (by omega)), f_get h (by omega), bnd_some]
      by_cases e3 : gt t k ≤ 55
      · rw [if_pos (show nI (gt t k) ≤ 55 from nI_le (b := 55) e3 (by decide))]
        exact ⟨fun _ => rfl, fun q => by simp [e2, e3] at q⟩
      · rw [if_neg (show ¬ nI (gt t k) ≤ 55 from nI_ge (a := 55) (by omega) (by omega))]
        exact ⟨fun q => by simp [e3] at q, fun _ => ⟨c', a1, a2⟩⟩
    · rw [if_pos (show nI (gt t k) < 48 from nI_lt (b := 48) (by omega) (by decide))]
      exact ⟨fun q => by simp [e2] at q, fun _ => ⟨c', a1, a2⟩⟩
  · rw [f_X1_areDigits_3, nI_add, if_pos (nI_le (Nat.le_refl _) (by omega))]
noncomputable def octB (t : List Nat) (p n : Nat) : Bool := digB t p (n - 1) && decide (gt t (p + n - 1) = 0)
theorem f_isOctal {N : Nat} {c : hS} {t : List Nat} {p n : Nat} (hN : 1000000 ≤ N) (h : row c 3 t) (hp : p < 2 ^ 30) (hn : n < 100) (h1 : 1 ≤ n) : RB (f_X1_isOctal N c (nI p) (nI n)) c [9] (octB t p n) := by
  unfold f_X1_isOctal octB
  rw [show nI n - 1 = nI (n - 1) from subI (b := 1) h1, show nI p + nI n - 1 = nI (p + n - 1) by rw [nI_add]; exact subI (b := 1) (by omega)]
  refine RB.and_ (B := fun c2 => bnd (f_X2_get c2 3 (nI (p + n - 1))) fun x3 c4 => if x3 = 0 then some (1, c4) else bnd (f_X6_tell c4 6 (nI (p + n - 1))) fun x5 c6 => if x5 = 0 then some (0, c6) else some (1, c6)) (f_areDigits hN h hp (by omega)) (fun _ => ?_)
  have e1 := h.2.2.2.gt (p + n - 1)
  try dsimp only
  rw [f_get h (by omega), bnd_some]
  by_cases e : gt t (p + n - 1) = 0
  · rw [e, if_pos nI_0]; exact RB.yes
  · rw [if_neg (nI_ne0 (by omega) (by omega)), decide_eq_false e]; exact RB.last_ RB.tell
/-- the number that octal digits tell -/
noncomputable def octV (t : List Nat) : Nat → Nat → Nat → Nat
  | _, 0, v => v
  | p, n + 1, v => octV t (p + 1) n (v * 8 + gt t p % 8)
theorem octV_lt {t : List Nat} : ∀ {n p v : Nat}, octV t p n v < (v + 1) * 8 ^ n
  | 0, p, v => by simp [octV]
  | n + 1, p, v => by
    have h1 := octV_lt (t := t) (n := n) (p := p + 1) (v := v * 8 + gt t p % 8)
    have h2 := Nat.mod_lt (gt t p) (show 0 < 8 by decide)
    have h3 : (v * 8 + gt t p % 8 + 1) * 8 ^ n ≤ ((v + 1) * 8) * 8 ^ n := Nat.mul_le_mul_right _ (by omega)
    unfold octV
    rw [Nat.pow_succ, show (v + 1) * (8 ^ n * 8) = (v + 1) * 8 * 8 ^ n by rw [Nat.mul_assoc, Nat.mul_comm 8]]
    omega
theorem f_octal {N : Nat} {c : hS} {t : List Nat} {p n : Nat} (hN : 1000000 ≤ N) (h : row c 3 t) (hp : p < 2 ^ 30) (hn : n ≤ 12) : f_X1_octal N c (nI p) (nI n) = some (lN (octV t p n 0), c) := by
  have key : ∀ d n' k v, k + d = p + n → d < n' → v < 8 ^ (n - d) → d ≤ n → f_X1_octal_5 N (nI p) (nI n) n' c (lN v) (nI k) = some (lN (octV t k d v), c) := by
    intro d
    induction d with
    | zero =>
      intro n' k v hk hn' hv hdn
      obtain ⟨n', rfl⟩ : ∃ m, n' = m + 1 := ⟨n' - 1, by omega⟩
      rw [f_X1_octal_5, nI_add, if_pos (nI_le (by omega) (by omega))]
      rfl
    | succ d ih =>
      intro n' k v hk hn' hv hdn
      obtain ⟨n', rfl⟩ : ∃ m, n' = m + 1 := ⟨n' - 1, by omega⟩
      have hm := Nat.mod_lt (gt t k) (show 0 < 8 by decide)
      have hv2 : v < 2 ^ 36 := Nat.lt_of_lt_of_le hv (by
        rw [show (2 : Nat) ^ 36 = 8 ^ 12 from rfl]
        exact Nat.pow_le_pow_right (by decide) (by omega))
      rw [f_X1_octal_5, nI_add, if_neg (nI_ge (by omega) (by omega)), f_get h (by omega), bnd_some, and7, show (3 : Int32) = nI 3 from rfl, lshl_lN v (by decide), nI_l (by omega), wb_or (by omega) (by omega), or_add (k := 3) (by omega), nI_1]
      unfold octV
      refine ih n' (k + 1) (v * 8 + gt t k % 8) (by omega) (by omega) ?_ (by omega)
      rw [show n - d = n - (d + 1) + 1 by omega, Nat.pow_succ]
      omega
  unfold f_X1_octal
  rw [show (0 : Int64) = lN 0 from rfl]
  exact key n N p 0 rfl (by omega) (by rw [Nat.sub_self]; decide) (Nat.le_refl _)
theorem lN_big {a : Nat} (h : a < 2 ^ 63) : (lN a).toInt = (a : Int) := lg_ofNat_toInt h
theorem cmp_eq {a b : Nat} (ha : a < 2 ^ 63) (hb : b < 2 ^ 63) : (j_cmp (lN a) (lN b) = 0) = (a = b) := by
  unfold j_cmp
  have e1 : lN a > lN b ↔ b < a := by rw [gt_iff_lt, Int64.lt_iff_toInt_lt, lN_big ha, lN_big hb]; omega
  have e2 : lN a = lN b ↔ a = b := by rw [← Int64.toInt_inj, lN_big ha, lN_big hb]; omega
  apply propext
  by_cases h1 : b < a
  · rw [if_pos (e1.mpr h1)]; exact ⟨fun h => absurd h (by decide), fun h => by omega⟩
  · rw [if_neg (fun q => h1 (e1.mp q))]
    by_cases h2 : a = b
    · rw [if_pos (e2.mpr h2)]; exact ⟨fun _ => by omega, fun _ => by decide⟩
    · rw [if_neg (fun q => h2 (e2.mp q))]; exact ⟨fun h => by first | omega | exact absurd h (by decide), fun h => by first | exact absurd h h2 | decide⟩
theorem cmp_le {a b : Nat} (ha : a < 2 ^ 63) (hb : b < 2 ^ 63) : (j_cmp (lN a) (lN b) ≤ 0) = (a ≤ b) := by
  unfold j_cmp
  have e1 : lN a > lN b ↔ b < a := by rw [gt_iff_lt, Int64.lt_iff_toInt_lt, lN_big ha, lN_big hb]; omega
  have e2 : lN a = lN b ↔ a = b := by rw [← Int64.toInt_inj, lN_big ha, lN_big hb]; omega
  apply propext
  by_cases h1 : b < a
  · rw [if_pos (e1.mpr h1)]; exact ⟨fun h => absurd h (by decide), fun h => by omega⟩
  · rw [if_neg (fun q => h1 (e1.mp q))]
    by_cases h2 : a = b
    · rw [if_pos (e2.mpr h2)]; exact ⟨fun _ => by omega, fun _ => by decide⟩
    · rw [if_neg (fun q => h2 (e2.mp q))]; exact ⟨fun h => by first | omega | exact absurd h (by decide), fun h => by first | exact absurd h h2 | decide⟩
noncomputable def smB (t : List Nat) (p : Nat) : Bool := digB t (p + 148) 6 && (decide (gt t (p + 154) = 0) && (decide (gt t (p + 155) = 32) && decide (octV t (p + 148) 6 0 = sumW t p 512)))
theorem f_isSummed {N : Nat} {c : hS} {t : List Nat} {p : Nat} (hN : 1000000 ≤ N) (h : row c 3 t) (hp : p < 2 ^ 29) : RB (f_X1_isSummed N c (nI p)) c [9] (smB t p) := by
  have e1 := h.2.2.2.gt (p + 154)
  have e2 := h.2.2.2.gt (p + 155)
  have o1 := octV_lt (t := t) (n := 6) (p := p + 148) (v := 0)
  have s1 := sumW_le h.2.2.2 p 512
  unfold f_X1_isSummed smB
  rw [show nI p + 148 = nI (p + 148) from nI_add p 148, show nI (p + 148) + 6 = nI (p + 154) from nI_add (p + 148) 6, show nI (p + 148) + 7 = nI (p + 155) from nI_add (p + 148) 7]
  refine RB.and_ (B := fun c2 => bnd (f_X2_get c2 3 (nI (p + 154))) fun x3 c4 => if x3 = 0 then bnd (f_X2_get c4 3 (nI (p + 155))) fun x5 c6 => if x5 = 32 then bnd (f_X1_octal N c6 (nI (p + 148)) 6) fun x7 c8 => bnd (f_X1_sumOf N c8 (nI p)) fun x9 c10 => if j_cmp x7 x9.toInt64 = 0 then some (1, c10) else bnd (f_X6_tell c10 4 (nI (p + 148))) fun x11 c12 => if x11 = 0 then some (0, c12) else some (1, c12) else bnd (f_X6_tell c6 3 (nI (p + 155))) fun x13 c14 => bif j_b x13 then some (x13, c14) else none else bnd (f_X6_tell c4 3 (nI (p + 154))) fun x15 c16 => bif j_b x15 then some (x15, c16) else none) (f_areDigits (n := 6) hN h (by omega) (by decide)) (fun _ => ?_)
  try dsimp only
  rw [f_get h (by omega), bnd_some]
  by_cases q1 : gt t (p + 154) = 0
  · rw [q1, if_pos nI_0, f_get h (by omega), bnd_some, decide_eq_true (rfl : (0 : Nat) = 0), Bool.true_and]
    by_cases q2 : gt t (p + 155) = 32
    · rw [q2, if_pos (show nI 32 = 32 from rfl), decide_eq_true (rfl : (32 : Nat) = 32), Bool.true_and, show (6 : Int32) = nI 6 from rfl, f_octal hN h (by omega) (by decide), bnd_some, f_sumOf hN h (by omega), bnd_some, nI_l (by omega)]
      by_cases q3 : octV t (p + 148) 6 0 = sumW t p 512
      · rw [if_pos (by rw [cmp_eq (by omega) (by omega)]; exact q3), decide_eq_true q3]; exact RB.yes
      · rw [if_neg (by rw [cmp_eq (by omega) (by omega)]; exact q3), decide_eq_false q3]; exact RB.last_ RB.tell
    · rw [if_neg (show ¬ nI (gt t (p + 155)) = 32 from fun z => q2 ((nI_eq (by omega) (show 32 < 2 ^ 31 by decide)).mp z)), decide_eq_false q2]; exact RB.tellb
  · rw [if_neg (nI_ne0 (by omega) (by omega)), decide_eq_false q1]; exact RB.tellb
noncomputable def soB (t : List Nat) (p : Nat) : Bool := (decide (gt t (p + 156) = 48) || (decide (gt t (p + 156) = 0) || decide (gt t (p + 156) = 53))) && decide (octV t (p + 124) 11 0 ≤ if gt t (p + 156) = 53 then 0 else 400)
theorem f_isSorted {N : Nat} {c : hS} {t : List Nat} {p : Nat} (hN : 1000000 ≤ N) (h : row c 3 t) (hp : p < 2 ^ 29) : RB (f_X1_isSorted N c (nI p)) c [9] (soB t p) := by
  have e1 := h.2.2.2.gt (p + 156)
  have o1 := octV_lt (t := t) (n := 11) (p := p + 124) (v := 0)
  have s57 : ∀ (k : Nat), k < 1000 → RB (f_X1_isSorted_57 N (nI p) c (nI k)) c [9] (decide (octV t (p + 124) 11 0 ≤ k)) := by
    intro k hk
    unfold f_X1_isSorted_57
    rw [show nI p + 124 = nI (p + 124) from nI_add p 124, show (11 : Int32) = nI 11 from rfl, f_octal hN h (by omega) (by decide), bnd_some, nI_l (by omega)]
    by_cases q : octV t (p + 124) 11 0 ≤ k
    · rw [if_pos (by rw [cmp_le (by omega) (by omega)]; exact q), decide_eq_true q]; exact RB.yes
    · rw [if_neg (by rw [cmp_le (by omega) (by omega)]; exact q), decide_eq_false q]; exact RB.last_ RB.tell
  have s44 : RB (f_X1_isSorted_44 N (nI p) c (nI (gt t (p + 156)))) c [9] (decide (octV t (p + 124) 11 0 ≤ if gt t (p + 156) = 53 then 0 else 400)) := by
    unfold f_X1_isSorted_44
    by_cases q : gt t (p + 156) = 53
    · rw [q, if_pos (show nI 53 = 53 from rfl), if_pos rfl]; exact s57 0 (by decide)
    · rw [if_neg (show ¬ nI (gt t (p + 156)) = 53 from fun z => q ((nI_eq (by omega) (show 53 < 2 ^ 31 by decide)).mp z)), if_neg q]; exact s57 400 (by decide)
  unfold f_X1_isSorted soB
  rw [show nI p + 156 = nI (p + 156) from nI_add p 156, f_get h (by omega), bnd_some]
  by_cases q1 : gt t (p + 156) = 48
  · rw [if_pos (show nI (gt t (p + 156)) = 48 by rw [q1]; rfl), decide_eq_true q1]; simpa using s44
  · rw [if_neg (show ¬ nI (gt t (p + 156)) = 48 from fun z => q1 ((nI_eq (by omega) (show 48 < 2 ^ 31 by decide)).mp z)), decide_eq_false q1, Bool.false_or]
    by_cases q2 : gt t (p + 156) = 0
    · rw [if_pos (show nI (gt t (p + 156)) = 0 by rw [q2]; rfl), decide_eq_true q2]; simpa using s44
    · rw [if_neg (nI_ne0 (by omega) (by omega)), decide_eq_false q2, Bool.false_or]
      by_cases q3 : gt t (p + 156) = 53
      · rw [if_pos (show nI (gt t (p + 156)) = 53 by rw [q3]; rfl), decide_eq_true q3]; simpa using s44
      · rw [if_neg (show ¬ nI (gt t (p + 156)) = 53 from fun z => q3 ((nI_eq (by omega) (show 53 < 2 ^ 31 by decide)).mp z)), decide_eq_false q3]; exact RB.tellb
noncomputable def mk0 : List Nat := [117, 115, 116, 97, 114, 0, 48, 48]
noncomputable def hdB (t : List Nat) (p : Nat) : Bool := smB t p && (mkB t (p + 257) mk0 && (octB t (p + 100) 8 && (octB t (p + 108) 8 && (octB t (p + 116) 8 && (octB t (p + 124) 12 && (octB t (p + 136) 12 && soB t p))))))
theorem f_isHead0 {N : Nat} {c : hS} {t : List Nat} {p : Nat} (hN : 1000000 ≤ N) (h : row c 3 t) (hp : p < 2 ^ 29) : RB (f_X1_isHead N c (nI p)) c [9] (hdB t p) := by
  unfold f_X1_isHead hdB
  refine RB.and_ (f_isSummed hN h hp) (fun _ => ?_)
  rw [show nI p + 257 = nI (p + 257) from nI_add p 257, show nI p + 100 = nI (p + 100) from nI_add p 100, show nI p + 108 = nI (p + 108) from nI_add p 108, show nI p + 116 = nI (p + 116) from nI_add p 116, show nI p + 124 = nI (p + 124) from nI_add p 124, show nI p + 136 = nI (p + 136) from nI_add p 136]
  refine RB.and_ (f_isMarked (m := mk0) hN h (by omega) (by decide) (show byt mk0 from (by decide : ∀ x ∈ mk0, x < 256)) (by decide)) (fun _ => ?_)
  refine RB.and_ (f_isOctal (n := 8) hN h (by omega) (by decide) (by decide)) (fun _ => ?_)
  refine RB.and_ (f_isOctal (n := 8) hN h (by omega) (by decide) (by decide)) (fun _ => ?_)
  refine RB.and_ (f_isOctal (n := 8) hN h (by omega) (by decide) (by decide)) (fun _ => ?_)
  refine RB.and_ (f_isOctal (n := 12) hN h (by omega) (by decide) (by decide)) (fun _ => ?_)
  refine RB.and_ (f_isOctal (n := 12) hN h (by omega) (by decide) (by decide)) (fun _ => ?_)
  exact RB.last_ (f_isSorted hN h hp)
