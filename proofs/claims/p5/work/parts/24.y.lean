/-! PURE: the class reads kind 2 -/
/-- a test that leaves something when it holds -/
noncomputable def RE (X : Option (Int32 × hS)) (c : hS) (S : List Nat) (b : Bool) (P : hS → Prop) : Prop := ∃ c', X = some (bI b, c') ∧ fr S c c' ∧ (b = true → P c')
theorem RE.of {X : Option (Int32 × hS)} {c : hS} {S : List Nat} {b : Bool} (h : RB X c [9] b) (hS : 9 ∈ S) : RE X c S b (fun c1 => c1 = c) := by
  obtain ⟨c', e, f, g⟩ := h
  exact ⟨c', e, f.mono (fun o ho => by simp at ho; rw [ho]; exact hS), g⟩
theorem RE.yes {c : hS} {S : List Nat} {P : hS → Prop} (h : P c) : RE (some (1, c)) c S true P := ⟨c, rfl, fr.rf, fun _ => h⟩
theorem RE.and_ {A : Option (Int32 × hS)} {B : hS → Option (Int32 × hS)} {c : hS} {S : List Nat} {a b : Bool} {P R : hS → Prop} (hA : RE A c S a P) (hB : ∀ c1, a = true → fr S c c1 → P c1 → RE (B c1) c1 S b R) : RE (bnd A fun x c2 => if x = 0 then some (0, c2) else B c2) c S (a && b) R := by
  obtain ⟨c1, e1, f1, g1⟩ := hA
  cases a with
  | false =>
    refine ⟨c1, ?_, f1, fun h => by cases h⟩
    rw [e1, bnd_some, if_pos (show bI false = 0 from rfl)]
    rfl
  | true =>
    obtain ⟨c2, e2, f2, g2⟩ := hB c1 rfl f1 (g1 rfl)
    refine ⟨c2, ?_, f1.tr f2, fun h => g2 (by simpa using h)⟩
    rw [e1, bnd_some, if_neg (by decide), e2, Bool.true_and]
theorem RE.last_ {A : Option (Int32 × hS)} {c : hS} {S : List Nat} {a : Bool} {P : hS → Prop} (hA : RE A c S a P) : RE (bnd A fun x c2 => if x = 0 then some (0, c2) else some (1, c2)) c S a P := by
  have := RE.and_ (B := fun c2 => some (1, c2)) (b := true) hA (fun c1 _ _ h => RE.yes h)
  rwa [Bool.and_true] at this
theorem RE.tb {c : hS} {S : List Nat} {a p : Int32} {P : hS → Prop} (hS : 9 ∈ S) : RE (bnd (f_X6_tell c a p) fun x c2 => bif j_b x then some (x, c2) else none) c S false P := by
  obtain ⟨c', e, f, _⟩ := RB.tellb (c := c) (a := a) (p := p)
  exact ⟨c', e, f.mono (fun o ho => by simp at ho; rw [ho]; exact hS), fun h => by cases h⟩
theorem RE.tl {c : hS} {S : List Nat} {a p : Int32} {P : hS → Prop} (hS : 9 ∈ S) : RE (bnd (f_X6_tell c a p) fun x c2 => if x = 0 then some (0, c2) else some (1, c2)) c S false P := by
  obtain ⟨c', e, f, _⟩ := RB.last_ (RB.tell (c := c) (a := a) (p := p))
  exact ⟨c', e, f.mono (fun o ho => by simp at ho; rw [ho]; exact hS), fun h => by cases h⟩
theorem RE.if_ {p q : Prop} [Decidable p] [Decidable q] {c : hS} {S : List Nat} {b : Bool} {X Y : Option (Int32 × hS)} {P : hS → Prop} (hpq : p ↔ q) (h1 : q → RE X c S b P) (h2 : RE Y c S false P) : RE (if p then X else Y) c S (decide q && b) P := by
  by_cases h : q
  · rw [if_pos (hpq.mpr h), decide_eq_true h, Bool.true_and]; exact h1 h
  · rw [if_neg (fun z => h (hpq.mp z)), decide_eq_false h]; exact h2
theorem RE.set {c : hS} {S : List Nat} {b : Bool} {j : Nat} {x : Int32} {K : hS → Option (Int32 × hS)} {P : hS → Prop} (hS : 36 ∈ S) (h : RE (K (sI c 36 j x)) (sI c 36 j x) S b P) : RE (st1 (sI c 36 j x) K) c S b P := by
  obtain ⟨c', e, f, g⟩ := h
  exact ⟨c', e, (fr.sI hS).tr f, g⟩
theorem RE.eqb {X : Option (Int32 × hS)} {c : hS} {S : List Nat} {a b : Bool} {P : hS → Prop} (h : RE X c S a P) (e : a = b) : RE X c S b P := by rw [← e]; exact h
theorem i_iff {a b : Nat} {x y : Int32} (hx : x = nI a) (hy : y = nI b) (ha : a < 2 ^ 31) (hb : b < 2 ^ 31) : x ≤ y ↔ a ≤ b := by rw [hx, hy]; exact nI_leI ha hb
theorem cmp_le' {a b : Nat} {x y : Int64} (hx : x = lN a) (hy : y = lN b) (ha : a < 2 ^ 63) (hb : b < 2 ^ 63) : j_cmp x y ≤ 0 ↔ a ≤ b := by rw [hx, hy, cmp_le ha hb]
theorem cmp_eq' {a b : Nat} {x y : Int64} (hx : x = lN a) (hy : y = lN b) (ha : a < 2 ^ 63) (hb : b < 2 ^ 63) : j_cmp x y = 0 ↔ a = b := by rw [hx, hy, cmp_eq ha hb]
theorem f_isZero2 {N : Nat} {c : hS} {t : List Nat} {p : Nat} {f : Int32} (hN : 1000000 ≤ N) (h : row c 3 t) (hp : p < 2 ^ 30) : RB (f_X5_isZero N c (nI p) 2 f) c [9] (decide (le2 t p = 0)) := by
  have hl := le2_lt h.2.2.2 p
  unfold f_X5_isZero
  rw [f_little2 hN h hp, bnd_some]
  by_cases q : le2 t p = 0
  · rw [if_pos ((cmp_eq' rfl (show (0 : Int64) = lN 0 from rfl) (by omega) (by decide)).mpr q), decide_eq_true q]; exact RB.yes
  · rw [if_neg (fun z => q ((cmp_eq' rfl (show (0 : Int64) = lN 0 from rfl) (by omega) (by decide)).mp z)), decide_eq_false q]; exact RB.last_ RB.tell
theorem f_isZero4 {N : Nat} {c : hS} {t : List Nat} {p : Nat} {f : Int32} (hN : 1000000 ≤ N) (h : row c 3 t) (hp : p < 2 ^ 30) : RB (f_X5_isZero N c (nI p) 4 f) c [9] (decide (le4 t p = 0)) := by
  have hl := le4_lt h.2.2.2 p
  unfold f_X5_isZero
  rw [f_little4 hN h hp, bnd_some]
  by_cases q : le4 t p = 0
  · rw [if_pos ((cmp_eq' rfl (show (0 : Int64) = lN 0 from rfl) (by omega) (by decide)).mpr q), decide_eq_true q]; exact RB.yes
  · rw [if_neg (fun z => q ((cmp_eq' rfl (show (0 : Int64) = lN 0 from rfl) (by omega) (by decide)).mp z)), decide_eq_false q]; exact RB.last_ RB.tell
noncomputable abbrev Sc : List Nat := [9, 36]
noncomputable def clB (t : List Nat) (e : Nat) : Bool := mkB t e mk5 && (decide (le2 t (e + 4) = 0) && (decide (le2 t (e + 6) = 0) && (decide (le2 t (e + 8) = le2 t (e + 10)) && (decide (le2 t (e + 10) ≤ 16) && (decide (le4 t (e + 12) + le4 t (e + 16) = e) && decide (le2 t (e + 20) = 0))))))
theorem f_isClosing {N : Nat} {c : hS} {t : List Nat} (hN : 1000000 ≤ N) (h : row c 3 t) : RE (f_X5_isClosing N c) c Sc (decide (22 ≤ t.length) && clB t (t.length - 22)) (fun c1 => c1.1 36 6 = nI (t.length - 22) ∧ c1.1 36 7 = nI (le4 t (t.length - 22 + 16))) := by
  have htl : t.length ≤ 20000 := h.1
  unfold f_X5_isClosing
  rw [f_size h, bnd_some]
  refine RE.set (by decide) ?_
  try dsimp only
  rw [sI_s]
  by_cases q0 : 22 ≤ t.length
  · rw [decide_eq_true q0, Bool.true_and, show nI t.length - 22 = nI (t.length - 22) from subI (b := 22) q0, if_pos (nI_pos' (by omega))]
    have h3 := h.fr (S := [36]) (c1 := sI c 36 6 (nI (t.length - 22))) (fr.sI (by simp)) (by decide) (by decide)
    have g6 : (sI c 36 6 (nI (t.length - 22))).1 36 6 = nI (t.length - 22) := sI_s _ _ _ _
    revert h3 g6
    generalize sI c 36 6 (nI (t.length - 22)) = c3
    intro h3 g6
    generalize he : t.length - 22 = e at *
    have hel : e ≤ 20000 := by omega
    have b8a := le2_lt h.2.2.2 (e + 8)
    have b10 := le2_lt h.2.2.2 (e + 10)
    have b12 := le4_lt h.2.2.2 (e + 12)
    have b16 := le4_lt h.2.2.2 (e + 16)
    unfold clB
    refine RE.and_ (RE.of (f_isMarked (m := mk5) hN h3 (by omega) (by decide) (show byt mk5 from (by decide : ∀ x ∈ mk5, x < 256)) (by decide)) (by decide)) (fun c4 _ _ e4 => ?_)
    subst e4
    rw [g6, show nI e + 4 = nI (e + 4) from nI_add e 4]
    refine RE.and_ (RE.of (f_isZero2 hN h3 (by omega)) (by decide)) (fun c5 _ _ e5 => ?_)
    subst e5
    rw [g6, show nI e + 6 = nI (e + 6) from nI_add e 6]
    refine RE.and_ (RE.of (f_isZero2 hN h3 (by omega)) (by decide)) (fun c6 _ _ e6 => ?_)
    subst e6
    rw [g6, show nI e + 8 = nI (e + 8) from nI_add e 8, f_little2 hN h3 (by omega), bnd_some, g6, show nI e + 10 = nI (e + 10) from nI_add e 10, f_little2 hN h3 (by omega), bnd_some]
    refine RE.if_ (cmp_eq' rfl rfl (by omega) (by omega)) (fun _ => ?_) (RE.tb (by decide))
    rw [g6, show nI e + 10 = nI (e + 10) from nI_add e 10, f_little2 hN h3 (by omega), bnd_some]
    refine RE.if_ (cmp_le' rfl (show (16 : Int64) = lN 16 from rfl) (by omega) (by decide)) (fun _ => ?_) (RE.tb (by decide))
    rw [g6, show nI e + 16 = nI (e + 16) from nI_add e 16, f_little4 hN h3 (by omega), bnd_some, g6, show nI e + 12 = nI (e + 12) from nI_add e 12, f_little4 hN h3 (by omega), bnd_some, g6, lN_add, nI_l (by omega)]
    refine RE.if_ (cmp_eq' rfl rfl (by omega) (by omega)) (fun _ => ?_) (RE.tb (by decide))
    refine RE.set (by decide) ?_
    try dsimp only
    rw [lN_i, sI_j (show (6 : Nat) ≠ 7 by decide), g6, show nI e + 20 = nI (e + 20) from nI_add e 20]
    have h7 := h3.fr (S := [36]) (c1 := sI c6 36 7 (nI (le4 t (e + 16)))) (fr.sI (by simp)) (by decide) (by decide)
    obtain ⟨c8, w1, w2, w3⟩ := f_isZero2 (f := 6) hN h7 (p := e + 20) (by omega)
    refine ⟨c8, ?_, w2.mono (by decide), fun z => ?_⟩
    · rw [w1, bnd_some]
      cases decide (le2 t (e + 20) = 0) <;> rfl
    · rw [w3 z]
      exact ⟨by rw [sI_j (by decide)]; exact g6, sI_s _ _ _ _⟩
  · rw [decide_eq_false q0, Bool.false_and]
    have h3 := h.fr (S := [36]) (c1 := sI c 36 6 (nI t.length - 22)) (fr.sI (by simp)) (by decide) (by decide)
    have neg : ¬ (0 : Int32) ≤ nI t.length - 22 := (by decide +kernel : ∀ k, k < 22 → ¬ (0 : Int32) ≤ nI k - 22) t.length (by omega)
    rw [if_neg neg, f_size h3, bnd_some]
    exact RE.tb (by decide)
/-! an entry -/
noncomputable def eN (t : List Nat) (q : Nat) : Nat := le2 t (q + 28)
noncomputable def beh2 (t : List Nat) (q : Nat) : Nat := q + 46 + eN t q + le2 t (q + 30) + le2 t (q + 32)
noncomputable def enB (t : List Nat) (e q : Nat) : Bool := decide (q + 46 ≤ e) && (mkB t q mk4 && (decide (le2 t (q + 6) ≤ 20) && (decide (le2 t (q + 8) = 0) && (decide (le2 t (q + 10) = 0 ∨ le2 t (q + 10) = 8) && (decide (le2 t (q + 34) = 0) && decide (beh2 t q ≤ e))))))
theorem f_isEntry {N : Nat} {c : hS} {t : List Nat} {e q bg : Nat} (hN : 1000000 ≤ N) (h : row c 3 t) (h6 : c.1 36 6 = nI e) (h7 : c.1 36 7 = nI bg) (he : e ≤ 20000) (hq : q ≤ e) : RE (f_X5_isEntry N c (nI q)) c Sc (enB t e q) (fun c1 => c1.1 36 6 = nI e ∧ c1.1 36 7 = nI bg ∧ c1.1 36 8 = nI (le2 t (q + 10)) ∧ c1.1 36 9 = nI (eN t q) ∧ c1.1 36 10 = nI (beh2 t q)) := by
  have b6 := le2_lt h.2.2.2 (q + 6)
  have b10 := le2_lt h.2.2.2 (q + 10)
  have b28 := le2_lt h.2.2.2 (q + 28)
  have b30 := le2_lt h.2.2.2 (q + 30)
  have b32 := le2_lt h.2.2.2 (q + 32)
  unfold f_X5_isEntry enB
  rw [show nI q + 46 = nI (q + 46) from nI_add q 46, h6]
  refine RE.if_ (nI_leI (by omega) (by omega)) (fun _ => ?_) (RE.tb (by decide))
  refine RE.and_ (RE.of (f_isMarked (m := mk4) hN h (by omega) (by decide) (show byt mk4 from (by decide : ∀ x ∈ mk4, x < 256)) (by decide)) (by decide)) (fun c4 _ _ e4 => ?_)
  subst e4
  rw [show nI q + 6 = nI (q + 6) from nI_add q 6, f_little2 hN h (by omega), bnd_some]
  refine RE.if_ (cmp_le' rfl (show (20 : Int64) = lN 20 from rfl) (by omega) (by decide)) (fun _ => ?_) (RE.tb (by decide))
  rw [show nI q + 8 = nI (q + 8) from nI_add q 8]
  refine RE.and_ (RE.of (f_isZero2 hN h (by omega)) (by decide)) (fun c5 _ _ e5 => ?_)
  subst e5
  rw [show nI q + 10 = nI (q + 10) from nI_add q 10, f_little2 hN h (by omega), bnd_some]
  refine RE.set (by decide) ?_
  try dsimp only
  rw [sI_s, lN_i]
  have h9 := h.fr (S := [36]) (c1 := sI c5 36 8 (nI (le2 t (q + 10)))) (fr.sI (by simp)) (by decide) (by decide)
  have i6 : (sI c5 36 8 (nI (le2 t (q + 10)))).1 36 6 = nI e := by rw [sI_j (by decide)]; exact h6
  have i7 : (sI c5 36 8 (nI (le2 t (q + 10)))).1 36 7 = nI bg := by rw [sI_j (by decide)]; exact h7
  have i8 : (sI c5 36 8 (nI (le2 t (q + 10)))).1 36 8 = nI (le2 t (q + 10)) := sI_s _ _ _ _
  revert h9 i6 i7 i8
  generalize sI c5 36 8 (nI (le2 t (q + 10))) = c9
  intro h9 i6 i7 i8
  have e132 : RE (f_X5_isEntry_132 N (nI q) c9) c9 Sc (decide (le2 t (q + 34) = 0) && decide (beh2 t q ≤ e)) (fun c1 => c1.1 36 6 = nI e ∧ c1.1 36 7 = nI bg ∧ c1.1 36 8 = nI (le2 t (q + 10)) ∧ c1.1 36 9 = nI (eN t q) ∧ c1.1 36 10 = nI (beh2 t q)) := by
    unfold f_X5_isEntry_132
    rw [show nI q + 34 = nI (q + 34) from nI_add q 34]
    refine RE.and_ (RE.of (f_isZero2 hN h9 (by omega)) (by decide)) (fun c10 _ _ e10 => ?_)
    subst e10
    rw [show nI q + 28 = nI (q + 28) from nI_add q 28, show nI q + 30 = nI (q + 30) from nI_add q 30, show nI q + 32 = nI (q + 32) from nI_add q 32, show nI q + 46 = nI (q + 46) from nI_add q 46, f_little2 hN h9 (by omega), bnd_some]
    refine RE.set (by decide) ?_
    try dsimp only
    rw [sI_s, lN_i]
    have h11 := h9.fr (S := [36]) (c1 := sI c10 36 9 (nI (le2 t (q + 28)))) (fr.sI (by simp)) (by decide) (by decide)
    rw [f_little2 hN h11 (by omega), bnd_some, f_little2 hN h11 (by omega), bnd_some, lN_i, lN_i, nI_add, nI_add, nI_add]
    refine RE.set (by decide) ?_
    try dsimp only
    rw [sI_s, sI_j (show (6 : Nat) ≠ 10 by decide), sI_j (show (6 : Nat) ≠ 9 by decide), i6]
    have hbe : q + 46 + le2 t (q + 28) + le2 t (q + 30) + le2 t (q + 32) = beh2 t q := rfl
    rw [hbe]
    have hb2 : beh2 t q < 2 ^ 31 := by rw [← hbe]; omega
    by_cases w : beh2 t q ≤ e
    · rw [if_pos (nI_le w (by omega)), decide_eq_true w]
      refine RE.yes ⟨?_, ?_, ?_, ?_, ?_⟩
      · rw [sI_j (by decide), sI_j (by decide)]; exact i6
      · rw [sI_j (by decide), sI_j (by decide)]; exact i7
      · rw [sI_j (by decide), sI_j (by decide)]; exact i8
      · rw [sI_j (by decide), sI_s]; rfl
      · exact sI_s _ _ _ _
    · rw [if_neg (nI_ge (by omega) hb2), decide_eq_false w]
      exact RE.tl (by decide)
  by_cases w0 : le2 t (q + 10) = 0
  · rw [if_pos (show nI (le2 t (q + 10)) = 0 by rw [w0]; rfl), decide_eq_true (Or.inl w0), Bool.true_and]; exact e132
  · rw [if_neg (nI_ne0 (by omega) (by omega))]
    by_cases w8 : le2 t (q + 10) = 8
    · rw [if_pos (show nI (le2 t (q + 10)) = 8 by rw [w8]; rfl), decide_eq_true (Or.inr w8), Bool.true_and]; exact e132
    · rw [if_neg (show ¬ nI (le2 t (q + 10)) = 8 from fun z => w8 ((nI_eq (by omega) (show 8 < 2 ^ 31 by decide)).mp z)), decide_eq_false (fun z => z.elim w0 w8), Bool.false_and]
      exact RE.tb (by decide)
