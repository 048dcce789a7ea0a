section
/-! PURE: the class reads kind 2 -/
/-- a test that leaves something when it holds -/
noncomputable def RE (X : Option (Int32 × hS)) (c : hS) (S : List Nat) (b : Bool) (P : hS → Prop) : Prop := ∃ c', X = some (bI b, c') ∧ fr S c c' ∧ (b = true → P c')
theorem RE.of {X : Option (Int32 × hS)} {c : hS} {S : List Nat} {b : Bool} (h : RB X c [9] b) (hS : 9 ∈ S) : RE X c S b (fun c1 => c1 = c) := by
  obtain ⟨c', e, f, g⟩ := h
  exact ⟨c', e, f.mono (fun o ho => by simp at ho; rw [ho]; exact hS), g⟩
theorem RE.yes {c : hS} {S : List Nat} {P : hS → Prop} (h : P c) : RE (some (1, c)) c S true P := ⟨c, rfl, fr.rf, fun _ => h⟩
theorem RE.and_ {A : Option (Int32 × hS)} {B : hS → Option (Int32 × hS)} {c : hS} {S : List Nat} {a b : Bool} {P R : hS → Prop} (hA : RE A c S a P) (hB : ∀ c1, a = true → fr S c c1 → P c1 → RE (B c1) c1 S b R) : RE (bnd A fun x c2 => if x = 0 then some (0, c2) else B c2) c S (a && b) R := by
  obtain ⟨c1, e1, f1, g1⟩ := hA
  cases a with
  | false =>
    refine ⟨c1, ?_, f1, fun h => by cases h⟩
    rw [e1, bnd_some, if_pos (show bI false = 0 from rfl)]
    rfl
  | true =>
    obtain ⟨c2, e2, f2, g2⟩ := hB c1 rfl f1 (g1 rfl)
    refine ⟨c2, ?_, f1.tr f2, fun h => g2 (by simpa using h)⟩
    rw [e1, bnd_some, if_neg (by decide), e2, Bool.true_and]
theorem RE.last_ {A : Option (Int32 × hS)} {c : hS} {S : List Nat} {a : Bool} {P : hS → Prop} (hA : RE A c S a P) : RE (bnd A fun x c2 => if x = 0 then some (0, c2) else some (1, c2)) c S a P := by
  have := RE.and_ (B := fun c2 => some (1, c2)) (b := true) hA (fun c1 _ _ h => RE.yes h)
  rwa [Bool.and_true] at this
theorem RE.tb {c : hS} {S : List Nat} {a p : Int32} {P : hS → Prop} (hS : 9 ∈ S) : RE (bnd (f_X6_tell c a p) fun x c2 => bif j_b x then some (x, c2) else none) c S false P := by
  obtain ⟨c', e, f, _⟩ := RB.tellb (c := c) (a := a) (p := p)
  exact ⟨c', e, f.mono (fun o ho => by simp at ho; rw [ho]; exact hS), fun h => by cases h⟩
theorem RE.tl {c : hS} {S : List Nat} {a p : Int32} {P : hS → Prop} (hS : 9 ∈ S) : RE (bnd (f_X6_tell c a p) fun x c2 => if x = 0 then some (0, c2) else some (1, c2)) c S false P := by
  obtain ⟨c', e, f, _⟩ := RB.last_ (RB.tell (c := c) (a := a) (p := p))
  exact ⟨c', e, f.mono (fun o ho => by simp at ho; rw [ho]; exact hS), fun h => by cases h⟩
theorem RE.if_ {p q : Prop} [Decidable p] [Decidable q] {c : hS} {S : List Nat} {b : Bool} {X Y : Option (Int32 × hS)} {P : hS → Prop} (hpq : p ↔ q) (h1 : q → RE X c S b P) (h2 : RE Y c S false P) : RE (if p then X else Y) c S (decide q && b) P := by
  by_cases h : q
  · rw [if_pos (hpq.mpr h), decide_eq_true h, Bool.true_and]; exact h1 h
  · rw [if_neg (fun z => h (hpq.mp z)), decide_eq_false h]; exact h2
theorem RE.set {c : hS} {S : List Nat} {b : Bool} {j : Nat} {x : Int32} {K : hS → Option (Int32 × hS)} {P : hS → Prop} (hS : 36 ∈ S) (h : RE (K (sI c 36 j x)) (sI c 36 j x) S b P) : RE (st1 (sI c 36 j x) K) c S b P := by
  obtain ⟨c', e, f, g⟩ := h
  exact ⟨c', e, (fr.sI hS).tr f, g⟩
theorem RE.eqb {X : Option (Int32 × hS)} {c : hS} {S : List Nat} {a b : Bool} {P : hS → Prop} (h : RE X c S a P) (e : a = b) : RE X c S b P := by rw [← e]; exact h
theorem i_iff {a b : Nat} {x y : Int32} (hx : x = nI a) (hy : y = nI b) (ha : a < 2 ^ 31) (hb : b < 2 ^ 31) : x ≤ y ↔ a ≤ b := by rw [hx, hy]; exact nI_leI ha hb
theorem cmp_le' {a b : Nat} {x y : Int64} (hx : x = lN a) (hy : y = lN b) (ha : a < 2 ^ 63) (hb : b < 2 ^ 63) : j_cmp x y ≤ 0 ↔ a ≤ b := by rw [hx, hy, cmp_le ha hb]
theorem cmp_eq' {a b : Nat} {x y : Int64} (hx : x = lN a) (hy : y = lN b) (ha : a < 2 ^ 63) (hb : b < 2 ^ 63) : j_cmp x y = 0 ↔ a = b := by rw [hx, hy, cmp_eq ha hb]
theorem f_isZero2 {N : Nat} {c : hS} {t : List Nat} {p : Nat} {f : Int32} (hN : 1000000 ≤ N) (h : row c 3 t) (hp : p < 2 ^ 30) : RB (f_X5_isZero N c (nI p) 2 f) c [9] (decide (le2 t p = 0)) := by
  have hl := le2_lt h.2.2.2 p
  unfold f_X5_isZero
  rw [f_little2 hN h hp, bnd_some]
  by_cases q : le2 t p = 0
  · rw [if_pos ((cmp_eq' rfl (show (0 : Int64) = lN 0 from rfl) (by omega) (by decide)).mpr q), decide_eq_true q]; exact RB.yes
  · rw [if_neg (fun z => q ((cmp_eq' rfl (show (0 : Int64) = lN 0 from rfl) (by omega) (by decide)).mp z)), decide_eq_false q]; exact RB.last_ RB.tell
theorem f_isZero4 {N : Nat} {c : hS} {t : List Nat} {p : Nat} {f : Int32} (hN : 1000000 ≤ N) (h : row c 3 t) (hp : p < 2 ^ 30) : RB (f_X5_isZero N c (nI p) 4 f) c [9] (decide (le4 t p = 0)) := by
  have hl := le4_lt h.2.2.2 p
  unfold f_X5_isZero
  rw [f_little4 hN h hp, bnd_some]
  by_cases q : le4 t p = 0
  · rw [if_pos ((cmp_eq' rfl (show (0 : Int64) = lN 0 from rfl) (by omega) (by decide)).mpr q), decide_eq_true q]; exact RB.yes
  · rw [if_neg (fun z => q ((cmp_eq' rfl (show (0 : Int64) = lN 0 from rfl) (by omega) (by decide)).mp z)), decide_eq_false q]; exact RB.last_ RB.tell
noncomputable abbrev Sc : List Nat := [9, 36]
noncomputable def clB (t : List Nat) (e : Nat) : Bool := mkB t e mk5 && (decide (le2 t (e + 4) = 0) && (decide (le2 t (e + 6) = 0) && (decide (le2 t (e + 8) = le2 t (e + 10)) && (decide (le2 t (e + 10) ≤ 16) && (decide (le4 t (e + 12) + le4 t (e + 16) = e) && decide (le2 t (e + 20) = 0))))))
theorem f_isClosing {N : Nat} {c : hS} {t : List Nat} (hN : 1000000 ≤ N) (h : row c 3 t) : RE (f_X5_isClosing N c) c Sc (decide (22 ≤ t.length) && clB t (t.length - 22)) (fun c1 => c1.1 36 6 = nI (t.length - 22) ∧ c1.1 36 7 = nI (le4 t (t.length - 22 + 16))) := by
  have htl : t.length ≤ 20000 := h.1
  unfold f_X5_isClosing
  rw [f_size h, bnd_some]
  refine RE.set (by decide) ?_
  try dsimp only
  rw [sI_s]
  by_cases q0 : 22 ≤ t.length
  · rw [decide_eq_true q0, Bool.true_and, show nI t.length - 22 = nI (t.length - 22) from subI (b := 22) q0, if_pos (nI_pos' (by omega))]
    have h3 := h.fr (S := [36]) (c1 := sI c 36 6 (nI (t.length - 22))) (fr.sI (by simp)) (by decide) (by decide)
    have g6 : (sI c 36 6 (nI (t.length - 22))).1 36 6 = nI (t.length - 22) := sI_s _ _ _ _
    revert h3 g6
    generalize sI c 36 6 (nI (t.length - 22)) = c3
    intro h3 g6
    generalize he : t.length - 22 = e at *
    have hel : e ≤ 20000 := by omega
    have b8a := le2_lt h.2.2.2 (e + 8)
    have b10 := le2_lt h.2.2.2 (e + 10)
    have b12 := le4_lt h.2.2.2 (e + 12)
    have b16 := le4_lt h.2.2.2 (e + 16)
    unfold clB
    refine RE.and_ (RE.of (f_isMarked (m := mk5) hN h3 (by omega) (by decide) (show byt mk5 from (by decide : ∀ x ∈ mk5, x < 256)) (by decide)) (by decide)) (fun c4 _ _ e4 => ?_)
    subst e4
    rw [g6, show nI e + 4 = nI (e + 4) from nI_add e 4]
    refine RE.and_ (RE.of (f_isZero2 hN h3 (by omega)) (by decide)) (fun c5 _ _ e5 => ?_)
    subst e5
    rw [g6, show nI e + 6 = nI (e + 6) from nI_add e 6]
    refine RE.and_ (RE.of (f_isZero2 hN h3 (by omega)) (by decide)) (fun c6 _ _ e6 => ?_)
    subst e6
    rw [g6, show nI e + 8 = nI (e + 8) from nI_add e 8, f_little2 hN h3 (by omega), bnd_some, g6, show nI e + 10 = nI (e + 10) from nI_add e 10, f_little2 hN h3 (by omega), bnd_some]
    refine RE.if_ (cmp_eq' rfl rfl (by omega) (by omega)) (fun _ => ?_) (RE.tb (by decide))
    rw [g6, show nI e + 10 = nI (e + 10) from nI_add e 10, f_little2 hN h3 (by omega), bnd_some]
    refine RE.if_ (cmp_le' rfl (show (16 : Int64) = lN 16 from rfl) (by omega) (by decide)) (fun _ => ?_) (RE.tb (by decide))
    rw [g6, show nI e + 16 = nI (e + 16) from nI_add e 16, f_little4 hN h3 (by omega), bnd_some, g6, show nI e + 12 = nI (e + 12) from nI_add e 12, f_little4 hN h3 (by omega), bnd_some, g6, lN_add, nI_l (by omega)]
    refine RE.if_ (cmp_eq' rfl rfl (by omega) (by omega)) (fun _ => ?_) (RE.tb (by decide))
    refine RE.set (by decide) ?_
    try dsimp only
    rw [lN_i, sI_j (show (6 : Nat) ≠ 7 by decide), g6, show nI e + 20 = nI (e + 20) from nI_add e 20]
    have h7 := h3.fr (S := [36]) (c1 := sI c6 36 7 (nI (le4 t (e + 16)))) (fr.sI (by simp)) (by decide) (by decide)
    obtain ⟨c8, w1, w2, w3⟩ := f_isZero2 (f := 6) hN h7 (p := e + 20) (by omega)
    refine ⟨c8, ?_, w2.mono (by decide), fun z => ?_⟩
    · rw [w1, bnd_some]
      cases decide (le2 t (e + 20) = 0) <;> rfl
    · rw [w3 z]
      exact ⟨by rw [sI_j (by decide)]; exact g6, sI_s _ _ _ _⟩
  · rw [decide_eq_false q0, Bool.false_and]
    have h3 := h.fr (S := [36]) (c1 := sI c 36 6 (nI t.length - 22)) (fr.sI (by simp)) (by decide) (by decide)
    have neg : ¬ (0 : Int32) ≤ nI t.length - 22 := (by decide +kernel : ∀ k, k < 22 → ¬ (0 : Int32) ≤ nI k - 22) t.length (by omega)
    rw [if_neg neg, f_size h3, bnd_some]
    exact RE.tb (by decide)
/-! an entry -/
noncomputable def eN (t : List Nat) (q : Nat) : Nat := le2 t (q + 28)
noncomputable def beh2 (t : List Nat) (q : Nat) : Nat := q + 46 + eN t q + le2 t (q + 30) + le2 t (q + 32)
noncomputable def enB (t : List Nat) (e q : Nat) : Bool := decide (q + 46 ≤ e) && (mkB t q mk4 && (decide (le2 t (q + 6) ≤ 20) && (decide (le2 t (q + 8) = 0) && (decide (le2 t (q + 10) = 0 ∨ le2 t (q + 10) = 8) && (decide (le2 t (q + 34) = 0) && decide (beh2 t q ≤ e))))))
theorem f_isEntry {N : Nat} {c : hS} {t : List Nat} {e q bg : Nat} (hN : 1000000 ≤ N) (h : row c 3 t) (h6 : c.1 36 6 = nI e) (h7 : c.1 36 7 = nI bg) (he : e ≤ 20000) (hq : q ≤ e) : RE (f_X5_isEntry N c (nI q)) c Sc (enB t e q) (fun c1 => c1.1 36 6 = nI e ∧ c1.1 36 7 = nI bg ∧ c1.1 36 8 = nI (le2 t (q + 10)) ∧ c1.1 36 9 = nI (eN t q) ∧ c1.1 36 10 = nI (beh2 t q)) := by
  have b6 := le2_lt h.2.2.2 (q + 6)
  have b10 := le2_lt h.2.2.2 (q + 10)
  have b28 := le2_lt h.2.2.2 (q + 28)
  have b30 := le2_lt h.2.2.2 (q + 30)
  have b32 := le2_lt h.2.2.2 (q + 32)
  unfold f_X5_isEntry enB
  rw [show nI q + 46 = nI (q + 46) from nI_add q 46, h6]
  refine RE.if_ (nI_leI (by omega) (by omega)) (fun _ => ?_) (RE.tb (by decide))
  refine RE.and_ (RE.of (f_isMarked (m := mk4) hN h (by omega) (by decide) (show byt mk4 from (by decide : ∀ x ∈ mk4, x < 256)) (by decide)) (by decide)) (fun c4 _ _ e4 => ?_)
  subst e4
  rw [show nI q + 6 = nI (q + 6) from nI_add q 6, f_little2 hN h (by omega), bnd_some]
  refine RE.if_ (cmp_le' rfl (show (20 : Int64) = lN 20 from rfl) (by omega) (by decide)) (fun _ => ?_) (RE.tb (by decide))
  rw [show nI q + 8 = nI (q + 8) from nI_add q 8]
  refine RE.and_ (RE.of (f_isZero2 hN h (by omega)) (by decide)) (fun c5 _ _ e5 => ?_)
  subst e5
  rw [show nI q + 10 = nI (q + 10) from nI_add q 10, f_little2 hN h (by omega), bnd_some]
  refine RE.set (by decide) ?_
  try dsimp only
  rw [sI_s, lN_i]
  have h9 := h.fr (S := [36]) (c1 := sI c5 36 8 (nI (le2 t (q + 10)))) (fr.sI (by simp)) (by decide) (by decide)
  have i6 : (sI c5 36 8 (nI (le2 t (q + 10)))).1 36 6 = nI e := by rw [sI_j (by decide)]; exact h6
  have i7 : (sI c5 36 8 (nI (le2 t (q + 10)))).1 36 7 = nI bg := by rw [sI_j (by decide)]; exact h7
  have i8 : (sI c5 36 8 (nI (le2 t (q + 10)))).1 36 8 = nI (le2 t (q + 10)) := sI_s _ _ _ _
  revert h9 i6 i7 i8
  generalize sI c5 36 8 (nI (le2 t (q + 10))) = c9
  intro h9 i6 i7 i8
  have e132 : RE (f_X5_isEntry_132 N (nI q) c9) c9 Sc (decide (le2 t (q + 34) = 0) && decide (beh2 t q ≤ e)) (fun c1 => c1.1 36 6 = nI e ∧ c1.1 36 7 = nI bg ∧ c1.1 36 8 = nI (le2 t (q + 10)) ∧ c1.1 36 9 = nI (eN t q) ∧ c1.1 36 10 = nI (beh2 t q)) := by
    unfold f_X5_isEntry_132
    rw [show nI q + 34 = nI (q + 34) from nI_add q 34]
    refine RE.and_ (RE.of (f_isZero2 hN h9 (by omega)) (by decide)) (fun c10 _ _ e10 => ?_)
    subst e10
    rw [show nI q + 28 = nI (q + 28) from nI_add q 28, show nI q + 30 = nI (q + 30) from nI_add q 30, show nI q + 32 = nI (q + 32) from nI_add q 32, show nI q + 46 = nI (q + 46) from nI_add q 46, f_little2 hN h9 (by omega), bnd_some]
    refine RE.set (by decide) ?_
    try dsimp only
    rw [sI_s, lN_i]
    have h11 := h9.fr (S := [36]) (c1 := sI c10 36 9 (nI (le2 t (q + 28)))) (fr.sI (by simp)) (by decide) (by decide)
    rw [f_little2 hN h11 (by omega), bnd_some, f_little2 hN h11 (by omega), bnd_some, lN_i, lN_i, nI_add, nI_add, nI_add]
    refine RE.set (by decide) ?_
    try dsimp only
    rw [sI_s, sI_j (show (6 : Nat) ≠ 10 by decide), sI_j (show (6 : Nat) ≠ 9 by decide), i6]
    have hbe : q + 46 + le2 t (q + 28) + le2 t (q + 30) + le2 t (q + 32) = beh2 t q := rfl
    rw [hbe]
    have hb2 : beh2 t q < 2 ^ 31 := by rw [← hbe]; omega
    by_cases w : beh2 t q ≤ e
    · rw [if_pos (nI_le w (by omega)), decide_eq_true w]
      refine RE.yes ⟨?_, ?_, ?_, ?_, ?_⟩
      · rw [sI_j (by decide), sI_j (by decide)]; exact i6
      · rw [sI_j (by decide), sI_j (by decide)]; exact i7
      · rw [sI_j (by decide), sI_j (by decide)]; exact i8
      · rw [sI_j (by decide), sI_s]; rfl
      · exact sI_s _ _ _ _
    · rw [if_neg (nI_ge (by omega) hb2), decide_eq_false w]
      exact RE.tl (by decide)
  by_cases w0 : le2 t (q + 10) = 0
  · rw [if_pos (show nI (le2 t (q + 10)) = 0 by rw [w0]; rfl), decide_eq_true (Or.inl w0), Bool.true_and]; exact e132
  · rw [if_neg (nI_ne0 (by omega) (by omega))]
    by_cases w8 : le2 t (q + 10) = 8
    · rw [if_pos (show nI (le2 t (q + 10)) = 8 by rw [w8]; rfl), decide_eq_true (Or.inr w8), Bool.true_and]; exact e132
    · rw [if_neg (show ¬ nI (le2 t (q + 10)) = 8 from fun z => w8 ((nI_eq (by omega) (show 8 < 2 ^ 31 by decide)).mp z)), decide_eq_false (fun z => z.elim w0 w8), Bool.false_and]
      exact RE.tb (by decide)
end
section
/-! PURE: the class reads kind 2: members -/
noncomputable def SL (c : hS) (t : List Nat) (e bg q : Nat) : Prop := c.1 36 6 = nI e ∧ c.1 36 7 = nI bg ∧ c.1 36 8 = nI (le2 t (q + 10)) ∧ c.1 36 9 = nI (eN t q) ∧ c.1 36 10 = nI (beh2 t q)
theorem SL.set {c : hS} {t : List Nat} {e bg q j : Nat} {x : Int32} (h : SL c t e bg q) (hj : 10 < j) : SL (sI c 36 j x) t e bg q := ⟨by rw [sI_j (by omega)]; exact h.1, by rw [sI_j (by omega)]; exact h.2.1, by rw [sI_j (by omega)]; exact h.2.2.1, by rw [sI_j (by omega)]; exact h.2.2.2.1, by rw [sI_j (by omega)]; exact h.2.2.2.2⟩
theorem SL.fr {S : List Nat} {c c1 : hS} {t : List Nat} {e bg q : Nat} (h : SL c t e bg q) (hf : fr S c c1) (hS : 36 ∉ S) : SL c1 t e bg q := ⟨(hf.i hS 6).trans h.1, (hf.i hS 7).trans h.2.1, (hf.i hS 8).trans h.2.2.1, (hf.i hS 9).trans h.2.2.2.1, (hf.i hS 10).trans h.2.2.2.2⟩
noncomputable def dr2 (t : List Nat) (q : Nat) : Bool := decide (0 < eN t q) && decide (gt t (q + 46 + eN t q - 1) = 47)
noncomputable def nl2 (t : List Nat) (q : Nat) : Nat := if dr2 t q = true then eN t q - 1 else eN t q
noncomputable def nm2 (t : List Nat) (q : Nat) : List Nat := ((t.drop (q + 46)).take (nl2 t q)).take 256
noncomputable def dzB (t : List Nat) (q : Nat) : Bool := decide (le2 t (q + 10) = 0) && (decide (le4 t (q + 16) = 0) && (decide (le4 t (q + 20) = 0) && decide (le4 t (q + 24) = 0)))
noncomputable def szB (t : List Nat) (q : Nat) : Bool := decide (le4 t (q + 24) ≤ 400) && (if le2 t (q + 10) = 0 then decide (le4 t (q + 20) = le4 t (q + 24)) else true)
noncomputable def mmB (t : List Nat) (q : Nat) : Bool := if dr2 t q = true then dzB t q && szB t q else szB t q
noncomputable abbrev Sm : List Nat := [5, 6, 9, 36]
noncomputable def mmP (t : List Nat) (e bg q : Nat) (c1 : hS) : Prop := SL c1 t e bg q ∧ row c1 5 (nm2 t q) ∧ c1.1 36 11 = bI (dr2 t q) ∧ c1.1 36 12 = nI (le4 t (q + 24))
theorem f_isMember2 {N : Nat} {c : hS} {t : List Nat} {e q bg : Nat} (hN : 1000000 ≤ N) (h : row c 3 t) (hl : 0 ≤ c.1 5 1) (hs : SL c t e bg q) (he : e ≤ t.length) (hb : beh2 t q ≤ e) : RE (f_X5_isMember N c (nI q)) c Sm (mmB t q) (mmP t e bg q) := by
  have htl : t.length ≤ 20000 := h.1
  have b28 := le2_lt h.2.2.2 (q + 28)
  have b10 := le2_lt h.2.2.2 (q + 10)
  have b24 := le4_lt h.2.2.2 (q + 24)
  have b20 := le4_lt h.2.2.2 (q + 20)
  have hq : q + 46 + eN t q ≤ e := by unfold beh2 at hb; omega
  have nlq : nl2 t q ≤ eN t q := by unfold nl2; split <;> omega
  -- sizes
  have s143 : ∀ c1, row c1 3 t → SL c1 t e bg q → row c1 5 (nm2 t q) → c1.1 36 11 = bI (dr2 t q) → RE (f_X5_isMember_143 N (nI q) c1) c1 Sm (szB t q) (mmP t e bg q) := by
    intro c1 h1 s1 r1 d1
    unfold f_X5_isMember_143 szB
    rw [show nI q + 24 = nI (q + 24) from nI_add q 24, f_little4 hN h1 (by omega), bnd_some]
    refine RE.if_ (cmp_le' rfl (show (400 : Int64) = lN 400 from rfl) (by omega) (by decide)) (fun w => ?_) (RE.tb (by decide))
    refine RE.set (by decide) ?_
    try dsimp only
    rw [lN_i, sI_j (show (8 : Nat) ≠ 12 by decide), s1.2.2.1]
    have h2 := h1.fr (S := [36]) (c1 := sI c1 36 12 (nI (le4 t (q + 24)))) (fr.sI (by simp)) (by decide) (by decide)
    have P2 : mmP t e bg q (sI c1 36 12 (nI (le4 t (q + 24)))) := ⟨s1.set (by decide), r1.fr (S := [36]) (fr.sI (by simp)) (by decide) (by decide), by rw [sI_j (by decide)]; exact d1, sI_s _ _ _ _⟩
    by_cases w0 : le2 t (q + 10) = 0
    · rw [if_pos (show nI (le2 t (q + 10)) = 0 by rw [w0]; rfl), if_pos w0, show nI q + 20 = nI (q + 20) from nI_add q 20, f_little4 hN h2 (by omega), bnd_some]
      have := RE.if_ (b := true) (P := mmP t e bg q) (S := Sm) (cmp_eq' (rfl : lN (le4 t (q + 20)) = _) (rfl : lN (le4 t (q + 24)) = _) (by omega) (by omega)) (fun _ => RE.yes P2) (RE.tl (c := sI c1 36 12 (nI (le4 t (q + 24)))) (a := 7) (p := nI (q + 20)) (by decide))
      rwa [Bool.and_true] at this
    · rw [if_neg (nI_ne0 (by omega) (by omega)), if_neg w0]
      exact RE.yes P2
  -- the name and what a directory has
  have s38 : ∀ w : Bool, w = dr2 t q → RE (f_X5_isMember_38 N (nI q) c (nI (q + 46 + eN t q) - 1) (bI w)) c Sm (mmB t q) (mmP t e bg q) := by
    intro w hw
    unfold f_X5_isMember_38
    rw [show j_b (bI w) = true by cases w <;> rfl, cond_true]
    refine RE.set (by decide) ?_
    try dsimp only
    have h1 := h.fr (S := [36]) (c1 := sI c 36 11 (bI w)) (fr.sI (by simp)) (by decide) (by decide)
    have r1 : 0 ≤ (sI c 36 11 (bI w)).1 5 1 := (fr.sI (S := [36]) (c := c) (o := 36) (j := 11) (x := bI w) (by simp)).2.1 hl
    have s1 := hs.set (j := 11) (x := bI w) (by decide)
    have d1 : (sI c 36 11 (bI w)).1 36 11 = bI w := sI_s _ _ _ _
    revert h1 r1 s1 d1
    generalize sI c 36 11 (bI w) = c1
    intro h1 r1 s1 d1
    obtain ⟨c2, e2, r2, f2⟩ := f_cutN r1
    have h2 := h1.fr f2 (by decide) (by decide)
    have s2 := s1.fr f2 (by decide)
    have d2 : c2.1 36 11 = bI w := (f2.i (by decide) 11).trans d1
    rw [e2, bnd_some, d2]
    -- the row of the name
    have s75 : ∀ x : Int32, x = nI (q + 46 + nl2 t q) → RE (f_X5_isMember_75 N (nI q) c2 x (nI q + 46)) c2 Sm (mmB t q) (mmP t e bg q) := by
      intro x hx
      subst hx
      unfold f_X5_isMember_75
      obtain ⟨c3, e3, r3, f3⟩ := f_addRowS (b := 5) (f := 3) (i := q + 46) (j := q + 46 + nl2 t q) hN r2 h2 (by decide) (by decide) (by decide) (by omega) (by omega) (by omega)
      rw [List.nil_append, show q + 46 + nl2 t q - (q + 46) = nl2 t q by omega, map_gt t (q + 46) (nl2 t q) (by omega)] at r3
      have r3' : row c3 5 (nm2 t q) := r3
      have h3 := h2.fr f3 (by decide) (by decide)
      have s3 := s2.fr f3 (by decide)
      have d3 : c3.1 36 11 = bI (dr2 t q) := by rw [f3.i (by decide), d2, hw]
      rw [show nI q + 46 = nI (q + 46) from nI_add q 46, e3, bnd_some, d3]
      have lift : ∀ {X : Option (Int32 × hS)} {b : Bool}, RE X c3 Sm b (mmP t e bg q) → RE X c2 Sm b (mmP t e bg q) := fun ⟨c', a1, a2, a3⟩ => ⟨c', a1, (f3.mono (by decide)).tr a2, a3⟩
      apply lift
      unfold mmB
      cases hd : dr2 t q with
      | false => rw [if_pos (show bI false = 0 from rfl), if_neg (by decide)]; exact s143 c3 h3 s3 r3' d3
      | true =>
        rw [if_neg (by decide), if_pos rfl]
        unfold dzB
        rw [Bool.and_assoc, Bool.and_assoc, Bool.and_assoc, show nI q + 10 = nI (q + 10) from nI_add q 10]
        refine RE.and_ (RE.of (f_isZero2 hN h3 (by omega)) (by decide)) (fun c4 _ _ e4 => ?_)
        subst e4
        rw [show nI q + 16 = nI (q + 16) from nI_add q 16]
        refine RE.and_ (RE.of (f_isZero4 hN h3 (by omega)) (by decide)) (fun c5 _ _ e5 => ?_)
        subst e5
        rw [show nI q + 20 = nI (q + 20) from nI_add q 20]
        refine RE.and_ (RE.of (f_isZero4 hN h3 (by omega)) (by decide)) (fun c6 _ _ e6 => ?_)
        subst e6
        rw [show nI q + 24 = nI (q + 24) from nI_add q 24]
        refine RE.and_ (RE.of (f_isZero4 hN h3 (by omega)) (by decide)) (fun c7 _ _ e7 => ?_)
        subst e7
        exact s143 c7 h3 s3 r3' d3
    have lift : ∀ {X : Option (Int32 × hS)} {b : Bool}, RE X c2 Sm b (mmP t e bg q) → RE X c1 Sm b (mmP t e bg q) := fun ⟨c', a1, a2, a3⟩ => ⟨c', a1, (f2.mono (by decide)).tr a2, a3⟩
    apply lift
    cases w with
    | false =>
      rw [if_pos (show bI false = 0 from rfl)]
      apply s75
      unfold nl2
      rw [← hw, if_neg (by decide), Int32.sub_add_cancel]
    | true =>
      rw [if_neg (by decide)]
      apply s75
      have hp : 0 < eN t q := by
        unfold dr2 at hw
        have := hw.symm
        simp only [Bool.and_eq_true, decide_eq_true_eq] at this
        exact this.1
      unfold nl2
      rw [← hw, if_pos rfl, show nI (q + 46 + eN t q) - 1 = nI (q + 46 + eN t q - 1) from subI (b := 1) (by omega)]
      congr 1
      omega
  unfold f_X5_isMember f_X5_isMember_37
  rw [hs.2.2.2.1, show nI q + 46 = nI (q + 46) from nI_add q 46, nI_add]
  have bN : eN t q < 65536 := b28
  by_cases w0 : 0 < eN t q
  · have bb := h.2.2.2.gt (q + 46 + eN t q - 1)
    rw [if_neg (nI_nle w0 (by omega)), show nI (q + 46 + eN t q) - 1 = nI (q + 46 + eN t q - 1) from subI (b := 1) (by omega), f_get h (by omega), bnd_some, ← show nI (q + 46 + eN t q) - 1 = nI (q + 46 + eN t q - 1) from subI (b := 1) (by omega)]
    by_cases w1 : gt t (q + 46 + eN t q - 1) = 47
    · rw [if_pos (show nI (gt t (q + 46 + eN t q - 1)) = 47 by rw [w1]; rfl)]
      exact s38 true (by unfold dr2; rw [decide_eq_true w0, decide_eq_true w1]; rfl)
    · rw [if_neg (show ¬ nI (gt t (q + 46 + eN t q - 1)) = 47 from fun z => w1 ((nI_eq (by omega) (show 47 < 2 ^ 31 by decide)).mp z))]
      exact s38 false (by unfold dr2; rw [decide_eq_false w1, Bool.and_false])
  · have : eN t q = 0 := by omega
    rw [if_pos (show nI (eN t q) ≤ 0 by rw [this]; decide)]
    exact s38 false (by unfold dr2; rw [decide_eq_false w0]; rfl)
/-! the local head -/
noncomputable def ttB (t : List Nat) (p q n : Nat) : Bool := (List.range' 0 n).all fun i => decide (gt t (p + 30 + i) = gt t (q + 46 + i))
noncomputable def saB (t : List Nat) (p q : Nat) : Bool := decide (le2 t (p + 6) = le2 t (q + 8)) && (decide (le2 t (p + 8) = le2 t (q + 10)) && (decide (le4 t (p + 14) = le4 t (q + 16)) && (decide (le4 t (p + 18) = le4 t (q + 20)) && (decide (le4 t (p + 22) = le4 t (q + 24)) && (decide (le2 t (p + 26) = le2 t (q + 28)) && ttB t p q (eN t q))))))
theorem f_isSame {N : Nat} {c : hS} {t : List Nat} {e bg p q : Nat} (hN : 1000000 ≤ N) (h : row c 3 t) (hs : SL c t e bg q) (h13 : c.1 36 13 = nI p) (hp : p < 2 ^ 20) (hq : q < 2 ^ 20) : RB (f_X5_isSame N c (nI q)) c [9] (saB t p q) := by
  have b28 : eN t q < 65536 := le2_lt h.2.2.2 (q + 28)
  have c2 := fun k => le2_lt h.2.2.2 k
  have c4 := fun k => le4_lt h.2.2.2 k
  have RBif : ∀ {a b : Nat} {x y : Int64} {X Y : Option (Int32 × hS)} {bb : Bool}, x = lN a → y = lN b → a < 2 ^ 63 → b < 2 ^ 63 → RB X c [9] bb → RB Y c [9] false → RB (if j_cmp x y = 0 then X else Y) c [9] (decide (a = b) && bb) := by
    intro a b x y X Y bb hx hy ha hb h1 h2
    by_cases w : a = b
    · rw [if_pos ((cmp_eq' hx hy ha hb).mpr w), decide_eq_true w, Bool.true_and]; exact h1
    · rw [if_neg (fun z => w ((cmp_eq' hx hy ha hb).mp z)), decide_eq_false w]; exact h2
  unfold f_X5_isSame saB
  have key : ∀ n, RB (f_X5_isSame_2 N (nI q) (n + 7) c 0) c [9] (decide (le2 t (p + 6) = le2 t (q + 8)) && (decide (le2 t (p + 8) = le2 t (q + 10)) && (decide (le4 t (p + 14) = le4 t (q + 16)) && (decide (le4 t (p + 18) = le4 t (q + 20)) && (decide (le4 t (p + 22) = le4 t (q + 24)) && (decide (le2 t (p + 26) = le2 t (q + 28)) && ttB t p q (eN t q))))))) := by
    intro n
    rw [f_X5_isSame_2, if_neg (by decide), if_neg (by decide), show j_in 0 sa6.length = true from by decide, cond_true, show j_in 0 sa7.length = true from by decide, cond_true, show sa6.getD (0 : Int32).toNatClampNeg 0 = nI 6 from by decide, show sa7.getD (0 : Int32).toNatClampNeg 0 = 2 from by decide, h13, nI_add, nI_add, show nI (q + 6) + 2 = nI (q + 8) from nI_add (q + 6) 2, f_little2 hN h (by omega), bnd_some, f_little2 hN h (by omega), bnd_some]
    refine RBif rfl rfl (by have := c2 (p + 6); omega) (by have := c2 (q + 8); omega) ?_ RB.tellb
    rw [f_X5_isSame_2, if_neg (by decide), if_neg (by decide), show j_in (0 + 1) sa6.length = true from by decide, cond_true, show j_in (0 + 1) sa7.length = true from by decide, cond_true, show sa6.getD ((0 + 1) : Int32).toNatClampNeg 0 = nI 8 from by decide, show sa7.getD ((0 + 1) : Int32).toNatClampNeg 0 = 2 from by decide, h13, nI_add, nI_add, show nI (q + 8) + 2 = nI (q + 10) from nI_add (q + 8) 2, f_little2 hN h (by omega), bnd_some, f_little2 hN h (by omega), bnd_some]
    refine RBif rfl rfl (by have := c2 (p + 8); omega) (by have := c2 (q + 10); omega) ?_ RB.tellb
    rw [f_X5_isSame_2, if_neg (by decide), if_neg (by decide), show j_in (0 + 1 + 1) sa6.length = true from by decide, cond_true, show j_in (0 + 1 + 1) sa7.length = true from by decide, cond_true, show sa6.getD ((0 + 1 + 1) : Int32).toNatClampNeg 0 = nI 14 from by decide, show sa7.getD ((0 + 1 + 1) : Int32).toNatClampNeg 0 = 4 from by decide, h13, nI_add, nI_add, show nI (q + 14) + 2 = nI (q + 16) from nI_add (q + 14) 2, f_little4 hN h (by omega), bnd_some, f_little4 hN h (by omega), bnd_some]
    refine RBif rfl rfl (by have := c4 (p + 14); omega) (by have := c4 (q + 16); omega) ?_ RB.tellb
    rw [f_X5_isSame_2, if_neg (by decide), if_neg (by decide), show j_in (0 + 1 + 1 + 1) sa6.length = true from by decide, cond_true, show j_in (0 + 1 + 1 + 1) sa7.length = true from by decide, cond_true, show sa6.getD ((0 + 1 + 1 + 1) : Int32).toNatClampNeg 0 = nI 18 from by decide, show sa7.getD ((0 + 1 + 1 + 1) : Int32).toNatClampNeg 0 = 4 from by decide, h13, nI_add, nI_add, show nI (q + 18) + 2 = nI (q + 20) from nI_add (q + 18) 2, f_little4 hN h (by omega), bnd_some, f_little4 hN h (by omega), bnd_some]
    refine RBif rfl rfl (by have := c4 (p + 18); omega) (by have := c4 (q + 20); omega) ?_ RB.tellb
    rw [f_X5_isSame_2, if_neg (by decide), if_neg (by decide), show j_in (0 + 1 + 1 + 1 + 1) sa6.length = true from by decide, cond_true, show j_in (0 + 1 + 1 + 1 + 1) sa7.length = true from by decide, cond_true, show sa6.getD ((0 + 1 + 1 + 1 + 1) : Int32).toNatClampNeg 0 = nI 22 from by decide, show sa7.getD ((0 + 1 + 1 + 1 + 1) : Int32).toNatClampNeg 0 = 4 from by decide, h13, nI_add, nI_add, show nI (q + 22) + 2 = nI (q + 24) from nI_add (q + 22) 2, f_little4 hN h (by omega), bnd_some, f_little4 hN h (by omega), bnd_some]
    refine RBif rfl rfl (by have := c4 (p + 22); omega) (by have := c4 (q + 24); omega) ?_ RB.tellb
    rw [f_X5_isSame_2, if_neg (by decide), if_neg (by decide), show j_in (0 + 1 + 1 + 1 + 1 + 1) sa6.length = true from by decide, cond_true, show j_in (0 + 1 + 1 + 1 + 1 + 1) sa7.length = true from by decide, cond_true, show sa6.getD ((0 + 1 + 1 + 1 + 1 + 1) : Int32).toNatClampNeg 0 = nI 26 from by decide, show sa7.getD ((0 + 1 + 1 + 1 + 1 + 1) : Int32).toNatClampNeg 0 = 2 from by decide, h13, nI_add, nI_add, show nI (q + 26) + 2 = nI (q + 28) from nI_add (q + 26) 2, f_little2 hN h (by omega), bnd_some, f_little2 hN h (by omega), bnd_some]
    refine RBif rfl rfl (by have := c2 (p + 26); omega) (by have := c2 (q + 28); omega) ?_ RB.tellb
    rw [f_X5_isSame_2, if_pos (by decide)]
    refine all_loop (F := f_X5_isSame_88 N (nI q)) (c := c) (j := eN t q) (P := fun i => decide (gt t (p + 30 + i) = gt t (q + 46 + i))) (fun n' k hk => ?_) (fun n' => ?_) (eN t q) N 0 (by omega) (by omega)
    · have e1 := h.2.2.2.gt (p + 30 + k)
      have e2 := h.2.2.2.gt (q + 46 + k)
      rw [f_X5_isSame_88, hs.2.2.2.1, if_neg (nI_ge hk (by omega)), h13, show nI p + 30 + nI k = nI (p + 30 + k) by rw [show (30 : Int32) = nI 30 from rfl, nI_add, nI_add], show nI q + 46 + nI k = nI (q + 46 + k) by rw [show (46 : Int32) = nI 46 from rfl, nI_add, nI_add], f_get h (by omega), bnd_some, f_get h (by omega), bnd_some]
      constructor
      · intro w
        rw [of_decide_eq_true w, if_pos rfl]
      · intro w
        rw [if_neg (fun z => (of_decide_eq_false w) ((nI_eq (by omega) (by omega)).mp z))]
        obtain ⟨c', a1, a2, _⟩ := RB.tellb (c := c) (a := 13) (p := c.1 36 13 + 30 + nI k)
        exact ⟨c', a1, a2⟩
    · rw [f_X5_isSame_88, hs.2.2.2.1, if_pos (nI_le (Nat.le_refl _) (by omega))]
  have := key (N - 7)
  rwa [show N - 7 + 7 = N by omega] at this
noncomputable def pl2 (t : List Nat) (q : Nat) : Nat := le4 t (q + 42)
noncomputable def dt2 (t : List Nat) (q : Nat) : Nat := pl2 t q + 30 + eN t q + le2 t (pl2 t q + 28)
noncomputable def lcB (t : List Nat) (bg q : Nat) : Bool := decide (pl2 t q + 30 ≤ bg) && (mkB t (pl2 t q) mk3 && (saB t (pl2 t q) q && decide (dt2 t q + le4 t (q + 20) ≤ bg)))
theorem f_isLocal {N : Nat} {c : hS} {t : List Nat} {e bg q : Nat} (hN : 1000000 ≤ N) (h : row c 3 t) (hs : SL c t e bg q) (hbg : bg ≤ 20000) (hq : q ≤ 20000) : RE (f_X5_isLocal N c (nI q)) c Sc (lcB t bg q) (fun c1 => SL c1 t e bg q ∧ c1.1 36 11 = c.1 36 11 ∧ c1.1 36 12 = c.1 36 12 ∧ c1.1 36 14 = nI (dt2 t q) ∧ c1.1 36 15 = nI (dt2 t q + le4 t (q + 20))) := by
  have b28 : eN t q < 65536 := le2_lt h.2.2.2 (q + 28)
  have b42 : pl2 t q < 2 ^ 32 := le4_lt h.2.2.2 (q + 42)
  have b20 := le4_lt h.2.2.2 (q + 20)
  have bl := le2_lt h.2.2.2 (pl2 t q + 28)
  unfold f_X5_isLocal lcB
  rw [show nI q + 42 = nI (q + 42) from nI_add q 42, f_little4 hN h (by omega), bnd_some, hs.2.1, show (30 : Int64) = lN 30 from rfl, lN_add, nI_l (by omega)]
  rw [show le4 t (q + 42) = pl2 t q from rfl]
  refine RE.if_ (cmp_le' rfl rfl (by omega) (by omega)) (fun w => ?_) (RE.tb (by decide))
  refine RE.set (by decide) ?_
  try dsimp only
  rw [lN_i, sI_s]
  have h1 := h.fr (S := [36]) (c1 := sI c 36 13 (nI (pl2 t q))) (fr.sI (by simp)) (by decide) (by decide)
  have s1 := hs.set (j := 13) (x := nI (pl2 t q)) (by decide)
  have a11 : (sI c 36 13 (nI (pl2 t q))).1 36 11 = c.1 36 11 := sI_j (by decide)
  have a12 : (sI c 36 13 (nI (pl2 t q))).1 36 12 = c.1 36 12 := sI_j (by decide)
  have a13 : (sI c 36 13 (nI (pl2 t q))).1 36 13 = nI (pl2 t q) := sI_s _ _ _ _
  revert h1 s1 a11 a12 a13
  generalize sI c 36 13 (nI (pl2 t q)) = c1
  intro h1 s1 a11 a12 a13
  refine RE.and_ (RE.of (f_isMarked (m := mk3) hN h1 (by omega) (by decide) (show byt mk3 from (by decide : ∀ x ∈ mk3, x < 256)) (by decide)) (by decide)) (fun c2 _ _ e2 => ?_)
  subst e2
  refine RE.and_ (RE.of (f_isSame hN h1 s1 a13 (by omega) (by omega)) (by decide)) (fun c3 _ _ e3 => ?_)
  subst e3
  rw [a13, show nI (pl2 t q) + 28 = nI (pl2 t q + 28) from nI_add _ 28, f_little2 hN h1 (by omega), bnd_some]
  refine RE.set (by decide) ?_
  try dsimp only
  rw [sI_s, s1.2.2.2.1, lN_i, show nI (pl2 t q) + 30 = nI (pl2 t q + 30) from nI_add _ 30, nI_add, nI_add, show pl2 t q + 30 + eN t q + le2 t (pl2 t q + 28) = dt2 t q from rfl]
  have h4 := h1.fr (S := [36]) (c1 := sI c3 36 14 (nI (dt2 t q))) (fr.sI (by simp)) (by decide) (by decide)
  have hdt : dt2 t q < 2 ^ 20 := by unfold dt2; omega
  rw [show nI q + 20 = nI (q + 20) from nI_add q 20, f_little4 hN h4 (by omega), bnd_some, sI_j (show (7 : Nat) ≠ 14 by decide), s1.2.1, nI_l (show dt2 t q < 2 ^ 31 by omega), nI_l (show bg < 2 ^ 31 by omega), lN_add]
  have fin : dt2 t q + le4 t (q + 20) ≤ bg → RE (st1 (sI (sI c3 36 14 (nI (dt2 t q))) 36 15 ((lN (dt2 t q + le4 t (q + 20))).toInt32)) fun c13 => some (1, c13)) (sI c3 36 14 (nI (dt2 t q))) Sc true (fun c1 => SL c1 t e bg q ∧ c1.1 36 11 = c.1 36 11 ∧ c1.1 36 12 = c.1 36 12 ∧ c1.1 36 14 = nI (dt2 t q) ∧ c1.1 36 15 = nI (dt2 t q + le4 t (q + 20))) := by
    intro _
    refine RE.set (by decide) ?_
    rw [lN_i]
    exact RE.yes ⟨(s1.set (by decide)).set (by decide), by rw [sI_j (by decide), sI_j (by decide)]; exact a11, by rw [sI_j (by decide), sI_j (by decide)]; exact a12, by rw [sI_j (by decide), sI_s], sI_s _ _ _ _⟩
  have := RE.if_ (b := true) (cmp_le' (rfl : lN (dt2 t q + le4 t (q + 20)) = _) (rfl : lN bg = _) (by omega) (by omega)) fin (RE.tb (c := sI c3 36 14 (nI (dt2 t q))) (a := 12) (p := nI (q + 42)) (by decide))
  rwa [Bool.and_true] at this
end
section
/-! PURE: the class reads kind 2: the whole -/
noncomputable def bdB (t : List Nat) (q : Nat) (out : List Nat) : Bool := decide (out.length = le4 t (q + 24)) && decide (crc out = nI (le4 t (q + 16)))
theorem f_isBody {N : Nat} {c : hS} {t out : List Nat} {q : Nat} (hN : 1000000 ≤ N) (h : row c 3 t) (h7 : row c 7 out) (h12 : c.1 36 12 = nI (le4 t (q + 24))) (hz : le4 t (q + 24) ≤ 400) (hq : q ≤ 20000) : RB (f_X5_isBody N c (nI q)) c [9] (bdB t q out) := by
  have hol := h7.lt
  unfold f_X5_isBody bdB
  rw [f_size h7, bnd_some, h12]
  by_cases w : out.length = le4 t (q + 24)
  · rw [if_pos (by rw [w]), decide_eq_true w, Bool.true_and, f_checkOf hN h7, bnd_some, show nI q + 16 = nI (q + 16) from nI_add q 16, f_little4 hN h (by omega), bnd_some, lN_i]
    by_cases v : crc out = nI (le4 t (q + 16))
    · rw [if_pos v, decide_eq_true v]; exact RB.yes
    · rw [if_neg v, decide_eq_false v]; exact RB.last_ RB.tell
  · rw [if_neg (fun z => w ((nI_eq (by omega) (by omega)).mp z)), decide_eq_false w]; exact RB.tellb
noncomputable def by2 (t : List Nat) (q : Nat) : Option (List Nat) := if le2 t (q + 10) = 0 then some ((t.drop (dt2 t q)).take (le4 t (q + 20))) else opn t (dt2 t q) (dt2 t q + le4 t (q + 20)) (le4 t (q + 24))
noncomputable def hd2 (t : List Nat) (e bg q : Nat) : Bool := enB t e q && (mmB t q && (nameB (nm2 t q) && lcB t bg q))
noncomputable def en2 (t : List Nat) (q : Nat) (out : List Nat) (ms : List Mb) : Option (List Mb) := if bdB t q out = true ∧ mayB ms (nm2 t q) (dr2 t q) = true then some (comeM ms (nm2 t q, out, dr2 t q)) else none
noncomputable def st2 (t : List Nat) (e bg q : Nat) (ms : List Mb) : Option (List Mb) := if hd2 t e bg q = true then (match by2 t q with
  | none => none
  | some out => en2 t q out ms) else none
noncomputable def rdG (st : Nat → List Mb → Option (List Mb)) (nx : Nat → Nat) (e : Nat) : Nat → Nat → List Mb → Option (List Mb)
  | 0, q, ms => if q = e then some ms else none
  | n + 1, q, ms => match st q ms with
    | none => none
    | some ms' => rdG st nx e n (nx q) ms'
noncomputable def rd2 (t : List Nat) (ms : List Mb) : Option (List Mb) := if (decide (22 ≤ t.length) && clB t (t.length - 22)) = true then rdG (st2 t (t.length - 22) (le4 t (t.length - 22 + 16))) (beh2 t) (t.length - 22) (le2 t (t.length - 22 + 10)) (le4 t (t.length - 22 + 16)) ms else none
noncomputable def S2 (s : Nat) : List Nat := [5, 6, 36] ++ (Sop ++ shR s)
theorem S2_of {s : Nat} {S : List Nat} {c c' : hS} (h : fr S c c') (hS : ∀ o, o ∈ S → o ∈ [5, 6, 36] ++ Sop) : fr (S2 s) c c' := h.mono (fun o ho => by unfold S2; rw [← List.append_assoc]; exact List.mem_append_left _ (hS o ho))
theorem S2n {s : Nat} {Nn : List Nat} (h : ∀ o, o ∈ Nn → o ∈ [5, 6, 36] ++ Sop) : ∀ o, o ∈ Nn → o < 37 ∧ o ∈ S2 s := fun o ho => ⟨(by decide : ∀ o, o ∈ [5, 6, 36] ++ Sop → o < 37) o (h o ho), by unfold S2; rw [← List.append_assoc]; exact List.mem_append_left _ (h o ho)⟩
theorem S2_sh {s : Nat} {c c' : hS} (h : fr (9 :: shR s) c c') : fr (S2 s) c c' := h.mono (fun o ho => by
  unfold S2
  rcases List.mem_cons.mp ho with q | q
  · rw [q]; simp
  · exact List.mem_append_right _ (List.mem_append_right _ q))
theorem f_takeIn138 {N : Nat} {c : hS} {s : Nat} {t out : List Nat} {e bg q : Nat} {ms : List Mb} {K : hS → Int32 → Int32 → Int32 → Option (Int32 × hS)} {v2 v4 : Int32} {r : List Mb → Option (List Mb)} (hN : 1000000 ≤ N) (hs : s = 37 ∨ s = 119) (h : row c 3 t) (h5 : row c 5 (nm2 t q)) (h7 : row c 7 out) (hfx : fxd c) (hsl : SL c t e bg q) (h11 : c.1 36 11 = bI (dr2 t q)) (h12 : c.1 36 12 = nI (le4 t (q + 24))) (hz : le4 t (q + 24) ≤ 400) (hq : q ≤ 20000) (hnm : (nm2 t q).length ≤ 90) (hsh : shf c s ms)
    (hK : ∀ c' ms', row c' 3 t → 0 ≤ c'.1 5 1 → 0 ≤ c'.1 7 1 → fxd c' → c'.1 36 6 = nI e → c'.1 36 7 = nI bg → shf c' s ms' → RD (K c' v2 (nI (beh2 t q)) (v4 + 1)) c' s (S2 s) (r ms')) :
    RD (f_X5_takeIn_138 N s K c v2 (nI q) v4) c s (S2 s) (match en2 t q out ms with
      | none => none
      | some ms' => r ms') := by
  have ns : ∀ o, o < 37 → o ∉ shR s := fun o ho q => by rw [shR_mem] at q; omega
  unfold f_X5_takeIn_138
  obtain ⟨c2, a1, a2, a3⟩ := f_isBody hN h h7 h12 hz hq
  rw [a1, bnd_some]
  unfold en2
  cases hb : bdB t q out with
  | false =>
    rw [if_pos (show bI false = 0 from rfl), if_neg (by simp)]
    exact RD.no ⟨c2, rfl, a2⟩ rfl fr.rf hsh hs (S2n (by decide))
  | true =>
    cases a3 hb
    have hol : out.length = le4 t (q + 24) := by
      unfold bdB at hb
      simp only [Bool.and_eq_true, decide_eq_true_eq] at hb
      exact hb.1
    rw [if_neg (by decide), f_size h7, bnd_some, h11]
    obtain ⟨c6, m1, m2, m3, mf⟩ := f_arrives (d := dr2 t q) (p := nI q) (i := 0) (j := out.length) hN hsh hs h5 h7 (by decide) hnm (by omega) (by omega) (by omega)
    rw [show nI 0 = (0 : Int32) from rfl] at m1
    rw [m1, bnd_some]
    cases hm : mayB ms (nm2 t q) (dr2 t q) with
    | false =>
      rw [if_pos (show bI false = 0 from rfl), if_neg (by simp)]
      exact RD.no ⟨c6, rfl, mf hm⟩ rfl fr.rf hsh hs (S2n (by decide))
    | true =>
      obtain ⟨m4, m5⟩ := m3 hm
      rw [List.drop_zero, Nat.sub_zero, List.take_length] at m4
      rw [if_neg (by decide), if_pos ⟨rfl, rfl⟩, (m5.i (ns 36 (by decide)) 10).trans hsl.2.2.2.2]
      have fx6 : fxd c6 := hfx.fr m5 (fun o ho => by rw [shR_mem] at ho; omega)
      obtain ⟨c7, w1, w2, w3⟩ := hK c6 _ (h.fr m5 (ns _ (by decide)) (ns _ (by decide))) (m5.2.1 h5.nn) (m5.2.2 h7.nn) fx6 ((m5.i (ns 36 (by decide)) 6).trans hsl.1) ((m5.i (ns 36 (by decide)) 7).trans hsl.2.1) m4
      exact ⟨c7, w1, (S2_sh m2).tr w2, w3⟩
theorem RD.and_ {A : Option (Int32 × hS)} {B : hS → Option (Int32 × hS)} {c : hS} {s : Nat} {S' : List Nat} {a : Bool} {P : hS → Prop} {r : Option (List Mb)} {ms : List Mb} (hsh : shf c s ms) (hs : s = 37 ∨ s = 119) (hA : RE A c S' a P) (hS : ∀ o, o ∈ S' → o ∈ [5, 6, 36] ++ Sop) (hB : a = true → ∀ c1, fr S' c c1 → P c1 → RD (B c1) c1 s (S2 s) r) : RD (bnd A fun x c2 => if x = 0 then some (0, c2) else B c2) c s (S2 s) (if a = true then r else none) := by
  obtain ⟨c1, e1, f1, g1⟩ := hA
  rw [e1, bnd_some]
  cases a with
  | false =>
    rw [if_pos (show bI false = 0 from rfl), if_neg (by decide)]
    exact RD.no ⟨c1, rfl, f1⟩ rfl fr.rf hsh hs (S2n hS)
  | true =>
    rw [if_neg (by decide), if_pos rfl]
    obtain ⟨c2, e2, f2, g2⟩ := hB rfl c1 f1 (g1 rfl)
    exact ⟨c2, e2, (S2_of f1 hS).tr f2, g2⟩
theorem RD.pre {X : Option (Int32 × hS)} {c c1 : hS} {s : Nat} {S : List Nat} {r : Option (List Mb)} (hf : fr S c c1) (h : RD X c1 s S r) : RD X c s S r := by
  obtain ⟨c2, e2, f2, g2⟩ := h
  exact ⟨c2, e2, hf.tr f2, g2⟩
noncomputable def aft2 (t : List Nat) (q : Nat) (ms : List Mb) (r : List Mb → Option (List Mb)) : Option (List Mb) := match by2 t q with
  | none => none
  | some out => (match en2 t q out ms with
    | none => none
    | some ms' => r ms')
theorem rdG_so {t : List Nat} {e bg q n : Nat} {ms : List Mb} : rdG (st2 t e bg) (beh2 t) e (n + 1) q ms = (if enB t e q = true then if mmB t q = true then if nameB (nm2 t q) = true then if lcB t bg q = true then aft2 t q ms (rdG (st2 t e bg) (beh2 t) e n (beh2 t q)) else none else none else none else none) := by
  rw [rdG]
  unfold aft2
  have h : st2 t e bg q ms = if hd2 t e bg q = true then (match by2 t q with
    | none => none
    | some out => en2 t q out ms) else none := rfl
  rw [h]
  unfold hd2
  cases enB t e q <;> cases mmB t q <;> cases nameB (nm2 t q) <;> cases lcB t bg q <;> first | rfl | (cases by2 t q <;> rfl)
theorem f_takeIn34 {N s : Nat} {t : List Nat} {e bg k : Nat} (hN : 1000000 ≤ N) (hs : s = 37 ∨ s = 119) (he : e ≤ t.length) (hbg : bg ≤ e) (hk : k < 2 ^ 16) : ∀ n m i q c ms, n < m → n + i = k → q ≤ e → row c 3 t → 0 ≤ c.1 5 1 → 0 ≤ c.1 7 1 → fxd c → c.1 36 6 = nI e → c.1 36 7 = nI bg → shf c s ms → RD (f_X5_takeIn_34 N s m c (nI k) (nI q) (nI i)) c s (S2 s) (rdG (st2 t e bg) (beh2 t) e n q ms) := by
  intro n
  induction n with
  | zero =>
    intro m i q c ms hm hi hq h h5 h7 hfx h6 hb hsh
    have htl : t.length ≤ 20000 := h.1
    obtain ⟨m, rfl⟩ : ∃ m', m = m' + 1 := ⟨m - 1, by omega⟩
    rw [f_X5_takeIn_34, if_pos (nI_le (by omega) (by omega)), h6]
    unfold rdG
    by_cases w : q = e
    · rw [if_pos (by rw [w]), if_pos w]; exact ⟨c, rfl, fr.rf, ⟨_, hsh⟩, fun ms' z => by cases z; exact hsh⟩
    · rw [if_neg (fun z => w ((nI_eq (by omega) (by omega)).mp z)), if_neg w]
      obtain ⟨c', a1, a2, _⟩ := RB.last_ (RB.tell (c := c) (a := 12) (p := nI q))
      exact RD.no ⟨c', a1, a2⟩ rfl fr.rf hsh hs (S2n (by decide))
  | succ n ih =>
    intro m i q c ms hm hi hq h h5 h7 hfx h6 hb hsh
    have htl : t.length ≤ 20000 := h.1
    obtain ⟨m, rfl⟩ : ∃ m', m = m' + 1 := ⟨m - 1, by omega⟩
    rw [f_X5_takeIn_34, if_neg (nI_ge (by omega) (by omega)), rdG_so]
    refine RD.and_ hsh hs (f_isEntry hN h h6 hb (by omega) hq) (by decide) (fun hen c4 f4 p4 => ?_)
    have hbe : beh2 t q ≤ e := by
      unfold enB at hen
      simp only [Bool.and_eq_true, decide_eq_true_eq] at hen
      exact hen.2.2.2.2.2.2
    have h4 := h.fr f4 (by decide) (by decide)
    have s4 := hsh.fr f4 (fun o ho => by simp only [List.mem_cons, List.not_mem_nil, or_false] at ho; omega)
    refine RD.and_ s4 hs (f_isMember2 hN h4 (f4.2.1 h5) p4 he hbe) (by decide) (fun hmm c6 f6 p6 => ?_)
    have hsz : szB t q = true := by
      unfold mmB at hmm
      split at hmm
      · simp only [Bool.and_eq_true] at hmm; exact hmm.2
      · exact hmm
    have hz : le4 t (q + 24) ≤ 400 := by
      unfold szB at hsz
      simp only [Bool.and_eq_true, decide_eq_true_eq] at hsz
      exact hsz.1
    have h6' := h4.fr f6 (by decide) (by decide)
    have s6 := s4.fr f6 (fun o ho => by simp only [List.mem_cons, List.not_mem_nil, or_false] at ho; omega)
    refine RD.and_ s6 hs (RE.of (S := [9]) (f_isNamed hN p6.2.1) (by decide)) (by decide) (fun hnb c8 _ p8 => ?_)
    subst p8
    have nl90 : (nm2 t q).length ≤ 90 := by
      unfold nameB at hnb
      simp only [Bool.and_eq_true, decide_eq_true_eq] at hnb
      exact hnb.1.2
    refine RD.and_ s6 hs (f_isLocal hN h6' p6.1 (by omega) (by omega)) (by decide) (fun hlc c10 f10 p10 => ?_)
    obtain ⟨s10, d10, z10, a10, b10⟩ := p10
    rw [p6.2.2.1] at d10
    rw [p6.2.2.2] at z10
    have hdt : dt2 t q + le4 t (q + 20) ≤ bg := by
      unfold lcB at hlc
      simp only [Bool.and_eq_true, decide_eq_true_eq] at hlc
      exact hlc.2.2.2
    have h10 := h6'.fr f10 (by decide) (by decide)
    have n10 := p6.2.1.fr f10 (by decide) (by decide)
    have o10 := f10.2.2 (f6.2.2 (f4.2.2 h7))
    have x10 := ((hfx.fr f4 (by decide)).fr f6 (by decide)).fr f10 (by decide)
    have sh10 := s6.fr f10 (fun o ho => by simp only [List.mem_cons, List.not_mem_nil, or_false] at ho; omega)
    have b16 := le2_lt h.2.2.2 (q + 10)
    rw [s10.2.2.1]
    have go : ∀ c1 out, row c1 3 t → row c1 5 (nm2 t q) → row c1 7 out → fxd c1 → SL c1 t e bg q → c1.1 36 11 = bI (dr2 t q) → c1.1 36 12 = nI (le4 t (q + 24)) → shf c1 s ms → RD (f_X5_takeIn_138 N s (f_X5_takeIn_34 N s m) c1 (nI k) (nI q) (nI i)) c1 s (S2 s) (match en2 t q out ms with
      | none => none
      | some ms' => rdG (st2 t e bg) (beh2 t) e n (beh2 t q) ms') := by
      intro c1 out r3 r5 r7 rx rs r11 r12 rsh
      refine f_takeIn138 hN hs r3 r5 r7 rx rs r11 r12 hz (by omega) nl90 rsh (fun c' ms' y3 y5 y7 yx y6 yb ysh => ?_)
      rw [nI_1]
      exact ih m (i + 1) _ c' ms' (by omega) (by omega) hbe y3 y5 y7 yx y6 yb ysh
    unfold aft2
    by_cases w0 : le2 t (q + 10) = 0
    · have hby : by2 t q = some ((t.drop (dt2 t q)).take (le4 t (q + 20))) := by unfold by2; rw [if_pos w0]
      have h20 : le4 t (q + 20) = le4 t (q + 24) := by
        unfold szB at hsz
        rw [if_pos w0] at hsz
        simp only [Bool.and_eq_true, decide_eq_true_eq] at hsz
        exact hsz.2
      rw [hby, if_pos (show nI (le2 t (q + 10)) = 0 by rw [w0]; rfl)]
      obtain ⟨c13, e13, r13, f13⟩ := f_cutN o10
      have h13 := h10.fr f13 (by decide) (by decide)
      rw [e13, bnd_some, (f13.i (by decide) 14).trans a10, (f13.i (by decide) 15).trans b10]
      obtain ⟨c14, e14, r14, f14⟩ := f_addPart (b := 7) (f := 3) (i := dt2 t q) (j := dt2 t q + le4 t (q + 20)) hN r13 h13 (by decide) (by decide) (by decide) (by omega) (by omega) (show ([] : List Nat).length + _ ≤ 512 by simp; omega)
      rw [e14, bnd_some]
      rw [List.nil_append, show dt2 t q + le4 t (q + 20) - dt2 t q = le4 t (q + 20) by omega] at r14
      have f13' : fr [7, 8] c10 c13 := f13.mono (by decide)
      have ff := f13'.tr f14
      exact RD.pre (S2_of ff (by decide)) (go c14 _ (h10.fr ff (by decide) (by decide)) (n10.fr ff (by decide) (by decide)) r14 (x10.fr ff (by decide)) (s10.fr ff (by decide)) ((ff.i (by decide) 11).trans d10) ((ff.i (by decide) 12).trans z10) (sh10.fr ff (fun o ho => by simp only [List.mem_cons, List.not_mem_nil, or_false] at ho; omega)))
    · have hby : by2 t q = opn t (dt2 t q) (dt2 t q + le4 t (q + 20)) (le4 t (q + 24)) := by unfold by2; rw [if_neg w0]
      rw [hby, if_neg (nI_ne0 (by omega) (by omega)), a10, b10, z10]
      obtain ⟨c12, e12, f12, r12⟩ := f_open (a := dt2 t q) (behind := dt2 t q + le4 t (q + 20)) (most := le4 t (q + 24)) hN h10 o10 x10 (by omega) (by omega) (by omega)
      rw [e12, bnd_some]
      cases ho : opn t (dt2 t q) (dt2 t q + le4 t (q + 20)) (le4 t (q + 24)) with
      | none =>
        rw [show bI (none : Option (List Nat)).isSome = 0 from rfl, if_pos rfl]
        exact RD.no (b := false) ⟨c12, rfl, f12⟩ rfl fr.rf sh10 hs (S2n (by decide))
      | some out =>
        rw [show bI (some out).isSome = 1 from rfl, if_neg (by decide)]
        exact RD.pre (S2_of f12 (by decide)) (go c12 out (h10.fr f12 (by decide) (by decide)) (n10.fr f12 (by decide) (by decide)) (r12 out ho) (x10.fr f12 (by decide)) (s10.fr f12 (by decide)) ((f12.i (by decide) 11).trans d10) ((f12.i (by decide) 12).trans z10) (sh10.fr f12 (fun o ho => by have : o < 37 := (by decide : ∀ o, o ∈ Sop → o < 37) o ho; omega)))
theorem f_takeIn2 {N : Nat} {c : hS} {s : Nat} {t : List Nat} {ms : List Mb} (hN : 1000000 ≤ N) (h : row c 3 t) (hl : 0 ≤ c.1 5 1) (h7 : 0 ≤ c.1 7 1) (hfx : fxd c) (hsh : shf c s ms) (hs : s = 37 ∨ s = 119) : RD (f_X5_takeIn N c s) c s (S2 s) (rd2 t ms) := by
  have htl : t.length ≤ 20000 := h.1
  unfold f_X5_takeIn rd2
  refine RD.and_ hsh hs (f_isClosing hN h) (by decide) (fun hcl c2 f2 p2 => ?_)
  simp only [Bool.and_eq_true, decide_eq_true_eq] at hcl
  have h2 := h.fr f2 (by decide) (by decide)
  have b10 := le2_lt h.2.2.2 (t.length - 22 + 10)
  have hbg : le4 t (t.length - 22 + 16) ≤ t.length - 22 := by
    have := hcl.2
    unfold clB at this
    simp only [Bool.and_eq_true, decide_eq_true_eq] at this
    omega
  rw [p2.1, show nI (t.length - 22) + 10 = nI (t.length - 22 + 10) from nI_add _ 10, f_little2 hN h2 (by omega), bnd_some, p2.2, lN_i, show (0 : Int32) = nI 0 from rfl]
  exact f_takeIn34 hN hs (by omega) hbg (by omega) _ N 0 _ c2 ms (by omega) rfl hbg h2 (f2.2.1 hl) (f2.2.2 h7) (hfx.fr f2 (by decide)) p2.1 p2.2 (hsh.fr f2 (fun o ho => by simp only [List.mem_cons, List.not_mem_nil, or_false] at ho; omega))
end
section
/-! PURE: the class's public methods: rows -/
theorem i_cases (x : Int32) : x < 0 ∨ ∃ k, k < 2 ^ 31 ∧ x = nI k := by
  by_cases h : x < 0
  · exact Or.inl h
  · refine Or.inr ⟨x.toInt.toNat, ?_, ?_⟩
    · have := Int32.toInt_lt x
      omega
    · have h0 : 0 ≤ x.toInt := by
        rw [Int32.lt_iff_toInt_lt] at h
        have : (0 : Int32).toInt = 0 := by decide
        omega
      have h1 := Int32.toInt_lt x
      apply Int32.toInt_inj.mp
      rw [show nI x.toInt.toNat = Int32.ofNat x.toInt.toNat from rfl, Int32.toInt_ofNat_of_lt (by omega)]
      omega
/-- nothing of the reference or of the law has changed since g -/
noncomputable def xt (g c : hS) : Prop := ∀ o, 201 ≤ o → (∀ j, c.1 o j = g.1 o j) ∧ (∀ j, c.2.1 o j = g.2.1 o j) ∧ ∀ j, c.2.2 o j = g.2.2 o j
theorem xt.rf {c : hS} : xt c c := fun _ _ => ⟨fun _ => rfl, fun _ => rfl, fun _ => rfl⟩
theorem xt.mv {S : List Nat} {g c c1 : hS} (h : xt g c) (hf : fr S c c1) (hS : ∀ o, o ∈ S → o < 201) : xt g c1 := fun o ho => by
  have n : o ∉ S := fun q => by have := hS o q; omega
  exact ⟨fun j => ((hf.1 o n).1 j).trans ((h o ho).1 j), fun j => ((hf.1 o n).2.1 j).trans ((h o ho).2.1 j), fun j => ((hf.1 o n).2.2 j).trans ((h o ho).2.2 j)⟩
/-- the class's state: buffer, tape, members -/
noncomputable def PC (g c : hS) (b t : List Nat) (ms : List Mb) : Prop := row c 1 b ∧ row c 3 t ∧ 0 ≤ c.1 5 1 ∧ 0 ≤ c.1 7 1 ∧ fxd c ∧ (okM ms ∧ xt g c) ∧ ∃ s s' ms', c.2.2 0 8 = s ∧ c.2.2 0 9 = s' ∧ ((s = 37 ∧ s' = 119) ∨ (s = 119 ∧ s' = 37)) ∧ shf c s ms ∧ shf c s' ms'
theorem PC.kp {S : List Nat} {g c c1 : hS} {b t : List Nat} {ms : List Mb} (h : PC g c b t ms) (hf : fr S c c1) (h0 : ∀ o, o ∈ S → o = 9 ∨ o = 10 ∨ o = 11 ∨ (20 ≤ o ∧ o < 37)) : PC g c1 b t ms := by
  obtain ⟨r1, r3, r5, r7, fx, ok, s, s', ms', e1, e2, e3, e4, e5⟩ := h
  have n : ∀ o, ¬ (o = 9 ∨ o = 10 ∨ o = 11 ∨ (20 ≤ o ∧ o < 37)) → o ∉ S := fun o ho q => ho (h0 o q)
  refine ⟨r1.fr hf (n _ (by omega)) (n _ (by omega)), r3.fr hf (n _ (by omega)) (n _ (by omega)), hf.2.1 r5, hf.2.2 r7, fx.fr hf (fun o ho => by have := h0 o ho; omega), ⟨ok.1, ok.2.mv hf (fun o ho => by have := h0 o ho; omega)⟩, s, s', ms', (hf.r (n _ (by omega)) 8).trans e1, (hf.r (n _ (by omega)) 9).trans e2, e3, e4.fr hf (fun o ho => by have := h0 o ho; omega), e5.fr hf (fun o ho => by have := h0 o ho; omega)⟩
theorem PC.buf {g c c1 : hS} {b b' t : List Nat} {ms : List Mb} (h : PC g c b t ms) (hf : fr [1, 2] c c1) (hb : row c1 1 b') : PC g c1 b' t ms := by
  obtain ⟨r1, r3, r5, r7, fx, ok, s, s', ms', e1, e2, e3, e4, e5⟩ := h
  refine ⟨hb, r3.fr hf (by decide) (by decide), hf.2.1 r5, hf.2.2 r7, fx.fr hf (by decide), ⟨ok.1, ok.2.mv hf (by decide)⟩, s, s', ms', (hf.r (by decide) 8).trans e1, (hf.r (by decide) 9).trans e2, e3, e4.fr hf (fun o ho => by simp at ho; omega), e5.fr hf (fun o ho => by simp at ho; omega)⟩
theorem PC.tap {g c c1 : hS} {b t t' : List Nat} {ms : List Mb} (h : PC g c b t ms) (hf : fr Spk c c1) (hb : row c1 3 t') : PC g c1 b t' ms := by
  obtain ⟨r1, r3, r5, r7, fx, ok, s, s', ms', e1, e2, e3, e4, e5⟩ := h
  refine ⟨r1.fr hf (by decide) (by decide), hb, hf.2.1 r5, hf.2.2 r7, fx.fr hf (by decide), ⟨ok.1, ok.2.mv hf (by decide)⟩, s, s', ms', (hf.r (by decide) 8).trans e1, (hf.r (by decide) 9).trans e2, e3, e4.fr hf (fun o ho => by simp at ho; omega), e5.fr hf (fun o ho => by simp at ho; omega)⟩
/-- a public method's answer: its number in the law's words, the value, the state behind it -/
noncomputable def AN {α : Type} (g : hS) (X : Option ((α ⊕ Nat) × hS)) (pm : Nat → Nat) (k : Nat) (v : α) (b t : List Nat) (ms : List Mb) : Prop := ∃ r c', X = some (r, c') ∧ PC g c' b t ms ∧ (match r with
  | .inl x => k = 0 ∧ x = v
  | .inr p => k ≠ 0 ∧ pm p = k)
theorem AN.ok {α : Type} {X : Option ((α ⊕ Nat) × hS)} {pm : Nat → Nat} {k : Nat} {v : α} {g c' : hS} {b t : List Nat} {ms : List Mb} (hX : X = some (.inl v, c')) (hk : k = 0) (h : PC g c' b t ms) : AN g X pm k v b t ms := ⟨_, _, hX, h, hk, rfl⟩
theorem AN.no {α : Type} {X : Option ((α ⊕ Nat) × hS)} {pm : Nat → Nat} {k p : Nat} {v : α} {g c' : hS} {b t : List Nat} {ms : List Mb} (hX : X = some (.inr p, c')) (hk : pm p = k) (h0 : k ≠ 0) (h : PC g c' b t ms) : AN g X pm k v b t ms := ⟨_, _, hX, h, h0, hk⟩
noncomputable def big (x : Int64) (m : Nat) : List Nat := (List.range m).reverse.map fun k => b8 (j_lushr x (8 * nI k)).toInt32
theorem big_len (x : Int64) (m : Nat) : (big x m).length = m := by unfold big; simp
/-! type -/
noncomputable def tyK (b : List Nat) (n : Int32) : Nat := if n < 1 ∨ 8 < n then 1 else if 512 < b.length + n.toNatClampNeg then 2 else 0
noncomputable def tyB (b : List Nat) (x : Int64) (n : Int32) : List Nat := if tyK b n = 0 then b ++ big x n.toNatClampNeg else b
noncomputable def tyM (p : Nat) : Nat := if p = 11 then 1 else 2
theorem c_type {N : Nat} {g c : hS} {b t : List Nat} {ms : List Mb} {x : Int64} {n : Int32} (hN : 1000000 ≤ N) (h : PC g c b t ms) : AN g (f_X11_type N c x n) tyM (tyK b n) (nI (tyB b x n).length) (tyB b x n) t ms := by
  have hb := h.1
  have hbl : b.length ≤ 512 := hb.1
  unfold f_X11_type
  by_cases h1 : n < 1
  · have k1 : tyK b n = 1 := by unfold tyK; rw [if_pos (Or.inl h1)]
    have e1 : tyB b x n = b := by unfold tyB; rw [if_neg (by rw [k1]; decide)]
    rw [if_pos h1, k1, e1]
    exact AN.no rfl rfl (by decide) h
  · rw [if_neg h1]
    by_cases h8 : n ≤ 8
    · rw [if_pos h8]
      have hor : ¬ (n < 1 ∨ 8 < n) := fun q => q.elim h1 (fun z => absurd h8 (Int32.not_le.mpr z))
      rcases i_cases n with q | ⟨k, hk, rfl⟩
      · exact absurd (Int32.lt_of_lt_of_le q (by decide)) h1
      · have k8 : k ≤ 8 := (nI_leI hk (show 8 < 2 ^ 31 by decide)).mp h8
        rw [f_size hb, bnd_some, nI_add, ]
        by_cases h5 : b.length + k ≤ 512
        · have k1 : tyK b (nI k) = 0 := by unfold tyK; rw [if_neg hor, nI_clamp hk, if_neg (by omega)]
          have e1 : tyB b x (nI k) = b ++ big x k := by unfold tyB; rw [if_pos k1, nI_clamp hk]
          rw [if_pos (show nI (b.length + k) ≤ 512 from nI_le (b := 512) h5 (by decide)), k1, e1]
          obtain ⟨c3, a1, a2, a3⟩ := f_addBig (x := x) (m := k) hN hb h5
          rw [a1, bnd_some, f_size a2, bnd_some]
          exact AN.ok rfl rfl (h.buf a3 a2)
        · have k1 : tyK b (nI k) = 2 := by unfold tyK; rw [if_neg hor, nI_clamp hk, if_pos (by omega)]
          have e1 : tyB b x (nI k) = b := by unfold tyB; rw [if_neg (by rw [k1]; decide)]
          rw [if_neg (show ¬ nI (b.length + k) ≤ 512 from nI_ge (show 512 < b.length + k by omega) (by omega)), k1, e1]
          exact AN.no rfl rfl (by decide) h
    · have k1 : tyK b n = 1 := by unfold tyK; rw [if_pos (Or.inr (Int32.not_le.mp h8))]
      have e1 : tyB b x n = b := by unfold tyB; rw [if_neg (by rw [k1]; decide)]
      rw [if_neg h8, k1, e1]
      exact AN.no rfl rfl (by decide) h
/-! keep, typed -/
noncomputable def keK (b : List Nat) (n : Int32) : Nat := if n < 0 then 1 else if b.length < n.toNatClampNeg then 1 else 0
noncomputable def keB (b : List Nat) (n : Int32) : List Nat := if keK b n = 0 then b.take n.toNatClampNeg else b
noncomputable def onM (_ : Nat) : Nat := 1
theorem c_keep {g c : hS} {b t : List Nat} {ms : List Mb} {n : Int32} (h : PC g c b t ms) : AN g (f_X11_keep c n) onM (keK b n) () (keB b n) t ms := by
  have hb := h.1
  have hbl := hb.lt
  unfold f_X11_keep
  rcases i_cases n with q | ⟨k, hk, rfl⟩
  · have k1 : keK b n = 1 := by unfold keK; rw [if_pos q]
    have e1 : keB b n = b := by unfold keB; rw [if_neg (by rw [k1]; decide)]
    rw [if_pos q, k1, e1]
    exact AN.no rfl rfl (by decide) h
  · rw [if_neg (nI_pos hk), f_size hb, bnd_some]
    by_cases h5 : k ≤ b.length
    · have k1 : keK b (nI k) = 0 := by unfold keK; rw [if_neg (nI_pos hk), nI_clamp hk, if_neg (by omega)]
      have e1 : keB b (nI k) = b.take k := by unfold keB; rw [if_pos k1, nI_clamp hk]
      rw [if_pos (nI_le h5 hbl), k1, e1]
      obtain ⟨c3, a1, a2, a3⟩ := f_cut hb h5
      rw [a1, bnd_some]
      exact AN.ok rfl rfl (h.buf (a3.mono (by decide)) a2)
    · have k1 : keK b (nI k) = 1 := by unfold keK; rw [if_neg (nI_pos hk), nI_clamp hk, if_pos (by omega)]
      have e1 : keB b (nI k) = b := by unfold keB; rw [if_neg (by rw [k1]; decide)]
      rw [if_neg (nI_ge (by omega) hk), k1, e1]
      exact AN.no rfl rfl (by decide) h
noncomputable def haB (b : List Nat) (i : Int32) : Bool := !decide (i < 0) && decide (i.toNatClampNeg < b.length)
theorem f_has' {c : hS} {r : Nat} {b : List Nat} {i : Int32} (h : row c r b) : f_X2_has c r i = some (bI (haB b i), c) := by
  unfold haB
  rcases i_cases i with q | ⟨k, hk, rfl⟩
  · rw [f_has_neg q, decide_eq_true q]; rfl
  · rw [f_has h hk, decide_eq_false (nI_pos hk), nI_clamp hk]
    by_cases z : k < b.length
    · rw [if_pos z, decide_eq_true z]; rfl
    · rw [if_neg z, decide_eq_false z]; rfl
theorem haB_so {b : List Nat} {i : Int32} (h : haB b i = true) : ∃ k, k < 2 ^ 31 ∧ i = nI k ∧ k < b.length := by
  unfold haB at h
  rcases i_cases i with q | ⟨k, hk, rfl⟩
  · rw [decide_eq_true q] at h; cases h
  · rw [nI_clamp hk] at h
    simp only [Bool.and_eq_true, decide_eq_true_eq] at h
    exact ⟨k, hk, rfl, h.2⟩
noncomputable def tdK (b : List Nat) (i : Int32) : Nat := if haB b i = true then 0 else 1
noncomputable def tdV (b : List Nat) (i : Int32) : Int32 := nI (gt b i.toNatClampNeg)
theorem c_typed {g c : hS} {b t : List Nat} {ms : List Mb} {i : Int32} (h : PC g c b t ms) : AN g (f_X11_typed c i) onM (tdK b i) (tdV b i) b t ms := by
  have hb := h.1
  unfold f_X11_typed tdK
  rw [f_has' hb, bnd_some]
  cases z : haB b i with
  | false => rw [if_pos (show bI false = 0 from rfl), if_neg (by decide)]; exact AN.no rfl rfl (by decide) h
  | true =>
    obtain ⟨k, hk, rfl, hkl⟩ := haB_so z
    rw [if_neg (by decide), if_pos rfl, f_get hb hk, bnd_some]
    unfold tdV
    rw [nI_clamp hk]
    exact AN.ok rfl rfl h
/-! count -/
noncomputable def coK (w : Int32) : Nat := if w = 0 ∨ w = 1 ∨ w = 2 then 0 else 1
noncomputable def coV (b t : List Nat) (ms : List Mb) (w : Int32) : Int32 := if w = 0 then nI ms.length else if w = 1 then nI b.length else nI t.length
theorem PC.sh {g c : hS} {b t : List Nat} {ms : List Mb} (h : PC g c b t ms) : ∃ s, c.2.2 0 8 = s ∧ (s = 37 ∨ s = 119) ∧ shf c s ms ∧ Nat.beq (kc s) 8 = true := by
  obtain ⟨r1, r3, r5, r7, fx, ok, s, s', ms', e1, e2, e3, e4, e5⟩ := h
  refine ⟨s, e1, by omega, e4, ?_⟩
  rcases e3 with ⟨rfl, _⟩ | ⟨rfl, _⟩ <;> decide
theorem c_count {g c : hS} {b t : List Nat} {ms : List Mb} {w : Int32} (h : PC g c b t ms) : AN g (f_X11_count c w) onM (coK w) (coV b t ms w) b t ms := by
  obtain ⟨s, s1, s2, s3, s4⟩ := h.sh
  unfold f_X11_count coK coV
  by_cases w0 : w = 0
  · rw [if_pos w0, if_pos (Or.inl w0), if_pos w0, s1, s4, cond_true]
    unfold f_X9_size
    rw [bnd_some, s3.2.1]
    exact AN.ok rfl rfl h
  · by_cases w1 : w = 1
    · rw [if_neg w0, if_pos w1, if_pos (Or.inr (Or.inl w1)), if_neg w0, if_pos w1, f_size h.1, bnd_some]
      exact AN.ok rfl rfl h
    · by_cases w2 : w = 2
      · rw [if_neg w0, if_neg w1, if_pos w2, if_pos (Or.inr (Or.inr w2)), if_neg w0, if_neg w1, f_size h.2.1, bnd_some]
        exact AN.ok rfl rfl h
      · rw [if_neg w0, if_neg w1, if_neg w2, if_neg (fun z => by rcases z with z | z | z <;> contradiction)]
        exact AN.no rfl rfl (by decide) h
/-! feed, end, poke -/
noncomputable def feK (t : List Nat) : Nat := if t.length + 20 ≤ 20000 then 0 else 1
noncomputable def fiv (a b c d e : Int32) : List Nat := big a.toInt64 4 ++ (big b.toInt64 4 ++ (big c.toInt64 4 ++ (big d.toInt64 4 ++ big e.toInt64 4)))
noncomputable def feT (t : List Nat) (p1 p2 p3 p4 p5 : Int32) : List Nat := if feK t = 0 then t ++ fiv p1 p2 p3 p4 p5 else t
theorem c_feed {N : Nat} {g c : hS} {b t : List Nat} {ms : List Mb} {p1 p2 p3 p4 p5 : Int32} (hN : 1000000 ≤ N) (h : PC g c b t ms) : AN g (f_X11_feed N c p1 p2 p3 p4 p5) onM (feK t) (nI (feT t p1 p2 p3 p4 p5).length) b (feT t p1 p2 p3 p4 p5) ms := by
  have ht := h.2.1
  have htl : t.length ≤ 20000 := ht.1
  unfold f_X11_feed
  rw [f_size ht, bnd_some, show nI t.length + 20 = nI (t.length + 20) from nI_add _ 20]
  by_cases q : t.length + 20 ≤ 20000
  · have k1 : feK t = 0 := by unfold feK; rw [if_pos q]
    have e1 : feT t p1 p2 p3 p4 p5 = t ++ fiv p1 p2 p3 p4 p5 := by unfold feT; rw [if_pos k1]
    rw [if_pos (show nI (t.length + 20) ≤ 20000 from nI_le (b := 20000) q (by decide)), k1, e1, show (4 : Int32) = nI 4 from rfl]
    obtain ⟨c3, a1, a2, a3⟩ := f_addBig (x := p1.toInt64) (m := 4) hN ht (show _ ≤ 20000 by omega)
    rw [a1, bnd_some]
    rw [show (List.range 4).reverse.map (fun k => b8 (j_lushr p1.toInt64 (8 * nI k)).toInt32) = big p1.toInt64 4 from rfl] at a2
    obtain ⟨c4, b1, b2, b3⟩ := f_addBig (x := p2.toInt64) (m := 4) hN a2 (show _ ≤ 20000 by rw [List.length_append, big_len]; omega)
    rw [b1, bnd_some]
    rw [show (List.range 4).reverse.map (fun k => b8 (j_lushr p2.toInt64 (8 * nI k)).toInt32) = big p2.toInt64 4 from rfl] at b2
    obtain ⟨c5, d1, d2, d3⟩ := f_addBig (x := p3.toInt64) (m := 4) hN b2 (show _ ≤ 20000 by rw [List.length_append, List.length_append, big_len, big_len]; omega)
    rw [d1, bnd_some]
    rw [show (List.range 4).reverse.map (fun k => b8 (j_lushr p3.toInt64 (8 * nI k)).toInt32) = big p3.toInt64 4 from rfl] at d2
    obtain ⟨c6, g1, g2, g3⟩ := f_addBig (x := p4.toInt64) (m := 4) hN d2 (show _ ≤ 20000 by rw [List.length_append, List.length_append, List.length_append, big_len, big_len, big_len]; omega)
    rw [g1, bnd_some]
    rw [show (List.range 4).reverse.map (fun k => b8 (j_lushr p4.toInt64 (8 * nI k)).toInt32) = big p4.toInt64 4 from rfl] at g2
    obtain ⟨c7, j1, j2, j3⟩ := f_addBig (x := p5.toInt64) (m := 4) hN g2 (show _ ≤ 20000 by rw [List.length_append, List.length_append, List.length_append, List.length_append, big_len, big_len, big_len, big_len]; omega)
    rw [j1, bnd_some]
    rw [show (List.range 4).reverse.map (fun k => b8 (j_lushr p5.toInt64 (8 * nI k)).toInt32) = big p5.toInt64 4 from rfl, List.append_assoc, List.append_assoc, List.append_assoc, List.append_assoc] at j2
    rw [f_size j2, bnd_some]
    exact AN.ok rfl rfl (h.tap (((((a3.tr b3).tr d3).tr g3).tr j3).mono (by decide)) j2)
  · have k1 : feK t = 1 := by unfold feK; rw [if_neg q]
    have e1 : feT t p1 p2 p3 p4 p5 = t := by unfold feT; rw [if_neg (by rw [k1]; decide)]
    rw [if_neg (show ¬ nI (t.length + 20) ≤ 20000 from nI_ge (show 20000 < t.length + 20 by omega) (by omega)), k1, e1]
    exact AN.no rfl rfl (by decide) h
theorem c_end {g c : hS} {b t : List Nat} {ms : List Mb} {n : Int32} (h : PC g c b t ms) : AN g (f_X11_end c n) onM (keK t n) () b (keB t n) ms := by
  have hb := h.2.1
  have hbl := hb.lt
  unfold f_X11_end
  rcases i_cases n with q | ⟨k, hk, rfl⟩
  · have k1 : keK t n = 1 := by unfold keK; rw [if_pos q]
    have e1 : keB t n = t := by unfold keB; rw [if_neg (by rw [k1]; decide)]
    rw [if_pos q, k1, e1]
    exact AN.no rfl rfl (by decide) h
  · rw [if_neg (nI_pos hk), f_size hb, bnd_some]
    by_cases h5 : k ≤ t.length
    · have k1 : keK t (nI k) = 0 := by unfold keK; rw [if_neg (nI_pos hk), nI_clamp hk, if_neg (by omega)]
      have e1 : keB t (nI k) = t.take k := by unfold keB; rw [if_pos k1, nI_clamp hk]
      rw [if_pos (nI_le h5 hbl), k1, e1]
      obtain ⟨c3, a1, a2, a3⟩ := f_cut hb h5
      rw [a1, bnd_some]
      exact AN.ok rfl rfl (h.tap (a3.mono (by decide)) a2)
    · have k1 : keK t (nI k) = 1 := by unfold keK; rw [if_neg (nI_pos hk), nI_clamp hk, if_pos (by omega)]
      have e1 : keB t (nI k) = t := by unfold keB; rw [if_neg (by rw [k1]; decide)]
      rw [if_neg (nI_ge (by omega) hk), k1, e1]
      exact AN.no rfl rfl (by decide) h
noncomputable def poK (t : List Nat) (i v : Int32) : Nat := if haB t i = true then (if v < 0 ∨ 255 < v then 2 else 0) else 1
noncomputable def poT (t : List Nat) (i v : Int32) : List Nat := if poK t i v = 0 then t.set i.toNatClampNeg (b8 v) else t
noncomputable def poM (p : Nat) : Nat := if p = 11 then 1 else 2
theorem c_poke {g c : hS} {b t : List Nat} {ms : List Mb} {i v : Int32} (h : PC g c b t ms) : AN g (f_X11_poke c i v) poM (poK t i v) (tdV t i) b (poT t i v) ms := by
  have hb := h.2.1
  unfold f_X11_poke
  rw [f_has' hb, bnd_some]
  cases z : haB t i with
  | false =>
    have k1 : poK t i v = 1 := by unfold poK; rw [z]; rfl
    have e1 : poT t i v = t := by unfold poT; rw [if_neg (by rw [k1]; decide)]
    rw [if_pos (show bI false = 0 from rfl), k1, e1]; exact AN.no rfl rfl (by decide) h
  | true =>
    rw [if_neg (by decide)]
    have no : (v < 0 ∨ 255 < v) → ∀ p c', p = 32 → c' = c → AN g (some (Sum.inr p, c')) poM (poK t i v) (tdV t i) b (poT t i v) ms := by
      intro q p c' hp hc
      have k1 : poK t i v = 2 := by unfold poK; rw [if_pos z, if_pos q]
      have e1 : poT t i v = t := by unfold poT; rw [if_neg (by rw [k1]; decide)]
      rw [k1, e1, hp, hc]
      exact AN.no rfl rfl (by decide) h
    obtain ⟨k, hk, rfl, hkl⟩ := haB_so z
    by_cases v0 : v < 0
    · rw [if_pos v0]; exact no (Or.inl v0) _ _ rfl rfl
    · rw [if_neg v0]
      by_cases v1 : v ≤ 255
      · have hor : ¬ (v < 0 ∨ 255 < v) := fun q => q.elim v0 (fun z => absurd v1 (Int32.not_le.mpr z))
        have k1 : poK t (nI k) v = 0 := by unfold poK; rw [if_pos z, if_neg hor]
        have e1 : poT t (nI k) v = t.set k (b8 v) := by unfold poT; rw [if_pos k1, nI_clamp hk]
        rw [if_pos v1, f_get hb hk, bnd_some, k1, e1]
        unfold tdV
        rw [nI_clamp hk]
        obtain ⟨c5, a1, a2, a3⟩ := f_set v hb hkl
        rw [a1, bnd_some]
        exact AN.ok rfl rfl (h.tap (a3.mono (by decide)) a2)
      · rw [if_neg v1]; exact no (Or.inr (Int32.not_le.mp v1)) _ _ rfl rfl
end
section
/-! PURE: the class's public methods: answers -/
noncomputable def atF (t : List Nat) (p : Nat) : Nat → Nat → Int64 → Int64
  | 0, _, v => v
  | d + 1, j, v => atF t p d (j + 1) ((j_lshl v 8) ||| (nI (gt t (p + j))).toInt64)
noncomputable def atK (t : List Nat) (i n : Int32) : Nat := if n < 1 ∨ 8 < n then 1 else if i < 0 ∨ t.length < i.toNatClampNeg + n.toNatClampNeg then 2 else 0
noncomputable def atV (t : List Nat) (i n : Int32) : Int64 := atF t i.toNatClampNeg n.toNatClampNeg 0 0
noncomputable def atM (p : Nat) : Nat := if p = 11 then 1 else 2
theorem c_at {N : Nat} {g c : hS} {b t : List Nat} {ms : List Mb} {i n : Int32} (hN : 1000000 ≤ N) (h : PC g c b t ms) : AN g (f_X11_at N c i n) atM (atK t i n) (atV t i n) b t ms := by
  have ht := h.2.1
  have htl := ht.lt
  unfold f_X11_at
  by_cases h1 : n < 1
  · have k1 : atK t i n = 1 := by unfold atK; rw [if_pos (Or.inl h1)]
    rw [if_pos h1, k1]
    exact AN.no rfl rfl (by decide) h
  · rw [if_neg h1]
    by_cases h8 : n ≤ 8
    · rw [if_pos h8]
      have hor : ¬ (n < 1 ∨ 8 < n) := fun q => q.elim h1 (fun z => absurd h8 (Int32.not_le.mpr z))
      rcases i_cases n with q | ⟨k, hk, rfl⟩
      · exact absurd (Int32.lt_of_lt_of_le q (by decide)) h1
      · have k8 : k ≤ 8 := (nI_leI hk (show 8 < 2 ^ 31 by decide)).mp h8
        rcases i_cases i with q | ⟨p, hp, rfl⟩
        · have k1 : atK t i (nI k) = 2 := by unfold atK; rw [if_neg hor, if_pos (Or.inl q)]
          rw [if_pos q, k1]
          exact AN.no rfl rfl (by decide) h
        · rw [if_neg (nI_pos hp), f_size ht, bnd_some]
          by_cases w : p + k ≤ t.length
          · have k1 : atK t (nI p) (nI k) = 0 := by
              unfold atK
              rw [if_neg hor, nI_clamp hp, nI_clamp hk, if_neg]
              rintro (z | z)
              · exact nI_pos hp z
              · omega
            rw [subI (by omega), if_pos (nI_le (show p ≤ t.length - k by omega) (by omega)), k1]
            have key : ∀ d m j v, j + d = k → d < m → f_X11_at_53 N (nI p) (nI k) m c v (nI j) = some (.inl (atF t p d j v), c) := by
              intro d
              induction d with
              | zero =>
                intro m j v hj hm
                obtain ⟨m, rfl⟩ : ∃ m', m = m' + 1 := ⟨m - 1, by omega⟩
                rw [f_X11_at_53, if_pos (nI_le (by omega) (by omega))]
                rfl
              | succ d ih =>
                intro m j v hj hm
                obtain ⟨m, rfl⟩ : ∃ m', m = m' + 1 := ⟨m - 1, by omega⟩
                rw [f_X11_at_53, if_neg (nI_ge (by omega) (by omega)), nI_add, f_get ht (by omega), bnd_some, nI_1, ih m (j + 1) _ (by omega) (by omega)]
                rfl
            unfold atV
            rw [nI_clamp hp, nI_clamp hk]
            exact AN.ok (key k N 0 0 (by omega) (by omega)) rfl h
          · have k1 : atK t (nI p) (nI k) = 2 := by unfold atK; rw [if_neg hor, nI_clamp hp, nI_clamp hk, if_pos (Or.inr (by omega))]
            have ng : ¬ nI p ≤ nI t.length - nI k := by
              by_cases w2 : k ≤ t.length
              · rw [subI w2]; exact nI_ge (by omega) hp
              · intro z
                have := (by decide +kernel : ∀ a, a < 8 → ∀ b, b < 9 → a < b → nI a - nI b < 0) t.length (by omega) k (by omega) (by omega)
                exact nI_pos hp (Int32.lt_of_le_of_lt z this)
            rw [if_neg ng, k1]
            exact AN.no rfl rfl (by decide) h
    · have k1 : atK t i n = 1 := by unfold atK; rw [if_pos (Or.inr (Int32.not_le.mp h8))]
      rw [if_neg h8, k1]
      exact AN.no rfl rfl (by decide) h
theorem c_check {N : Nat} {g c : hS} {b t : List Nat} {ms : List Mb} (hN : 1000000 ≤ N) (h : PC g c b t ms) : f_X11_check N c = some (crc b, c) := by
  unfold f_X11_check
  rw [f_checkOf hN h.1, bnd_some]
noncomputable def faK (w : Int32) : Nat := if w = 0 ∨ w = 1 then 0 else 1
theorem c_fault {g c : hS} {b t : List Nat} {ms : List Mb} {w : Int32} (h : PC g c b t ms) : ∃ v, AN g (f_X11_fault c w) onM (faK w) v b t ms := by
  unfold f_X11_fault faK
  by_cases w0 : w = 0
  · rw [if_pos w0, if_pos (Or.inl w0)]
    exact ⟨_, AN.ok rfl rfl h⟩
  · by_cases w1 : w = 1
    · rw [if_neg w0, if_pos w1, if_pos (Or.inr w1)]
      exact ⟨_, AN.ok rfl rfl h⟩
    · rw [if_neg w0, if_neg w1, if_neg (fun z => z.elim w0 w1)]
      exact ⟨0, AN.no rfl rfl (by decide) h⟩
theorem c_pack {N : Nat} {g c : hS} {b t : List Nat} {ms : List Mb} (hN : 1000000 ≤ N) (h : PC g c b t ms) : ∃ c', f_X11_pack N c = some (nI (packed b).length, c') ∧ PC g c' b (packed b) ms := by
  have hbl : b.length ≤ 512 := h.1.1
  unfold f_X11_pack
  obtain ⟨c1, e1, r1, f1⟩ := f_cut0 h.2.1
  have h1 := h.tap (f1.mono (by decide)) r1
  rw [e1, bnd_some]
  obtain ⟨c2, e2, r2, f2⟩ := f_addPacked hN (b := 1) (by decide) (by decide) h1.1 h1.2.1 hbl (by simp; omega)
  rw [List.nil_append] at r2
  rw [e2, bnd_some, f_size r2, bnd_some]
  exact ⟨c2, rfl, h1.tap f2 r2⟩
noncomputable def unB1 (b t : List Nat) : List Nat := match opn t 0 t.length 512 with
  | none => b
  | some out => out
noncomputable def unV (t : List Nat) : Int32 := match opn t 0 t.length 512 with
  | none => -1
  | some out => nI out.length
theorem PC.op {g c c1 : hS} {b t : List Nat} {ms : List Mb} (h : PC g c b t ms) (hf : fr Sop c c1) : PC g c1 b t ms := by
  obtain ⟨r1, r3, r5, r7, fx, ok, s, s', ms', e1, e2, e3, e4, e5⟩ := h
  have z : ∀ o, o ∈ Sop → o < 37 := by decide
  refine ⟨r1.fr hf (by decide) (by decide), r3.fr hf (by decide) (by decide), hf.2.1 r5, hf.2.2 r7, fx.fr hf Sop_fx, ⟨ok.1, ok.2.mv hf (by decide)⟩, s, s', ms', (hf.r (by decide) 8).trans e1, (hf.r (by decide) 9).trans e2, e3, e4.fr hf (fun o ho => by have := z o ho; omega), e5.fr hf (fun o ho => by have := z o ho; omega)⟩
theorem f_clear6 (c : hS) : ∃ c', f_X6_clear c = some ((), c') ∧ fr [9] c c' := ⟨_, rfl, (fr.sI (by simp)).tr (fr.sI (by simp))⟩
theorem c_unpack {N : Nat} {g c : hS} {b t : List Nat} {ms : List Mb} (hN : 1000000 ≤ N) (h : PC g c b t ms) : ∃ c', f_X11_unpack N c = some (unV t, c') ∧ PC g c' (unB1 b t) t ms := by
  unfold f_X11_unpack unV unB1
  obtain ⟨c1, e1, f1⟩ := f_clear6 c
  have h1 := h.kp f1 (by decide)
  rw [e1, bnd_some, f_size h1.2.1, bnd_some, show (0 : Int32) = nI 0 from rfl, show (512 : Int32) = nI 512 from rfl]
  obtain ⟨c5, e5, f5, g5⟩ := f_open (a := 0) (behind := t.length) (most := 512) hN h1.2.1 h1.2.2.2.1 h1.2.2.2.2.1 (by omega) (by omega) (by decide)
  have h5 := h1.op f5
  rw [e5, bnd_some]
  cases ho : opn t 0 t.length 512 with
  | none =>
    rw [if_pos (show bI (none : Option (List Nat)).isSome = nI 0 from rfl)]
    exact ⟨c5, rfl, h5⟩
  | some out =>
    have r7 := g5 out ho
    have hol : out.length ≤ 512 := r7.1
    rw [if_neg (show ¬ bI (some out).isSome = nI 0 from (by decide : ¬ bI true = nI 0))]
    obtain ⟨c6, e6, r6, f6⟩ := f_cut0 h5.1
    have r7' := r7.fr f6 (by decide) (by decide)
    rw [show nI 0 = (0 : Int32) from rfl, e6, bnd_some, f_size r7', bnd_some, show (0 : Int32) = nI 0 from rfl]
    obtain ⟨c9, e9, r9, f9⟩ := f_addPart (b := 1) (f := 7) (i := 0) (j := out.length) hN r6 r7' (by decide) (by decide) (by decide) (by omega) (by omega) (show ([] : List Nat).length + _ ≤ 512 by simp; omega)
    rw [List.nil_append, List.drop_zero, Nat.sub_zero, List.take_length] at r9
    rw [e9, bnd_some, f_size r9, bnd_some]
    exact ⟨c9, rfl, h5.buf ((f6.mono (by decide)).tr f9) r9⟩
end
section
/-! PURE: the class's public methods: members -/
theorem shf.ok {c : hS} {s : Nat} {ms : List Mb} (h : shf c s ms) (hs : s = 37 ∨ s = 119) : okM ms := by
  refine ⟨h.1, fun x hx => ?_⟩
  obtain ⟨i, hi, rfl⟩ := List.getElem_of_mem hx
  obtain ⟨k, hk, e⟩ := h.2.2.1 i (Nat.lt_of_lt_of_le hi h.1)
  have hm := h.mb hi
  rw [e] at hm
  have l1 := hm.1.1
  have l2 := hm.2.1.1
  have z : ln (s + 2 + 5 * k + 1 + 1) = 90 ∧ ln (s + 2 + 5 * k + 3 + 1) = 400 := by
    rcases hs with rfl | rfl
    · exact (by decide +kernel : ∀ k, k < 16 → ln (37 + 2 + 5 * k + 1 + 1) = 90 ∧ ln (37 + 2 + 5 * k + 3 + 1) = 400) k hk
    · exact (by decide +kernel : ∀ k, k < 16 → ln (119 + 2 + 5 * k + 1 + 1) = 90 ∧ ln (119 + 2 + 5 * k + 3 + 1) = 400) k hk
  rw [z.1] at l1
  rw [z.2] at l2
  exact ⟨l1, l2⟩
/-- the shelf has other members -/
theorem PC.mem {g c c1 : hS} {b t : List Nat} {ms ms1 : List Mb} {s : Nat} (h : PC g c b t ms) (hs : c.2.2 0 8 = s) (hf : fr (shR s) c c1) (hm : shf c1 s ms1) : PC g c1 b t ms1 := by
  obtain ⟨r1, r3, r5, r7, fx, ok, s0, s', ms', e1, e2, e3, e4, e5⟩ := h
  have es : s0 = s := e1.symm.trans hs
  subst es
  have ns : ∀ o, o < 37 → o ∉ shR s0 := fun o ho q => by rw [shR_mem] at q; omega
  refine ⟨r1.fr hf (ns _ (by omega)) (ns _ (by omega)), r3.fr hf (ns _ (by omega)) (ns _ (by omega)), hf.2.1 r5, hf.2.2 r7, fx.fr hf (fun o ho => by rw [shR_mem] at ho; omega), ⟨hm.ok (by omega), ok.2.mv hf (fun o ho => by rw [shR_mem] at ho; omega)⟩, s0, s', ms', (hf.r (ns _ (by omega)) 8).trans e1, (hf.r (ns _ (by omega)) 9).trans e2, e3, hm, e5.fr hf (fun o ho => by rw [shR_mem] at ho; omega)⟩
noncomputable def moB (ms : List Mb) (k : Int32) : Bool := !decide (k < 0) && decide (k.toNatClampNeg < ms.length)
noncomputable def mbA (ms : List Mb) (k : Int32) : Mb := ms.getD k.toNatClampNeg ([], [], false)
theorem moB_no {c : hS} {s : Nat} {ms : List Mb} {k : Int32} (h : shf c s ms) (hk : moB ms k = false) : f_X9_member c s k = some (none, c) := by
  unfold moB at hk
  rcases i_cases k with q | ⟨p, hp, rfl⟩
  · exact f_member_neg q
  · rw [nI_clamp hp, decide_eq_false (nI_pos hp)] at hk
    exact f_member_no h (by simpa using hk) hp
theorem moB_so {ms : List Mb} {k : Int32} (hk : moB ms k = true) : ∃ p, p < 2 ^ 31 ∧ k = nI p ∧ ∃ hp : p < ms.length, mbA ms k = ms[p] := by
  unfold moB at hk
  rcases i_cases k with q | ⟨p, hp, rfl⟩
  · rw [decide_eq_true q] at hk; cases hk
  · rw [nI_clamp hp] at hk
    simp only [Bool.and_eq_true, decide_eq_true_eq] at hk
    refine ⟨p, hp, rfl, hk.2, ?_⟩
    unfold mbA
    rw [nI_clamp hp, List.getD_eq_getElem?_getD, List.getElem?_eq_getElem hk.2]
    rfl
noncomputable def goK (ms : List Mb) (k : Int32) : Nat := if moB ms k = true then 0 else 1
noncomputable def goM (ms : List Mb) (k : Int32) : List Mb := if moB ms k = true then ms.eraseIdx k.toNatClampNeg else ms
theorem c_go {N : Nat} {g c : hS} {b t : List Nat} {ms : List Mb} {k : Int32} (hN : 1000000 ≤ N) (h : PC g c b t ms) : AN g (f_X11_go N c k) onM (goK ms k) (nI (goM ms k).length) b t (goM ms k) := by
  obtain ⟨s, s1, s2, s3, s4⟩ := h.sh
  unfold f_X11_go goK goM
  rw [s1, s4, cond_true]
  cases z : moB ms k with
  | false =>
    rw [moB_no s3 z, bnd_some, if_neg (by decide), if_neg (by decide)]
    exact AN.no rfl rfl (by decide) h
  | true =>
    obtain ⟨p, hp, rfl, hpl, _⟩ := moB_so z
    have hl := s3.1
    rw [f_member s3 s2 hpl, bnd_some, if_pos rfl, if_pos rfl]
    dsimp only [opt]
    rw [beq6 (s3.kc6 s2 (by omega)), cond_true, s1, s4, cond_true, f_drop hN s3 s2 hpl, bnd_some, nI_clamp hp]
    have hf : fr [s, s + 1] c (dropC c s p ms.length) := dropC_fr c s2
    have hd := shf_drop s3 s2 hpl
    have h1 := h.mem s1 (hf.mono (fun o ho => by rw [shR_mem]; simp at ho; omega)) hd
    rw [(hf.r (show 0 ∉ [s, s + 1] by simp; omega) 8).trans s1, s4, cond_true]
    unfold f_X9_size
    rw [bnd_some, hd.2.1]
    exact AN.ok rfl rfl h1
noncomputable def naK (ms : List Mb) (k i : Int32) : Nat := if moB ms k = true then (if i = -3 ∨ i = -2 ∨ i = -1 ∨ haB (mbA ms k).1 i = true then 0 else 1) else 1
noncomputable def naV (ms : List Mb) (k i : Int32) : Int32 := if i = -3 then bI (mbA ms k).2.2 else if i = -2 then nI (mbA ms k).2.1.length else if i = -1 then nI (mbA ms k).1.length else tdV (mbA ms k).1 i
theorem c_name {g c : hS} {b t : List Nat} {ms : List Mb} {k i : Int32} (h : PC g c b t ms) : AN g (f_X11_name c k i) onM (naK ms k i) (naV ms k i) b t ms := by
  obtain ⟨s, s1, s2, s3, s4⟩ := h.sh
  unfold f_X11_name naK
  rw [s1, s4, cond_true]
  cases z : moB ms k with
  | false =>
    rw [moB_no s3 z, bnd_some, if_neg (by decide)]
    exact AN.no rfl rfl (by decide) h
  | true =>
    obtain ⟨p, hp, rfl, hpl, em⟩ := moB_so z
    have hl := s3.1
    have hm := s3.mb hpl
    rw [f_member s3 s2 hpl, bnd_some, if_pos rfl, em]
    dsimp only [opt]
    rw [beq6 (s3.kc6 s2 (by omega)), cond_true]
    unfold naV
    rw [em]
    by_cases w3 : i = -3
    · rw [if_pos w3, if_pos (Or.inl w3), if_pos w3, hm.2.2]
      cases ms[p].2.2 with
      | false => rw [if_pos (show bI false = 0 from rfl)]; exact AN.ok rfl rfl h
      | true => rw [if_neg (by decide)]; exact AN.ok rfl rfl h
    · by_cases w2 : i = -2
      · rw [if_neg w3, if_pos w2, if_pos (Or.inr (Or.inl w2)), if_neg w3, if_pos w2, f_size hm.2.1, bnd_some]
        exact AN.ok rfl rfl h
      · by_cases w1 : i = -1
        · rw [if_neg w3, if_neg w2, if_pos w1, if_pos (Or.inr (Or.inr (Or.inl w1))), if_neg w3, if_neg w2, if_pos w1, f_size hm.1, bnd_some]
          exact AN.ok rfl rfl h
        · rw [if_neg w3, if_neg w2, if_neg w1, if_neg w3, if_neg w2, if_neg w1, f_has' hm.1, bnd_some]
          cases y : haB ms[p].1 i with
          | false =>
            rw [if_pos (show bI false = 0 from rfl), if_neg (by rintro (q | q | q | q) <;> first | contradiction | cases q)]
            exact AN.no rfl rfl (by decide) h
          | true =>
            obtain ⟨j, hj, rfl, _⟩ := haB_so y
            rw [if_neg (by decide), if_pos (Or.inr (Or.inr (Or.inr rfl))), f_get hm.1 hj, bnd_some]
            unfold tdV
            rw [nI_clamp hj]
            exact AN.ok rfl rfl h
noncomputable def byK (ms : List Mb) (k i : Int32) : Nat := if moB ms k = true ∧ haB (mbA ms k).2.1 i = true then 0 else 1
theorem c_byteAt {g c : hS} {b t : List Nat} {ms : List Mb} {k i : Int32} (h : PC g c b t ms) : AN g (f_X11_byteAt c k i) onM (byK ms k i) (tdV (mbA ms k).2.1 i) b t ms := by
  obtain ⟨s, s1, s2, s3, s4⟩ := h.sh
  unfold f_X11_byteAt byK
  rw [s1, s4, cond_true]
  cases z : moB ms k with
  | false =>
    rw [moB_no s3 z, bnd_some, if_neg (by simp)]
    exact AN.no rfl rfl (by decide) h
  | true =>
    obtain ⟨p, hp, rfl, hpl, em⟩ := moB_so z
    have hl := s3.1
    have hm := s3.mb hpl
    rw [f_member s3 s2 hpl, bnd_some, em]
    dsimp only [opt]
    rw [beq6 (s3.kc6 s2 (by omega)), cond_true, f_has' hm.2.1, bnd_some]
    cases y : haB ms[p].2.1 i with
    | false =>
      rw [if_pos (show bI false = 0 from rfl), if_neg (by simp)]
      exact AN.no rfl rfl (by decide) h
    | true =>
      obtain ⟨j, hj, rfl, _⟩ := haB_so y
      rw [if_neg (by decide), if_pos ⟨rfl, rfl⟩, f_get hm.2.1 hj, bnd_some]
      unfold tdV
      rw [nI_clamp hj]
      exact AN.ok rfl rfl h
theorem fnI_fi {t : List Nat} : ∀ {ms : List Mb} {i : Nat}, (fnI t ms i = -1 ∧ ms.find? (fun y => decide (y.1 = t)) = none) ∨ ∃ k, ∃ hk : k < ms.length, fnI t ms i = nI (i + k) ∧ ms.find? (fun y => decide (y.1 = t)) = some ms[k]
  | [], _ => Or.inl ⟨rfl, rfl⟩
  | x :: r, i => by
    by_cases e : x.1 = t
    · refine Or.inr ⟨0, by simp, ?_, ?_⟩
      · unfold fnI; rw [if_pos e]; rfl
      · rw [List.find?_cons_of_pos (by simpa using e)]; rfl
    · rcases fnI_fi (t := t) (ms := r) (i := i + 1) with ⟨a, b⟩ | ⟨k, hk, a, b⟩
      · refine Or.inl ⟨?_, ?_⟩
        · unfold fnI; rw [if_neg e]; exact a
        · rw [List.find?_cons_of_neg (by simpa using e)]; exact b
      · refine Or.inr ⟨k + 1, by simp; omega, ?_, ?_⟩
        · unfold fnI; rw [if_neg e, a]; congr 1; omega
        · rw [List.find?_cons_of_neg (by simpa using e), b]; rfl
noncomputable def kiV (b : List Nat) (ms : List Mb) : Int32 := if b.length = 0 then 1 else match ms.find? (fun y => decide (y.1 = b)) with
  | some x => if x.2.2 = true then 1 else 2
  | none => bI (ms.any fun x => lu x.1 b)
theorem c_kind {N : Nat} {g c : hS} {b t : List Nat} {ms : List Mb} (hN : 1000000 ≤ N) (h : PC g c b t ms) : f_X11_kind N c = some (kiV b ms, c) := by
  obtain ⟨s, s1, s2, s3, s4⟩ := h.sh
  have hl := s3.1
  unfold f_X11_kind kiV
  rw [f_size h.1, bnd_some]
  by_cases b0 : b.length = 0
  · rw [if_pos (by rw [b0]; rfl), if_pos b0]
  · rw [if_neg (nI_ne0 (by omega) h.1.lt), if_neg b0, s1, s4, cond_true, cond_true, f_find hN s3 s2 h.1, bnd_some]
    rcases fnI_fi (t := b) (ms := ms) (i := 0) with ⟨a1, a2⟩ | ⟨k, hk, a1, a2⟩
    · rw [a1, a2, f_member_neg (by decide), bnd_some]
      dsimp only [opt]
      rw [s1, s4, cond_true, f_hasUnder hN s3 s2 h.1, bnd_some]
      cases (ms.any fun x => lu x.1 b) <;> rfl
    · rw [a1, a2, Nat.zero_add, f_member s3 s2 hk, bnd_some]
      dsimp only [opt]
      rw [beq6 (s3.kc6 s2 (by omega)), cond_true, (s3.mb hk).2.2]
      cases ms[k].2.2 <;> rfl
end
section
/-! PURE: the class's public methods: write, read, come -/
theorem f_archiveOf {c : hS} {w : Int32} : f_X11_archiveOf c w = some (if w = 0 then some 34 else if w = 1 then some 35 else if w = 2 then some 36 else none, c) := by
  unfold f_X11_archiveOf
  rcases i_cases w with q | ⟨k, hk, rfl⟩
  · rw [if_pos q, if_neg (fun z => by rw [z] at q; exact absurd q (by decide)), if_neg (fun z => by rw [z] at q; exact absurd q (by decide)), if_neg (fun z => by rw [z] at q; exact absurd q (by decide))]
  · rw [if_neg (nI_pos hk), show (Int32.ofNat (ln 33)) = nI 3 from rfl]
    by_cases h3 : 3 ≤ k
    · rw [if_pos (nI_le h3 hk), if_neg (fun z => by have := (nI_eq hk (show 0 < 2 ^ 31 by decide)).mp z; omega), if_neg (fun z => by have := (nI_eq hk (show 1 < 2 ^ 31 by decide)).mp z; omega), if_neg (fun z => by have := (nI_eq hk (show 2 < 2 ^ 31 by decide)).mp z; omega)]
    · rw [if_neg (nI_ge (by omega) (by decide)), show ln 33 = 3 from rfl, j_in_nI (show k < 3 by omega) (by decide), cond_true, nI_clamp hk]
      match k, h3 with
      | 0, _ => rfl
      | 1, _ => rfl
      | 2, _ => rfl
      | k + 3, h3 => exact absurd (by omega) h3
noncomputable def wrK (w : Int32) : Nat := if w = 0 ∨ w = 1 ∨ w = 2 then 0 else 1
noncomputable def wrT (t : List Nat) (ms : List Mb) (w : Int32) (pk : Bool) : List Nat := if w = 0 then all0 ms else if w = 1 then w1 ms 1 0 else if w = 2 then w2 pk ms else t
theorem c_write {N : Nat} {g c : hS} {b t : List Nat} {ms : List Mb} {w : Int32} {pk : Bool} (hN : 1000000 ≤ N) (h : PC g c b t ms) : AN g (f_X11_write N c w (bI pk)) onM (wrK w) (nI (wrT t ms w pk).length) b (wrT t ms w pk) ms := by
  unfold f_X11_write wrK wrT
  rw [f_archiveOf, bnd_some]
  obtain ⟨c4, e4, r4, f4⟩ := f_cut0 h.2.1
  have h4 := h.tap (f4.mono (by decide)) r4
  obtain ⟨s, s1, s2, s3, s4⟩ := h4.sh
  have ok := s3.ok s2
  by_cases w0 : w = 0
  · rw [if_pos w0, if_pos (Or.inl w0), if_pos w0]
    dsimp only [opt]
    rw [e4, bnd_some, s1, s4, cond_true, if_pos rfl]
    obtain ⟨c6, a1, a2, a3⟩ := f_layOut0 (w := bI pk) hN r4 s3 s2 ok rfl
    rw [a1, bnd_some, f_size a2, bnd_some]
    exact AN.ok rfl rfl (h4.tap (a3.mono (by decide)) a2)
  · by_cases w1' : w = 1
    · rw [if_neg w0, if_pos w1', if_pos (Or.inr (Or.inl w1')), if_neg w0, if_pos w1']
      dsimp only [opt]
      rw [e4, bnd_some, s1, s4, cond_true, if_neg (by decide), if_pos rfl]
      obtain ⟨c6, a1, a2, a3⟩ := f_layOut1 (w := bI pk) hN r4 s3 s2 ok
      rw [a1, bnd_some, f_size a2, bnd_some]
      exact AN.ok rfl rfl (h4.tap (a3.mono (by decide)) a2)
    · by_cases w2' : w = 2
      · rw [if_neg w0, if_neg w1', if_pos w2', if_pos (Or.inr (Or.inr w2')), if_neg w0, if_neg w1', if_pos w2']
        dsimp only [opt]
        rw [e4, bnd_some, s1, s4, cond_true, if_neg (by decide), if_neg (by decide), if_pos rfl]
        obtain ⟨c6, a1, a2, a3⟩ := f_layOut2 (pk := pk) hN r4 s3 s2 ok
        rw [a1, bnd_some, f_size a2, bnd_some]
        exact AN.ok rfl rfl (h4.tap a3 a2)
      · rw [if_neg w0, if_neg w1', if_neg w2', if_neg (fun z => by rcases z with z | z | z <;> contradiction), if_neg w0, if_neg w1', if_neg w2']
        exact AN.no rfl rfl (by decide) h
/-! read -/
noncomputable def rdR (t : List Nat) (w : Int32) : Option (List Mb) := if w = 0 then rd0 t 41 0 [] else if w = 1 then rd1 t 190 0 [] else if w = 2 then rd2 t [] else none
noncomputable def rdM (t : List Nat) (ms : List Mb) (w : Int32) : List Mb := (rdR t w).getD ms
noncomputable def rdV (t : List Nat) (w : Int32) : Int32 := match rdR t w with
  | none => -1
  | some ms => nI ms.length
theorem shf_clear {c : hS} {s : Nat} {ms : List Mb} (h : shf c s ms) (hs : s = 37 ∨ s = 119) : shf (sI c s 1 0) s [] := by
  refine ⟨by simp, sI_s _ _ _ _, h.2.2.1, h.2.2.2.1, fun i hi => ?_⟩
  obtain ⟨x, h1, _⟩ := h.2.2.2.2 i hi
  obtain ⟨k, hk, e⟩ := h.2.2.1 i hi
  refine ⟨x, ?_, fun z => absurd z (by simp)⟩
  show mbr (sI c s 1 0) (c.2.2 (s + 1) i) x
  rw [e] at h1 ⊢
  exact h1.fr (S := [s]) (fr.sI (by simp)) (by simp; omega) (by simp; omega) (by simp; omega) (by simp; omega) (by simp; omega)
/-- behind a reading -/
theorem PC.rd {g c c1 : hS} {b t : List Nat} {ms : List Mb} {S : List Nat} {s' : Nat} (h : PC g c b t ms) (hs : c.2.2 0 9 = s') (hf : fr S c c1) (hS : ∀ o, o ∈ S → o ∈ [5, 6, 36] ++ Sop ∨ o ∈ shR s') (hm : ∃ ms1, shf c1 s' ms1) : PC g c1 b t ms := by
  obtain ⟨r1, r3, r5, r7, fx, ok, s, s0, ms', e1, e2, e3, e4, e5⟩ := h
  have es : s0 = s' := e2.symm.trans hs
  subst es
  obtain ⟨ms1, hm⟩ := hm
  have z : ∀ o, o ∈ [5, 6, 36] ++ Sop → (5 ≤ o ∧ o < 12) ∨ (19 < o ∧ o < 37) := by decide
  have nn : ∀ o, o < 5 → o ∉ S := fun o ho q => by
    rcases hS o q with w | w
    · have := z o w; omega
    · rw [shR_mem] at w; omega
  have n37 : ∀ o, o ∈ S → (5 ≤ o ∧ o < 12) ∨ (19 < o ∧ o < 37) ∨ (s0 ≤ o ∧ o < s0 + 82) := fun o q => by
    rcases hS o q with w | w
    · have := z o w; omega
    · rw [shR_mem] at w; omega
  refine ⟨r1.fr hf (nn _ (by omega)) (nn _ (by omega)), r3.fr hf (nn _ (by omega)) (nn _ (by omega)), hf.2.1 r5, hf.2.2 r7, fx.fr hf (fun o ho => by have := n37 o ho; omega), ⟨ok.1, ok.2.mv hf (fun o ho => by have := n37 o ho; omega)⟩, s, s0, ms1, (hf.r (nn _ (by omega)) 8).trans e1, (hf.r (nn _ (by omega)) 9).trans e2, e3, e4.fr hf (fun o ho => by have := n37 o ho; omega), hm⟩
theorem fr0 {S : List Nat} {c c1 : hS} {j x : Nat} (h : fr S c c1) (hS : 0 ∉ S) : c1.2.2 0 j = c.2.2 0 j := h.r hS j
/-- the shelves change places -/
theorem PC.swap {g c : hS} {b t : List Nat} {ms ms1 : List Mb} {s s' : Nat} (h : PC g c b t ms) (hs : c.2.2 0 8 = s) (hs' : c.2.2 0 9 = s') (hm : shf c s' ms1) : PC g (sR (sR c 0 8 s') 0 9 s) b t ms1 := by
  obtain ⟨r1, r3, r5, r7, fx, ok, s0, s0', ms', e1, e2, e3, e4, e5⟩ := h
  have es : s0 = s := e1.symm.trans hs
  have es' : s0' = s' := e2.symm.trans hs'
  subst es
  subst es'
  have hf : fr [0] c (sR (sR c 0 8 s0') 0 9 s0) := (fr.sR (by simp)).tr (fr.sR (by simp))
  refine ⟨r1.fr hf (by decide) (by decide), r3.fr hf (by decide) (by decide), hf.2.1 r5, hf.2.2 r7, fx.fr hf (by decide), ⟨hm.ok (by omega), ok.2.mv hf (by decide)⟩, s0', s0, ms, ?_, sR_s _ _ _ _, by omega, hm.fr hf (fun o ho => by simp at ho; omega), e4.fr hf (fun o ho => by simp at ho; omega)⟩
  rw [sR_j (by decide), sR_s]
theorem c_read {N : Nat} {g c : hS} {b t : List Nat} {ms : List Mb} {w : Int32} (hN : 1000000 ≤ N) (h : PC g c b t ms) : AN g (f_X11_read N c w) onM (wrK w) (rdV t w) b t (rdM t ms w) := by
  unfold f_X11_read wrK
  rw [f_archiveOf, bnd_some]
  obtain ⟨c4, e4, f4⟩ := f_clear6 c
  have h4 := h.kp f4 (by decide)
  obtain ⟨r1, r3, r5, r7, fx, ok, s, s', ms', e1, e2, e3, e4', e5⟩ := id h4
  have hs' : s' = 37 ∨ s' = 119 := by omega
  have k8 : Nat.beq (kc s') 8 = true := by rcases e3 with ⟨_, rfl⟩ | ⟨_, rfl⟩ <;> decide
  have k8s : Nat.beq (kc s) 8 = true := by rcases e3 with ⟨rfl, _⟩ | ⟨rfl, _⟩ <;> decide
  have sc := shf_clear e5 hs'
  have f6 : fr [s'] c4 (sI c4 s' 1 0) := fr.sI (by simp)
  have h6 := h4.rd e2 f6 (fun o ho => by simp at ho; right; rw [shR_mem]; omega) ⟨_, sc⟩
  have t6 : (sI c4 s' 1 0).2.2 0 9 = s' := e2
  have u6 : (sI c4 s' 1 0).2.2 0 8 = s := e1
  have cl : f_X9_clear c4 s' = some ((), sI c4 s' 1 0) := rfl
  revert sc h6 t6 u6 cl
  generalize sI c4 s' 1 0 = c6
  intro sc h6 t6 u6 cl
  obtain ⟨q1, q3, q5, q7, qx, -⟩ := id h6
  -- behind a reading of any kind
  have fin : ∀ {X : Option (Int32 × hS)} {S : List Nat} {r : Option (List Mb)}, RD X c6 s' S r → (∀ o, o ∈ S → o ∈ [5, 6, 36] ++ Sop ∨ o ∈ shR s') → AN g (bnd X fun x8 c9 => if x8 = 0 then some (.inl (-1), c9) else bif Nat.beq (kc (c9.2.2 0 8)) 8 then bif Nat.beq (kc (c9.2.2 0 9)) 8 then st1 (sR c9 0 8 (c9.2.2 0 9)) fun c12 => st1 (sR c12 0 9 (c9.2.2 0 8)) fun c13 => bif Nat.beq (kc (c13.2.2 0 8)) 8 then bnd (f_X9_size c13 (c13.2.2 0 8)) fun x15 c16 => some (.inl x15, c16) else none else none else none) onM 0 (match r with
      | none => -1
      | some ms => nI ms.length) b t (r.getD ms) := by
    intro X S r ⟨c9, a1, a2, a3, a4⟩ hS
    have h9 := h6.rd t6 a2 hS a3
    have z0 : 0 ∉ S := fun q => by
      rcases hS 0 q with w | w
      · exact absurd w (by decide)
      · rw [shR_mem] at w; omega
    have t9 : c9.2.2 0 9 = s' := (a2.r z0 9).trans t6
    have u9 : c9.2.2 0 8 = s := (a2.r z0 8).trans u6
    rw [a1, bnd_some]
    cases r with
    | none =>
      rw [if_pos (show bI (none : Option (List Mb)).isSome = 0 from rfl)]
      exact AN.ok rfl rfl h9
    | some ms1 =>
      have hm := a4 ms1 rfl
      have hsw := h9.swap u9 t9 hm
      rw [if_neg (show ¬ bI (some ms1).isSome = 0 from (by decide : ¬ bI true = 0)), u9, t9, k8s, k8, cond_true, cond_true]
      dsimp only [st1]
      rw [show (sR (sR c9 0 8 s') 0 9 s).2.2 0 8 = s' by rw [sR_j (by decide), sR_s], k8, cond_true]
      unfold f_X9_size
      rw [bnd_some, show (sR (sR c9 0 8 s') 0 9 s).1 s' 1 = nI ms1.length from hm.2.1]
      exact AN.ok rfl rfl hsw
  unfold rdM rdV rdR
  by_cases w0 : w = 0
  · rw [if_pos w0, if_pos (Or.inl w0), if_pos w0]
    dsimp only [opt]
    rw [e4, bnd_some, e2, k8, cond_true, cl, bnd_some, t6, k8, cond_true, if_pos rfl]
    exact fin (f_takeIn0 hN q3 q5 sc hs') (fun o ho => by
      unfold S0 at ho
      simp only [List.mem_cons] at ho
      rcases ho with rfl | rfl | rfl | q
      · exact Or.inl (by decide)
      · exact Or.inl (by decide)
      · exact Or.inl (by decide)
      · exact Or.inr q)
  · by_cases w1' : w = 1
    · rw [if_neg w0, if_pos w1', if_pos (Or.inr (Or.inl w1')), if_neg w0, if_pos w1']
      dsimp only [opt]
      rw [e4, bnd_some, e2, k8, cond_true, cl, bnd_some, t6, k8, cond_true, if_neg (by decide), if_pos rfl]
      exact fin (f_takeIn1 hN q3 q5 sc hs') (fun o ho => by
        unfold S0 at ho
        simp only [List.mem_cons] at ho
        rcases ho with rfl | rfl | rfl | q
        · exact Or.inl (by decide)
        · exact Or.inl (by decide)
        · exact Or.inl (by decide)
        · exact Or.inr q)
    · by_cases w2' : w = 2
      · rw [if_neg w0, if_neg w1', if_pos w2', if_pos (Or.inr (Or.inr w2')), if_neg w0, if_neg w1', if_pos w2']
        dsimp only [opt]
        rw [e4, bnd_some, e2, k8, cond_true, cl, bnd_some, t6, k8, cond_true, if_neg (by decide), if_neg (by decide), if_pos rfl]
        exact fin (f_takeIn2 hN q3 q5 q7 qx sc hs') (fun o ho => by
          unfold S2 at ho
          rw [← List.append_assoc] at ho
          exact List.mem_append.mp ho)
      · rw [if_neg w0, if_neg w1', if_neg w2', if_neg (fun z => by rcases z with z | z | z <;> contradiction), if_neg w0, if_neg w1', if_neg w2']
        exact AN.no rfl rfl (by decide) h
end
section
/-! PURE: the class's public methods: come -/
theorem nameB_90 {l : List Nat} (h : nameB l = true) : l.length ≤ 90 := by
  unfold nameB at h
  simp only [Bool.and_eq_true, decide_eq_true_eq] at h
  exact h.1.2
theorem nameB_256 (l : List Nat) : nameB (l.take 256) = nameB l := by
  by_cases h : l.length ≤ 256
  · rw [List.take_of_length_le h]
  · cases h1 : nameB l with
    | true => have := nameB_90 h1; omega
    | false =>
      cases h2 : nameB (l.take 256) with
      | false => rfl
      | true => have := nameB_90 h2; rw [List.length_take] at this; omega
noncomputable def cmL (d : Bool) : Nat := if d = true then 0 else 400
noncomputable def cmK (b : List Nat) (ms : List Mb) (n : Int32) (d : Bool) : Nat := if n < 0 ∨ b.length < n.toNatClampNeg then 1 else if nameB (b.take n.toNatClampNeg) = true then (if b.length - n.toNatClampNeg ≤ cmL d then (if ms.any (wayB (b.take n.toNatClampNeg) d) = true then 2 else if (decide (ms.length < 16) || ms.any fun x => decide (x.1 = b.take n.toNatClampNeg)) = true then 0 else 3) else 1) else 1
noncomputable def cmB (b : List Nat) (ms : List Mb) (n : Int32) (d : Bool) : List Nat := if cmK b ms n d = 0 then [] else b
noncomputable def cmM (b : List Nat) (ms : List Mb) (n : Int32) (d : Bool) : List Mb := if cmK b ms n d = 0 then comeM ms (b.take n.toNatClampNeg, b.drop n.toNatClampNeg, d) else ms
noncomputable def cmP (p : Nat) : Nat := if p = 114 then 2 else if p = 138 then 3 else 1
theorem PC.path {g c c1 : hS} {b t : List Nat} {ms : List Mb} (h : PC g c b t ms) (hf : fr [5, 6] c c1) : PC g c1 b t ms := by
  obtain ⟨r1, r3, r5, r7, fx, ok, s, s', ms', e1, e2, e3, e4, e5⟩ := h
  refine ⟨r1.fr hf (by decide) (by decide), r3.fr hf (by decide) (by decide), hf.2.1 r5, hf.2.2 r7, fx.fr hf (by decide), ⟨ok.1, ok.2.mv hf (by decide)⟩, s, s', ms', (hf.r (by decide) 8).trans e1, (hf.r (by decide) 9).trans e2, e3, e4.fr hf (fun o ho => by simp at ho; omega), e5.fr hf (fun o ho => by simp at ho; omega)⟩
theorem c_come {N : Nat} {g c : hS} {b t : List Nat} {ms : List Mb} {n : Int32} {d : Bool} (hN : 1000000 ≤ N) (h : PC g c b t ms) : AN g (f_X11_come N c n (bI d)) cmP (cmK b ms n d) (nI (cmM b ms n d).length) (cmB b ms n d) t (cmM b ms n d) := by
  have hb := h.1
  have hbl : b.length ≤ 512 := hb.1
  have no : ∀ {p : Nat} {c' : hS} {k : Nat}, cmK b ms n d = k → k ≠ 0 → cmP p = k → PC g c' b t ms → AN g (some (Sum.inr p, c')) cmP (cmK b ms n d) (nI (cmM b ms n d).length) (cmB b ms n d) t (cmM b ms n d) := by
    intro p c' k hk k0 hp hc
    have e1 : cmB b ms n d = b := by unfold cmB; rw [if_neg (by rw [hk]; exact k0)]
    have e2 : cmM b ms n d = ms := by unfold cmM; rw [if_neg (by rw [hk]; exact k0)]
    rw [e1, e2, hk]
    exact AN.no rfl hp k0 hc
  unfold f_X11_come
  rcases i_cases n with q | ⟨k, hk, rfl⟩
  · rw [if_pos q]
    exact no (k := 1) (by unfold cmK; rw [if_pos (Or.inl q)]) (by decide) rfl h
  · rw [if_neg (nI_pos hk), f_size hb, bnd_some]
    by_cases q1 : k ≤ b.length
    · rw [if_pos (nI_le q1 hb.lt)]
      obtain ⟨c3, e3, r3, f3⟩ := f_cutN h.2.2.1
      have hb3 := hb.fr f3 (by decide) (by decide)
      obtain ⟨c4, e4, r4, f4⟩ := f_addRowS (b := 5) (f := 1) (i := 0) (j := k) hN r3 hb3 (by decide) (by decide) (by decide) (by omega) (by omega) hk
      rw [List.nil_append, Nat.sub_zero, map_gt b 0 k (by omega), List.drop_zero, show ln (5 + 1) = 256 from rfl] at r4
      have ff : fr [5, 6] c c4 := (f3.mono (by decide)).tr f4
      have h4 := h.path ff
      rw [e3, bnd_some, show (0 : Int32) = nI 0 from rfl, e4, bnd_some, f_isName hN r4, bnd_some, nameB_256]
      have k0 : ¬ (nI k < 0 ∨ b.length < (nI k).toNatClampNeg) := by
        rw [nI_clamp hk]
        rintro (z | z)
        · exact nI_pos hk z
        · omega
      cases hn : nameB (b.take k) with
      | false =>
        rw [if_pos (show bI false = nI 0 from rfl)]
        exact no (k := 1) (by unfold cmK; rw [if_neg k0, nI_clamp hk, hn]; rfl) (by decide) rfl h4
      | true =>
        have n90 := nameB_90 hn
        have r5 : row c4 5 (b.take k) := by rwa [List.take_of_length_le (by omega)] at r4
        rw [if_neg (show ¬ bI true = nI 0 from (by decide : ¬ bI true = nI 0)), f_size h4.1, bnd_some, subI q1]
        have k1 : cmK b ms (nI k) d = if b.length - k ≤ cmL d then (if ms.any (wayB (b.take k) d) = true then 2 else if (decide (ms.length < 16) || ms.any fun x => decide (x.1 = b.take k)) = true then 0 else 3) else 1 := by
          unfold cmK
          rw [if_neg k0, nI_clamp hk, if_pos hn]
        have go : AN g (f_X11_come_86 N (nI k) (bI d) c4 (nI (cmL d)) (nI (b.length - k))) cmP (cmK b ms (nI k) d) (nI (cmM b ms (nI k) d).length) (cmB b ms (nI k) d) t (cmM b ms (nI k) d) := by
          have cl4 : cmL d ≤ 400 := by unfold cmL; split <;> omega
          obtain ⟨s, s1, s2, s3, s4⟩ := h4.sh
          unfold f_X11_come_86
          by_cases q2 : b.length - k ≤ cmL d
          · rw [if_pos q2] at k1
            rw [if_pos (nI_le q2 (by omega)), s1, s4, cond_true, f_isInTheWay hN s3 s2 r5, bnd_some]
            cases hw : ms.any (wayB (b.take k) d) with
            | true =>
              rw [hw, if_pos rfl] at k1
              rw [if_neg (show ¬ bI true = 0 by decide)]
              exact no k1 (by decide) rfl h4
            | false =>
              rw [hw, if_neg (by decide)] at k1
              rw [if_pos (show bI false = 0 from rfl), s1, s4, cond_true, f_hasRoomFor hN s3 s2 r5, bnd_some]
              cases hr : (decide (ms.length < 16) || ms.any fun x => decide (x.1 = b.take k)) with
              | false =>
                rw [hr, if_neg (by decide)] at k1
                rw [if_pos (show bI false = 0 from rfl)]
                exact no k1 (by decide) rfl h4
              | true =>
                rw [hr, if_pos rfl] at k1
                have e1 : cmB b ms (nI k) d = [] := by unfold cmB; rw [if_pos k1]
                have e2 : cmM b ms (nI k) d = comeM ms (b.take k, b.drop k, d) := by unfold cmM; rw [if_pos k1, nI_clamp hk]
                have hms : ms.length < 16 ∨ ∃ x ∈ ms, x.1 = b.take k := by
                  rcases Bool.or_eq_true _ _ |>.mp hr with q | q
                  · exact Or.inl (of_decide_eq_true q)
                  · obtain ⟨x, z1, z2⟩ := List.any_eq_true.mp q
                    exact Or.inr ⟨x, z1, of_decide_eq_true z2⟩
                rw [if_neg (by decide), s1, s4, cond_true, f_size h4.1, bnd_some]
                obtain ⟨c5, a1, a2, a3⟩ := f_take (d := d) (i := k) (j := b.length) hN s3 s2 r5 h4.1 (by omega) (by omega) n90 q1 (by omega) (by omega) hms
                rw [show (b.drop k).take (b.length - k) = b.drop k from List.take_of_length_le (by rw [List.length_drop]; omega)] at a2
                have h5 := h4.mem s1 a3 a2
                have ns : ∀ o, o < 37 → o ∉ shR s := fun o ho q => by rw [shR_mem] at q; omega
                rw [a1, bnd_some]
                obtain ⟨c6, g1, g2, g3⟩ := f_cut0 h5.1
                have h6 := h5.buf (g3.mono (by decide)) g2
                rw [g1, bnd_some, (g3.r (by decide) 8).trans ((a3.r (ns 0 (by decide)) 8).trans s1), s4, cond_true]
                have a6 := a2.fr g3 (fun o ho => by simp at ho; omega)
                unfold f_X9_size
                rw [bnd_some, a6.2.1, e1, e2, k1]
                exact AN.ok rfl rfl h6
          · rw [if_neg q2] at k1
            rw [if_neg (nI_ge (by omega) (by omega))]
            exact no k1 (by decide) rfl h4
        cases d with
        | false => rw [if_pos (show bI false = nI 0 from rfl)]; exact go
        | true => rw [if_neg (show ¬ bI true = nI 0 by decide)]; exact go
    · rw [if_neg (nI_ge (by omega) hk)]
      exact no (k := 1) (by unfold cmK; rw [nI_clamp hk, if_pos (Or.inr (by omega))]) (by decide) rfl h
end
