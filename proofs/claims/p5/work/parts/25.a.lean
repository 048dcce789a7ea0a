/-! PURE: the reference: its picture, refusals, rows -/
noncomputable def mrw (c : hS) (j o : Nat) (l : List Nat) : Prop := l.length ≤ ln o ∧ c.1 201 j = nI l.length ∧ (∀ i, i < l.length → c.1 o i = nI (gt l i)) ∧ byt l
theorem mrw.lt {c : hS} {j o : Nat} {l : List Nat} (h : mrw c j o l) : l.length < 2 ^ 31 := Nat.lt_of_le_of_lt h.1 (ln_lt _)
/-- member m of the reference -/
noncomputable def mmb (c : hS) (m : Nat) (x : Mb) : Prop := (c.1 204 m = nI x.1.length ∧ (∀ i, i < x.1.length → c.1 205 (90 * m + i) = nI (gt x.1 i)) ∧ x.1.length ≤ 90 ∧ byt x.1) ∧ (c.1 206 m = nI x.2.1.length ∧ (∀ i, i < x.2.1.length → c.1 207 (400 * m + i) = nI (gt x.2.1 i)) ∧ x.2.1.length ≤ 400 ∧ byt x.2.1) ∧ c.1 208 m = bI x.2.2
noncomputable def msh (c : hS) (base : Nat) (ms : List Mb) : Prop := ∀ i (h : i < ms.length), mmb c (base + i) ms[i]
/-- nothing but these slots of ints has changed -/
noncomputable def fm (P : Nat → Nat → Prop) (c c' : hS) : Prop := (∀ o j, ¬ P o j → c'.1 o j = c.1 o j) ∧ c'.2 = c.2
theorem fm.rf {P : Nat → Nat → Prop} {c : hS} : fm P c c := ⟨fun _ _ _ => rfl, rfl⟩
theorem fm.tr {P : Nat → Nat → Prop} {c c1 c2 : hS} (h1 : fm P c c1) (h2 : fm P c1 c2) : fm P c c2 := ⟨fun o j h => (h2.1 o j h).trans (h1.1 o j h), h2.2.trans h1.2⟩
theorem fm.mono {P Q : Nat → Nat → Prop} {c c1 : hS} (h : fm P c c1) (hP : ∀ o j, P o j → Q o j) : fm Q c c1 := ⟨fun o j q => h.1 o j (fun z => q (hP o j z)), h.2⟩
theorem fm.sI {P : Nat → Nat → Prop} {c : hS} {o j : Nat} {x : Int32} (h : P o j) : fm P c (sI c o j x) := ⟨fun a b q => sI_n (fun z => q (by rw [z.1, z.2]; exact h)), rfl⟩
theorem mrw.fm {P : Nat → Nat → Prop} {c c1 : hS} {j o : Nat} {l : List Nat} (h : mrw c j o l) (hf : fm P c c1) (h1 : ¬ P 201 j) (h2 : ∀ i, ¬ P o i) : mrw c1 j o l := ⟨h.1, (hf.1 _ _ h1).trans h.2.1, fun i hi => (hf.1 _ _ (h2 i)).trans (h.2.2.1 i hi), h.2.2.2⟩
theorem mmb.fm {P : Nat → Nat → Prop} {c c1 : hS} {m : Nat} {x : Mb} (h : mmb c m x) (hf : fm P c c1) (h1 : ∀ o i, 204 ≤ o → o ≤ 208 → ¬ P o i) : mmb c1 m x := ⟨⟨(hf.1 _ _ (h1 _ _ (by decide) (by decide))).trans h.1.1, fun i hi => (hf.1 _ _ (h1 _ _ (by decide) (by decide))).trans (h.1.2.1 i hi), h.1.2.2⟩, ⟨(hf.1 _ _ (h1 _ _ (by decide) (by decide))).trans h.2.1.1, fun i hi => (hf.1 _ _ (h1 _ _ (by decide) (by decide))).trans (h.2.1.2.1 i hi), h.2.1.2.2⟩, (hf.1 _ _ (h1 _ _ (by decide) (by decide))).trans h.2.2⟩
/-- the reference's state -/
noncomputable def PM (c : hS) (b t : List Nat) (ms : List Mb) : Prop := mrw c 2 202 b ∧ mrw c 4 203 t ∧ c.1 201 7 = nI ms.length ∧ ms.length ≤ 16 ∧ msh c 0 ms ∧ ∀ x ∈ ms, nameB x.1 = true
theorem PM.mv {P : Nat → Nat → Prop} {c c1 : hS} {b t : List Nat} {ms : List Mb} (h : PM c b t ms) (hf : fm P c c1) (h1 : ∀ o i, P o i → (o = 201 ∧ i ≠ 2 ∧ i ≠ 4 ∧ i ≠ 7) ∨ 208 < o) : PM c1 b t ms := by
  have n : ∀ o i, ¬ ((o = 201 ∧ i ≠ 2 ∧ i ≠ 4 ∧ i ≠ 7) ∨ 208 < o) → ¬ P o i := fun o i q z => q (h1 o i z)
  exact ⟨h.1.fm hf (n _ _ (by omega)) (fun i => n _ _ (by omega)), h.2.1.fm hf (n _ _ (by omega)) (fun i => n _ _ (by omega)), (hf.1 _ _ (n _ _ (by omega))).trans h.2.2.1, h.2.2.2.1, fun i hi => (h.2.2.2.2.1 i hi).fm hf (fun o j a b => n _ _ (by omega)), h.2.2.2.2.2⟩
/-- a public method of the reference: what it has thrown, its answer, the state behind it -/
noncomputable def MN {α : Type} (X : Option (α × hS)) (c : hS) (k : Nat) (v : α) (b t : List Nat) (ms : List Mb) : Prop := ∃ x c', X = some (x, c') ∧ c'.1 201 0 = nI k ∧ (k = 0 → x = v) ∧ PM c' b t ms ∧ fm (fun o _ => 201 ≤ o ∧ o < 219) c c'
theorem le64 {x y : Int32} : x.toInt64 ≤ y.toInt64 ↔ x ≤ y := by rw [Int64.le_iff_toInt_le, Int32.le_iff_toInt_le, Int32.toInt_toInt64, Int32.toInt_toInt64]
theorem m_in {c : hS} {x a b : Int32} {a' b' : Int64} (ha : a' = a.toInt64) (hb : b' = b.toInt64) : f_X12_in c x.toInt64 a' b' = some (bI (decide (a ≤ x) && decide (x ≤ b)), c) := by
  subst ha hb
  unfold f_X12_in j_cmp
  by_cases h1 : a ≤ x
  · have g1 := le64.mpr h1
    have e1 : ¬ (if x.toInt64 > a.toInt64 then (1 : Int32) else if x.toInt64 = a.toInt64 then 0 else -1) < 0 := by
      split
      · decide
      · split
        · decide
        · rename_i p q
          exact absurd (Int64.le_antisymm (Int64.not_lt.mp p) g1) q
    rw [if_neg e1, decide_eq_true h1, Bool.true_and]
    by_cases h2 : x ≤ b
    · have g2 := le64.mpr h2
      rw [if_neg (show ¬ x.toInt64 > b.toInt64 from Int64.not_lt.mpr g2)]
      have e2 : ¬ (0 : Int32) < (if x.toInt64 = b.toInt64 then 0 else -1) := by split <;> decide
      rw [if_neg e2, decide_eq_true h2]
      rfl
    · have g2 : x.toInt64 > b.toInt64 := Int64.not_le.mp (fun z => h2 (le64.mp z))
      rw [if_pos g2, if_pos (by decide), decide_eq_false h2]
      rfl
  · have g1 : ¬ a.toInt64 ≤ x.toInt64 := fun z => h1 (le64.mp z)
    have g1' := Int64.not_le.mp g1
    rw [if_neg (show ¬ x.toInt64 > a.toInt64 from fun z => g1 (Int64.le_of_lt z)), if_neg (show ¬ x.toInt64 = a.toInt64 from fun z => g1 (by rw [z]; exact Int64.le_refl _)), if_pos (by decide), decide_eq_false h1]
    rfl
theorem m_ref {c : hS} {w : Bool} {k : Nat} (h : c.1 201 0 = 0) (hk : 0 < k) (hk2 : k < 100) : f_X12_refuses c (bI w) (nI k) = some (bI w, if w = true then sI c 201 0 (nI k) else c) := by
  unfold f_X12_refuses
  rw [if_pos h]
  cases w with
  | false => rw [if_pos (show bI false = 0 from rfl), h, if_pos (by decide)]; rfl
  | true =>
    rw [if_neg (by decide)]
    dsimp only [st1]
    rw [sI_s, if_neg (nI_nle hk (by omega))]
    rfl
