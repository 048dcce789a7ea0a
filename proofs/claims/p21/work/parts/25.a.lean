section
/-! PURE: the reference: its picture, refusals, rows -/
noncomputable def mrw (c : hS) (j o : Nat) (l : List Nat) : Prop := l.length ≤ ln o ∧ c.1 201 j = nI l.length ∧ (∀ i, i < l.length → c.1 o i = nI (gt l i)) ∧ byt l
theorem mrw.lt {c : hS} {j o : Nat} {l : List Nat} (h : mrw c j o l) : l.length < 2 ^ 31 := Nat.lt_of_le_of_lt h.1 (ln_lt _)
/-- member m of the reference -/
noncomputable def mmb (c : hS) (m : Nat) (x : Mb) : Prop := (c.1 204 m = nI x.1.length ∧ (∀ i, i < x.1.length → c.1 205 (90 * m + i) = nI (gt x.1 i)) ∧ x.1.length ≤ 90 ∧ byt x.1) ∧ (c.1 206 m = nI x.2.1.length ∧ (∀ i, i < x.2.1.length → c.1 207 (400 * m + i) = nI (gt x.2.1 i)) ∧ x.2.1.length ≤ 400 ∧ byt x.2.1) ∧ c.1 208 m = bI x.2.2
noncomputable def msh (c : hS) (base : Nat) (ms : List Mb) : Prop := ∀ i (h : i < ms.length), mmb c (base + i) ms[i]
/-- nothing but these slots of ints has changed -/
noncomputable def fm (P : Nat → Nat → Prop) (c c' : hS) : Prop := (∀ o j, ¬ P o j → c'.1 o j = c.1 o j) ∧ c'.2 = c.2
theorem fm.rf {P : Nat → Nat → Prop} {c : hS} : fm P c c := ⟨fun _ _ _ => rfl, rfl⟩
theorem fm.tr {P : Nat → Nat → Prop} {c c1 c2 : hS} (h1 : fm P c c1) (h2 : fm P c1 c2) : fm P c c2 := ⟨fun o j h => (h2.1 o j h).trans (h1.1 o j h), h2.2.trans h1.2⟩
theorem fm.mono {P Q : Nat → Nat → Prop} {c c1 : hS} (h : fm P c c1) (hP : ∀ o j, P o j → Q o j) : fm Q c c1 := ⟨fun o j q => h.1 o j (fun z => q (hP o j z)), h.2⟩
theorem fm.sI {P : Nat → Nat → Prop} {c : hS} {o j : Nat} {x : Int32} (h : P o j) : fm P c (sI c o j x) := ⟨fun a b q => sI_n (fun z => q (by rw [z.1, z.2]; exact h)), rfl⟩
theorem mrw.fm {P : Nat → Nat → Prop} {c c1 : hS} {j o : Nat} {l : List Nat} (h : mrw c j o l) (hf : fm P c c1) (h1 : ¬ P 201 j) (h2 : ∀ i, ¬ P o i) : mrw c1 j o l := ⟨h.1, (hf.1 _ _ h1).trans h.2.1, fun i hi => (hf.1 _ _ (h2 i)).trans (h.2.2.1 i hi), h.2.2.2⟩
theorem mmb.fm {P : Nat → Nat → Prop} {c c1 : hS} {m : Nat} {x : Mb} (h : mmb c m x) (hf : fm P c c1) (h1 : ∀ o i, 204 ≤ o → o ≤ 208 → ¬ P o i) : mmb c1 m x := ⟨⟨(hf.1 _ _ (h1 _ _ (by decide) (by decide))).trans h.1.1, fun i hi => (hf.1 _ _ (h1 _ _ (by decide) (by decide))).trans (h.1.2.1 i hi), h.1.2.2⟩, ⟨(hf.1 _ _ (h1 _ _ (by decide) (by decide))).trans h.2.1.1, fun i hi => (hf.1 _ _ (h1 _ _ (by decide) (by decide))).trans (h.2.1.2.1 i hi), h.2.1.2.2⟩, (hf.1 _ _ (h1 _ _ (by decide) (by decide))).trans h.2.2⟩
/-- the reference's state -/
noncomputable def PM (c : hS) (b t : List Nat) (ms : List Mb) : Prop := mrw c 2 202 b ∧ mrw c 4 203 t ∧ c.1 201 7 = nI ms.length ∧ ms.length ≤ 16 ∧ msh c 0 ms ∧ ∀ x ∈ ms, nameB x.1 = true
theorem PM.mv {P : Nat → Nat → Prop} {c c1 : hS} {b t : List Nat} {ms : List Mb} (h : PM c b t ms) (hf : fm P c c1) (h1 : ∀ o i, P o i → (o = 201 ∧ i ≠ 2 ∧ i ≠ 4 ∧ i ≠ 7) ∨ 208 < o) : PM c1 b t ms := by
  have n : ∀ o i, ¬ ((o = 201 ∧ i ≠ 2 ∧ i ≠ 4 ∧ i ≠ 7) ∨ 208 < o) → ¬ P o i := fun o i q z => q (h1 o i z)
  exact ⟨h.1.fm hf (n _ _ (by omega)) (fun i => n _ _ (by omega)), h.2.1.fm hf (n _ _ (by omega)) (fun i => n _ _ (by omega)), (hf.1 _ _ (n _ _ (by omega))).trans h.2.2.1, h.2.2.2.1, fun i hi => (h.2.2.2.2.1 i hi).fm hf (fun o j a b => n _ _ (by omega)), h.2.2.2.2.2⟩
/-- a public method of the reference: what it has thrown, its answer, the state behind it -/
noncomputable def MN {α : Type} (X : Option (α × hS)) (c : hS) (k : Nat) (v : α) (b t : List Nat) (ms : List Mb) : Prop := ∃ x c', X = some (x, c') ∧ c'.1 201 0 = nI k ∧ (k = 0 → x = v) ∧ PM c' b t ms ∧ fm (fun o _ => 201 ≤ o ∧ o < 219) c c'
theorem le64 {x y : Int32} : x.toInt64 ≤ y.toInt64 ↔ x ≤ y := by rw [Int64.le_iff_toInt_le, Int32.le_iff_toInt_le, Int32.toInt_toInt64, Int32.toInt_toInt64]
theorem m_in {c : hS} {x a b : Int32} {a' b' : Int64} (ha : a' = a.toInt64) (hb : b' = b.toInt64) : f_X12_in c x.toInt64 a' b' = some (bI (decide (a ≤ x) && decide (x ≤ b)), c) := by
  subst ha hb
  unfold f_X12_in j_cmp
  by_cases h1 : a ≤ x
  · have g1 := le64.mpr h1
    have e1 : ¬ (if x.toInt64 > a.toInt64 then (1 : Int32) else if x.toInt64 = a.toInt64 then 0 else -1) < 0 := by
      split
      · decide
      · split
        · decide
        · rename_i p q
          exact absurd (Int64.le_antisymm (Int64.not_lt.mp p) g1) q
    rw [if_neg e1, decide_eq_true h1, Bool.true_and]
    by_cases h2 : x ≤ b
    · have g2 := le64.mpr h2
      rw [if_neg (show ¬ x.toInt64 > b.toInt64 from Int64.not_lt.mpr g2)]
      have e2 : ¬ (0 : Int32) < (if x.toInt64 = b.toInt64 then 0 else -1) := by split <;> decide
      rw [if_neg e2, decide_eq_true h2]
      rfl
    · have g2 : x.toInt64 > b.toInt64 := Int64.not_le.mp (fun z => h2 (le64.mp z))
      rw [if_pos g2, if_pos (by decide), decide_eq_false h2]
      rfl
  · have g1 : ¬ a.toInt64 ≤ x.toInt64 := fun z => h1 (le64.mp z)
    have g1' := Int64.not_le.mp g1
    rw [if_neg (show ¬ x.toInt64 > a.toInt64 from fun z => g1 (Int64.le_of_lt z)), if_neg (show ¬ x.toInt64 = a.toInt64 from fun z => g1 (by rw [z]; exact Int64.le_refl _)), if_pos (by decide), decide_eq_false h1]
    rfl
theorem m_ref {c : hS} {w : Bool} {k : Nat} (h : c.1 201 0 = 0) (hk : 0 < k) (hk2 : k < 100) : f_X12_refuses c (bI w) (nI k) = some (bI w, if w = true then sI c 201 0 (nI k) else c) := by
  unfold f_X12_refuses
  rw [if_pos h]
  cases w with
  | false => rw [if_pos (show bI false = 0 from rfl), h, if_pos (by decide)]; rfl
  | true =>
    rw [if_neg (by decide)]
    dsimp only [st1]
    rw [sI_s, if_neg (nI_nle hk (by omega))]
    rfl
end
section
/-! PURE: the reference: buffer and tape -/
theorem PM.bf {P : Nat → Nat → Prop} {c c1 : hS} {b b' t : List Nat} {ms : List Mb} (h : PM c b t ms) (hf : fm P c c1) (h1 : ∀ o i, P o i → (o = 201 ∧ i ≠ 4 ∧ i ≠ 7) ∨ o = 202 ∨ 208 < o) (hb : mrw c1 2 202 b') : PM c1 b' t ms := by
  have n : ∀ o i, ¬ ((o = 201 ∧ i ≠ 4 ∧ i ≠ 7) ∨ o = 202 ∨ 208 < o) → ¬ P o i := fun o i q z => q (h1 o i z)
  exact ⟨hb, h.2.1.fm hf (n _ _ (by omega)) (fun i => n _ _ (by omega)), (hf.1 _ _ (n _ _ (by omega))).trans h.2.2.1, h.2.2.2.1, fun i hi => (h.2.2.2.2.1 i hi).fm hf (fun o j a b => n _ _ (by omega)), h.2.2.2.2.2⟩
theorem PM.tp {P : Nat → Nat → Prop} {c c1 : hS} {b t t' : List Nat} {ms : List Mb} (h : PM c b t ms) (hf : fm P c c1) (h1 : ∀ o i, P o i → (o = 201 ∧ i ≠ 2 ∧ i ≠ 7) ∨ o = 203 ∨ 208 < o) (hb : mrw c1 4 203 t') : PM c1 b t' ms := by
  have n : ∀ o i, ¬ ((o = 201 ∧ i ≠ 2 ∧ i ≠ 7) ∨ o = 203 ∨ 208 < o) → ¬ P o i := fun o i q z => q (h1 o i z)
  exact ⟨h.1.fm hf (n _ _ (by omega)) (fun i => n _ _ (by omega)), hb, (hf.1 _ _ (n _ _ (by omega))).trans h.2.2.1, h.2.2.2.1, fun i hi => (h.2.2.2.2.1 i hi).fm hf (fun o j a b => n _ _ (by omega)), h.2.2.2.2.2⟩
theorem m_ref0 {c : hS} {k : Int32} (h : c.1 201 0 = 0) : f_X12_refuses c 0 k = some (0, c) := by
  unfold f_X12_refuses
  rw [if_pos h, if_pos rfl, h, if_pos (by decide)]
theorem m_ref1 {c : hS} {k : Int32} (h : c.1 201 0 = 0) (hk : ¬ k ≤ 0) : f_X12_refuses c 1 k = some (1, sI c 201 0 k) := by
  unfold f_X12_refuses
  rw [if_pos h, if_neg (by decide)]
  dsimp only [st1]
  rw [sI_s, if_neg hk]
/-- thrown = 0 -/
theorem m_zero {c : hS} {b t : List Nat} {ms : List Mb} (h : PM c b t ms) : ∃ c1, sI c 201 0 0 = c1 ∧ PM c1 b t ms ∧ c1.1 201 0 = 0 ∧ fm (fun o _ => 201 ≤ o ∧ o < 219) c c1 := by
  refine ⟨_, rfl, h.mv (P := fun o i => o = 201 ∧ i = 0) (fm.sI ⟨rfl, rfl⟩) (fun o i z => by omega), sI_s _ _ _ _, fm.sI (by omega)⟩
theorem m_no {α : Type} {c c1 : hS} {b t : List Nat} {ms : List Mb} {x v : α} {k : Nat} {y : Int32} (h : PM c1 b t ms) (hf : fm (fun o _ => 201 ≤ o ∧ o < 219) c c1) (hk : k ≠ 0) (hy : y = nI k) : MN (some (x, sI c1 201 0 y)) c k v b t ms :=
  ⟨x, _, rfl, by rw [sI_s]; exact hy, fun z => absurd z hk, h.mv (P := fun o i => o = 201 ∧ i = 0) (fm.sI ⟨rfl, rfl⟩) (fun o i z => by omega), hf.tr (fm.sI (by omega))⟩
theorem mrw.add {c : hS} {j o x : Nat} {l : List Nat} (h : mrw c j o l) (ho : o ≠ 201) (hl : l.length < ln o) (hx : x < 256) : mrw (sI (sI c o l.length (nI x)) 201 j (nI (l.length + 1))) j o (l ++ [x]) := by
  refine ⟨by simp; omega, by rw [sI_s]; simp, fun i hi => ?_, h.2.2.2.app (fun y hy => by simp at hy; omega)⟩
  rw [sI_o ho]
  simp at hi
  by_cases e : i = l.length
  · rw [e, sI_s, gt_app_r (Nat.le_refl _), Nat.sub_self]; rfl
  · rw [sI_j e, h.2.2.1 i (by omega), gt_app_l (by omega)]
theorem and255 (y : Int64) : (y &&& 255).toInt32 = nI (b8 y.toInt32) := by
  rw [Int64.toInt32_and, ← b8_and]
  rfl
theorem m_type {N : Nat} {c : hS} {b t : List Nat} {ms : List Mb} {x : Int64} {n : Int32} (hN : 1000000 ≤ N) (h : PM c b t ms) : MN (f_X12_type N c x n) c (tyK b n) (nI (tyB b x n).length) (tyB b x n) t ms := by
  obtain ⟨c1, e1, h1, z1, f1⟩ := m_zero h
  have hbl : b.length ≤ 512 := h.1.1
  unfold f_X12_type
  rw [e1]
  dsimp only [st1]
  rw [m_in (a := 1) (b := 8) (a' := 1) (b' := 8) (by decide) (by decide), bnd_some]
  cases hw : (decide ((1 : Int32) ≤ n) && decide (n ≤ 8)) with
  | false =>
    have hor : n < 1 ∨ 8 < n := by
      rcases Bool.and_eq_false_iff.mp hw with q | q
      · exact Or.inl (Int32.not_le.mp (of_decide_eq_false q))
      · exact Or.inr (Int32.not_le.mp (of_decide_eq_false q))
    have k1 : tyK b n = 1 := by unfold tyK; rw [if_pos hor]
    have e1 : tyB b x n = b := by unfold tyB; rw [if_neg (by rw [k1]; decide)]
    rw [if_pos (show bI false = 0 from rfl), k1, e1]
    unfold f_X12_type_23
    rw [m_ref1 z1 (by decide), bnd_some, if_neg (by decide)]
    exact m_no h1 f1 (by decide) rfl
  | true =>
    have hh : (1 : Int32) ≤ n ∧ n ≤ 8 := by simpa using hw
    have hor : ¬ (n < 1 ∨ 8 < n) := fun q => q.elim (Int32.not_lt.mpr hh.1) (Int32.not_lt.mpr hh.2)
    rw [if_neg (by decide)]
    unfold f_X12_type_23
    rw [m_ref0 z1, bnd_some, if_pos rfl, h1.1.2.1]
    rcases i_cases n with q | ⟨k, hk, rfl⟩
    · exact absurd (Int32.lt_of_lt_of_le q (by decide)) (Int32.not_lt.mpr hh.1)
    · have k8 : k ≤ 8 := (nI_leI hk (show 8 < 2 ^ 31 by decide)).mp hh.2
      rw [nI_add]
      by_cases h5 : b.length + k ≤ 512
      · have k1 : tyK b (nI k) = 0 := by unfold tyK; rw [if_neg hor, nI_clamp hk, if_neg (by omega)]
        have e1 : tyB b x (nI k) = b ++ big x k := by unfold tyB; rw [if_pos k1, nI_clamp hk]
        rw [if_pos (show nI (b.length + k) ≤ 512 from nI_le (b := 512) h5 (by decide)), k1, e1]
        unfold f_X12_type_48
        rw [m_ref0 z1, bnd_some, if_pos rfl]
        have key : ∀ d m c b, d < m → b.length + d ≤ 512 → PM c b t ms → c.1 201 0 = 0 → ∃ c', f_X12_type_62 N x (nI k) m c (nI d - 1) = some (nI (b ++ big x d).length, c') ∧ c'.1 201 0 = 0 ∧ PM c' (b ++ big x d) t ms ∧ fm (fun o _ => 201 ≤ o ∧ o < 219) c c' := by
          intro d
          induction d with
          | zero =>
            intro m c b hm hl h z
            obtain ⟨m, rfl⟩ : ∃ m', m = m' + 1 := ⟨m - 1, by omega⟩
            rw [f_X12_type_62, if_pos (by decide), h.1.2.1]
            exact ⟨c, by simp [big], z, by simpa [big] using h, fm.rf⟩
          | succ d ih =>
            intro m c b hm hl h z
            obtain ⟨m, rfl⟩ : ∃ m', m = m' + 1 := ⟨m - 1, by omega⟩
            have hbd : b8 (j_lushr x (8 * nI d)).toInt32 < 256 := b8_lt _
            rw [nI_pred, f_X12_type_62, if_neg (nI_pos (by omega)), h.1.2.1, j_in_nI (show b.length < ln 202 from (by show b.length < 512; omega)) (by decide), cond_true, nI_clamp (by omega)]
            dsimp only [st1]
            rw [and255, sI_o (by decide), h.1.2.1, nI_1]
            have hr := h.1.add (x := b8 (j_lushr x (8 * nI d)).toInt32) (by decide) (show b.length < 512 by omega) hbd
            have f2 : fm (fun o i => (o = 202) ∨ (o = 201 ∧ i = 2)) c (sI (sI c 202 b.length (nI (b8 (j_lushr x (8 * nI d)).toInt32))) 201 2 (nI (b.length + 1))) := (fm.sI (Or.inl rfl)).tr (fm.sI (Or.inr ⟨rfl, rfl⟩))
            have h2 := h.bf f2 (fun o i z => by omega) hr
            have z2 : (sI (sI c 202 b.length (nI (b8 (j_lushr x (8 * nI d)).toInt32))) 201 2 (nI (b.length + 1))).1 201 0 = 0 := by rw [sI_j (by decide), sI_o (by decide)]; exact z
            obtain ⟨c', w1, w2, w3, w4⟩ := ih m _ _ (by omega) (by simp; omega) h2 z2
            have eb : b ++ [b8 (j_lushr x (8 * nI d)).toInt32] ++ big x d = b ++ big x (d + 1) := by unfold big; rw [List.range_succ]; simp
            rw [eb] at w1 w3
            refine ⟨c', ?_, w2, w3, (f2.mono (fun o i z => by omega)).tr w4⟩
            rw [← w1, Int32.sub_eq_add_neg]
        obtain ⟨c', w1, w2, w3, w4⟩ := key k N c1 b (by omega) h5 h1 z1
        exact ⟨_, c', w1, w2, fun _ => rfl, w3, f1.tr w4⟩
      · have k1 : tyK b (nI k) = 2 := by unfold tyK; rw [if_neg hor, nI_clamp hk, if_pos (by omega)]
        have e1 : tyB b x (nI k) = b := by unfold tyB; rw [if_neg (by rw [k1]; decide)]
        rw [if_neg (show ¬ nI (b.length + k) ≤ 512 from nI_ge (show 512 < b.length + k by omega) (by omega)), k1, e1]
        unfold f_X12_type_48
        rw [m_ref1 z1 (by decide), bnd_some, if_neg (by decide)]
        exact m_no h1 f1 (by decide) rfl
end
section
/-! PURE: the reference: keep, typed, end, poke, at, count, fault, feed -/
theorem in_keep {l : List Nat} {n : Int32} (hl : l.length < 2 ^ 31) : (decide ((0 : Int32) ≤ n) && decide (n ≤ nI l.length)) = decide (keK l n = 0) := by
  unfold keK
  rcases i_cases n with q | ⟨k, hk, rfl⟩
  · rw [if_pos q, decide_eq_false (Int32.not_le.mpr q)]; rfl
  · rw [if_neg (nI_pos hk), nI_clamp hk, decide_eq_true (Int32.not_lt.mp (nI_pos hk)), Bool.true_and]
    by_cases w : l.length < k
    · rw [if_pos w, decide_eq_false (nI_ge w hk)]; rfl
    · rw [if_neg w, decide_eq_true (nI_le (by omega) hl)]; rfl
theorem in_has {l : List Nat} {n : Int32} (hl : l.length < 2 ^ 31) : (decide ((0 : Int32) ≤ n) && decide (n ≤ nI l.length - 1)) = haB l n := by
  unfold haB
  rcases i_cases n with q | ⟨k, hk, rfl⟩
  · rw [decide_eq_true q, decide_eq_false (Int32.not_le.mpr q)]; rfl
  · rw [nI_clamp hk, decide_eq_true (Int32.not_lt.mp (nI_pos hk)), decide_eq_false (nI_pos hk), Bool.not_false, Bool.true_and, Bool.true_and]
    by_cases e0 : l.length = 0
    · have ng : ¬ nI k ≤ nI l.length - 1 := fun z => by
        rw [e0] at z
        exact nI_pos hk (Int32.lt_of_le_of_lt z (by decide))
      rw [decide_eq_false ng, decide_eq_false (show ¬ k < l.length by omega)]
    · rw [show nI l.length - 1 = nI (l.length - 1) from subI (b := 1) (by omega)]
      by_cases w : k < l.length
      · rw [decide_eq_true w, decide_eq_true (nI_le (by omega) (by omega))]
      · rw [decide_eq_false w, decide_eq_false (nI_ge (by omega) hk)]
theorem mrw.cut {c : hS} {j o k : Nat} {l : List Nat} (h : mrw c j o l) (ho : o ≠ 201) (hk : k ≤ l.length) : mrw (sI c 201 j (nI k)) j o (l.take k) := by
  refine ⟨by have := h.1; simp; omega, by rw [sI_s, List.length_take, Nat.min_eq_left hk], fun i hi => ?_, h.2.2.2.take k⟩
  simp at hi
  rw [sI_o ho, h.2.2.1 i (by omega), gt_take (by omega)]
theorem keK_so {l : List Nat} {n : Int32} (h : keK l n = 0) : ∃ k, k < 2 ^ 31 ∧ n = nI k ∧ k ≤ l.length := by
  unfold keK at h
  rcases i_cases n with q | ⟨k, hk, rfl⟩
  · rw [if_pos q] at h; cases h
  · rw [if_neg (nI_pos hk), nI_clamp hk] at h
    refine ⟨k, hk, rfl, ?_⟩
    by_cases w : l.length < k
    · rw [if_pos w] at h; cases h
    · omega
theorem keK_01 (l : List Nat) (n : Int32) : keK l n = 0 ∨ keK l n = 1 := by
  unfold keK
  split
  · exact Or.inr rfl
  · split
    · exact Or.inr rfl
    · exact Or.inl rfl
theorem m_keep {c : hS} {b t : List Nat} {ms : List Mb} {n : Int32} (h : PM c b t ms) : MN (f_X12_keep c n) c (keK b n) () (keB b n) t ms := by
  obtain ⟨c1, e1, h1, z1, f1⟩ := m_zero h
  unfold f_X12_keep
  rw [e1]
  dsimp only [st1]
  rw [h1.1.2.1, m_in (a := 0) (a' := 0) (by decide) rfl, bnd_some, in_keep h1.1.lt]
  rcases keK_01 b n with k0 | k1
  · obtain ⟨k, hk, rfl, hkl⟩ := keK_so k0
    have e2 : keB b (nI k) = b.take k := by unfold keB; rw [if_pos k0, nI_clamp hk]
    rw [decide_eq_true k0, if_neg (by decide), k0, e2]
    unfold f_X12_keep_25
    rw [m_ref0 z1, bnd_some, if_pos rfl]
    have f2 : fm (fun o i => o = 201 ∧ i = 2) c1 (sI c1 201 2 (nI k)) := fm.sI ⟨rfl, rfl⟩
    exact ⟨(), _, rfl, by rw [sI_j (by decide)]; exact z1, fun _ => rfl, h1.bf f2 (fun o i z => by omega) (h1.1.cut (by decide) hkl), f1.tr (f2.mono (fun o i z => by omega))⟩
  · have e2 : keB b n = b := by unfold keB; rw [if_neg (by rw [k1]; decide)]
    rw [decide_eq_false (by rw [k1]; decide), if_pos (show bI false = 0 from rfl), k1, e2]
    unfold f_X12_keep_25
    rw [m_ref1 z1 (by decide), bnd_some, if_neg (by decide)]
    exact m_no h1 f1 (by decide) rfl
theorem m_end {c : hS} {b t : List Nat} {ms : List Mb} {n : Int32} (h : PM c b t ms) : MN (f_X12_end c n) c (keK t n) () b (keB t n) ms := by
  obtain ⟨c1, e1, h1, z1, f1⟩ := m_zero h
  unfold f_X12_end
  rw [e1]
  dsimp only [st1]
  rw [h1.2.1.2.1, m_in (a := 0) (a' := 0) (by decide) rfl, bnd_some, in_keep h1.2.1.lt]
  rcases keK_01 t n with k0 | k1
  · obtain ⟨k, hk, rfl, hkl⟩ := keK_so k0
    have e2 : keB t (nI k) = t.take k := by unfold keB; rw [if_pos k0, nI_clamp hk]
    rw [decide_eq_true k0, if_neg (by decide), k0, e2]
    unfold f_X12_end_25
    rw [m_ref0 z1, bnd_some, if_pos rfl]
    have f2 : fm (fun o i => o = 201 ∧ i = 4) c1 (sI c1 201 4 (nI k)) := fm.sI ⟨rfl, rfl⟩
    exact ⟨(), _, rfl, by rw [sI_j (by decide)]; exact z1, fun _ => rfl, h1.tp f2 (fun o i z => by omega) (h1.2.1.cut (by decide) hkl), f1.tr (f2.mono (fun o i z => by omega))⟩
  · have e2 : keB t n = t := by unfold keB; rw [if_neg (by rw [k1]; decide)]
    rw [decide_eq_false (by rw [k1]; decide), if_pos (show bI false = 0 from rfl), k1, e2]
    unfold f_X12_end_25
    rw [m_ref1 z1 (by decide), bnd_some, if_neg (by decide)]
    exact m_no h1 f1 (by decide) rfl
theorem m_typed {c : hS} {b t : List Nat} {ms : List Mb} {i : Int32} (h : PM c b t ms) : MN (f_X12_typed c i) c (tdK b i) (tdV b i) b t ms := by
  obtain ⟨c1, e1, h1, z1, f1⟩ := m_zero h
  have hbl : b.length ≤ 512 := h.1.1
  unfold f_X12_typed tdK
  rw [e1]
  dsimp only [st1]
  rw [h1.1.2.1, m_in (a := 0) (a' := 0) (by decide) rfl, bnd_some, in_has h1.1.lt]
  cases z : haB b i with
  | false =>
    rw [if_pos (show bI false = 0 from rfl), if_neg (by decide)]
    unfold f_X12_typed_27
    rw [m_ref1 z1 (by decide), bnd_some, if_neg (by decide)]
    exact m_no h1 f1 (by decide) rfl
  | true =>
    obtain ⟨k, hk, rfl, hkl⟩ := haB_so z
    rw [if_neg (by decide), if_pos rfl]
    unfold f_X12_typed_27 tdV
    rw [m_ref0 z1, bnd_some, if_pos rfl, j_in_nI (show k < ln 202 from (by show k < 512; omega)) (by decide), cond_true, nI_clamp hk, h1.1.2.2.1 k hkl]
    exact ⟨_, c1, rfl, z1, fun _ => rfl, h1, f1⟩
theorem m_count {c : hS} {b t : List Nat} {ms : List Mb} {w : Int32} (h : PM c b t ms) : MN (f_X12_count c w) c (coK w) (coV b t ms w) b t ms := by
  obtain ⟨c1, e1, h1, z1, f1⟩ := m_zero h
  unfold f_X12_count coK coV
  rw [e1]
  dsimp only [st1]
  rw [m_in (a := 0) (b := 2) (a' := 0) (b' := 2) (by decide) (by decide), bnd_some]
  have iff : (decide ((0 : Int32) ≤ w) && decide (w ≤ 2)) = decide (w = 0 ∨ w = 1 ∨ w = 2) := by
    rcases i_cases w with q | ⟨k, hk, rfl⟩
    · rw [decide_eq_false (Int32.not_le.mpr q), Bool.false_and, decide_eq_false]
      rintro (z | z | z) <;> (rw [z] at q; exact absurd q (by decide))
    · rw [decide_eq_true (Int32.not_lt.mp (nI_pos hk)), Bool.true_and]
      by_cases k2 : k ≤ 2
      · rw [decide_eq_true (show nI k ≤ 2 from nI_le (b := 2) k2 (by decide))]
        exact ((by decide : ∀ k, k ≤ 2 → true = decide (nI k = 0 ∨ nI k = 1 ∨ nI k = 2)) k k2)
      · rw [decide_eq_false (show ¬ nI k ≤ 2 from nI_ge (show 2 < k by omega) hk), decide_eq_false]
        rintro (z | z | z)
        · have := (nI_eq hk (show 0 < 2 ^ 31 by decide)).mp z; omega
        · have := (nI_eq hk (show 1 < 2 ^ 31 by decide)).mp z; omega
        · have := (nI_eq hk (show 2 < 2 ^ 31 by decide)).mp z; omega
  rw [iff]
  by_cases o : w = 0 ∨ w = 1 ∨ w = 2
  · rw [decide_eq_true o, if_neg (by decide), if_pos o]
    unfold f_X12_count_23
    rw [m_ref0 z1, bnd_some, if_pos rfl, h1.2.2.1, h1.1.2.1, h1.2.1.2.1]
    by_cases w0 : w = 0
    · rw [if_pos w0, if_pos w0]; exact ⟨_, c1, rfl, z1, fun _ => rfl, h1, f1⟩
    · by_cases w1 : w = 1
      · rw [if_neg w0, if_pos w1, if_neg w0, if_pos w1]; exact ⟨_, c1, rfl, z1, fun _ => rfl, h1, f1⟩
      · rw [if_neg w0, if_neg w1, if_neg w0, if_neg w1]; exact ⟨_, c1, rfl, z1, fun _ => rfl, h1, f1⟩
  · rw [decide_eq_false o, if_pos (show bI false = 0 from rfl), if_neg o]
    unfold f_X12_count_23
    rw [m_ref1 z1 (by decide), bnd_some, if_neg (by decide)]
    exact m_no h1 f1 (by decide) rfl
theorem m_fault {c : hS} {b t : List Nat} {ms : List Mb} {w : Int32} (h : PM c b t ms) : ∃ x c', f_X12_fault c w = some (x, c') ∧ PM c' b t ms ∧ fm (fun o _ => 201 ≤ o ∧ o < 219) c c' := by
  obtain ⟨c1, e1, h1, z1, f1⟩ := m_zero h
  unfold f_X12_fault
  rw [e1]
  dsimp only [st1]
  rw [m_in (a := 0) (b := 1) (a' := 0) (b' := 1) (by decide) (by decide), bnd_some]
  unfold f_X12_fault_21
  cases (decide ((0 : Int32) ≤ w) && decide (w ≤ 1)) with
  | true =>
    rw [if_neg (by decide), m_ref0 z1, bnd_some, if_pos rfl]
    by_cases w0 : w = 0
    · rw [if_pos w0]; exact ⟨_, c1, rfl, h1, f1⟩
    · rw [if_neg w0]; exact ⟨_, c1, rfl, h1, f1⟩
  | false =>
    rw [if_pos (show bI false = 0 from rfl), m_ref1 z1 (by decide), bnd_some, if_neg (by decide)]
    obtain ⟨x, c', a1, _, _, a4, a5⟩ := m_no (x := (0 : Int32)) (v := (0 : Int32)) (k := 1) h1 f1 (by decide) (show (1 : Int32) = nI 1 from rfl)
    exact ⟨x, c', a1, a4, a5⟩
end
section
/-! PURE: the reference: poke, at, feed -/
theorem mrw.set {c : hS} {j o k x : Nat} {l : List Nat} (h : mrw c j o l) (ho : o ≠ 201) (hk : k < l.length) (hx : x < 256) : mrw (sI c o k (nI x)) j o (l.set k x) := by
  refine ⟨by have := h.1; simpa using this, by rw [sI_o (fun z => ho z.symm), h.2.1, List.length_set], fun i hi => ?_, fun y hy => ?_⟩
  · have hi' : i < l.length := by simpa using hi
    by_cases e : i = k
    · rw [e, sI_s, gt_lt (by simpa using hk)]
      simp
    · rw [sI_j e, h.2.2.1 i hi', gt_lt hi', gt_lt hi]
      rw [List.getElem_set_ne (fun z => e z.symm)]
  · rcases List.mem_or_eq_of_mem_set hy with q | q
    · exact h.2.2.2 y q
    · rw [q]; exact hx
theorem m_poke {c : hS} {b t : List Nat} {ms : List Mb} {i v : Int32} (h : PM c b t ms) : MN (f_X12_poke c i v) c (poK t i v) (tdV t i) b (poT t i v) ms := by
  obtain ⟨c1, e1, h1, z1, f1⟩ := m_zero h
  have htl : t.length ≤ 20000 := h.2.1.1
  unfold f_X12_poke
  rw [e1]
  dsimp only [st1]
  rw [h1.2.1.2.1, m_in (a := 0) (a' := 0) (by decide) rfl, bnd_some, in_has h1.2.1.lt]
  unfold f_X12_poke_27
  cases z : haB t i with
  | false =>
    have k1 : poK t i v = 1 := by unfold poK; rw [z]; rfl
    have e2 : poT t i v = t := by unfold poT; rw [if_neg (by rw [k1]; decide)]
    rw [if_pos (show bI false = 0 from rfl), m_ref1 z1 (by decide), bnd_some, if_neg (by decide), k1, e2]
    exact m_no h1 f1 (by decide) rfl
  | true =>
    obtain ⟨k, hk, rfl, hkl⟩ := haB_so z
    rw [if_neg (by decide), m_ref0 z1, bnd_some, if_pos rfl, m_in (a := 0) (b := 255) (a' := 0) (b' := 255) (by decide) (by decide), bnd_some]
    unfold f_X12_poke_52
    cases hw : (decide ((0 : Int32) ≤ v) && decide (v ≤ 255)) with
    | false =>
      have hor : v < 0 ∨ 255 < v := by
        rcases Bool.and_eq_false_iff.mp hw with q | q
        · exact Or.inl (Int32.not_le.mp (of_decide_eq_false q))
        · exact Or.inr (Int32.not_le.mp (of_decide_eq_false q))
      have k1 : poK t (nI k) v = 2 := by unfold poK; rw [if_pos z, if_pos hor]
      have e2 : poT t (nI k) v = t := by unfold poT; rw [if_neg (by rw [k1]; decide)]
      rw [if_pos (show bI false = 0 from rfl), m_ref1 z1 (by decide), bnd_some, if_neg (by decide), k1, e2]
      exact m_no h1 f1 (by decide) rfl
    | true =>
      have hh : (0 : Int32) ≤ v ∧ v ≤ 255 := by simpa using hw
      have hor : ¬ (v < 0 ∨ 255 < v) := fun q => q.elim (Int32.not_lt.mpr hh.1) (Int32.not_lt.mpr hh.2)
      have k1 : poK t (nI k) v = 0 := by unfold poK; rw [if_pos z, if_neg hor]
      have e2 : poT t (nI k) v = t.set k (b8 v) := by unfold poT; rw [if_pos k1, nI_clamp hk]
      have ev : v = nI (b8 v) := by
        rcases i_cases v with q | ⟨y, hy, rfl⟩
        · exact absurd q (Int32.not_lt.mpr hh.1)
        · have : y ≤ 255 := (nI_leI hy (show 255 < 2 ^ 31 by decide)).mp hh.2
          rw [b8_nI' (by omega)]
      rw [if_neg (by decide), m_ref0 z1, bnd_some, if_pos rfl, j_in_nI (show k < ln 203 from (by show k < 20000; omega)) (by decide), cond_true, cond_true, nI_clamp hk, h1.2.1.2.2.1 k hkl, k1, e2]
      dsimp only [st1]
      unfold tdV
      rw [nI_clamp hk]
      have hr := h1.2.1.set (x := b8 v) (by decide) hkl (b8_lt v)
      rw [← ev] at hr
      have f2 : fm (fun o i => o = 203) c1 (sI c1 203 k v) := fm.sI rfl
      exact ⟨_, _, rfl, by rw [sI_o (by decide)]; exact z1, fun _ => rfl, h1.tp f2 (fun o i z => by omega) hr, f1.tr (f2.mono (fun o i z => by omega))⟩
theorem m_at {N : Nat} {c : hS} {b t : List Nat} {ms : List Mb} {i n : Int32} (hN : 1000000 ≤ N) (h : PM c b t ms) : MN (f_X12_at N c i n) c (atK t i n) (atV t i n) b t ms := by
  obtain ⟨c1, e1, h1, z1, f1⟩ := m_zero h
  have htl : t.length ≤ 20000 := h.2.1.1
  have no2 : atK t i n = 2 → MN (f_X12_at_50 N i n c1 1) c (atK t i n) (atV t i n) b t ms := by
    intro k1
    unfold f_X12_at_50
    rw [m_ref1 z1 (by decide), bnd_some, if_neg (by decide), k1]
    exact m_no h1 f1 (by decide) rfl
  unfold f_X12_at
  rw [e1]
  dsimp only [st1]
  rw [m_in (a := 1) (b := 8) (a' := 1) (b' := 8) (by decide) (by decide), bnd_some]
  unfold f_X12_at_23
  cases hw : (decide ((1 : Int32) ≤ n) && decide (n ≤ 8)) with
  | false =>
    have hor : n < 1 ∨ 8 < n := by
      rcases Bool.and_eq_false_iff.mp hw with q | q
      · exact Or.inl (Int32.not_le.mp (of_decide_eq_false q))
      · exact Or.inr (Int32.not_le.mp (of_decide_eq_false q))
    have k1 : atK t i n = 1 := by unfold atK; rw [if_pos hor]
    rw [if_pos (show bI false = 0 from rfl), m_ref1 z1 (by decide), bnd_some, if_neg (by decide), k1]
    exact m_no h1 f1 (by decide) rfl
  | true =>
    have hh : (1 : Int32) ≤ n ∧ n ≤ 8 := by simpa using hw
    have hor : ¬ (n < 1 ∨ 8 < n) := fun q => q.elim (Int32.not_lt.mpr hh.1) (Int32.not_lt.mpr hh.2)
    rw [if_neg (by decide), m_ref0 z1, bnd_some, if_pos rfl]
    unfold f_X12_at_45
    by_cases i0 : i < 0
    · rw [if_pos i0]
      exact no2 (by unfold atK; rw [if_neg hor, if_pos (Or.inl i0)])
    · rw [if_neg i0, h1.2.1.2.1]
      rcases i_cases n with q | ⟨k, hk, rfl⟩
      · exact absurd (Int32.lt_of_lt_of_le q (by decide)) (Int32.not_lt.mpr hh.1)
      · have k8 : k ≤ 8 := (nI_leI hk (show 8 < 2 ^ 31 by decide)).mp hh.2
        rcases i_cases i with q | ⟨p, hp, rfl⟩
        · exact absurd q i0
        · by_cases w : p + k ≤ t.length
          · have k1 : atK t (nI p) (nI k) = 0 := by
              unfold atK
              rw [if_neg hor, nI_clamp hp, nI_clamp hk, if_neg]
              rintro (z | z)
              · exact nI_pos hp z
              · omega
            rw [subI (by omega), if_pos (nI_le (show p ≤ t.length - k by omega) (by omega)), k1]
            unfold f_X12_at_50
            rw [m_ref0 z1, bnd_some, if_pos rfl]
            have key : ∀ d m j v, j + d = k → d < m → f_X12_at_64 N (nI p) (nI k) m c1 v (nI j) = some (atF t p d j v, c1) := by
              intro d
              induction d with
              | zero =>
                intro m j v hj hm
                obtain ⟨m, rfl⟩ : ∃ m', m = m' + 1 := ⟨m - 1, by omega⟩
                rw [f_X12_at_64, if_pos (nI_le (by omega) (by omega))]
                rfl
              | succ d ih =>
                intro m j v hj hm
                obtain ⟨m, rfl⟩ : ∃ m', m = m' + 1 := ⟨m - 1, by omega⟩
                rw [f_X12_at_64, if_neg (nI_ge (by omega) (by omega)), nI_add, j_in_nI (show p + j < ln 203 from (by show p + j < 20000; omega)) (by decide), cond_true, nI_clamp (by omega), h1.2.1.2.2.1 (p + j) (by omega), nI_1, ih m (j + 1) _ (by omega) (by omega)]
                rfl
            unfold atV
            rw [nI_clamp hp, nI_clamp hk]
            exact ⟨_, c1, key k N 0 0 (by omega) (by omega), z1, fun _ => rfl, h1, f1⟩
          · have k1 : atK t (nI p) (nI k) = 2 := by unfold atK; rw [if_neg hor, nI_clamp hp, nI_clamp hk, if_pos (Or.inr (by omega))]
            have ng : ¬ nI p ≤ nI t.length - nI k := by
              by_cases w2 : k ≤ t.length
              · rw [subI w2]; exact nI_ge (by omega) hp
              · intro z
                have := (by decide +kernel : ∀ a, a < 8 → ∀ b, b < 9 → a < b → nI a - nI b < 0) t.length (by omega) k (by omega) (by omega)
                exact nI_pos hp (Int32.lt_of_le_of_lt z this)
            rw [if_neg ng]
            exact no2 k1
end
section
/-! PURE: the reference: feed -/
theorem b8_w (x : Int32) : b8 x = (x.toBitVec.setWidth 8).toNat := by
  unfold b8
  rw [BitVec.toNat_setWidth]
  rfl
theorem fe_bits (w : Int32) (s : Nat) (hs : s ≤ 24) : ((w.toBitVec.sshiftRight s).setWidth 8) = (((w.toBitVec.signExtend 64) >>> s).signExtend 32).setWidth 8 := by
  apply BitVec.eq_of_getLsbD_eq
  intro i hi
  simp only [BitVec.getLsbD_setWidth, BitVec.getLsbD_sshiftRight, BitVec.getLsbD_ushiftRight, BitVec.getLsbD_signExtend]
  have h1 : s + i < 32 := by omega
  have h2 : i < 32 := by omega
  have h3 : s + i < 64 := by omega
  have h4 : ¬ (32 ≤ i) := by omega
  have h5 : i < 64 := by omega
  simp [h1, h2, h3, hi, h4, h5]
theorem fe_b8 {w : Int32} {a : Int32} {d : Int32} {s : Nat} (hs : s ≤ 24) (h1 : j_shr w a = ⟨⟨w.toBitVec.sshiftRight s⟩⟩) (h2 : (j_lushr w.toInt64 d).toInt32 = ⟨⟨((w.toBitVec.signExtend 64) >>> s).signExtend 32⟩⟩) : b8 (j_shr w a) = b8 (j_lushr w.toInt64 d).toInt32 := by
  rw [b8_w, b8_w, h1, h2]
  exact congrArg BitVec.toNat (fe_bits w s hs)
theorem fe24 (w : Int32) : b8 (j_shr w 24) = b8 (j_lushr w.toInt64 (8 * nI 3)).toInt32 := fe_b8 (s := 24) (by decide) rfl rfl
theorem fe16 (w : Int32) : b8 (j_shr w 16) = b8 (j_lushr w.toInt64 (8 * nI 2)).toInt32 := fe_b8 (s := 16) (by decide) rfl rfl
theorem fe8 (w : Int32) : b8 (j_shr w 8) = b8 (j_lushr w.toInt64 (8 * nI 1)).toInt32 := fe_b8 (s := 8) (by decide) rfl rfl
theorem fe0 (w : Int32) : b8 (j_shr w 0) = b8 (j_lushr w.toInt64 (8 * nI 0)).toInt32 := fe_b8 (s := 0) (by decide) rfl rfl
theorem m_put {c : hS} {b t : List Nat} {ms : List Mb} {v : Int32} (h : PM c b t ms) (hl : t.length < 20000) : ∃ c', f_X12_put c v = some ((), c') ∧ PM c' b (t ++ [b8 v]) ms ∧ fm (fun o i => o = 203 ∨ (o = 201 ∧ i = 4)) c c' := by
  unfold f_X12_put
  rw [h.2.1.2.1, j_in_nI (show t.length < ln 203 from hl) (by decide), cond_true, nI_clamp (by omega)]
  dsimp only [st1]
  rw [b8_and, sI_o (by decide), h.2.1.2.1, nI_1]
  have hr := h.2.1.add (x := b8 v) (by decide) hl (b8_lt v)
  have f2 : fm (fun o i => o = 203 ∨ (o = 201 ∧ i = 4)) c (sI (sI c 203 t.length (nI (b8 v))) 201 4 (nI (t.length + 1))) := (fm.sI (Or.inl rfl)).tr (fm.sI (Or.inr ⟨rfl, rfl⟩))
  exact ⟨_, rfl, h.tp f2 (fun o i z => by omega) hr, f2⟩
noncomputable def fsel (p1 p2 p3 p4 p5 : Int32) (i : Nat) : Int32 := if i < 4 then p1 else if i < 8 then p2 else if i < 12 then p3 else if i < 16 then p4 else p5
noncomputable def fby (p1 p2 p3 p4 p5 : Int32) (i : Nat) : Nat := b8 (j_shr (fsel p1 p2 p3 p4 p5 i) (24 - 8 * j_rem (nI i) 4))
theorem fby_all (p1 p2 p3 p4 p5 : Int32) : (List.range' 0 20).map (fby p1 p2 p3 p4 p5) = fiv p1 p2 p3 p4 p5 := by
  have e : ∀ w : Int32, big w.toInt64 4 = [b8 (j_shr w 24), b8 (j_shr w 16), b8 (j_shr w 8), b8 (j_shr w 0)] := fun w => by
    rw [fe24, fe16, fe8, fe0]
    rfl
  unfold fiv
  rw [e, e, e, e, e]
  rfl
theorem m_feed {N : Nat} {c : hS} {b t : List Nat} {ms : List Mb} {p1 p2 p3 p4 p5 : Int32} (hN : 1000000 ≤ N) (h : PM c b t ms) : MN (f_X12_feed N c p1 p2 p3 p4 p5) c (feK t) (nI (feT t p1 p2 p3 p4 p5).length) b (feT t p1 p2 p3 p4 p5) ms := by
  obtain ⟨c1, e1, h1, z1, f1⟩ := m_zero h
  have htl : t.length ≤ 20000 := h.2.1.1
  unfold f_X12_feed
  rw [e1]
  dsimp only [st1]
  rw [h1.2.1.2.1, show nI t.length + 20 = nI (t.length + 20) from nI_add _ 20]
  unfold f_X12_feed_24
  by_cases q : t.length + 20 ≤ 20000
  · have k1 : feK t = 0 := by unfold feK; rw [if_pos q]
    have e2 : feT t p1 p2 p3 p4 p5 = t ++ fiv p1 p2 p3 p4 p5 := by unfold feT; rw [if_pos k1]
    rw [if_pos (show nI (t.length + 20) ≤ 20000 from nI_le (b := 20000) q (by decide)), m_ref0 z1, bnd_some, if_pos rfl, k1, e2]
    have key : ∀ d m i c t, i + d = 20 → d < m → t.length + d ≤ 20000 → PM c b t ms → c.1 201 0 = 0 → ∃ c', f_X12_feed_36 N p1 p2 p3 p4 p5 m c (nI i) = some (nI (t ++ (List.range' i d).map (fby p1 p2 p3 p4 p5)).length, c') ∧ c'.1 201 0 = 0 ∧ PM c' b (t ++ (List.range' i d).map (fby p1 p2 p3 p4 p5)) ms ∧ fm (fun o _ => 201 ≤ o ∧ o < 219) c c' := by
      intro d
      induction d with
      | zero =>
        intro m i c t hi hm hl h z
        obtain ⟨m, rfl⟩ : ∃ m', m = m' + 1 := ⟨m - 1, by omega⟩
        rw [f_X12_feed_36, if_pos (show (20 : Int32) ≤ nI i from nI_le (a := 20) (by omega) (by omega)), h.2.1.2.1]
        exact ⟨c, by simp, z, by simpa using h, fm.rf⟩
      | succ d ih =>
        intro m i c t hi hm hl h z
        obtain ⟨m, rfl⟩ : ∃ m', m = m' + 1 := ⟨m - 1, by omega⟩
        have es : f_X12_feed_36 N p1 p2 p3 p4 p5 (m + 1) c (nI i) = f_X12_feed_89 N p1 p2 p3 p4 p5 (f_X12_feed_36 N p1 p2 p3 p4 p5 m) c (nI i) (fsel p1 p2 p3 p4 p5 i) := by
          have g : ∀ a : Nat, a < 100 → (nI a ≤ nI i ↔ ¬ i < a) := fun a ha => (nI_leI (by omega) (by omega)).trans ⟨fun z => by omega, fun z => by omega⟩
          have g4 : (4 : Int32) ≤ nI i ↔ ¬ i < 4 := g 4 (by decide)
          have g8 : (8 : Int32) ≤ nI i ↔ ¬ i < 8 := g 8 (by decide)
          have g12 : (12 : Int32) ≤ nI i ↔ ¬ i < 12 := g 12 (by decide)
          have g16 : (16 : Int32) ≤ nI i ↔ ¬ i < 16 := g 16 (by decide)
          have g20 : (20 : Int32) ≤ nI i ↔ ¬ i < 20 := g 20 (by decide)
          rw [f_X12_feed_36, if_neg (fun z => g20.mp z (by omega))]
          unfold fsel
          by_cases a4 : i < 4
          · rw [if_neg (fun z => g4.mp z a4), if_pos a4]
          · rw [if_pos (g4.mpr a4), if_neg a4]
            by_cases a8 : i < 8
            · rw [if_neg (fun z => g8.mp z a8), if_pos a8]
            · rw [if_pos (g8.mpr a8), if_neg a8]
              by_cases a12 : i < 12
              · rw [if_neg (fun z => g12.mp z a12), if_pos a12]
              · rw [if_pos (g12.mpr a12), if_neg a12]
                by_cases a16 : i < 16
                · rw [if_neg (fun z => g16.mp z a16), if_pos a16]
                · rw [if_pos (g16.mpr a16), if_neg a16]
        rw [es]
        unfold f_X12_feed_89
        obtain ⟨c2, b1, b2, b3⟩ := m_put (v := j_shr (fsel p1 p2 p3 p4 p5 i) (24 - 8 * j_rem (nI i) 4)) h (by omega)
        rw [b1, bnd_some, nI_1]
        obtain ⟨c', w1, w2, w3, w4⟩ := ih m (i + 1) c2 _ (by omega) (by omega) (by simp; omega) b2 ((b3.1 _ _ (by omega)).trans z)
        rw [List.append_assoc] at w1 w3
        exact ⟨c', w1, w2, w3, (b3.mono (fun o i z => by omega)).tr w4⟩
    obtain ⟨c', w1, w2, w3, w4⟩ := key 20 N 0 c1 t (by omega) (by omega) q h1 z1
    rw [fby_all] at w1 w3
    exact ⟨_, c', w1, w2, fun _ => rfl, w3, f1.tr w4⟩
  · have k1 : feK t = 1 := by unfold feK; rw [if_neg q]
    have e2 : feT t p1 p2 p3 p4 p5 = t := by unfold feT; rw [if_neg (by rw [k1]; decide)]
    rw [if_neg (show ¬ nI (t.length + 20) ≤ 20000 from nI_ge (show 20000 < t.length + 20 by omega) (by omega)), m_ref1 z1 (by decide), bnd_some, if_neg (by decide), k1, e2]
    exact m_no h1 f1 (by decide) rfl
end
section
/-! PURE: the reference: names of members, the new name -/
noncomputable def msl (m o i : Nat) : Prop := ((o = 204 ∨ o = 206 ∨ o = 208) ∧ i = m) ∨ (o = 205 ∧ 90 * m ≤ i ∧ i < 90 * m + 90) ∨ (o = 207 ∧ 400 * m ≤ i ∧ i < 400 * m + 400)
theorem mmbAt {P : Nat → Nat → Prop} {c c1 : hS} {m : Nat} {x : Mb} (h : mmb c m x) (hf : fm P c c1) (h1 : ∀ o i, P o i → ¬ msl m o i) : mmb c1 m x := by
  have n : ∀ o i, msl m o i → c1.1 o i = c.1 o i := fun o i q => hf.1 _ _ (fun z => h1 o i z q)
  have l1 := h.1.2.2.1
  have l2 := h.2.1.2.2.1
  exact ⟨⟨(n _ _ (Or.inl ⟨Or.inl rfl, rfl⟩)).trans h.1.1, fun i hi => (n _ _ (Or.inr (Or.inl ⟨rfl, by omega, by omega⟩))).trans (h.1.2.1 i hi), h.1.2.2⟩, ⟨(n _ _ (Or.inl ⟨Or.inr (Or.inl rfl), rfl⟩)).trans h.2.1.1, fun i hi => (n _ _ (Or.inr (Or.inr ⟨rfl, by omega, by omega⟩))).trans (h.2.1.2.1 i hi), h.2.1.2.2⟩, (n _ _ (Or.inl ⟨Or.inr (Or.inr rfl), rfl⟩)).trans h.2.2⟩
theorem m_nameAt {c : hS} {m i : Nat} {x : Mb} (h : mmb c m x) (hm : m < 34) (hi : i < x.1.length) : f_X12_nameAt c (nI m) (nI i) = some (nI (gt x.1 i), c) := by
  have := h.1.2.2.1
  unfold f_X12_nameAt
  rw [show (90 : Int32) * nI m + nI i = nI (90 * m + i) from by rw [show (90 : Int32) = nI 90 from rfl, nI_mul, nI_add], j_in_nI (show 90 * m + i < ln 205 from (by show 90 * m + i < 3060; omega)) (by decide), cond_true, nI_clamp (by omega), h.1.2.1 i hi]
theorem same_loop {F : Nat → hS → Int32 → Int32 → Option (Int32 × hS)} {c : hS} {j : Nat} {P : Nat → Bool} (hs : ∀ n k, k < j → F (n + 1) c 1 (nI k) = F n c (bI (P k)) (nI k + 1)) (h1 : ∀ n, F (n + 1) c 1 (nI j) = some (1, c)) (h0 : ∀ n k, k ≤ j → F (n + 1) c 0 (nI k) = some (0, c)) : ∀ d n k b, k + d = j → d < n → F n c (bI b) (nI k) = some (bI (b && (List.range' k d).all P), c) := by
  intro d
  induction d with
  | zero =>
    intro n k b hk hn
    obtain ⟨n, rfl⟩ : ∃ m, n = m + 1 := ⟨n - 1, by omega⟩
    have : k = j := by omega
    subst this
    cases b with
    | true => exact h1 n
    | false => exact h0 n k (Nat.le_refl _)
  | succ d ih =>
    intro n k b hk hn
    obtain ⟨n, rfl⟩ : ∃ m, n = m + 1 := ⟨n - 1, by omega⟩
    cases b with
    | false => exact h0 n k (by omega)
    | true =>
      show F (n + 1) c 1 (nI k) = _
      rw [hs n k (by omega), nI_1, ih n (k + 1) (P k) (by omega) (by omega), List.range'_succ, List.all_cons, Bool.true_and]
theorem m_isNamed {N : Nat} {c : hS} {m : Nat} {x : Mb} {t : List Nat} (hN : 1000000 ≤ N) (h : mmb c m x) (hm : m < 34) (hn : mrw c 14 209 t) : f_X12_isNamed N c (nI m) = some (bI (decide (x.1 = t)), c) := by
  have hx := h.1.2.2.1
  have ht : t.length ≤ 300 := hn.1
  unfold f_X12_isNamed
  rw [j_in_nI (show m < ln 204 from hm) (by decide), cond_true, nI_clamp (by omega), h.1.1, hn.2.1]
  have z : ∀ n k, k ≤ t.length → f_X12_isNamed_21 N (nI m) (n + 1) c 0 (nI k) = some (0, c) := fun n k hk => by
    rw [f_X12_isNamed_21]
    by_cases q : c.1 201 14 ≤ nI k
    · rw [if_pos q]; rfl
    · rw [if_neg q, if_pos rfl]; rfl
  by_cases e : x.1.length = t.length
  · rw [if_pos (by rw [e])]
    have key := same_loop (F := f_X12_isNamed_21 N (nI m)) (c := c) (j := t.length) (P := fun k => decide (gt x.1 k = gt t k)) (fun n k hk => by
      rw [f_X12_isNamed_21, hn.2.1, if_neg (nI_ge hk (by omega)), if_neg (by decide), m_nameAt h hm (by omega), bnd_some, j_in_nI (show k < ln 209 from (by show k < 300; omega)) (by decide), cond_true, nI_clamp (by omega), hn.2.2.1 k hk]
      have b1 := h.1.2.2.2.gt k
      have b2 := hn.2.2.2.gt k
      by_cases q : gt x.1 k = gt t k
      · rw [if_pos (by rw [q]), decide_eq_true q]; rfl
      · rw [if_neg (fun z => q ((nI_eq (by omega) (by omega)).mp z)), decide_eq_false q]; rfl) (fun n => by rw [f_X12_isNamed_21, hn.2.1, if_pos (nI_le (Nat.le_refl _) (by omega))]; rfl) z t.length N 0 true (by omega) (by omega)
    refine key.trans ?_
    congr 2
    congr 1
    rw [Bool.true_and]
    apply bool_eq
    rw [all_range, decide_eq_true_eq]
    exact ⟨fun q => gt_ext e (fun k hk => of_decide_eq_true (q k (by omega))), fun q k hk => by rw [q]; exact decide_eq_true rfl⟩
  · rw [if_neg (fun q => e ((nI_eq (by omega) (by omega)).mp q)), decide_eq_false (fun q => e (by rw [q]))]
    obtain ⟨n, rfl⟩ : ∃ n, N = n + 1 := ⟨N - 1, by omega⟩
    exact z n 0 (Nat.zero_le _)
theorem m_isUnderNew {N : Nat} {c : hS} {m : Nat} {x : Mb} {t : List Nat} (hN : 1000000 ≤ N) (h : mmb c m x) (hm : m < 34) (hn : mrw c 14 209 t) : f_X12_isUnderNew N c (nI m) = some (bI (und x.1 t), c) := by
  have hx := h.1.2.2.1
  have ht : t.length ≤ 300 := hn.1
  unfold f_X12_isUnderNew und
  rw [j_in_nI (show m < ln 204 from hm) (by decide), cond_true, nI_clamp (by omega), h.1.1, hn.2.1, nI_1]
  have z : ∀ n k, k ≤ t.length → f_X12_isUnderNew_37 N (nI m) (n + 1) c 0 (nI k) = some (0, c) := fun n k hk => by
    rw [f_X12_isUnderNew_37]
    by_cases q : c.1 201 14 ≤ nI k
    · rw [if_pos q]; rfl
    · rw [if_neg q, if_pos rfl]; rfl
  obtain ⟨n, rfl⟩ : ∃ n, N = n + 1 := ⟨N - 1, by omega⟩
  by_cases e : t.length + 1 < x.1.length
  · rw [if_neg (nI_ge e (by omega)), m_nameAt h hm (by omega), bnd_some, decide_eq_true e]
    have b1 := h.1.2.2.2.gt t.length
    by_cases e2 : gt x.1 t.length = 47
    · rw [if_pos (show nI (gt x.1 t.length) = 47 by rw [e2]; rfl), decide_eq_true e2]
      have key := same_loop (F := f_X12_isUnderNew_37 (n + 1) (nI m)) (c := c) (j := t.length) (P := fun k => decide (gt x.1 k = gt t k)) (fun n k hk => by
        rw [f_X12_isUnderNew_37, hn.2.1, if_neg (nI_ge hk (by omega)), if_neg (by decide), m_nameAt h hm (by omega), bnd_some, j_in_nI (show k < ln 209 from (by show k < 300; omega)) (by decide), cond_true, nI_clamp (by omega), hn.2.2.1 k hk]
        have b1 := h.1.2.2.2.gt k
        have b2 := hn.2.2.2.gt k
        by_cases q : gt x.1 k = gt t k
        · rw [if_pos (by rw [q]), decide_eq_true q]; rfl
        · rw [if_neg (fun z => q ((nI_eq (by omega) (by omega)).mp z)), decide_eq_false q]; rfl) (fun n => by rw [f_X12_isUnderNew_37, hn.2.1, if_pos (nI_le (Nat.le_refl _) (by omega))]; rfl) z t.length (n + 1) 0 true (by omega) (by omega)
      refine key.trans ?_
      congr 2
      congr 1
      rw [Bool.true_and, Bool.true_and, Bool.true_and]
      apply bool_eq
      rw [all_range, pfx_iff]
      exact ⟨fun q => ⟨by omega, fun k hk => of_decide_eq_true (q k hk)⟩, fun q k hk => decide_eq_true (q.2 k hk)⟩
    · rw [if_neg (show ¬ nI (gt x.1 t.length) = 47 from fun q => e2 ((nI_eq (b := 47) (by omega) (by decide)).mp q)), decide_eq_false e2]
      exact z n 0 (Nat.zero_le _)
  · rw [if_pos (nI_le (by omega) (by omega)), decide_eq_false e]
    exact z n 0 (Nat.zero_le _)
theorem m_isNewUnder {N : Nat} {c : hS} {m : Nat} {x : Mb} {t : List Nat} (hN : 1000000 ≤ N) (h : mmb c m x) (hm : m < 34) (hn : mrw c 14 209 t) : f_X12_isNewUnder N c (nI m) = some (bI (und t x.1), c) := by
  have hx := h.1.2.2.1
  have ht : t.length ≤ 300 := hn.1
  unfold f_X12_isNewUnder und
  rw [j_in_nI (show m < ln 204 from hm) (by decide), cond_true, nI_clamp (by omega), h.1.1, hn.2.1, nI_1]
  have z : ∀ n k, k ≤ x.1.length → f_X12_isNewUnder_37 N (nI m) (n + 1) c (nI x.1.length) 0 (nI k) = some (0, c) := fun n k hk => by
    rw [f_X12_isNewUnder_37]
    by_cases q : nI x.1.length ≤ nI k
    · rw [if_pos q]; rfl
    · rw [if_neg q, if_pos rfl]; rfl
  obtain ⟨n, rfl⟩ : ∃ n, N = n + 1 := ⟨N - 1, by omega⟩
  by_cases e : x.1.length + 1 < t.length
  · rw [if_neg (nI_ge e (by omega)), j_in_nI (show x.1.length < ln 209 from (by show x.1.length < 300; omega)) (by decide), cond_true, nI_clamp (by omega), hn.2.2.1 _ (by omega), decide_eq_true e]
    have b1 := hn.2.2.2.gt x.1.length
    by_cases e2 : gt t x.1.length = 47
    · rw [if_pos (show nI (gt t x.1.length) = 47 by rw [e2]; rfl), decide_eq_true e2]
      have key := same_loop (F := fun n' c a b => f_X12_isNewUnder_37 (n + 1) (nI m) n' c (nI x.1.length) a b) (c := c) (j := x.1.length) (P := fun k => decide (gt x.1 k = gt t k)) (fun n' k hk => by
        show f_X12_isNewUnder_37 (n + 1) (nI m) (n' + 1) c (nI x.1.length) 1 (nI k) = f_X12_isNewUnder_37 (n + 1) (nI m) n' c (nI x.1.length) (bI (decide (gt x.1 k = gt t k))) (nI k + 1)
        rw [f_X12_isNewUnder_37, if_neg (nI_ge hk (by omega)), if_neg (by decide), m_nameAt h hm (by omega), bnd_some, j_in_nI (show k < ln 209 from (by show k < 300; omega)) (by decide), cond_true, nI_clamp (by omega), hn.2.2.1 k (by omega)]
        have b1 := h.1.2.2.2.gt k
        have b2 := hn.2.2.2.gt k
        by_cases q : gt x.1 k = gt t k
        · rw [if_pos (by rw [q]), decide_eq_true q]; rfl
        · rw [if_neg (fun z => q ((nI_eq (by omega) (by omega)).mp z)), decide_eq_false q]; rfl) (fun n' => by
        show f_X12_isNewUnder_37 (n + 1) (nI m) (n' + 1) c (nI x.1.length) 1 (nI x.1.length) = _
        rw [f_X12_isNewUnder_37, if_pos (nI_le (Nat.le_refl _) (by omega))]; rfl) z x.1.length (n + 1) 0 true (by omega) (by omega)
      refine key.trans ?_
      congr 2
      congr 1
      rw [Bool.true_and, Bool.true_and, Bool.true_and]
      apply bool_eq
      rw [all_range, pfx_iff]
      exact ⟨fun q => ⟨by omega, fun k hk => (of_decide_eq_true (q k hk)).symm⟩, fun q k hk => decide_eq_true (q.2 k hk).symm⟩
    · rw [if_neg (show ¬ nI (gt t x.1.length) = 47 from fun q => e2 ((nI_eq (b := 47) (by omega) (by decide)).mp q)), decide_eq_false e2]
      exact z n 0 (Nat.zero_le _)
  · rw [if_pos (nI_le (by omega) (by omega)), decide_eq_false e]
    exact z n 0 (Nat.zero_le _)
theorem m_seek {N base : Nat} {c : hS} {ms : List Mb} {t : List Nat} (hN : 1000000 ≤ N) (h : msh c base ms) (hb : base + ms.length ≤ 34) (hn : mrw c 14 209 t) : f_X12_seek N c (nI base) (nI ms.length) = some (fnI t ms base, c) := by
  have key : ∀ d n i, i + d = ms.length → d < n → f_X12_seek_2 N (nI base) (nI ms.length) n c (nI (base + i)) = some (fnI t (ms.drop i) (base + i), c) := by
    intro d
    induction d with
    | zero =>
      intro n i hi hn
      obtain ⟨n, rfl⟩ : ∃ m, n = m + 1 := ⟨n - 1, by omega⟩
      rw [f_X12_seek_2, nI_add, if_pos (nI_le (by omega) (by omega)), List.drop_eq_nil_of_le (by omega)]
      rfl
    | succ d ih =>
      intro n i hi hn'
      obtain ⟨n, rfl⟩ : ∃ m, n = m + 1 := ⟨n - 1, by omega⟩
      have hil : i < ms.length := by omega
      rw [f_X12_seek_2, nI_add, if_neg (nI_ge (by omega) (by omega)), m_isNamed hN (h i hil) (by omega) hn, bnd_some, List.drop_eq_getElem_cons hil]
      unfold fnI
      by_cases e2 : ms[i].1 = t
      · rw [decide_eq_true e2, if_pos e2, if_neg (by decide)]
      · rw [decide_eq_false e2, if_neg e2, if_pos (show bI false = 0 from rfl), nI_1]
        exact ih n (i + 1) (by omega) (by omega)
  unfold f_X12_seek
  have := key ms.length N 0 (by omega) (by omega)
  simpa using this
theorem und_self (t : List Nat) : und t t = false := by
  unfold und
  rw [decide_eq_false (by omega)]
  rfl
theorem lu_und {a o : List Nat} (h : o.length ≠ 0) : lu a o = und a o := by
  unfold lu
  rw [decide_eq_false h]
  rfl
theorem m_isInTheWay {N base : Nat} {c : hS} {ms : List Mb} {t : List Nat} {d : Bool} (hN : 1000000 ≤ N) (h : msh c base ms) (hb : base + ms.length ≤ 34) (hn : mrw c 14 209 t) (hd : c.1 201 18 = bI d) (ht : t.length ≠ 0) (hms : ∀ x ∈ ms, x.1.length ≠ 0) : f_X12_isInTheWay N c (nI base) (nI ms.length) = some (bI (ms.any (wayB t d)), c) := by
  have key : ∀ r n i b, i + r = ms.length → r < n → f_X12_isInTheWay_5 N (nI base) (nI ms.length) n c (bI b) (nI (base + i)) = some (bI (b || (ms.drop i).any (wayB t d)), c) := by
    intro r
    induction r with
    | zero =>
      intro n i b hi hn
      obtain ⟨n, rfl⟩ : ∃ m, n = m + 1 := ⟨n - 1, by omega⟩
      rw [f_X12_isInTheWay_5, nI_add, if_pos (nI_le (by omega) (by omega)), List.drop_eq_nil_of_le (by omega)]
      cases b <;> rfl
    | succ r ih =>
      intro n i b hi hn'
      obtain ⟨n, rfl⟩ : ∃ m, n = m + 1 := ⟨n - 1, by omega⟩
      have hil : i < ms.length := by omega
      have hm := h i hil
      have x0 : ms[i].1.length ≠ 0 := hms _ (List.getElem_mem hil)
      have ew : wayB t d ms[i] = ((!d && und ms[i].1 t) || (!ms[i].2.2 && und t ms[i].1)) := by unfold wayB; rw [lu_und ht, lu_und x0]
      have e53 : ∀ w, wayB t d ms[i] = w → f_X12_isInTheWay_53 N (nI base) (nI ms.length) (f_X12_isInTheWay_5 N (nI base) (nI ms.length) n) c (bI b) (nI (base + i)) (bI w) = some (bI (b || (ms.drop i).any (wayB t d)), c) := by
        intro w hw
        unfold f_X12_isInTheWay_53
        rw [List.drop_eq_getElem_cons hil, List.any_cons, hw]
        cases b with
        | true =>
          rw [if_neg (by decide), nI_1]
          exact ih n (i + 1) true (by omega) (by omega)
        | false =>
          rw [if_pos (show bI false = 0 from rfl), m_isNamed hN hm (by omega) hn, bnd_some]
          by_cases e2 : ms[i].1 = t
          · have w0 : w = false := by rw [← hw, ew, e2, und_self]; simp
            subst w0
            rw [decide_eq_true e2, if_neg (by decide), nI_1]
            exact ih n (i + 1) false (by omega) (by omega)
          · rw [decide_eq_false e2, if_pos (show bI false = 0 from rfl)]
            cases w with
            | false =>
              rw [if_pos (show bI false = 0 from rfl), nI_1]
              exact ih n (i + 1) false (by omega) (by omega)
            | true =>
              rw [if_neg (by decide), nI_1]
              exact ih n (i + 1) true (by omega) (by omega)
      have e29 : (!d && und ms[i].1 t) = false → f_X12_isInTheWay_29 N (nI base) (nI ms.length) (f_X12_isInTheWay_5 N (nI base) (nI ms.length) n) c (bI b) (nI (base + i)) = some (bI (b || (ms.drop i).any (wayB t d)), c) := by
        intro hw
        rw [hw, Bool.false_or] at ew
        unfold f_X12_isInTheWay_29
        rw [j_in_nI (show base + i < ln 208 from (by show base + i < 34; omega)) (by decide), cond_true, nI_clamp (by omega), hm.2.2]
        cases q : ms[i].2.2 with
        | false =>
          rw [q] at ew
          rw [if_pos (show bI false = 0 from rfl), m_isNewUnder hN hm (by omega) hn, bnd_some]
          cases q2 : und t ms[i].1 with
          | false => rw [if_pos (show bI false = 0 from rfl)]; exact e53 false (by rw [ew, q2]; rfl)
          | true => rw [if_neg (by decide)]; exact e53 true (by rw [ew, q2]; rfl)
        | true =>
          rw [q] at ew
          rw [if_neg (by decide)]
          exact e53 false (by rw [ew]; rfl)
      rw [f_X12_isInTheWay_5, nI_add, if_neg (nI_ge (by omega) (by omega)), hd]
      cases d with
      | true => rw [if_neg (by decide)]; exact e29 rfl
      | false =>
        rw [if_pos (show bI false = 0 from rfl), m_isUnderNew hN hm (by omega) hn, bnd_some]
        cases q2 : und ms[i].1 t with
        | false => rw [if_pos (show bI false = 0 from rfl)]; exact e29 (by rw [q2]; rfl)
        | true => rw [if_neg (by decide)]; exact e53 true (by rw [ew, q2]; rfl)
  unfold f_X12_isInTheWay
  have := key ms.length N 0 false (by omega) (by omega)
  simpa [bI] using this
end
section
/-! PURE: the reference: rows copied; members move and stand -/
theorem cp_loop {α : Type} {F : Nat → hS → Int32 → Option (α × hS)} {X : hS → Option (α × hS)} {o o' a b len : Nat} (I : hS → Prop) (hI : ∀ c j x, I c → I (sI c o j x)) (hs : ∀ n c k, k < len → I c → F (n + 1) c (nI k) = F n (sI c o (b + k) (c.1 o' (a + k))) (nI k + 1)) (h0 : ∀ n c, I c → F (n + 1) c (nI len) = X c) (hd : o ≠ o' ∨ a + len ≤ b ∨ b + len ≤ a) :
    ∀ d n c k, k + d = len → d < n → I c → ∃ c', F n c (nI k) = X c' ∧ I c' ∧ (∀ i, k ≤ i → i < len → c'.1 o (b + i) = c.1 o' (a + i)) ∧ fm (fun p j => p = o ∧ b + k ≤ j ∧ j < b + len) c c' := by
  intro d
  induction d with
  | zero =>
    intro n c k hk hn hi
    obtain ⟨n, rfl⟩ : ∃ m, n = m + 1 := ⟨n - 1, by omega⟩
    have : k = len := by omega
    subst this
    exact ⟨c, h0 n c hi, hi, fun i h1 h2 => by omega, fm.rf⟩
  | succ d ih =>
    intro n c k hk hn hi
    obtain ⟨n, rfl⟩ : ∃ m, n = m + 1 := ⟨n - 1, by omega⟩
    obtain ⟨c', e, i1, v, f⟩ := ih n (sI c o (b + k) (c.1 o' (a + k))) (k + 1) (by omega) (by omega) (hI _ _ _ hi)
    refine ⟨c', by rw [hs n c k (by omega) hi, nI_1]; exact e, i1, fun i h1 h2 => ?_, (fm.sI ⟨rfl, by omega, by omega⟩).tr (f.mono (fun p j z => ⟨z.1, by omega, z.2.2⟩))⟩
    by_cases q : i = k
    · rw [q, f.1 o (b + k) (by omega), sI_s]
    · rw [v i (by omega) h2, sI_n (by omega)]
theorem mul_add_nI (a m i : Nat) {x : Int32} (hx : x = nI a) : x * nI m + nI i = nI (a * m + i) := by rw [hx, nI_mul, nI_add]
theorem mul90 (m i : Nat) : (90 : Int32) * nI m + nI i = nI (90 * m + i) := mul_add_nI 90 m i rfl
theorem mul400 (m i : Nat) : (400 : Int32) * nI m + nI i = nI (400 * m + i) := mul_add_nI 400 m i rfl
theorem j_z_bI (b : Bool) : j_z (bI b) = bI b := by cases b <;> rfl
theorem m_move {N a b : Nat} {c : hS} {x : Mb} (hN : 1000000 ≤ N) (h : mmb c a x) (ha : a < 34) (hb : b < 34) (hab : a ≠ b) : ∃ c', f_X12_move N c (nI a) (nI b) = some ((), c') ∧ mmb c' b x ∧ fm (msl b) c c' := by
  unfold f_X12_move
  rw [j_in_nI (show a < ln 204 from ha) (by decide), cond_true, j_in_nI (show b < ln 204 from hb) (by decide), cond_true]
  dsimp only [st1]
  rw [j_in_nI (show a < ln 206 from ha) (by decide), cond_true, j_in_nI (show b < ln 206 from hb) (by decide), cond_true, j_in_nI (show a < ln 208 from ha) (by decide), cond_true, j_in_nI (show b < ln 208 from hb) (by decide), cond_true, nI_clamp (by omega), nI_clamp (by omega), sI_o (show (206 : Nat) ≠ 204 by decide), sI_o (show (208 : Nat) ≠ 206 by decide), sI_o (show (208 : Nat) ≠ 204 by decide), h.1.1, h.2.1.1, h.2.2, j_z_bI]
  obtain ⟨c3, e3⟩ : ∃ c3, sI (sI (sI c 204 b (nI x.1.length)) 206 b (nI x.2.1.length)) 208 b (bI x.2.2) = c3 := ⟨_, rfl⟩
  have f3 : fm (fun o i => (o = 204 ∨ o = 206 ∨ o = 208) ∧ i = b) c c3 := by
    rw [← e3]
    exact ((fm.sI (by omega)).tr (fm.sI (by omega))).tr (fm.sI (by omega))
  have v4 : c3.1 204 b = nI x.1.length := by rw [← e3, sI_o (by decide), sI_o (by decide), sI_s]
  have v6 : c3.1 206 b = nI x.2.1.length := by rw [← e3, sI_o (by decide), sI_s]
  have v8 : c3.1 208 b = bI x.2.2 := by rw [← e3, sI_s]
  rw [e3]
  obtain ⟨c4, e4, _, w4, f4⟩ := cp_loop (F := f_X12_move_38 N (nI a) (nI b)) (X := fun c => f_X12_move_74 N (nI a) (nI b) N c 0) (o := 205) (o' := 205) (a := 90 * a) (b := 90 * b) (len := 90) (fun _ => True) (fun _ _ _ _ => trivial) (fun n c k hk _ => by
    rw [f_X12_move_38, if_neg (show ¬ (90 : Int32) ≤ nI k from nI_ge (b := 90) hk (by decide)), mul90 a k, mul90 b k, j_in_nI (show 90 * a + k < ln 205 from (by show 90 * a + k < 3060; omega)) (by decide), cond_true, j_in_nI (show 90 * b + k < ln 205 from (by show 90 * b + k < 3060; omega)) (by decide), cond_true, nI_clamp (by omega), nI_clamp (by omega)]
    rfl) (fun n c _ => by rw [f_X12_move_38, if_pos (show (90 : Int32) ≤ nI 90 from by decide)]) (by omega) 90 N c3 0 (by omega) (by omega) trivial
  obtain ⟨c5, e5, _, w5, f5⟩ := cp_loop (F := f_X12_move_74 N (nI a) (nI b)) (X := fun c => some ((), c)) (o := 207) (o' := 207) (a := 400 * a) (b := 400 * b) (len := 400) (fun _ => True) (fun _ _ _ _ => trivial) (fun n c k hk _ => by
    rw [f_X12_move_74, if_neg (show ¬ (400 : Int32) ≤ nI k from nI_ge (b := 400) hk (by decide)), mul400 a k, mul400 b k, j_in_nI (show 400 * a + k < ln 207 from (by show 400 * a + k < 13600; omega)) (by decide), cond_true, j_in_nI (show 400 * b + k < ln 207 from (by show 400 * b + k < 13600; omega)) (by decide), cond_true, nI_clamp (by omega), nI_clamp (by omega)]
    rfl) (fun n c _ => by rw [f_X12_move_74, if_pos (show (400 : Int32) ≤ nI 400 from by decide)]) (by omega) 400 N c4 0 (by omega) (by omega) trivial
  have l1 := h.1.2.2.1
  have l2 := h.2.1.2.2.1
  refine ⟨c5, e4.trans e5, ⟨⟨?_, fun i hi => ?_, h.1.2.2⟩, ⟨?_, fun i hi => ?_, h.2.1.2.2⟩, ?_⟩, ?_⟩
  · rw [f5.1 _ _ (by omega), f4.1 _ _ (by omega), v4]
  · rw [f5.1 _ _ (by omega), w4 i (Nat.zero_le _) (by omega), f3.1 _ _ (by omega)]
    exact h.1.2.1 i hi
  · rw [f5.1 _ _ (by omega), f4.1 _ _ (by omega), v6]
  · rw [w5 i (Nat.zero_le _) (by omega), f4.1 _ _ (by omega), f3.1 _ _ (by omega)]
    exact h.2.1.2.1 i hi
  · rw [f5.1 _ _ (by omega), f4.1 _ _ (by omega), v8]
  · exact ((f3.mono (fun o i z => by unfold msl; omega)).tr (f4.mono (fun o i z => by unfold msl; omega))).tr (f5.mono (fun o i z => by unfold msl; omega))
/-- the members but for one, with a hole at m -/
noncomputable def hol (c : hS) (base : Nat) (ms : List Mb) (k m : Nat) : Prop := (∀ i (h : i < ms.length), i < k → mmb c (base + i) ms[i]) ∧ (∀ i (h : i + 1 < ms.length), k ≤ i → i < m → mmb c (base + i) ms[i + 1]) ∧ ∀ i (h : i < ms.length), m < i → mmb c (base + i) ms[i]
theorem hol.bg {c : hS} {base k : Nat} {ms : List Mb} (h : msh c base ms) : hol c base ms k k := ⟨fun i hi _ => h i hi, fun i _ a b => by omega, fun i hi _ => h i hi⟩
theorem hol.nd {c : hS} {base k m : Nat} {ms : List Mb} (h : hol c base ms k m) (hm : m + 1 = ms.length) (hk : k < ms.length) : msh c base (ms.eraseIdx k) := by
  intro i hi
  have hi' : i + 1 < ms.length := by rw [List.length_eraseIdx_of_lt hk] at hi; omega
  rw [List.getElem_eraseIdx]
  split
  · exact h.1 i (by omega) (by omega)
  · exact h.2.1 i hi' (by omega) (by omega)
theorem hol.st {N : Nat} {c : hS} {base k m : Nat} {ms : List Mb} (hN : 1000000 ≤ N) (h : hol c base ms k m) (hm : m + 1 < ms.length) (hk : k ≤ m) (hb : base + ms.length ≤ 34) : ∃ c', f_X12_move N c (nI (base + m) + 1) (nI (base + m)) = some ((), c') ∧ hol c' base ms k (m + 1) ∧ fm (msl (base + m)) c c' := by
  obtain ⟨c', e, w, f⟩ := m_move (N := N) (a := base + (m + 1)) (b := base + m) hN (h.2.2 (m + 1) hm (by omega)) (by omega) (by omega) (by omega)
  refine ⟨c', by rw [nI_1]; exact e, ⟨fun i hi a => mmbAt (h.1 i hi a) f (fun o j z => by unfold msl at *; omega), fun i hi a b => ?_, fun i hi a => mmbAt (h.2.2 i hi (by omega)) f (fun o j z => by unfold msl at *; omega)⟩, f⟩
  by_cases q : i = m
  · subst q; exact w
  · exact mmbAt (h.2.1 i hi a (by omega)) f (fun o j z => by unfold msl at *; omega)
/-- the slots of 17 members -/
noncomputable def rg (base o i : Nat) : Prop := ((o = 204 ∨ o = 206 ∨ o = 208) ∧ base ≤ i ∧ i < base + 17) ∨ (o = 205 ∧ 90 * base ≤ i ∧ i < 90 * base + 1530) ∨ (o = 207 ∧ 400 * base ≤ i ∧ i < 400 * base + 6800)
theorem msl_rg {base m o i : Nat} (h : msl m o i) (h1 : base ≤ m) (h2 : m < base + 17) : rg base o i := by unfold msl at h; unfold rg; omega
theorem rg_msl {base m o i : Nat} (h : rg base o i) (h1 : m < base ∨ base + 17 ≤ m) : ¬ msl m o i := by unfold rg at h; unfold msl; omega
/-- the new member at place m of the shelf -/
theorem m_lay {N base m : Nat} {c : hS} {ms : List Mb} {p2 : Int32} {t g : List Nat} {d : Bool} (hN : 1000000 ≤ N) (h : msh c base ms) (hm : m = ms.length) (hm16 : m < 16) (hb : base ≤ 17) (hn : mrw c 14 209 t) (hg : mrw c 16 210 g) (hd : c.1 201 18 = bI d) (ht : t.length ≤ 90) (hgl : g.length ≤ 400) : ∃ c', f_X12_stand_46 N (nI base) p2 c (nI m) = some (nI (m + 1), c') ∧ msh c' base (ms ++ [(t, g, d)]) ∧ fm (rg base) c c' := by
  unfold f_X12_stand_46
  rw [nI_add, j_in_nI (show base + m < ln 204 from (by show base + m < 34; omega)) (by decide), cond_true, nI_clamp (by omega), hn.2.1]
  dsimp only [st1]
  obtain ⟨c3, e3⟩ : ∃ c3, sI c 204 (base + m) (nI t.length) = c3 := ⟨_, rfl⟩
  have f3 : fm (fun o i => o = 204 ∧ i = base + m) c c3 := by rw [← e3]; exact fm.sI ⟨rfl, rfl⟩
  have v4 : c3.1 204 (base + m) = nI t.length := by rw [← e3, sI_s]
  rw [e3]
  have n3 : c3.1 201 14 = nI t.length := by rw [f3.1 _ _ (by omega), hn.2.1]
  obtain ⟨c4, e4, _, w4, f4⟩ := cp_loop (F := fun n c k => f_X12_stand_66 N (nI base) p2 n c (nI m) (nI (base + m)) k) (X := fun c => f_X12_stand_66 N (nI base) p2 1 c (nI m) (nI (base + m)) (nI t.length)) (o := 205) (o' := 209) (a := 0) (b := 90 * (base + m)) (len := t.length) (fun c => c.1 201 14 = nI t.length) (fun c j x q => by rw [sI_o (by decide)]; exact q) (fun n c k hk q => by
    show f_X12_stand_66 N (nI base) p2 (n + 1) c (nI m) (nI (base + m)) (nI k) = _
    rw [f_X12_stand_66, q, if_neg (nI_ge hk (by omega)), mul90 (base + m) k, j_in_nI (show k < ln 209 from (by show k < 300; omega)) (by decide), cond_true, j_in_nI (show 90 * (base + m) + k < ln 205 from (by show 90 * (base + m) + k < 3060; omega)) (by decide), cond_true, nI_clamp (by omega), nI_clamp (by omega), Nat.zero_add]
    rfl) (fun n c q => by
    show f_X12_stand_66 N (nI base) p2 (n + 1) c (nI m) (nI (base + m)) (nI t.length) = f_X12_stand_66 N (nI base) p2 (0 + 1) c (nI m) (nI (base + m)) (nI t.length)
    rw [f_X12_stand_66, f_X12_stand_66, q, if_pos (nI_le (Nat.le_refl _) (by omega)), if_pos (nI_le (Nat.le_refl _) (by omega))]) (by omega) t.length N c3 0 (by omega) (by omega) n3
  have e4' : f_X12_stand_66 N (nI base) p2 N c3 (nI m) (nI (base + m)) 0 = f_X12_stand_66 N (nI base) p2 (0 + 1) c4 (nI m) (nI (base + m)) (nI t.length) := e4
  have g4 : c4.1 201 14 = nI t.length := by rw [f4.1 _ _ (by omega), n3]
  have g6 : c4.1 201 16 = nI g.length := by rw [f4.1 _ _ (by omega), f3.1 _ _ (by omega), hg.2.1]
  rw [e4', f_X12_stand_66, g4, if_pos (nI_le (Nat.le_refl _) (by omega)), j_in_nI (show base + m < ln 206 from (by show base + m < 34; omega)) (by decide), cond_true, nI_clamp (by omega), g6]
  dsimp only [st1]
  obtain ⟨c5, e5⟩ : ∃ c5, sI c4 206 (base + m) (nI g.length) = c5 := ⟨_, rfl⟩
  have f5 : fm (fun o i => o = 206 ∧ i = base + m) c4 c5 := by rw [← e5]; exact fm.sI ⟨rfl, rfl⟩
  have v5 : c5.1 206 (base + m) = nI g.length := by rw [← e5, sI_s]
  rw [e5]
  have g5 : c5.1 201 16 = nI g.length := by rw [f5.1 _ _ (by omega), g6]
  obtain ⟨c6, e6, _, w6, f6⟩ := cp_loop (F := fun n c k => f_X12_stand_115 N (nI base) p2 n c (nI m) (nI (base + m)) k) (X := fun c => f_X12_stand_115 N (nI base) p2 1 c (nI m) (nI (base + m)) (nI g.length)) (o := 207) (o' := 210) (a := 0) (b := 400 * (base + m)) (len := g.length) (fun c => c.1 201 16 = nI g.length) (fun c j x q => by rw [sI_o (by decide)]; exact q) (fun n c k hk q => by
    show f_X12_stand_115 N (nI base) p2 (n + 1) c (nI m) (nI (base + m)) (nI k) = _
    rw [f_X12_stand_115, q, if_neg (nI_ge hk (by omega)), mul400 (base + m) k, j_in_nI (show k < ln 210 from (by show k < 600; omega)) (by decide), cond_true, j_in_nI (show 400 * (base + m) + k < ln 207 from (by show 400 * (base + m) + k < 13600; omega)) (by decide), cond_true, nI_clamp (by omega), nI_clamp (by omega), Nat.zero_add]
    rfl) (fun n c q => by
    show f_X12_stand_115 N (nI base) p2 (n + 1) c (nI m) (nI (base + m)) (nI g.length) = f_X12_stand_115 N (nI base) p2 (0 + 1) c (nI m) (nI (base + m)) (nI g.length)
    rw [f_X12_stand_115, f_X12_stand_115, q, if_pos (nI_le (Nat.le_refl _) (by omega)), if_pos (nI_le (Nat.le_refl _) (by omega))]) (by omega) g.length N c5 0 (by omega) (by omega) g5
  have e6' : f_X12_stand_115 N (nI base) p2 N c5 (nI m) (nI (base + m)) 0 = f_X12_stand_115 N (nI base) p2 (0 + 1) c6 (nI m) (nI (base + m)) (nI g.length) := e6
  have g7 : c6.1 201 16 = nI g.length := by rw [f6.1 _ _ (by omega), g5]
  have g8 : c6.1 201 18 = bI d := by rw [f6.1 _ _ (by omega), f5.1 _ _ (by omega), f4.1 _ _ (by omega), f3.1 _ _ (by omega), hd]
  rw [e6', f_X12_stand_115, g7, if_pos (nI_le (Nat.le_refl _) (by omega)), j_in_nI (show base + m < ln 208 from (by show base + m < 34; omega)) (by decide), cond_true, nI_clamp (by omega), g8, j_z_bI, nI_1]
  dsimp only [st1]
  have f7 : fm (fun o i => o = 208 ∧ i = base + m) c6 (sI c6 208 (base + m) (bI d)) := fm.sI ⟨rfl, rfl⟩
  have fa : fm (msl (base + m)) c (sI c6 208 (base + m) (bI d)) := ((((f3.mono (fun o i z => by unfold msl; omega)).tr (f4.mono (fun o i z => by unfold msl; omega))).tr (f5.mono (fun o i z => by unfold msl; omega))).tr (f6.mono (fun o i z => by unfold msl; omega))).tr (f7.mono (fun o i z => by unfold msl; omega))
  refine ⟨_, rfl, fun i hi => ?_, fa.mono (fun o i z => msl_rg z (by omega) (by omega))⟩
  have hi' : i < ms.length + 1 := by simpa using hi
  by_cases q : i < ms.length
  · rw [List.getElem_append_left q]
    exact mmbAt (h i q) fa (fun o j z => by unfold msl at *; omega)
  · have qi : i = ms.length := by omega
    subst qi
    rw [List.getElem_append_right (Nat.le_refl _)]
    simp only [Nat.sub_self, List.getElem_cons_zero]
    subst hm
    refine ⟨⟨?_, fun j hj => ?_, ht, hn.2.2.2⟩, ⟨?_, fun j hj => ?_, hgl, hg.2.2.2⟩, sI_s _ _ _ _⟩
    · rw [f7.1 _ _ (by omega), f6.1 _ _ (by omega), f5.1 _ _ (by omega), f4.1 _ _ (by omega), v4]
    · have hj : j < t.length := hj
      rw [f7.1 _ _ (by omega), f6.1 _ _ (by omega), f5.1 _ _ (by omega), w4 j (Nat.zero_le _) hj, f3.1 _ _ (by omega), Nat.zero_add]
      exact hn.2.2.1 j hj
    · rw [f7.1 _ _ (by omega), f6.1 _ _ (by omega), v5]
    · have hj : j < g.length := hj
      rw [f7.1 _ _ (by omega), w6 j (Nat.zero_le _) hj, f5.1 _ _ (by omega), f4.1 _ _ (by omega), f3.1 _ _ (by omega), Nat.zero_add]
      exact hg.2.2.1 j hj
theorem comeM_len {ms : List Mb} {x : Mb} : (comeM ms x).length ≤ ms.length + 1 := by
  unfold comeM
  have := List.length_eraseP_le (p := fun y : Mb => decide (y.1 = x.1)) (l := ms)
  simp
  omega
theorem m_stand {N base : Nat} {c : hS} {ms : List Mb} {t g : List Nat} {d : Bool} (hN : 1000000 ≤ N) (h : msh c base ms) (hml : ms.length ≤ 16) (hroom : ms.length < 16 ∨ ∃ x ∈ ms, x.1 = t) (hb : base = 0 ∨ base = 17) (hn : mrw c 14 209 t) (hg : mrw c 16 210 g) (hd : c.1 201 18 = bI d) (ht : t.length ≤ 90) (hgl : g.length ≤ 400) : ∃ c', f_X12_stand N c (nI base) (nI ms.length) = some (nI (comeM ms (t, g, d)).length, c') ∧ msh c' base (comeM ms (t, g, d)) ∧ (comeM ms (t, g, d)).length ≤ 16 ∧ fm (rg base) c c' := by
  unfold f_X12_stand comeM
  rw [m_seek hN h (by omega) hn, bnd_some]
  show ∃ c', _ ∧ msh c' base (ms.eraseP (fun y => decide (y.1 = t)) ++ [(t, g, d)]) ∧ _
  rcases fnI_er (t := t) (ms := ms) (i := base) with ⟨e1, e2⟩ | ⟨k, hk, e1, e2⟩
  · have hms : ms.length < 16 := by
      rcases hroom with q | ⟨x, hx, q⟩
      · exact q
      · rcases fnI_at (t := t) (ms := ms) (i := base) with ⟨_, z2⟩ | ⟨k, z1, z2, _⟩
        · exact absurd q (z2 x hx)
        · rw [e1] at z2
          exact absurd (show nI (base + k) < 0 from by rw [← z2]; decide) (nI_pos (by omega))
    rw [e1, if_pos (by decide), e2]
    obtain ⟨c', w1, w2, w3⟩ := m_lay (p2 := nI ms.length) hN h rfl hms (by omega) hn hg hd ht hgl
    exact ⟨c', by rw [w1]; simp, w2, by simp; omega, w3⟩
  · rw [e1, if_neg (nI_pos (by omega)), e2]
    have key : ∀ r n m c, m + r + 1 = ms.length → r < n → k ≤ m → hol c base ms k m → ∃ c', f_X12_stand_17 N (nI base) (nI ms.length) n c (nI ms.length) (nI (base + m)) = f_X12_stand_46 N (nI base) (nI ms.length) c' (nI (ms.length - 1)) ∧ msh c' base (ms.eraseIdx k) ∧ fm (rg base) c c' := by
      intro r
      induction r with
      | zero =>
        intro n m c hm hn' hkm hh
        obtain ⟨n, rfl⟩ : ∃ m, n = m + 1 := ⟨n - 1, by omega⟩
        rw [f_X12_stand_17, nI_add, nI_1, if_pos (nI_le (by omega) (by omega))]
        refine ⟨c, ?_, hh.nd (by omega) hk, fm.rf⟩
        rw [show nI ms.length + -1 = nI (ms.length - 1) from by rw [← subI (b := 1) (by omega)]; exact (Int32.sub_eq_add_neg _ _).symm]
      | succ r ih =>
        intro n m c hm hn' hkm hh
        obtain ⟨n, rfl⟩ : ∃ m, n = m + 1 := ⟨n - 1, by omega⟩
        obtain ⟨c1, a1, a2, a3⟩ := hh.st hN (by omega) hkm (by omega)
        obtain ⟨c', b1, b2, b3⟩ := ih n (m + 1) c1 (by omega) (by omega) (by omega) a2
        rw [f_X12_stand_17, nI_add, if_neg (by rw [nI_1]; exact nI_ge (by omega) (by omega)), a1, bnd_some, nI_1]
        exact ⟨c', b1, b2, (a3.mono (fun o i z => msl_rg z (by omega) (by omega))).tr b3⟩
    obtain ⟨c1, a1, a2, a3⟩ := key (ms.length - 1 - k) N k c (by omega) (by omega) (Nat.le_refl _) (hol.bg h)
    have ll : (ms.eraseIdx k).length = ms.length - 1 := List.length_eraseIdx_of_lt hk
    have nr : ∀ o i, rg base o i → 204 ≤ o ∧ o ≤ 208 := fun o i z => by unfold rg at z; omega
    have nn : ∀ o i, ¬ (204 ≤ o ∧ o ≤ 208) → ¬ rg base o i := fun o i q z => q (nr o i z)
    obtain ⟨c', w1, w2, w3⟩ := m_lay (p2 := nI ms.length) (m := ms.length - 1) hN a2 ll.symm (by omega) (by omega) (hn.fm a3 (nn _ _ (by omega)) (fun i => nn _ _ (by omega))) (hg.fm a3 (nn _ _ (by omega)) (fun i => nn _ _ (by omega))) ((a3.1 _ _ (nn _ _ (by omega))).trans hd) ht hgl
    exact ⟨c', by rw [a1, w1, List.length_append, ll]; rfl, w2, by simp [ll]; omega, a3.tr w3⟩
end
section
/-! PURE: the reference: names; come, go, name, byteAt -/
theorem dle {a b : Nat} (ha : a < 2 ^ 31) (hb : b < 2 ^ 31) : decide (nI a ≤ nI b) = decide (a ≤ b) := by
  by_cases q : a ≤ b
  · rw [decide_eq_true q, decide_eq_true ((nI_leI ha hb).mpr q)]
  · rw [decide_eq_false q, decide_eq_false (fun z => q ((nI_leI ha hb).mp z))]
theorem m_inN {c : hS} {w a b : Nat} {a' b' : Int64} (hw : w < 2 ^ 31) (ha : a < 2 ^ 31) (hb : b < 2 ^ 31) (h1 : a' = (nI a).toInt64) (h2 : b' = (nI b).toInt64) : f_X12_in c (nI w).toInt64 a' b' = some (bI (decide (a ≤ w) && decide (w ≤ b)), c) := by
  rw [m_in h1 h2, dle ha hw, dle hw hb]
theorem m_n50 {N : Nat} {k23 : hS → Int32 → Int32 → Int32 → Option (Int32 × hS)} {c : hS} {part w : Nat} {v : Int32} {dots : Bool} (hp : part < 2 ^ 31 - 1) (hw : w < 256) : f_X12_isName_50 N k23 c (nI part) (bI dots) v (nI w) = if w = 47 then (if (decide (part = 0) || (dots && decide (part < 3))) = true then some (0, c) else k23 c 0 1 (v + 1)) else if (decide (33 ≤ w) && decide (w ≤ 126)) = true then k23 c (nI (part + 1)) (bI (dots && decide (w = 46))) (v + 1) else some (0, c) := by
  unfold f_X12_isName_50
  by_cases e : w = 47
  · rw [if_pos (show nI w = 47 by rw [e]; rfl), if_pos e]
    by_cases p0 : part = 0
    · rw [if_pos (show nI part = 0 by rw [p0]; rfl), decide_eq_true p0, Bool.true_or, if_pos rfl]
    · rw [if_neg (nI_ne0 (by omega) (by omega)), decide_eq_false p0, Bool.false_or]
      cases dots with
      | false => rw [if_pos (show bI false = 0 from rfl), Bool.false_and, if_neg (by decide)]
      | true =>
        rw [if_neg (by decide), Bool.true_and]
        by_cases p3 : part < 3
        · rw [if_neg (show ¬ (3 : Int32) ≤ nI part from nI_ge (b := 3) p3 (by decide)), decide_eq_true p3, if_pos rfl]
        · rw [if_pos (show (3 : Int32) ≤ nI part from nI_le (a := 3) (by omega) (by omega)), decide_eq_false p3, if_neg (by decide)]
  · rw [if_neg (show ¬ nI w = 47 from fun q => e ((nI_eq (b := 47) (by omega) (by decide)).mp q)), if_neg e, m_inN (a := 33) (b := 126) (by omega) (by decide) (by decide) (by decide) (by decide), bnd_some]
    cases z : (decide (33 ≤ w) && decide (w ≤ 126)) with
    | false => rw [if_pos (show bI false = 0 from rfl), if_neg (by decide)]
    | true =>
      rw [if_neg (by decide), if_pos rfl, nI_1]
      cases dots with
      | false => rw [if_pos (show bI false = 0 from rfl)]; rfl
      | true =>
        rw [if_neg (by decide), Bool.true_and]
        by_cases q : w = 46
        · rw [if_pos (show nI w = 46 by rw [q]; rfl), decide_eq_true q]; rfl
        · rw [if_neg (show ¬ nI w = 46 from fun z => q ((nI_eq (b := 46) (by omega) (by decide)).mp z)), decide_eq_false q]; rfl
theorem m_isName {N : Nat} {c : hS} {t : List Nat} (hN : 1000000 ≤ N) (hn : mrw c 14 209 t) : f_X12_isName N c = some (bI (nameB t), c) := by
  have ht : t.length ≤ 300 := hn.1
  have key : ∀ d n i part dots, i + d = t.length → d + 1 < n → part ≤ i → f_X12_isName_23 N n c (nI part) (bI dots) (nI i) = some (bI (nmB (t.drop i) part dots), c) := by
    intro d
    induction d with
    | zero =>
      intro n i part dots hi hm hp
      obtain ⟨n, rfl⟩ : ∃ m, n = m + 2 := ⟨n - 2, by omega⟩
      rw [f_X12_isName_23, hn.2.1, if_neg (nI_nlt (by omega) (by omega)), if_pos (nI_le (by omega) (by omega)), show (47 : Int32) = nI 47 from rfl, m_n50 (by omega) (by decide), if_pos rfl, List.drop_eq_nil_of_le (by omega)]
      unfold nmB
      cases (decide (part = 0) || (dots && decide (part < 3))) with
      | true => rw [if_pos rfl]; rfl
      | false => rw [if_neg (by decide), f_X12_isName_23, hn.2.1, nI_1, if_pos (nI_lt (by omega) (by omega))]; rfl
    | succ d ih =>
      intro n i part dots hi hm hp
      obtain ⟨n, rfl⟩ : ∃ m, n = m + 1 := ⟨n - 1, by omega⟩
      have hil : i < t.length := by omega
      rw [f_X12_isName_23, hn.2.1, if_neg (nI_nlt (by omega) (by omega)), if_neg (nI_ge hil (by omega)), j_in_nI (show i < ln 209 from (by show i < 300; omega)) (by decide), cond_true, nI_clamp (by omega), hn.2.2.1 i hil, m_n50 (by omega) (hn.2.2.2.gt i), List.drop_eq_getElem_cons hil, gt_lt hil]
      unfold nmB
      by_cases e : t[i] = 47
      · rw [if_pos e, if_pos e]
        cases (decide (part = 0) || (dots && decide (part < 3))) with
        | true => rw [if_pos rfl]; rfl
        | false =>
          rw [if_neg (by decide), nI_1]
          exact ih n (i + 1) 0 true (by omega) (by omega) (by omega)
      · rw [if_neg e, if_neg e]
        cases (decide (33 ≤ t[i]) && decide (t[i] ≤ 126)) with
        | false => rw [if_neg (by decide)]; rfl
        | true =>
          rw [if_pos rfl, nI_1]
          exact ih n (i + 1) (part + 1) (dots && decide (t[i] = 46)) (by omega) (by omega) (by omega)
  unfold f_X12_isName nameB
  rw [hn.2.1, m_inN (a := 1) (b := 90) (by omega) (by decide) (by decide) (by decide) (by decide), bnd_some]
  cases (decide (1 ≤ t.length) && decide (t.length ≤ 90)) with
  | false => rw [if_pos (show bI false = 0 from rfl)]; rfl
  | true => rw [if_neg (by decide)]; exact key t.length N 0 0 true (by omega) (by omega) (by omega)
theorem PM.sh {P : Nat → Nat → Prop} {c c1 : hS} {b b' t : List Nat} {ms ms' : List Mb} (h : PM c b t ms) (hf : fm P c c1) (h1 : ∀ o i, P o i → (o = 201 ∧ i ≠ 4) ∨ o = 202 ∨ 203 < o) (hb : mrw c1 2 202 b') (h7 : c1.1 201 7 = nI ms'.length) (hl : ms'.length ≤ 16) (hs : msh c1 0 ms') (hm : ∀ x ∈ ms', nameB x.1 = true) : PM c1 b' t ms' := by
  have n : ∀ o i, ¬ ((o = 201 ∧ i ≠ 4) ∨ o = 202 ∨ 203 < o) → ¬ P o i := fun o i q z => q (h1 o i z)
  exact ⟨hb, h.2.1.fm hf (n _ _ (by omega)) (fun i => n _ _ (by omega)), h7, hl, hs, hm⟩
theorem mrw.cp {c c' : hS} {j o o' a len : Nat} {l : List Nat} (hl : a + len ≤ l.length) (hs : ∀ i, i < l.length → c.1 o' i = nI (gt l i)) (hv : ∀ i, 0 ≤ i → i < len → c'.1 o (0 + i) = c.1 o' (a + i)) (hj : c'.1 201 j = nI len) (ho : len ≤ ln o) (hb : byt l) : mrw c' j o ((l.drop a).take len) := by
  have e : ((l.drop a).take len).length = len := by simp; omega
  refine ⟨by omega, by rw [e]; exact hj, fun i hi => ?_, (hb.drop a).take len⟩
  rw [e] at hi
  have := hv i (Nat.zero_le _) hi
  rw [Nat.zero_add] at this
  rw [this, hs _ (by omega), gt_take hi, gt_drop]
theorem nameB_pos {l : List Nat} (h : nameB l = true) : l.length ≠ 0 := by
  unfold nameB at h
  simp at h
  intro z
  simp [z] at h
theorem nameB_no {l : List Nat} (h : 90 < l.length) : nameB l = false := by
  cases z : nameB l with
  | false => rfl
  | true => have := nameB_90 z; omega
theorem comeM_mem {ms : List Mb} {x y : Mb} (h : y ∈ comeM ms x) : y ∈ ms ∨ y = x := by
  unfold comeM at h
  rcases List.mem_append.mp h with q | q
  · exact Or.inl (List.mem_of_mem_eraseP q)
  · exact Or.inr (by simpa using q)
theorem moB_in {ms : List Mb} {k : Int32} (h : ms.length ≤ 16) : (decide ((0 : Int32) ≤ k) && decide (k ≤ nI ms.length - 1)) = moB ms k := by
  have := in_has (l := List.replicate ms.length 0) (n := k) (by simp; omega)
  unfold haB at this
  unfold moB
  simpa only [List.length_replicate] using this
theorem m_go {N : Nat} {c : hS} {b t : List Nat} {ms : List Mb} {k : Int32} (hN : 1000000 ≤ N) (h : PM c b t ms) : MN (f_X12_go N c k) c (goK ms k) (nI (goM ms k).length) b t (goM ms k) := by
  obtain ⟨c1, e1, h1, z1, f1⟩ := m_zero h
  have h16 := h.2.2.2.1
  unfold f_X12_go goK goM
  rw [e1]
  dsimp only [st1]
  rw [h1.2.2.1, m_in (a := 0) (a' := 0) (by decide) rfl, bnd_some, moB_in h16]
  unfold f_X12_go_27
  cases z : moB ms k with
  | false =>
    rw [if_pos (show bI false = 0 from rfl), if_neg (by decide), if_neg (by decide), m_ref1 z1 (by decide), bnd_some, if_neg (by decide)]
    exact m_no h1 f1 (by decide) rfl
  | true =>
    obtain ⟨p, hp, rfl, hpl, -⟩ := moB_so z
    rw [if_neg (by decide), if_pos rfl, if_pos rfl, m_ref0 z1, bnd_some, if_pos rfl, h1.2.2.1, show nI ms.length - 1 = nI (ms.length - 1) from subI (b := 1) (by omega), nI_clamp hp]
    dsimp only [st1]
    have f2 : fm (fun o i => o = 201 ∧ i = 7) c1 (sI c1 201 7 (nI (ms.length - 1))) := fm.sI ⟨rfl, rfl⟩
    have s2 : msh (sI c1 201 7 (nI (ms.length - 1))) 0 ms := fun i hi => (h1.2.2.2.2.1 i hi).fm f2 (fun o j a b => by omega)
    have key : ∀ r n m c, m + r + 1 = ms.length → r < n → p ≤ m → hol c 0 ms p m → c.1 201 7 = nI (ms.length - 1) → ∃ c', f_X12_go_48 N (nI p) n c (nI (0 + m)) = some (nI (ms.length - 1), c') ∧ msh c' 0 (ms.eraseIdx p) ∧ fm (rg 0) c c' := by
      intro r
      induction r with
      | zero =>
        intro n m c hm hn' hkm hh h7
        obtain ⟨n, rfl⟩ : ∃ m, n = m + 1 := ⟨n - 1, by omega⟩
        rw [f_X12_go_48, h7, if_pos (nI_le (by omega) (by omega))]
        exact ⟨c, rfl, hh.nd (by omega) hpl, fm.rf⟩
      | succ r ih =>
        intro n m c hm hn' hkm hh h7
        obtain ⟨n, rfl⟩ : ∃ m, n = m + 1 := ⟨n - 1, by omega⟩
        obtain ⟨c1, a1, a2, a3⟩ := hh.st hN (by omega) hkm (by omega)
        obtain ⟨c', b1, b2, b3⟩ := ih n (m + 1) c1 (by omega) (by omega) (by omega) a2 ((a3.1 _ _ (by unfold msl; omega)).trans h7)
        rw [f_X12_go_48, h7, if_neg (nI_ge (by omega) (by omega)), a1, bnd_some, nI_1]
        exact ⟨c', b1, b2, (a3.mono (fun o i z => msl_rg z (by omega) (by omega))).tr b3⟩
    obtain ⟨c', w1, w2, w3⟩ := key (ms.length - 1 - p) N p _ (by omega) (by omega) (Nat.le_refl _) (hol.bg s2) (sI_s _ _ _ _)
    rw [Nat.zero_add] at w1
    have ll : (ms.eraseIdx p).length = ms.length - 1 := List.length_eraseIdx_of_lt hpl
    have fa : fm (fun o i => (o = 201 ∧ i = 7) ∨ (204 ≤ o ∧ o ≤ 208)) c1 c' := (f2.mono (fun o i z => Or.inl z)).tr (w3.mono (fun o i z => by unfold rg at z; omega))
    rw [ll]
    refine ⟨_, c', w1, (fa.1 _ _ (by omega)).trans z1, fun _ => rfl, ?_, f1.tr (fa.mono (fun o i z => by omega))⟩
    exact h1.sh fa (fun o i z => by omega) (h1.1.fm fa (by omega) (fun i => by omega)) (by rw [w3.1 _ _ (by unfold rg; omega), sI_s, ll]) (by omega) w2 (fun x hx => h1.2.2.2.2.2 x (List.mem_of_mem_eraseIdx hx))
theorem in_m3 {l : List Nat} {i : Int32} (hl : l.length < 2 ^ 31) : (decide ((-3 : Int32) ≤ i) && decide (i ≤ nI l.length - 1)) = decide (i = -3 ∨ i = -2 ∨ i = -1 ∨ haB l i = true) := by
  rcases i_cases i with q | ⟨k, hk, rfl⟩
  · have h1 : haB l i = false := by unfold haB; rw [decide_eq_true q]; rfl
    have h2 : i ≤ nI l.length - 1 := by
      have a : i ≤ -1 := by rw [Int32.le_iff_toInt_le]; rw [Int32.lt_iff_toInt_lt] at q; have e : (-1 : Int32).toInt = -1 := rfl; have e0 : (0 : Int32).toInt = 0 := rfl; omega
      by_cases e0 : l.length = 0
      · rw [e0]; exact a
      · rw [show nI l.length - 1 = nI (l.length - 1) from subI (b := 1) (by omega)]
        exact Int32.le_trans a (Int32.le_of_lt (Int32.lt_of_lt_of_le (by decide) (nI_pos'' (by omega))))
    rw [decide_eq_true h2, Bool.and_true, h1]
    have e3 : (-3 : Int32).toInt = -3 := rfl
    have e2 : (-2 : Int32).toInt = -2 := rfl
    have e1 : (-1 : Int32).toInt = -1 := rfl
    have e0 : (0 : Int32).toInt = 0 := rfl
    by_cases w : (-3 : Int32) ≤ i
    · rw [decide_eq_true w, eq_comm, decide_eq_true_eq]
      rw [Int32.le_iff_toInt_le] at w
      rw [Int32.lt_iff_toInt_lt] at q
      have : i.toInt = -3 ∨ i.toInt = -2 ∨ i.toInt = -1 := by omega
      rcases this with z | z | z
      · exact Or.inl (Int32.toInt_inj.mp (by rw [z]; rfl))
      · exact Or.inr (Or.inl (Int32.toInt_inj.mp (by rw [z]; rfl)))
      · exact Or.inr (Or.inr (Or.inl (Int32.toInt_inj.mp (by rw [z]; rfl))))
    · rw [decide_eq_false w, eq_comm, decide_eq_false_iff_not]
      rintro (z | z | z | z)
      · exact w (by rw [z]; decide)
      · exact w (by rw [z]; decide)
      · exact w (by rw [z]; decide)
      · cases z
  · have h3 : (-3 : Int32) ≤ nI k := Int32.le_of_lt (Int32.lt_of_lt_of_le (by decide) (nI_pos'' hk))
    have h0 := in_has (l := l) (n := nI k) hl
    rw [decide_eq_true (nI_pos'' hk), Bool.true_and] at h0
    rw [decide_eq_true h3, Bool.true_and, h0]
    have ne : ∀ x : Int32, x < 0 → nI k ≠ x := fun x hx z => nI_pos hk (by rw [z]; exact hx)
    cases z : haB l (nI k) with
    | true => rw [eq_comm, decide_eq_true_eq]; exact Or.inr (Or.inr (Or.inr rfl))
    | false =>
      rw [eq_comm, decide_eq_false_iff_not]
      rintro (z | z | z | z)
      · exact ne _ (by decide) z
      · exact ne _ (by decide) z
      · exact ne _ (by decide) z
      · cases z
theorem m_name {c : hS} {b t : List Nat} {ms : List Mb} {k i : Int32} (h : PM c b t ms) : MN (f_X12_name c k i) c (naK ms k i) (naV ms k i) b t ms := by
  obtain ⟨c1, e1, h1, z1, f1⟩ := m_zero h
  have h16 := h.2.2.2.1
  unfold f_X12_name naK
  rw [e1]
  dsimp only [st1]
  rw [h1.2.2.1, m_in (a := 0) (a' := 0) (by decide) rfl, bnd_some, moB_in h16]
  unfold f_X12_name_42 f_X12_name_47
  cases z : moB ms k with
  | false =>
    rw [if_pos (show bI false = 0 from rfl), if_neg (by decide), m_ref1 z1 (by decide), bnd_some, if_neg (by decide)]
    exact m_no h1 f1 (by decide) rfl
  | true =>
    obtain ⟨p, hp, rfl, hpl, ea⟩ := moB_so z
    have hm := h1.2.2.2.2.1 p hpl
    rw [Nat.zero_add] at hm
    have l1 := hm.1.2.2.1
    rw [if_neg (by decide), if_pos rfl, j_in_nI (show p < ln 204 from (by show p < 34; omega)) (by decide), cond_true, nI_clamp hp, hm.1.1, m_in (a := -3) (a' := -3) (by decide) rfl, bnd_some, in_m3 (by omega), ea]
    by_cases w : i = -3 ∨ i = -2 ∨ i = -1 ∨ haB ms[p].1 i = true
    · rw [decide_eq_true w, if_neg (by decide), if_pos w, m_ref0 z1, bnd_some, if_pos rfl, cond_true]
      unfold naV
      rw [ea]
      by_cases i1 : i = -1
      · subst i1
        rw [if_pos rfl, if_neg (by decide), if_neg (by decide), if_pos rfl, hm.1.1]
        exact ⟨_, c1, rfl, z1, fun _ => rfl, h1, f1⟩
      · rw [if_neg i1]
        by_cases i2 : i = -2
        · subst i2
          rw [if_pos rfl, if_neg (by decide), if_pos rfl, j_in_nI (show p < ln 206 from (by show p < 34; omega)) (by decide), cond_true, hm.2.1.1]
          exact ⟨_, c1, rfl, z1, fun _ => rfl, h1, f1⟩
        · rw [if_neg i2]
          by_cases i3 : i = -3
          · subst i3
            rw [if_pos rfl, if_pos rfl, j_in_nI (show p < ln 208 from (by show p < 34; omega)) (by decide), cond_true, hm.2.2]
            cases ms[p].2.2 with
            | true => rw [if_neg (by decide)]; exact ⟨_, c1, rfl, z1, fun _ => rfl, h1, f1⟩
            | false => rw [if_pos (show bI false = 0 from rfl)]; exact ⟨_, c1, rfl, z1, fun _ => rfl, h1, f1⟩
          · have hh : haB ms[p].1 i = true := by
              rcases w with q | q | q | q
              · exact absurd q i3
              · exact absurd q i2
              · exact absurd q i1
              · exact q
            obtain ⟨q, hq, rfl, hql⟩ := haB_so hh
            rw [if_neg i3, if_neg i3, if_neg i2, if_neg i1, m_nameAt hm (by omega) hql, bnd_some]
            unfold tdV
            rw [nI_clamp hq]
            exact ⟨_, c1, rfl, z1, fun _ => rfl, h1, f1⟩
    · rw [decide_eq_false w, if_pos (show bI false = 0 from rfl), if_neg w, m_ref1 z1 (by decide), bnd_some, if_neg (by decide)]
      exact m_no h1 f1 (by decide) rfl
theorem m_byteAt {c : hS} {b t : List Nat} {ms : List Mb} {k i : Int32} (h : PM c b t ms) : MN (f_X12_byteAt c k i) c (byK ms k i) (tdV (mbA ms k).2.1 i) b t ms := by
  obtain ⟨c1, e1, h1, z1, f1⟩ := m_zero h
  have h16 := h.2.2.2.1
  unfold f_X12_byteAt byK
  rw [e1]
  dsimp only [st1]
  rw [h1.2.2.1, m_in (a := 0) (a' := 0) (by decide) rfl, bnd_some, moB_in h16]
  unfold f_X12_byteAt_40 f_X12_byteAt_45
  cases z : moB ms k with
  | false =>
    rw [if_pos (show bI false = 0 from rfl), if_neg (fun z => by cases z.1), m_ref1 z1 (by decide), bnd_some, if_neg (by decide)]
    exact m_no h1 f1 (by decide) rfl
  | true =>
    obtain ⟨p, hp, rfl, hpl, ea⟩ := moB_so z
    have hm := h1.2.2.2.2.1 p hpl
    rw [Nat.zero_add] at hm
    have l1 := hm.2.1.2.2.1
    rw [if_neg (by decide), j_in_nI (show p < ln 206 from (by show p < 34; omega)) (by decide), cond_true, nI_clamp hp, hm.2.1.1, m_in (a := 0) (a' := 0) (by decide) rfl, bnd_some, in_has (by omega), ea]
    cases w : haB ms[p].2.1 i with
    | true =>
      obtain ⟨q, hq, rfl, hql⟩ := haB_so w
      rw [if_neg (by decide), if_pos ⟨rfl, rfl⟩, m_ref0 z1, bnd_some, if_pos rfl, mul400 p q, j_in_nI (show 400 * p + q < ln 207 from (by show 400 * p + q < 13600; omega)) (by decide), cond_true, nI_clamp (by omega), hm.2.1.2.1 q hql]
      unfold tdV
      rw [nI_clamp hq]
      exact ⟨_, c1, rfl, z1, fun _ => rfl, h1, f1⟩
    | false =>
      rw [if_pos (show bI false = 0 from rfl), if_neg (fun z => by cases z.2), m_ref1 z1 (by decide), bnd_some, if_neg (by decide)]
      exact m_no h1 f1 (by decide) rfl
end
section
/-! PURE: the reference: come, kind -/
theorem nameB_299 (b : List Nat) (k : Nat) : nameB (b.take (min k 299)) = nameB (b.take k) := by
  by_cases q : k ≤ 299
  · rw [Nat.min_eq_left q]
  · rw [Nat.min_eq_right (by omega)]
    by_cases w : b.length ≤ 299
    · rw [List.take_of_length_le w, List.take_of_length_le (by omega)]
    · rw [nameB_no (by simp; omega), nameB_no (by simp; omega)]
theorem min_I {k : Nat} (hk : k < 2 ^ 31) {c : hS} {j : Nat} {α : Type} {K : hS → Option α} : (if (300 : Int32) ≤ nI k then st1 (sI c 201 j 299) K else st1 (sI c 201 j (nI k)) K) = K (sI c 201 j (nI (min k 299))) := by
  by_cases q : 300 ≤ k
  · rw [if_pos (show (300 : Int32) ≤ nI k from nI_le (a := 300) q hk), Nat.min_eq_right (by omega)]; rfl
  · rw [if_neg (show ¬ (300 : Int32) ≤ nI k from nI_ge (b := 300) (by omega) (by decide)), Nat.min_eq_left (by omega)]; rfl
theorem m_come {N : Nat} {c : hS} {b t : List Nat} {ms : List Mb} {n : Int32} {d : Bool} (hN : 1000000 ≤ N) (h : PM c b t ms) : MN (f_X12_come N c n (bI d)) c (cmK b ms n d) (nI (cmM b ms n d).length) (cmB b ms n d) t (cmM b ms n d) := by
  obtain ⟨c1, e1, h1, z1, f1⟩ := m_zero h
  have h16 := h.2.2.2.1
  have hbl : b.length ≤ 512 := h.1.1
  unfold f_X12_come
  rw [e1]
  dsimp only [st1]
  rw [h1.1.2.1, m_in (a := 0) (a' := 0) (by decide) rfl, bnd_some, in_keep h1.1.lt]
  unfold f_X12_come_25
  rcases keK_01 b n with k0 | k1
  · obtain ⟨k, hk, rfl, hkl⟩ := keK_so k0
    rw [decide_eq_true k0, if_neg (by decide), m_ref0 z1, bnd_some, if_pos rfl, min_I hk]
    have cK : cmK b ms (nI k) d = if nameB (b.take k) = true then (if b.length - k ≤ cmL d then (if ms.any (wayB (b.take k) d) = true then 2 else if (decide (ms.length < 16) || ms.any fun x => decide (x.1 = b.take k)) = true then 0 else 3) else 1) else 1 := by
      unfold cmK
      rw [nI_clamp hk, if_neg]
      rintro (z | z)
      · exact nI_pos hk z
      · omega
    obtain ⟨j, hj⟩ : ∃ j, min k 299 = j := ⟨_, rfl⟩
    rw [hj]
    have hjl : j ≤ b.length ∧ j ≤ 299 ∧ j ≤ k := by omega
    obtain ⟨c2, e2⟩ : ∃ c2, sI c1 201 14 (nI j) = c2 := ⟨_, rfl⟩
    rw [e2]
    have f2 : fm (fun o i => o = 201 ∧ i = 14) c1 c2 := by rw [← e2]; exact fm.sI ⟨rfl, rfl⟩
    have v2 : c2.1 201 14 = nI j := by rw [← e2, sI_s]
    obtain ⟨c3, e3, i3, w3, f3⟩ := cp_loop (F := f_X12_come_54 N (nI k) (bI d)) (X := fun c => f_X12_come_54 N (nI k) (bI d) (0 + 1) c (nI j)) (o := 209) (o' := 202) (a := 0) (b := 0) (len := j) (fun c => c.1 201 14 = nI j) (fun c i x q => by rw [sI_o (by decide)]; exact q) (fun n c i hi q => by
      rw [f_X12_come_54, q, if_neg (nI_ge hi (by omega)), j_in_nI (show i < ln 202 from (by show i < 512; omega)) (by decide), cond_true, j_in_nI (show i < ln 209 from (by show i < 300; omega)) (by decide), cond_true, nI_clamp (by omega), Nat.zero_add]
      rfl) (fun n c q => by
      show _ = f_X12_come_54 N (nI k) (bI d) (0 + 1) c (nI j)
      rw [f_X12_come_54, f_X12_come_54, q, if_pos (nI_le (Nat.le_refl _) (by omega)), if_pos (nI_le (Nat.le_refl _) (by omega))]) (by omega) j N c2 0 (by omega) (by omega) v2
    have f13 : fm (fun o i => (o = 201 ∧ i = 14) ∨ o = 209) c1 c3 := (f2.mono (fun o i z => Or.inl z)).tr (f3.mono (fun o i z => Or.inr z.1))
    have h3 := h1.mv f13 (fun o i z => by omega)
    have n3 : mrw c3 14 209 (b.take j) := by
      have := mrw.cp (c := c2) (c' := c3) (j := 14) (o := 209) (o' := 202) (a := 0) (len := j) (l := b) (by omega) (fun i hi => (f2.1 _ _ (by omega)).trans (h1.1.2.2.1 i hi)) w3 i3 (show j ≤ 300 by omega) h1.1.2.2.2
      simpa using this
    have e3' : f_X12_come_54 N (nI k) (bI d) N c2 0 = f_X12_come_54 N (nI k) (bI d) (0 + 1) c3 (nI j) := e3
    rw [e3', f_X12_come_54, i3, if_pos (nI_le (Nat.le_refl _) (by omega)), h3.1.2.1, subI hkl]
    dsimp only [st1]
    rw [show j_b (bI d) = true by cases d <;> rfl, cond_true]
    obtain ⟨c4, e4⟩ : ∃ c4, sI (sI c3 201 16 (nI (b.length - k))) 201 18 (bI d) = c4 := ⟨_, rfl⟩
    rw [e4]
    have f4 : fm (fun o i => o = 201 ∧ (i = 16 ∨ i = 18)) c3 c4 := by rw [← e4]; exact (fm.sI (by omega)).tr (fm.sI (by omega))
    have v16 : c4.1 201 16 = nI (b.length - k) := by rw [← e4, sI_j (by decide), sI_s]
    have v18 : c4.1 201 18 = bI d := by rw [← e4, sI_s]
    have h4 := h3.mv f4 (fun o i z => by omega)
    have n4 : mrw c4 14 209 (b.take j) := n3.fm f4 (by omega) (fun i => by omega)
    have fz : fm (fun o _ => 201 ≤ o ∧ o < 219) c c4 := (f1.tr (f13.mono (fun o i z => by omega))).tr (f4.mono (fun o i z => by omega))
    have z4 : c4.1 201 0 = 0 := by rw [f4.1 _ _ (by omega), f13.1 _ _ (by omega)]; exact z1
    rw [m_isName hN n4, bnd_some]
    have no1 : cmK b ms (nI k) d = 1 → MN (f_X12_come_124 N (nI k) (bI d) c4) c (cmK b ms (nI k) d) (nI (cmM b ms (nI k) d).length) (cmB b ms (nI k) d) t (cmM b ms (nI k) d) := by
      intro q
      unfold f_X12_come_124 f_X12_come_129
      rw [m_ref1 z4 (by decide), bnd_some, if_neg (by decide), q]
      have eB : cmB b ms (nI k) d = b := by unfold cmB; rw [if_neg (by rw [q]; decide)]
      have eM : cmM b ms (nI k) d = ms := by unfold cmM; rw [if_neg (by rw [q]; decide)]
      rw [eB, eM]
      exact m_no h4 fz (by decide) rfl
    rw [← hj, nameB_299] at *
    cases hnm : nameB (b.take k) with
    | false =>
      rw [if_pos (show bI false = 0 from rfl)]
      exact no1 (by rw [cK, hnm]; rfl)
    | true =>
      rw [if_neg (by decide)]
      rw [hnm, if_pos rfl] at cK
      have k90 : k ≤ 90 := by
        have := nameB_90 hnm
        simp at this
        omega
      have jk : min k 299 = k := by omega
      rw [jk] at n4
      have good : b.length - k ≤ cmL d → MN (f_X12_come_129 N (nI k) (bI d) c4 0) c (cmK b ms (nI k) d) (nI (cmM b ms (nI k) d).length) (cmB b ms (nI k) d) t (cmM b ms (nI k) d) := by
        intro hs
        rw [if_pos hs] at cK
        have h400 : b.length - k ≤ 400 := by unfold cmL at hs; split at hs <;> omega
        unfold f_X12_come_129
        have ew := m_isInTheWay (base := 0) (d := d) hN h4.2.2.2.2.1 (by omega) n4 v18 (nameB_pos hnm) (fun x hx => nameB_pos (h4.2.2.2.2.2 x hx))
        rw [nI_0] at ew
        rw [m_ref0 z4, bnd_some, if_pos rfl, h4.2.2.1, ew, bnd_some]
        cases hw : ms.any (wayB (b.take k) d) with
        | true =>
          rw [hw, if_pos rfl] at cK
          have eB : cmB b ms (nI k) d = b := by unfold cmB; rw [if_neg (by rw [cK]; decide)]
          have eM : cmM b ms (nI k) d = ms := by unfold cmM; rw [if_neg (by rw [cK]; decide)]
          rw [show bI true = 1 from rfl, m_ref1 z4 (by decide), bnd_some, if_neg (by decide), cK, eB, eM]
          exact m_no h4 fz (by decide) rfl
        | false =>
          rw [hw, if_neg (by decide)] at cK
          rw [show bI false = 0 from rfl, m_ref0 z4, bnd_some, if_pos rfl, h4.2.2.1]
          have room : (decide (ms.length < 16) || ms.any fun x => decide (x.1 = b.take k)) = true → MN (f_X12_come_181 N (nI k) (bI d) c4) c (cmK b ms (nI k) d) (nI (cmM b ms (nI k) d).length) (cmB b ms (nI k) d) t (cmM b ms (nI k) d) := by
            intro hr
            rw [hr, if_pos rfl] at cK
            have eB : cmB b ms (nI k) d = [] := by unfold cmB; rw [if_pos cK]
            have eM : cmM b ms (nI k) d = comeM ms (b.take k, b.drop k, d) := by unfold cmM; rw [if_pos cK, nI_clamp hk]
            rw [cK, eB, eM]
            unfold f_X12_come_181 f_X12_come_182
            rw [m_ref0 z4, bnd_some, if_pos rfl]
            obtain ⟨c5, e5, i5, w5, f5⟩ := cp_loop (F := f_X12_come_193 N (nI k) (bI d)) (X := fun c => f_X12_come_193 N (nI k) (bI d) (0 + 1) c (nI (b.length - k))) (o := 210) (o' := 202) (a := k) (b := 0) (len := b.length - k) (fun c => c.1 201 16 = nI (b.length - k)) (fun c i x q => by rw [sI_o (by decide)]; exact q) (fun n c i hi q => by
              rw [f_X12_come_193, q, if_neg (nI_ge hi (by omega)), nI_add, j_in_nI (show k + i < ln 202 from (by show k + i < 512; omega)) (by decide), cond_true, j_in_nI (show i < ln 210 from (by show i < 600; omega)) (by decide), cond_true, nI_clamp (by omega), nI_clamp (by omega), Nat.zero_add]
              rfl) (fun n c q => by
              show _ = f_X12_come_193 N (nI k) (bI d) (0 + 1) c (nI (b.length - k))
              rw [f_X12_come_193, f_X12_come_193, q, if_pos (nI_le (Nat.le_refl _) (by omega)), if_pos (nI_le (Nat.le_refl _) (by omega))]) (by omega) (b.length - k) N c4 0 (by omega) (by omega) v16
            have f5' : fm (fun o i => o = 210) c4 c5 := f5.mono (fun o i z => z.1)
            have h5 := h4.mv f5' (fun o i z => by omega)
            have n5 : mrw c5 14 209 (b.take k) := n4.fm f5' (by omega) (fun i => by omega)
            have g5 : mrw c5 16 210 (b.drop k) := by
              have := mrw.cp (c := c4) (c' := c5) (j := 16) (o := 210) (o' := 202) (a := k) (len := b.length - k) (l := b) (by omega) h4.1.2.2.1 w5 i5 (show b.length - k ≤ 600 by omega) h1.1.2.2.2
              rwa [List.take_of_length_le (by simp)] at this
            have d5 : c5.1 201 18 = bI d := (f5'.1 _ _ (by omega)).trans v18
            have e5' : f_X12_come_193 N (nI k) (bI d) N c4 0 = f_X12_come_193 N (nI k) (bI d) (0 + 1) c5 (nI (b.length - k)) := e5
            have hrm : ms.length < 16 ∨ ∃ x ∈ ms, x.1 = b.take k := by
              rcases Bool.or_eq_true_iff.mp hr with q | q
              · exact Or.inl (of_decide_eq_true q)
              · obtain ⟨x, hx, q⟩ := List.any_eq_true.mp q
                exact Or.inr ⟨x, hx, of_decide_eq_true q⟩
            obtain ⟨c6, e6, s6, l6, f6⟩ := m_stand (base := 0) (d := d) hN h5.2.2.2.2.1 h16 hrm (Or.inl rfl) n5 g5 d5 (by simp; omega) (by simp; omega)
            rw [nI_0] at e6
            rw [e5', f_X12_come_193, i5, if_pos (nI_le (Nat.le_refl _) (by omega)), h5.2.2.1, e6, bnd_some]
            dsimp only [st1]
            have f6' : fm (fun o i => 204 ≤ o ∧ o ≤ 208) c5 c6 := f6.mono (fun o i z => by unfold rg at z; omega)
            obtain ⟨c8, e8⟩ : ∃ c8, sI (sI c6 201 7 (nI (comeM ms (b.take k, b.drop k, d)).length)) 201 2 0 = c8 := ⟨_, rfl⟩
            have f8 : fm (fun o i => o = 201 ∧ (i = 7 ∨ i = 2)) c6 c8 := by rw [← e8]; exact (fm.sI (by omega)).tr (fm.sI (by omega))
            have v7 : c8.1 201 7 = nI (comeM ms (b.take k, b.drop k, d)).length := by rw [← e8, sI_j (by decide), sI_s]
            have v02 : c8.1 201 2 = 0 := by rw [← e8, sI_s]
            rw [e8]
            have fa : fm (fun o i => (204 ≤ o ∧ o ≤ 208) ∨ (o = 201 ∧ (i = 7 ∨ i = 2))) c5 c8 := (f6'.mono (fun o i z => Or.inl z)).tr (f8.mono (fun o i z => Or.inr z))
            refine ⟨_, c8, rfl, ?_, fun _ => v7, ?_, (fz.tr (f5'.mono (fun o i z => by omega))).tr (fa.mono (fun o i z => by omega))⟩
            · rw [fa.1 _ _ (by omega), f5'.1 _ _ (by omega)]; exact z4
            · refine h5.sh fa (fun o i z => by omega) ⟨Nat.zero_le _, v02, fun i hi => absurd hi (Nat.not_lt_zero i), fun x hx => by cases hx⟩ v7 l6 (fun i hi => (s6 i hi).fm f8 (fun o j a b => by omega)) (fun x hx => ?_)
              rcases comeM_mem hx with q | q
              · exact h4.2.2.2.2.2 x q
              · rw [q]; exact hnm
          have full : (decide (ms.length < 16) || ms.any fun x => decide (x.1 = b.take k)) = false → MN (f_X12_come_182 N (nI k) (bI d) c4 1) c (cmK b ms (nI k) d) (nI (cmM b ms (nI k) d).length) (cmB b ms (nI k) d) t (cmM b ms (nI k) d) := by
            intro hr
            rw [hr, if_neg (by decide)] at cK
            have eB : cmB b ms (nI k) d = b := by unfold cmB; rw [if_neg (by rw [cK]; decide)]
            have eM : cmM b ms (nI k) d = ms := by unfold cmM; rw [if_neg (by rw [cK]; decide)]
            unfold f_X12_come_182
            rw [m_ref1 z4 (by decide), bnd_some, if_neg (by decide), cK, eB, eM]
            exact m_no h4 fz (by decide) rfl
          have es := m_seek (base := 0) hN h4.2.2.2.2.1 (by omega) n4
          rw [nI_0] at es
          by_cases q16 : ms.length = 16
          · rw [if_pos (show nI ms.length = 16 by rw [q16]; rfl), es, bnd_some]
            rcases fnI_at (t := b.take k) (ms := ms) (i := 0) with ⟨a1, a2⟩ | ⟨p, a1, a2, a3⟩
            · rw [a1, if_neg (by decide)]
              apply full
              rw [decide_eq_false (by omega), Bool.false_or]
              cases z : (ms.any fun x => decide (x.1 = b.take k)) with
              | false => rfl
              | true =>
                obtain ⟨x, hx, q⟩ := List.any_eq_true.mp z
                exact absurd (of_decide_eq_true q) (a2 x hx)
            · rw [a2, if_pos (nI_pos'' (by omega))]
              apply room
              rw [Bool.or_eq_true_iff]
              exact Or.inr (List.any_eq_true.mpr ⟨ms[p], List.getElem_mem a1, decide_eq_true (a3 a1)⟩)
          · rw [if_neg (show ¬ nI ms.length = 16 from fun z => q16 ((nI_eq (b := 16) (by omega) (by decide)).mp z))]
            apply room
            rw [decide_eq_true (by omega), Bool.true_or]
      have g114 : b.length - k ≤ cmL d ∨ (d = false ∧ 400 < b.length - k) → MN (f_X12_come_114 N (nI k) (bI d) c4) c (cmK b ms (nI k) d) (nI (cmM b ms (nI k) d).length) (cmB b ms (nI k) d) t (cmM b ms (nI k) d) := by
        intro hs
        unfold f_X12_come_114
        rw [v16]
        by_cases w : b.length - k ≤ 400
        · rw [if_pos (show nI (b.length - k) ≤ 400 from nI_le (b := 400) w (by decide))]
          rcases hs with q | ⟨_, q⟩
          · exact good q
          · omega
        · rw [if_neg (show ¬ nI (b.length - k) ≤ 400 from nI_ge (a := 400) (by omega) (by omega))]
          apply no1
          rw [cK, if_neg]
          unfold cmL
          split <;> omega
      cases d with
      | false =>
        rw [if_pos (show bI false = 0 from rfl)]
        by_cases w : b.length - k ≤ 400
        · exact g114 (Or.inl w)
        · exact g114 (Or.inr ⟨rfl, by omega⟩)
      | true =>
        rw [if_neg (by decide), v16]
        by_cases w : b.length - k = 0
        · rw [w, if_neg (by decide)]
          exact g114 (Or.inl (by rw [w]; exact Nat.zero_le _))
        · rw [if_pos (show (0 : Int32) < nI (b.length - k) from nI_lt (a := 0) (by omega) (by omega))]
          apply no1
          rw [cK, if_neg]
          unfold cmL
          rw [if_pos rfl]
          omega
  · have hor : n < 0 ∨ b.length < n.toNatClampNeg := by
      unfold keK at k1
      by_cases q : n < 0
      · exact Or.inl q
      · rw [if_neg q] at k1
        by_cases w : b.length < n.toNatClampNeg
        · exact Or.inr w
        · rw [if_neg w] at k1; cases k1
    have cK : cmK b ms n d = 1 := by unfold cmK; rw [if_pos hor]
    have eB : cmB b ms n d = b := by unfold cmB; rw [if_neg (by rw [cK]; decide)]
    have eM : cmM b ms n d = ms := by unfold cmM; rw [if_neg (by rw [cK]; decide)]
    rw [decide_eq_false (by rw [k1]; decide), if_pos (show bI false = 0 from rfl), m_ref1 z1 (by decide), bnd_some, if_neg (by decide), cK, eB, eM]
    exact m_no h1 f1 (by decide) rfl
end
