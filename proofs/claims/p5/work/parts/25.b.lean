/-! PURE: the reference: buffer and tape -/
theorem PM.bf {P : Nat → Nat → Prop} {c c1 : hS} {b b' t : List Nat} {ms : List Mb} (h : PM c b t ms) (hf : fm P c c1) (h1 : ∀ o i, P o i → (o = 201 ∧ i ≠ 4 ∧ i ≠ 7) ∨ o = 202 ∨ 208 < o) (hb : mrw c1 2 202 b') : PM c1 b' t ms := by
  have n : ∀ o i, ¬ ((o = 201 ∧ i ≠ 4 ∧ i ≠ 7) ∨ o = 202 ∨ 208 < o) → ¬ P o i := fun o i q z => q (h1 o i z)
  exact ⟨hb, h.2.1.fm hf (n _ _ (by omega)) (fun i => n _ _ (by omega)), (hf.1 _ _ (n _ _ (by omega))).trans h.2.2.1, h.2.2.2.1, fun i hi => (h.2.2.2.2.1 i hi).fm hf (fun o j a b => n _ _ (by omega)), h.2.2.2.2.2⟩
theorem PM.tp {P : Nat → Nat → Prop} {c c1 : hS} {b t t' : List Nat} {ms : List Mb} (h : PM c b t ms) (hf : fm P c c1) (h1 : ∀ o i, P o i → (o = 201 ∧ i ≠ 2 ∧ i ≠ 7) ∨ o = 203 ∨ 208 < o) (hb : mrw c1 4 203 t') : PM c1 b t' ms := by
  have n : ∀ o i, ¬ ((o = 201 ∧ i ≠ 2 ∧ i ≠ 7) ∨ o = 203 ∨ 208 < o) → ¬ P o i := fun o i q z => q (h1 o i z)
  exact ⟨h.1.fm hf (n _ _ (by omega)) (fun i => n _ _ (by omega)), hb, (hf.1 _ _ (n _ _ (by omega))).trans h.2.2.1, h.2.2.2.1, fun i hi => (h.2.2.2.2.1 i hi).fm hf (fun o j a b => n _ _ (by omega)), h.2.2.2.2.2⟩
theorem m_ref0 {c : hS} {k : Int32} (h : c.1 201 0 = 0) : f_X12_refuses c 0 k = some (0, c) := by
  unfold f_X12_refuses
  rw [if_pos h, if_pos rfl, h, if_pos (by decide)]
theorem m_ref1 {c : hS} {k : Int32} (h : c.1 201 0 = 0) (hk : ¬ k ≤ 0) : f_X12_refuses c 1 k = some (1, sI c 201 0 k) := by
  unfold f_X12_refuses
  rw [if_pos h, if_neg (by decide)]
  dsimp only [st1]
  rw [sI_s, if_neg hk]
/-- thrown = 0 -/
theorem m_zero {c : hS} {b t : List Nat} {ms : List Mb} (h : PM c b t ms) : ∃ c1, sI c 201 0 0 = c1 ∧ PM c1 b t ms ∧ c1.1 201 0 = 0 ∧ fm (fun o _ => 201 ≤ o ∧ o < 219) c c1 := by
  refine ⟨_, rfl, h.mv (P := fun o i => o = 201 ∧ i = 0) (fm.sI ⟨rfl, rfl⟩) (fun o i z => by omega), sI_s _ _ _ _, fm.sI (by omega)⟩
theorem m_no {α : Type} {c c1 : hS} {b t : List Nat} {ms : List Mb} {x v : α} {k : Nat} {y : Int32} (h : PM c1 b t ms) (hf : fm (fun o _ => 201 ≤ o ∧ o < 219) c c1) (hk : k ≠ 0) (hy : y = nI k) : MN (some (x, sI c1 201 0 y)) c k v b t ms :=
  ⟨x, _, rfl, by rw [sI_s]; exact hy, fun z => absurd z hk, h.mv (P := fun o i => o = 201 ∧ i = 0) (fm.sI ⟨rfl, rfl⟩) (fun o i z => by omega), hf.tr (fm.sI (by omega))⟩
theorem mrw.add {c : hS} {j o x : Nat} {l : List Nat} (h : mrw c j o l) (ho : o ≠ 201) (hl : l.length < ln o) (hx : x < 256) : mrw (sI (sI c o l.length (nI x)) 201 j (nI (l.length + 1))) j o (l ++ [x]) := by
  refine ⟨by simp; omega, by rw [sI_s]; simp, fun i hi => ?_, h.2.2.2.app (fun y hy => by simp at hy; omega)⟩
  rw [sI_o ho]
  simp at hi
  by_cases e : i = l.length
  · rw [e, sI_s, gt_app_r (Nat.le_refl _), Nat.sub_self]; rfl
  · rw [sI_j e, h.2.2.1 i (by omega), gt_app_l (by omega)]
theorem and255 (y : Int64) : (y &&& 255).toInt32 = nI (b8 y.toInt32) := by
  rw [Int64.toInt32_and, ← b8_and]
  rfl
theorem m_type {N : Nat} {c : hS} {b t : List Nat} {ms : List Mb} {x : Int64} {n : Int32} (hN : 1000000 ≤ N) (h : PM c b t ms) : MN (f_X12_type N c x n) c (tyK b n) (nI (tyB b x n).length) (tyB b x n) t ms := by
  obtain ⟨c1, e1, h1, z1, f1⟩ := m_zero h
  have hbl : b.length ≤ 512 := h.1.1
  unfold f_X12_type
  rw [e1]
  dsimp only [st1]
  rw [m_in (a := 1) (b := 8) (a' := 1) (b' := 8) (by decide) (by decide), bnd_some]
  cases hw : (decide ((1 : Int32) ≤ n) && decide (n ≤ 8)) with
  | false =>
    have hor : n < 1 ∨ 8 < n := by
      rcases Bool.and_eq_false_iff.mp hw with q | q
      · exact Or.inl (Int32.not_le.mp (of_decide_eq_false q))
      · exact Or.inr (Int32.not_le.mp (of_decide_eq_false q))
    have k1 : tyK b n = 1 := by unfold tyK; rw [if_pos hor]
    have e1 : tyB b x n = b := by unfold tyB; rw [if_neg (by rw [k1]; decide)]
    rw [if_pos (show bI false = 0 from rfl), k1, e1]
    unfold f_X12_type_23
    rw [m_ref1 z1 (by decide), bnd_some, if_neg (by decide)]
    exact m_no h1 f1 (by decide) rfl
  | true =>
    have hh : (1 : Int32) ≤ n ∧ n ≤ 8 := by simpa using hw
    have hor : ¬ (n < 1 ∨ 8 < n) := fun q => q.elim (Int32.not_lt.mpr hh.1) (Int32.not_lt.mpr hh.2)
    rw [if_neg (by decide)]
    unfold f_X12_type_23
    rw [m_ref0 z1, bnd_some, if_pos rfl, h1.1.2.1]
    rcases i_cases n with q | ⟨k, hk, rfl⟩
    · exact absurd (Int32.lt_of_lt_of_le q (by decide)) (Int32.not_lt.mpr hh.1)
    · have k8 : k ≤ 8 := (nI_leI hk (show 8 < 2 ^ 31 by decide)).mp hh.2
      rw [nI_add]
      by_cases h5 : b.length + k ≤ 512
      · have k1 : tyK b (nI k) = 0 := by unfold tyK; rw [if_neg hor, nI_clamp hk, if_neg (by omega)]
        have e1 : tyB b x (nI k) = b ++ big x k := by unfold tyB; rw [if_pos k1, nI_clamp hk]
        rw [if_pos (show nI (b.length + k) ≤ 512 from nI_le (b := 512) h5 (by decide)), k1, e1]
        unfold f_X12_type_48
        rw [m_ref0 z1, bnd_some, if_pos rfl]
        have key : ∀ d m c b, d < m → b.length + d ≤ 512 → PM c b t ms → c.1 201 0 = 0 → ∃ c', f_X12_type_62 N x (nI k) m c (nI d - 1) = some (nI (b ++ big x d).length, c') ∧ c'.1 201 0 = 0 ∧ PM c' (b ++ big x d) t ms ∧ fm (fun o _ => 201 ≤ o ∧ o < 219) c c' := by
          intro d
          induction d with
          | zero =>
            intro m c b hm hl h z
            obtain ⟨m, rfl⟩ : ∃ m', m = m' + 1 := ⟨m - 1, by omega⟩
            rw [f_X12_type_62, if_pos (by decide), h.1.2.1]
            exact ⟨c, by simp [big], z, by simpa [big] using h, fm.rf⟩
          | succ d ih =>
            intro m c b hm hl h z
            obtain ⟨m, rfl⟩ : ∃ m', m = m' + 1 := ⟨m - 1, by omega⟩
            have hbd : b8 (j_lushr x (8 * nI d)).toInt32 < 256 := b8_lt _
            rw [nI_pred, f_X12_type_62, if_neg (nI_pos (by omega)), h.1.2.1, j_in_nI (show b.length < ln 202 from (by show b.length < 512; omega)) (by decide), cond_true, nI_clamp (by omega)]
            dsimp only [st1]
            rw [and255, sI_o (by decide), h.1.2.1, nI_1]
            have hr := h.1.add (x := b8 (j_lushr x (8 * nI d)).toInt32) (by decide) (show b.length < 512 by omega) hbd
            have f2 : fm (fun o i => (o = 202) ∨ (o = 201 ∧ i = 2)) c (sI (sI c 202 b.length (nI (b8 (j_lushr x (8 * nI d)).toInt32))) 201 2 (nI (b.length + 1))) := (fm.sI (Or.inl rfl)).tr (fm.sI (Or.inr ⟨rfl, rfl⟩))
            have h2 := h.bf f2 (fun o i z => by omega) hr
            have z2 : (sI (sI c 202 b.length (nI (b8 (j_lushr x (8 * nI d)).toInt32))) 201 2 (nI (b.length + 1))).1 201 0 = 0 := by rw [sI_j (by decide), sI_o (by decide)]; exact z
            obtain ⟨c', w1, w2, w3, w4⟩ := ih m _ _ (by omega) (by simp; omega) h2 z2
            have eb : b ++ [b8 (j_lushr x (8 * nI d)).toInt32] ++ big x d = b ++ big x (d + 1) := by unfold big; rw [List.range_succ]; simp
            rw [eb] at w1 w3
            refine ⟨c', ?_, w2, w3, (f2.mono (fun o i z => by omega)).tr w4⟩
            rw [← w1, Int32.sub_eq_add_neg]
        obtain ⟨c', w1, w2, w3, w4⟩ := key k N c1 b (by omega) h5 h1 z1
        exact ⟨_, c', w1, w2, fun _ => rfl, w3, f1.tr w4⟩
      · have k1 : tyK b (nI k) = 2 := by unfold tyK; rw [if_neg hor, nI_clamp hk, if_pos (by omega)]
        have e1 : tyB b x (nI k) = b := by unfold tyB; rw [if_neg (by rw [k1]; decide)]
        rw [if_neg (show ¬ nI (b.length + k) ≤ 512 from nI_ge (show 512 < b.length + k by omega) (by omega)), k1, e1]
        unfold f_X12_type_48
        rw [m_ref1 z1 (by decide), bnd_some, if_neg (by decide)]
        exact m_no h1 f1 (by decide) rfl
