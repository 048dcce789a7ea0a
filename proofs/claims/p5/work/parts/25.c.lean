/-! PURE: the reference: keep, typed, end, poke, at, count, fault, feed -/
theorem in_keep {l : List Nat} {n : Int32} (hl : l.length < 2 ^ 31) : (decide ((0 : Int32) ≤ n) && decide (n ≤ nI l.length)) = decide (keK l n = 0) := by
  unfold keK
  rcases i_cases n with q | ⟨k, hk, rfl⟩
  · rw [if_pos q, decide_eq_false (Int32.not_le.mpr q)]; rfl
  · rw [if_neg (nI_pos hk), nI_clamp hk, decide_eq_true (Int32.not_lt.mp (nI_pos hk)), Bool.true_and]
    by_cases w : l.length < k
    · rw [if_pos w, decide_eq_false (nI_ge w hk)]; rfl
    · rw [if_neg w, decide_eq_true (nI_le (by omega) hl)]; rfl
theorem in_has {l : List Nat} {n : Int32} (hl : l.length < 2 ^ 31) : (decide ((0 : Int32) ≤ n) && decide (n ≤ nI l.length - 1)) = haB l n := by
  unfold haB
  rcases i_cases n with q | ⟨k, hk, rfl⟩
  · rw [decide_eq_true q, decide_eq_false (Int32.not_le.mpr q)]; rfl
  · rw [nI_clamp hk, decide_eq_true (Int32.not_lt.mp (nI_pos hk)), decide_eq_false (nI_pos hk), Bool.not_false, Bool.true_and, Bool.true_and]
    by_cases e0 : l.length = 0
    · have ng : ¬ nI k ≤ nI l.length - 1 := fun z => by
        rw [e0] at z
        exact nI_pos hk (Int32.lt_of_le_of_lt z (by decide))
      rw [decide_eq_false ng, decide_eq_false (show ¬ k < l.length by omega)]
    · rw [show nI l.length - 1 = nI (l.length - 1) from subI (b := 1) (by omega)]
      by_cases w : k < l.length
      · rw [decide_eq_true w, decide_eq_true (nI_le (by omega) (by omega))]
      · rw [decide_eq_false w, decide_eq_false (nI_ge (by omega) hk)]
theorem mrw.cut {c : hS} {j o k : Nat} {l : List Nat} (h : mrw c j o l) (ho : o ≠ 201) (hk : k ≤ l.length) : mrw (sI c 201 j (nI k)) j o (l.take k) := by
  refine ⟨by have := h.1; simp; omega, by rw [sI_s, List.length_take, Nat.min_eq_left hk], fun i hi => ?_, h.2.2.2.take k⟩
  simp at hi
  rw [sI_o ho, h.2.2.1 i (by omega), gt_take (by omega)]
theorem keK_so {l : List Nat} {n : Int32} (h : keK l n = 0) : ∃ k, k < 2 ^ 31 ∧ n = nI k ∧ k ≤ l.length := by
  unfold keK at h
  rcases i_cases n with q | ⟨k, hk, rfl⟩
  · rw [if_pos q] at h; cases h
  · rw [if_neg (nI_pos hk), nI_clamp hk] at h
    refine ⟨k, hk, rfl, ?_⟩
    by_cases w : l.length < k
    · rw [if_pos w] at h; cases h
    · omega
theorem keK_01 (l : List Nat) (n : Int32) : keK l n = 0 ∨ keK l n = 1 := by
  unfold keK
  split
  · exact Or.inr rfl
  · split
    · exact Or.inr rfl
    · exact Or.inl rfl
theorem m_keep {c : hS} {b t : List Nat} {ms : List Mb} {n : Int32} (h : PM c b t ms) : MN (f_X12_keep c n) c (keK b n) () (keB b n) t ms := by
  obtain ⟨c1, e1, h1, z1, f1⟩ := m_zero h
  unfold f_X12_keep
  rw [e1]
  dsimp only [st1]
  rw [h1.1.2.1, m_in (a := 0) (a' := 0) (by decide) rfl, bnd_some, in_keep h1.1.lt]
  rcases keK_01 b n with k0 | k1
  · obtain ⟨k, hk, rfl, hkl⟩ := keK_so k0
    have e2 : keB b (nI k) = b.take k := by unfold keB; rw [if_pos k0, nI_clamp hk]
    rw [decide_eq_true k0, if_neg (by decide), k0, e2]
    unfold f_X12_keep_25
    rw [m_ref0 z1, bnd_some, if_pos rfl]
    have f2 : fm (fun o i => o = 201 ∧ i = 2) c1 (sI c1 201 2 (nI k)) := fm.sI ⟨rfl, rfl⟩
    exact ⟨(), _, rfl, by rw [sI_j (by decide)]; exact z1, fun _ => rfl, h1.bf f2 (fun o i z => by omega) (h1.1.cut (by decide) hkl), f1.tr (f2.mono (fun o i z => by omega))⟩
  · have e2 : keB b n = b := by unfold keB; rw [if_neg (by rw [k1]; decide)]
    rw [decide_eq_false (by rw [k1]; decide), if_pos (show bI false = 0 from rfl), k1, e2]
    unfold f_X12_keep_25
    rw [m_ref1 z1 (by decide), bnd_some, if_neg (by decide)]
    exact m_no h1 f1 (by decide) rfl
theorem m_end {c : hS} {b t : List Nat} {ms : List Mb} {n : Int32} (h : PM c b t ms) : MN (f_X12_end c n) c (keK t n) () b (keB t n) ms := by
  obtain ⟨c1, e1, h1, z1, f1⟩ := m_zero h
  unfold f_X12_end
  rw [e1]
  dsimp only [st1]
  rw [h1.2.1.2.1, m_in (a := 0) (a' := 0) (by decide) rfl, bnd_some, in_keep h1.2.1.lt]
  rcases keK_01 t n with k0 | k1
  · obtain ⟨k, hk, rfl, hkl⟩ := keK_so k0
    have e2 : keB t (nI k) = t.take k := by unfold keB; rw [if_pos k0, nI_clamp hk]
    rw [decide_eq_true k0, if_neg (by decide), k0, e2]
    unfold f_X12_end_25
    rw [m_ref0 z1, bnd_some, if_pos rfl]
    have f2 : fm (fun o i => o = 201 ∧ i = 4) c1 (sI c1 201 4 (nI k)) := fm.sI ⟨rfl, rfl⟩
    exact ⟨(), _, rfl, by rw [sI_j (by decide)]; exact z1, fun _ => rfl, h1.tp f2 (fun o i z => by omega) (h1.2.1.cut (by decide) hkl), f1.tr (f2.mono (fun o i z => by omega))⟩
  · have e2 : keB t n = t := by unfold keB; rw [if_neg (by rw [k1]; decide)]
    rw [decide_eq_false (by rw [k1]; decide), if_pos (show bI false = 0 from rfl), k1, e2]
    unfold f_X12_end_25
    rw [m_ref1 z1 (by decide), bnd_some, if_neg (by decide)]
    exact m_no h1 f1 (by decide) rfl
theorem m_typed {c : hS} {b t : List Nat} {ms : List Mb} {i : Int32} (h : PM c b t ms) : MN (f_X12_typed c i) c (tdK b i) (tdV b i) b t ms := by
  obtain ⟨c1, e1, h1, z1, f1⟩ := m_zero h
  have hbl : b.length ≤ 512 := h.1.1
  unfold f_X12_typed tdK
  rw [e1]
  dsimp only [st1]
  rw [h1.1.2.1, m_in (a := 0) (a' := 0) (by decide) rfl, bnd_some, in_has h1.1.lt]
  cases z : haB b i with
  | false =>
    rw [if_pos (show bI false = 0 from rfl), if_neg (by decide)]
    unfold f_X12_typed_27
    rw [m_ref1 z1 (by decide), bnd_some, if_neg (by decide)]
    exact m_no h1 f1 (by decide) rfl
  | true =>
    obtain ⟨k, hk, rfl, hkl⟩ := haB_so z
    rw [if_neg (by decide), if_pos rfl]
    unfold f_X12_typed_27 tdV
    rw [m_ref0 z1, bnd_some, if_pos rfl, j_in_nI (show k < ln 202 from (by show k < 512; omega)) (by decide), cond_true, nI_clamp hk, h1.1.2.2.1 k hkl]
    exact ⟨_, c1, rfl, z1, fun _ => rfl, h1, f1⟩
theorem m_count {c : hS} {b t : List Nat} {ms : List Mb} {w : Int32} (h : PM c b t ms) : MN (f_X12_count c w) c (coK w) (coV b t ms w) b t ms := by
  obtain ⟨c1, e1, h1, z1, f1⟩ := m_zero h
  unfold f_X12_count coK coV
  rw [e1]
  dsimp only [st1]
  rw [m_in (a := 0) (b := 2) (a' := 0) (b' := 2) (by decide) (by decide), bnd_some]
  have iff : (decide ((0 : Int32) ≤ w) && decide (w ≤ 2)) = decide (w = 0 ∨ w = 1 ∨ w = 2) := by
    rcases i_cases w with q | ⟨k, hk, rfl⟩
    · rw [decide_eq_false (Int32.not_le.mpr q), Bool.false_and, decide_eq_false]
      rintro (z | z | z) <;> (rw [z] at q; exact absurd q (by decide))
    · rw [decide_eq_true (Int32.not_lt.mp (nI_pos hk)), Bool.true_and]
      by_cases k2 : k ≤ 2
      · rw [decide_eq_true (show nI k ≤ 2 from nI_le (b := 2) k2 (by decide))]
        exact ((by decide : ∀ k, k ≤ 2 → true = decide (nI k = 0 ∨ nI k = 1 ∨ nI k = 2)) k k2)
      · rw [decide_eq_false (show ¬ nI k ≤ 2 from nI_ge (show 2 < k by omega) hk), decide_eq_false]
        rintro (z | z | z)
        · have := (nI_eq hk (show 0 < 2 ^ 31 by decide)).mp z; omega
        · have := (nI_eq hk (show 1 < 2 ^ 31 by decide)).mp z; omega
        · have := (nI_eq hk (show 2 < 2 ^ 31 by decide)).mp z; omega
  rw [iff]
  by_cases o : w = 0 ∨ w = 1 ∨ w = 2
  · rw [decide_eq_true o, if_neg (by decide), if_pos o]
    unfold f_X12_count_23
    rw [m_ref0 z1, bnd_some, if_pos rfl, h1.2.2.1, h1.1.2.1, h1.2.1.2.1]
    by_cases w0 : w = 0
    · rw [if_pos w0, if_pos w0]; exact ⟨_, c1, rfl, z1, fun _ => rfl, h1, f1⟩
    · by_cases w1 : w = 1
      · rw [if_neg w0, if_pos w1, if_neg w0, if_pos w1]; exact ⟨_, c1, rfl, z1, fun _ => rfl, h1, f1⟩
      · rw [if_neg w0, if_neg w1, if_neg w0, if_neg w1]; exact ⟨_, c1, rfl, z1, fun _ => rfl, h1, f1⟩
  · rw [decide_eq_false o, if_pos (show bI false = 0 from rfl), if_neg o]
    unfold f_X12_count_23
    rw [m_ref1 z1 (by decide), bnd_some, if_neg (by decide)]
    exact m_no h1 f1 (by decide) rfl
theorem m_fault {c : hS} {b t : List Nat} {ms : List Mb} {w : Int32} (h : PM c b t ms) : ∃ x c', f_X12_fault c w = some (x, c') ∧ PM c' b t ms ∧ fm (fun o _ => 201 ≤ o ∧ o < 219) c c' := by
  obtain ⟨c1, e1, h1, z1, f1⟩ := m_zero h
  unfold f_X12_fault
  rw [e1]
  dsimp only [st1]
  rw [m_in (a := 0) (b := 1) (a' := 0) (b' := 1) (by decide) (by decide), bnd_some]
  unfold f_X12_fault_21
  cases (decide ((0 : Int32) ≤ w) && decide (w ≤ 1)) with
  | true =>
    rw [if_neg (by decide), m_ref0 z1, bnd_some, if_pos rfl]
    by_cases w0 : w = 0
    · rw [if_pos w0]; exact ⟨_, c1, rfl, h1, f1⟩
    · rw [if_neg w0]; exact ⟨_, c1, rfl, h1, f1⟩
  | false =>
    rw [if_pos (show bI false = 0 from rfl), m_ref1 z1 (by decide), bnd_some, if_neg (by decide)]
    obtain ⟨x, c', a1, _, _, a4, a5⟩ := m_no (x := (0 : Int32)) (v := (0 : Int32)) (k := 1) h1 f1 (by decide) (show (1 : Int32) = nI 1 from rfl)
    exact ⟨x, c', a1, a4, a5⟩
