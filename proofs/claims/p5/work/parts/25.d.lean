/-! PURE: the reference: poke, at, feed -/
theorem mrw.set {c : hS} {j o k x : Nat} {l : List Nat} (h : mrw c j o l) (ho : o ≠ 201) (hk : k < l.length) (hx : x < 256) : mrw (sI c o k (nI x)) j o (l.set k x) := by
  refine ⟨by have := h.1; simpa using this, by rw [sI_o (fun z => ho z.symm), h.2.1, List.length_set], fun i hi => ?_, fun y hy => ?_⟩
  · have hi' : i < l.length := by simpa using hi
    by_cases e : i = k
    · rw [e, sI_s, gt_lt (by simpa using hk)]
      simp
    · rw [sI_j e, h.2.2.1 i hi', gt_lt hi', gt_lt hi]
      rw [List.getElem_set_ne (fun z => e z.symm)]
  · rcases List.mem_or_eq_of_mem_set hy with q | q
    · exact h.2.2.2 y q
    · rw [q]; exact hx
theorem m_poke {c : hS} {b t : List Nat} {ms : List Mb} {i v : Int32} (h : PM c b t ms) : MN (f_X12_poke c i v) c (poK t i v) (tdV t i) b (poT t i v) ms := by
  obtain ⟨c1, e1, h1, z1, f1⟩ := m_zero h
  have htl : t.length ≤ 20000 := h.2.1.1
  unfold f_X12_poke
  rw [e1]
  dsimp only [st1]
  rw [h1.2.1.2.1, m_in (a := 0) (a' := 0) (by decide) rfl, bnd_some, in_has h1.2.1.lt]
  unfold f_X12_poke_27
  cases z : haB t i with
  | false =>
    have k1 : poK t i v = 1 := by unfold poK; rw [z]; rfl
    have e2 : poT t i v = t := by unfold poT; rw [if_neg (by rw [k1]; decide)]
    rw [if_pos (show bI false = 0 from rfl), m_ref1 z1 (by decide), bnd_some, if_neg (by decide), k1, e2]
    exact m_no h1 f1 (by decide) rfl
  | true =>
    obtain ⟨k, hk, rfl, hkl⟩ := haB_so z
    rw [if_neg (by decide), m_ref0 z1, bnd_some, if_pos rfl, m_in (a := 0) (b := 255) (a' := 0) (b' := 255) (by decide) (by decide), bnd_some]
    unfold f_X12_poke_52
    cases hw : (decide ((0 : Int32) ≤ v) && decide (v ≤ 255)) with
    | false =>
      have hor : v < 0 ∨ 255 < v := by
        rcases Bool.and_eq_false_iff.mp hw with q | q
        · exact Or.inl (Int32.not_le.mp (of_decide_eq_false q))
        · exact Or.inr (Int32.not_le.mp (of_decide_eq_false q))
      have k1 : poK t (nI k) v = 2 := by unfold poK; rw [if_pos z, if_pos hor]
      have e2 : poT t (nI k) v = t := by unfold poT; rw [if_neg (by rw [k1]; decide)]
      rw [if_pos (show bI false = 0 from rfl), m_ref1 z1 (by decide), bnd_some, if_neg (by decide), k1, e2]
      exact m_no h1 f1 (by decide) rfl
    | true =>
      have hh : (0 : Int32) ≤ v ∧ v ≤ 255 := by simpa using hw
      have hor : ¬ (v < 0 ∨ 255 < v) := fun q => q.elim (Int32.not_lt.mpr hh.1) (Int32.not_lt.mpr hh.2)
      have k1 : poK t (nI k) v = 0 := by unfold poK; rw [if_pos z, if_neg hor]
      have e2 : poT t (nI k) v = t.set k (b8 v) := by unfold poT; rw [if_pos k1, nI_clamp hk]
      have ev : v = nI (b8 v) := by
        rcases i_cases v with q | ⟨y, hy, rfl⟩
        · exact absurd q (Int32.not_lt.mpr hh.1)
        · have : y ≤ 255 := (nI_leI hy (show 255 < 2 ^ 31 by decide)).mp hh.2
          rw [b8_nI' (by omega)]
      rw [if_neg (by decide), m_ref0 z1, bnd_some, if_pos rfl, j_in_nI (show k < ln 203 from (by show k < 20000; omega)) (by decide), cond_true, cond_true, nI_clamp hk, h1.2.1.2.2.1 k hkl, k1, e2]
      dsimp only [st1]
      unfold tdV
      rw [nI_clamp hk]
      have hr := h1.2.1.set (x := b8 v) (by decide) hkl (b8_lt v)
      rw [← ev] at hr
      have f2 : fm (fun o i => o = 203) c1 (sI c1 203 k v) := fm.sI rfl
      exact ⟨_, _, rfl, by rw [sI_o (by decide)]; exact z1, fun _ => rfl, h1.tp f2 (fun o i z => by omega) hr, f1.tr (f2.mono (fun o i z => by omega))⟩
theorem m_at {N : Nat} {c : hS} {b t : List Nat} {ms : List Mb} {i n : Int32} (hN : 1000000 ≤ N) (h : PM c b t ms) : MN (f_X12_at N c i n) c (atK t i n) (atV t i n) b t ms := by
  obtain ⟨c1, e1, h1, z1, f1⟩ := m_zero h
  have htl : t.length ≤ 20000 := h.2.1.1
  have no2 : atK t i n = 2 → MN (f_X12_at_50 N i n c1 1) c (atK t i n) (atV t i n) b t ms := by
    intro k1
    unfold f_X12_at_50
    rw [m_ref1 z1 (by decide), bnd_some, if_neg (by decide), k1]
    exact m_no h1 f1 (by decide) rfl
  unfold f_X12_at
  rw [e1]
  dsimp only [st1]
  rw [m_in (a := 1) (b := 8) (a' := 1) (b' := 8) (by decide) (by decide), bnd_some]
  unfold f_X12_at_23
  cases hw : (decide ((1 : Int32) ≤ n) && decide (n ≤ 8)) with
  | false =>
    have hor : n < 1 ∨ 8 < n := by
      rcases Bool.and_eq_false_iff.mp hw with q | q
      · exact Or.inl (Int32.not_le.mp (of_decide_eq_false q))
      · exact Or.inr (Int32.not_le.mp (of_decide_eq_false q))
    have k1 : atK t i n = 1 := by unfold atK; rw [if_pos hor]
    rw [if_pos (show bI false = 0 from rfl), m_ref1 z1 (by decide), bnd_some, if_neg (by decide), k1]
    exact m_no h1 f1 (by decide) rfl
  | true =>
    have hh : (1 : Int32) ≤ n ∧ n ≤ 8 := by simpa using hw
    have hor : ¬ (n < 1 ∨ 8 < n) := fun q => q.elim (Int32.not_lt.mpr hh.1) (Int32.not_lt.mpr hh.2)
    rw [if_neg (by decide), m_ref0 z1, bnd_some, if_pos rfl]
    unfold f_X12_at_45
    by_cases i0 : i < 0
    · rw [if_pos i0]
      exact no2 (by unfold atK; rw [if_neg hor, if_pos (Or.inl i0)])
    · rw [if_neg i0, h1.2.1.2.1]
      rcases i_cases n with q | ⟨k, hk, rfl⟩
      · exact absurd (Int32.lt_of_lt_of_le q (by decide)) (Int32.not_lt.mpr hh.1)
      · have k8 : k ≤ 8 := (nI_leI hk (show 8 < 2 ^ 31 by decide)).mp hh.2
        rcases i_cases i with q | ⟨p, hp, rfl⟩
        · exact absurd q i0
        · by_cases w : p + k ≤ t.length
          · have k1 : atK t (nI p) (nI k) = 0 := by
              unfold atK
              rw [if_neg hor, nI_clamp hp, nI_clamp hk, if_neg]
              rintro (z | z)
              · exact nI_pos hp z
              · omega
            rw [subI (by omega), if_pos (nI_le (show p ≤ t.length - k by omega) (by omega)), k1]
            unfold f_X12_at_50
            rw [m_ref0 z1, bnd_some, if_pos rfl]
            have key : ∀ d m j v, j + d = k → d < m → f_X12_at_64 N (nI p) (nI k) m c1 v (nI j) = some (atF t p d j v, c1) := by
              intro d
              induction d with
              | zero =>
                intro m j v hj hm
                obtain ⟨m, rfl⟩ : ∃ m', m = m' + 1 := ⟨m - 1, by omega⟩
                rw [f_X12_at_64, if_pos (nI_le (by omega) (by omega))]
                rfl
              | succ d ih =>
                intro m j v hj hm
                obtain ⟨m, rfl⟩ : ∃ m', m = m' + 1 := ⟨m - 1, by omega⟩
                rw [f_X12_at_64, if_neg (nI_ge (by omega) (by omega)), nI_add, j_in_nI (show p + j < ln 203 from (by show p + j < 20000; omega)) (by decide), cond_true, nI_clamp (by omega), h1.2.1.2.2.1 (p + j) (by omega), nI_1, ih m (j + 1) _ (by omega) (by omega)]
                rfl
            unfold atV
            rw [nI_clamp hp, nI_clamp hk]
            exact ⟨_, c1, key k N 0 0 (by omega) (by omega), z1, fun _ => rfl, h1, f1⟩
          · have k1 : atK t (nI p) (nI k) = 2 := by unfold atK; rw [if_neg hor, nI_clamp hp, nI_clamp hk, if_pos (Or.inr (by omega))]
            have ng : ¬ nI p ≤ nI t.length - nI k := by
              by_cases w2 : k ≤ t.length
              · rw [subI w2]; exact nI_ge (by omega) hp
              · intro z
                have := (by decide +kernel : ∀ a, a < 8 → ∀ b, b < 9 → a < b → nI a - nI b < 0) t.length (by omega) k (by omega) (by omega)
                exact nI_pos hp (Int32.lt_of_le_of_lt z this)
            rw [if_neg ng]
            exact no2 k1
