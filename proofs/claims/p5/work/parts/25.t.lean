/-! PURE: the reference: rows of lengths -/
theorem idx_pad {l : List Nat} {k m : Nat} (hm : 1 ≤ m) : ∀ j, j ≤ k → idxN (l ++ List.replicate k 0) m (l.length + j) = idxN l m l.length
  | 0, _ => by
    unfold idxN
    rw [Nat.add_zero]
    apply List.filter_congr
    intro x hx
    rw [List.mem_range] at hx
    rw [gt_app_l hx]
  | j + 1, hj => by
    rw [← Nat.add_assoc, idxN_s, idx_pad hm j (by omega), gt_app_r (by omega), Nat.add_sub_cancel_left, gt_rep, if_neg (by split <;> omega), List.append_nil]
theorem cnt_pad {l : List Nat} {k m : Nat} (hm : 1 ≤ m) : cnt (l ++ List.replicate k 0) m = cnt l m := by
  unfold cnt cntN
  rw [List.length_append, List.length_replicate, idx_pad hm k (Nat.le_refl _)]
theorem sy_pad {l : List Nat} {k m i : Nat} (hm : 1 ≤ m) : sy (l ++ List.replicate k 0) m i = sy l m i := by
  unfold sy
  rw [List.length_append, List.length_replicate, idx_pad hm k (Nat.le_refl _)]
theorem mxN_pad {l : List Nat} {k : Nat} : ∀ L, mxN (l ++ List.replicate k 0) L = mxN l L
  | 0 => rfl
  | L + 1 => by
    unfold mxN
    rw [cnt_pad (by omega), mxN_pad L]
theorem ful_pad {l : List Nat} {k : Nat} : ∀ L, ful (l ++ List.replicate k 0) L = ful l L
  | 0 => rfl
  | L + 1 => by
    unfold ful
    rw [cnt_pad (by omega), ful_pad L]
theorem off_pad {l : List Nat} {k : Nat} : ∀ L, off (l ++ List.replicate k 0) (L + 1) = off l (L + 1)
  | 0 => rfl
  | L + 1 => by
    rw [off_s (lens := l ++ List.replicate k 0) (l := L + 1) (by omega), off_s (lens := l) (l := L + 1) (by omega), cnt_pad (by omega), off_pad L]
theorem dcd_pad {t l : List Nat} {e k : Nat} : ∀ r m code first b, 1 ≤ m → dcd t e (l ++ List.replicate k 0) r m code first b = dcd t e l r m code first b
  | 0, _, _, _, _, _ => rfl
  | r + 1, m, code, first, b, hm => by
    unfold dcd
    rw [cnt_pad hm, sy_pad hm, mxN_pad, dcd_pad r (m + 1) _ _ _ (by omega)]
theorem dec_pad {t l : List Nat} {e k b : Nat} : dec t e (l ++ List.replicate k 0) b = dec t e l b := dcd_pad 15 1 0 0 b (by omega)
/-- how full with the first i lengths -/
noncomputable def FN (lens : List Nat) (i : Nat) : Nat → Nat
  | 0 => 0
  | l + 1 => FN lens i l + cntN lens (l + 1) i * 2 ^ (15 - (l + 1))
theorem FN_ful (lens : List Nat) : ∀ L, FN lens lens.length L = ful lens L
  | 0 => rfl
  | L + 1 => by unfold FN ful; rw [FN_ful lens L]; rfl
theorem FN_0 (lens : List Nat) : ∀ L, FN lens 0 L = 0
  | 0 => rfl
  | L + 1 => by unfold FN; rw [FN_0 lens L]; show 0 + 0 * _ = 0; rw [Nat.zero_mul]
theorem FN_s (lens : List Nat) (i : Nat) : ∀ L, FN lens (i + 1) L = FN lens i L + (if 0 < gt lens i ∧ gt lens i ≤ L then 2 ^ (15 - gt lens i) else 0)
  | 0 => by rw [if_neg (by omega)]; rfl
  | L + 1 => by
    unfold FN
    rw [FN_s lens i L, cntN_s]
    by_cases q : gt lens i = L + 1
    · rw [if_pos q, if_neg (by omega), if_pos (by omega), q, Nat.add_mul, Nat.one_mul]
      omega
    · rw [if_neg q, Nat.add_zero]
      by_cases w : 0 < gt lens i ∧ gt lens i ≤ L
      · rw [if_pos w, if_pos (by omega)]; omega
      · rw [if_neg w, if_neg (by omega)]; omega
theorem FN_le {lens : List Nat} : ∀ i, FN lens i 15 ≤ i * 2 ^ 14
  | 0 => by rw [FN_0]; exact Nat.zero_le _
  | i + 1 => by
    rw [FN_s]
    have := FN_le (lens := lens) i
    have h2 : (if 0 < gt lens i ∧ gt lens i ≤ 15 then 2 ^ (15 - gt lens i) else 0) ≤ 2 ^ 14 := by
      split
      · exact Nat.pow_le_pow_right (by decide) (by omega)
      · exact Nat.zero_le _
    rw [Nat.add_mul, Nat.one_mul]
    omega
theorem m_fullness {N base : Nat} {c : hS} {lens : List Nat} {p1 p2 : Int32} (hN : 1000000 ≤ N) (h : mln c base lens) (h1 : p1 = nI base) (h2 : p2 = nI lens.length) : f_X12_fullness N c p1 p2 = some (nI (ful lens 15), c) := by
  subst h1 h2
  have hb := h.1
  have key : ∀ d m i, i + d = lens.length → d < m → f_X12_fullness_5 N (nI base) (nI lens.length) m c (nI (FN lens i 15)) (nI (base + i)) = some (nI (ful lens 15), c) := by
    intro d
    induction d with
    | zero =>
      intro m i hi hm
      obtain ⟨m, rfl⟩ : ∃ j, m = j + 1 := ⟨m - 1, by omega⟩
      have : i = lens.length := by omega
      subst this
      rw [f_X12_fullness_5, nI_add, if_pos (nI_le (Nat.le_refl _) (by omega)), FN_ful]
    | succ d ih =>
      intro m i hi hm
      obtain ⟨m, rfl⟩ : ∃ j, m = j + 1 := ⟨m - 1, by omega⟩
      obtain ⟨v1, v2⟩ := h.2 i (by omega)
      have fs := FN_s lens i 15
      rw [f_X12_fullness_5, nI_add, if_neg (nI_ge (by omega) (by omega)), j_in_nI (show base + i < ln 212 from (by show base + i < 360; omega)) (by decide), cond_true, cond_true, nI_clamp (by omega), v1, nI_1]
      by_cases q : gt lens i = 0
      · rw [if_neg (by omega)] at fs
        rw [if_pos (show nI (gt lens i) ≤ 0 by rw [q]; decide), show nI (FN lens i 15) + 0 = nI (FN lens i 15 + 0) from nI_add _ 0, ← fs]
        exact ih m (i + 1) (by omega) (by omega)
      · rw [if_pos (by omega)] at fs
        have e : (32768 : Nat) / 2 ^ gt lens i = 2 ^ (15 - gt lens i) := (by decide : ∀ g, g < 16 → (32768 : Nat) / 2 ^ g = 2 ^ (15 - g)) _ v2
        rw [if_neg (nI_nle (by omega) (by omega)), show (32768 : Int32) = nI 32768 from rfl, shr_nI (by decide) (by omega), e, nI_add, ← fs]
        exact ih m (i + 1) (by omega) (by omega)
  unfold f_X12_fullness
  have := key lens.length N 0 (by omega) (by omega)
  rw [FN_0] at this
  exact this
/-- the reference's row of lengths as they come -/
noncomputable def mrow (c : hS) (row : List Nat) : Prop := (∀ i, i < row.length → c.1 214 i = nI (gt row i) ∧ gt row i < 16) ∧ row.length ≤ 316
theorem mrow_fm {P : Nat → Nat → Prop} {c c1 : hS} {row : List Nat} (h : mrow c row) (hf : fm P c c1) (hP : ∀ i, ¬ P 214 i) : mrow c1 row := ⟨fun i hi => ⟨(hf.1 _ _ (hP i)).trans (h.1 i hi).1, (h.1 i hi).2⟩, h.2⟩
theorem mrow_add {c : hS} {row : List Nat} {x : Nat} (h : mrow c row) (hx : x < 16) (hl : row.length < 316) : mrow (sI c 214 row.length (nI x)) (row ++ [x]) := by
  refine ⟨fun i hi => ?_, by simp; omega⟩
  simp only [List.length_append, List.length_cons, List.length_nil] at hi
  by_cases q : i = row.length
  · rw [q, sI_s, gt_app_r (Nat.le_refl _), Nat.sub_self]
    exact ⟨rfl, hx⟩
  · rw [sI_j q, gt_app_l (by omega)]
    exact h.1 i (by omega)
noncomputable def RF (o i : Nat) : Prop := F56 o i ∨ o = 214
theorem b_fail {c : hS} {a p : Int32} {P : Nat → Nat → Prop} (hP : ∀ i, (i = 5 ∨ i = 6) → P 201 i) : ∃ c', (bnd (f_X12_fails c a p) fun x3 c4 => bif j_b x3 then some (x3, c4) else none) = some (0, c') ∧ fm P c c' := by
  obtain ⟨c', e1, f1⟩ := m_failsX (c := c) (a := a) (p := p)
  rw [e1, bnd_some]
  exact ⟨c', rfl, f1.mono (fun o i z => by obtain ⟨rfl, z⟩ := z; exact hP i z)⟩
theorem m_readRow {N : Nat} {c : hS} {t cl : List Nat} {b e all : Nat} {p1 p2 : Int32} (hN : 1000000 ≤ N) (h : UB c t b e) (hc : mcd c 340 cl) (hcl : cl.length = 19) (hful : ful cl 15 = 32768) (hall : all ≤ 316) (h1 : p1 = nI all) : ∃ c', f_X12_readRow N c p1 p2 = some (bI (rws t e cl all 320 b []).isSome, c') ∧ fm RF c c' ∧ ∀ row b', rws t e cl all 320 b [] = some (row, b') → UB c' t b' e ∧ mrow c' row := by
  subst h1
  -- fill
  have fill : ∀ d m j n v c (row : List Nat) (k2 : hS → Int32 → Option (Int32 × hS)), j + d = n → d < m → n < 2 ^ 31 → row.length + d ≤ 316 → v < 16 → mrow c row → ∃ c', f_X12_readRow_161 N (nI all) p2 k2 m c (nI row.length) (nI n) (nI v) (nI j) = k2 c' (nI (row.length + d)) ∧ mrow c' (row ++ List.replicate d v) ∧ fm (fun o i => o = 214) c c' := by
    intro d
    induction d with
    | zero =>
      intro m j n v c row k2 hj hm hn hl hv hr
      obtain ⟨m, rfl⟩ : ∃ j, m = j + 1 := ⟨m - 1, by omega⟩
      rw [f_X12_readRow_161, if_pos (nI_le (by omega) (by omega))]
      exact ⟨c, rfl, by simpa using hr, fm.rf⟩
    | succ d ih =>
      intro m j n v c row k2 hj hm hn hl hv hr
      obtain ⟨m, rfl⟩ : ∃ j, m = j + 1 := ⟨m - 1, by omega⟩
      obtain ⟨c', a1, a2, a3⟩ := ih m (j + 1) n v _ _ k2 (by omega) (by omega) hn (by simp; omega) hv (mrow_add hr hv (by omega))
      rw [f_X12_readRow_161, if_neg (nI_ge (by omega) (by omega)), j_in_nI (show row.length < ln 214 from (by show row.length < 330; omega)) (by decide), cond_true, nI_clamp (by omega), nI_1, nI_1]
      have el : (row ++ [v]).length = row.length + 1 := by simp
      rw [el] at a1
      refine ⟨c', ?_, ?_, (fm.sI (P := fun o i => o = 214) rfl).tr a3⟩
      · rw [show row.length + (d + 1) = row.length + 1 + d by omega]
        exact a1
      · rw [List.replicate_succ]
        simpa using a2
  have key : ∀ f n b c row, all < row.length + f → f < n → row.length ≤ all → UB c t b e → mrow c row → mcd c 340 cl → ∃ c', f_X12_readRow_2 N (nI all) p2 n c (nI row.length) = some (bI (rws t e cl all f b row).isSome, c') ∧ fm RF c c' ∧ ∀ row' b', rws t e cl all f b row = some (row', b') → UB c' t b' e ∧ mrow c' row' := by
    intro f
    induction f with
    | zero => intro n b c row h1 _ h2; omega
    | succ f ih =>
      intro n b c row hf hn hrl hu hr hc
      obtain ⟨n, rfl⟩ : ∃ m, n = m + 1 := ⟨n - 1, by omega⟩
      rw [f_X12_readRow_2]
      unfold rws
      by_cases q1 : all ≤ row.length
      · rw [if_pos (nI_le q1 (by omega)), if_pos q1]
        exact ⟨c, rfl, fm.rf, fun row' b' z => by cases z; exact ⟨hu, hr⟩⟩
      · rw [if_neg (nI_ge (by omega) (by omega)), if_neg q1]
        obtain ⟨x, c2, e2, g2⟩ := m_symbol (p1 := 340) (p2 := 19) hN hu hc (by omega) rfl (by rw [hcl]; rfl)
        rw [e2, bnd_some]
        cases hd : dec t e cl b with
        | none =>
          rw [hd] at g2
          rcases g2.1 with ⟨_, z⟩ | ⟨_, _, z⟩
          · rw [if_neg z]
            exact ⟨c2, rfl, g2.2.mono (fun o i z => Or.inl z), fun _ _ z => by cases z⟩
          · exact absurd hful z
        | some p =>
          obtain ⟨s, b1⟩ := p
          rw [hd] at g2
          obtain ⟨ex, u2, f2⟩ := g2
          have ex : x = nI s := ex
          have u2 : UB c2 t b1 e := u2
          have dl := dec_lt hd
          have s19 : s < 19 := by omega
          have r2 : mrow c2 row := mrow_fm hr f2 (fun i => by unfold F25; omega)
          have hc2 : mcd c2 340 cl := mcd_fm hc f2 (fun o i z => by unfold F25 at z; omega)
          have fz : fm RF c c2 := f2.mono (fun o i z => Or.inl (F25_56 z))
          rw [ex, if_pos u2.2.2.2.2.2]
          dsimp only
          by_cases s16 : s < 16
          · have er : rep t e all row s b1 = some (row ++ [s], b1) := by
              unfold rep repB repL repV
              rw [if_neg (by omega), if_pos s16, if_pos s16, if_pos s16, if_pos (by omega)]
              show (if row.length + (1 + 0) ≤ all then some (row ++ List.replicate (1 + 0) s, b1 + 0) else none) = _
              rw [if_pos (by omega)]
              rfl
            have fs : fm RF c2 (sI c2 214 row.length (nI s)) := fm.sI (Or.inr rfl)
            have fs' : fm (fun o i => o = 214) c2 (sI c2 214 row.length (nI s)) := fm.sI rfl
            have el : (row ++ [s]).length = row.length + 1 := by simp
            obtain ⟨c', a1, a2, a3⟩ := ih n b1 _ (row ++ [s]) (by omega) (by omega) (by omega) (u2.fm' fs' (fun o i z => ⟨by omega, by omega⟩)) (mrow_add r2 s16 (by omega)) (mcd_fm hc2 fs' (fun o i z => by omega))
            rw [if_neg (show ¬ (16 : Int32) ≤ nI s from nI_ge (b := 16) s16 (by decide)), j_in_nI (show row.length < ln 214 from (by show row.length < 330; omega)) (by decide), cond_true, nI_clamp (by omega), nI_1, er]
            dsimp only [st1]
            rw [el] at a1
            exact ⟨c', a1, (fz.tr fs).tr a2, a3⟩
          · rw [if_pos (show (16 : Int32) ≤ nI s from nI_le (a := 16) (by omega) (by omega))]
            -- behind the test of 16 with none before
            have go : ¬ (s = 16 ∧ row.length = 0) → ∃ c', f_X12_readRow_67 N (nI all) p2 (f_X12_readRow_2 N (nI all) p2 n) c2 (nI row.length) (nI s) = some (bI (match rep t e all row s b1 with | none => none | some q => rws t e cl all f q.2 q.1).isSome, c') ∧ fm RF c2 c' ∧ ∀ row' b', (match rep t e all row s b1 with | none => none | some q => rws t e cl all f q.2 q.1) = some (row', b') → UB c' t b' e ∧ mrow c' row' := by
              intro hne
              -- with the number of bits
              have w110 : ∀ (k L : Nat) (p L' : Int32), repB s = k → repL s = L → p = nI k → L' = nI L → k ≤ 16 → L < 100 → ∃ c', (bnd (f_X12_bits N c2 p) fun x5 c6 => f_X12_readRow_110 N (nI all) p2 (f_X12_readRow_2 N (nI all) p2 n) c6 (nI row.length) (nI s) (L' + x5)) = some (bI (match rep t e all row s b1 with | none => none | some q => rws t e cl all f q.2 q.1).isSome, c') ∧ fm RF c2 c' ∧ ∀ row' b', (match rep t e all row s b1 with | none => none | some q => rws t e cl all f q.2 q.1) = some (row', b') → UB c' t b' e ∧ mrow c' row' := by
                intro k L p L' hk hL hp hL' hk16 hL100
                subst hp hL'
                unfold rep
                rw [if_neg hne, hk, hL]
                by_cases q2 : b1 + k ≤ e
                · obtain ⟨c6, e6, u6, f6⟩ := m_bits hN u2 q2 hk16 rfl
                  have bl := bv_lt t b1 k
                  have bl2 : 2 ^ k ≤ 2 ^ 16 := Nat.pow_le_pow_right (by decide) hk16
                  have r6 : mrow c6 row := mrow_fm r2 f6 (fun i => by unfold F25; omega)
                  have hc6 : mcd c6 340 cl := mcd_fm hc2 f6 (fun o i z => by unfold F25 at z; omega)
                  have fz6 : fm RF c2 c6 := f6.mono (fun o i z => Or.inl (F25_56 z))
                  rw [if_pos q2, e6, bnd_some, nI_add]
                  unfold f_X12_readRow_110
                  rw [if_pos u6.2.2.2.2.2, nI_add]
                  obtain ⟨n', en⟩ : ∃ n', n' = L + bv t b1 k := ⟨_, rfl⟩
                  rw [← en]
                  have hL1 : 1 ≤ L := by rw [← hL]; unfold repL; split <;> (try split) <;> omega
                  by_cases q3 : row.length + n' ≤ all
                  · rw [if_pos (nI_le q3 (by omega)), if_pos q3]
                    dsimp only
                    have run : ∀ v, v < 16 → repV row s = v → ∃ c', f_X12_readRow_161 N (nI all) p2 (f_X12_readRow_2 N (nI all) p2 n) N c6 (nI row.length) (nI n') (nI v) 0 = some (bI (rws t e cl all f (b1 + k) (row ++ List.replicate n' (repV row s))).isSome, c') ∧ fm RF c2 c' ∧ ∀ row' b', rws t e cl all f (b1 + k) (row ++ List.replicate n' (repV row s)) = some (row', b') → UB c' t b' e ∧ mrow c' row' := by
                      intro v hv erv
                      obtain ⟨c7, a1, a2, a3⟩ := fill n' N 0 n' v c6 row (f_X12_readRow_2 N (nI all) p2 n) (by omega) (by omega) (by omega) (by omega) hv r6
                      have a1' : f_X12_readRow_161 N (nI all) p2 (f_X12_readRow_2 N (nI all) p2 n) N c6 (nI row.length) (nI n') (nI v) 0 = _ := a1
                      have el : (row ++ List.replicate n' v).length = row.length + n' := by simp
                      obtain ⟨c8, d1, d2, d3⟩ := ih n (b1 + k) c7 (row ++ List.replicate n' v) (by omega) (by omega) (by omega) (u6.fm' a3 (fun o i z => ⟨by omega, by omega⟩)) a2 (mcd_fm hc6 a3 (fun o i z => by omega))
                      rw [a1', erv]
                      rw [el] at d1
                      exact ⟨c8, d1, (fz6.tr (a3.mono (fun o i z => Or.inr z))).tr d2, d3⟩
                    by_cases q4 : s = 16
                    · have rl : row.length ≠ 0 := fun z => hne ⟨q4, z⟩
                      have gv := r6.1 (row.length - 1) (by omega)
                      rw [if_pos (show nI s = 16 by rw [q4]; rfl), show nI row.length - 1 = nI (row.length - 1) from subI (b := 1) (by omega), j_in_nI (show row.length - 1 < ln 214 from (by show row.length - 1 < 330; omega)) (by decide), cond_true, nI_clamp (by omega), gv.1]
                      exact run _ gv.2 (by unfold repV; rw [if_neg s16, if_pos q4])
                    · rw [if_neg (show ¬ nI s = 16 from fun z => q4 ((nI_eq (b := 16) (by omega) (by decide)).mp z))]
                      exact run 0 (by decide) (by unfold repV; rw [if_neg s16, if_neg q4])
                  · rw [if_neg (nI_ge (by omega) (by omega)), if_neg q3]
                    obtain ⟨c7, a1, a2⟩ := b_fail (c := c6) (a := 24) (p := p2) (P := RF) (fun i z => Or.inl ⟨rfl, by omega⟩)
                    exact ⟨c7, a1, fz6.tr a2, fun _ _ z => by cases z⟩
                · obtain ⟨x6, c6, e6, v6, f6⟩ := m_bits_no hN u2 (by omega) hk16 (rfl : nI k = nI k)
                  rw [if_neg q2, e6, bnd_some]
                  unfold f_X12_readRow_110
                  rw [if_neg v6]
                  exact ⟨c6, rfl, f6.mono (fun o i z => Or.inl z), fun _ _ z => by cases z⟩
              unfold f_X12_readRow_67
              by_cases q4 : s = 16
              · rw [if_pos (show nI s = 16 by rw [q4]; rfl)]
                exact w110 2 3 2 3 (by unfold repB; rw [if_neg s16, if_pos q4]) (by unfold repL; rw [if_neg s16, if_neg (by omega)]) rfl rfl (by decide) (by decide)
              · rw [if_neg (show ¬ nI s = 16 from fun z => q4 ((nI_eq (b := 16) (by omega) (by decide)).mp z))]
                by_cases q5 : s = 17
                · rw [if_pos (show nI s = 17 by rw [q5]; rfl)]
                  exact w110 3 3 3 3 (by unfold repB; rw [if_neg s16, if_neg q4, if_pos q5]) (by unfold repL; rw [if_neg s16, if_neg (by omega)]) rfl rfl (by decide) (by decide)
                · rw [if_neg (show ¬ nI s = 17 from fun z => q5 ((nI_eq (b := 17) (by omega) (by decide)).mp z))]
                  exact w110 7 11 7 11 (by unfold repB; rw [if_neg s16, if_neg q4, if_neg q5]) (by unfold repL; rw [if_neg s16, if_pos (by omega)]) rfl rfl (by decide) (by decide)
            have lift : (∃ c', f_X12_readRow_67 N (nI all) p2 (f_X12_readRow_2 N (nI all) p2 n) c2 (nI row.length) (nI s) = some (bI (match rep t e all row s b1 with | none => none | some q => rws t e cl all f q.2 q.1).isSome, c') ∧ fm RF c2 c' ∧ ∀ row' b', (match rep t e all row s b1 with | none => none | some q => rws t e cl all f q.2 q.1) = some (row', b') → UB c' t b' e ∧ mrow c' row') → ∃ c', f_X12_readRow_67 N (nI all) p2 (f_X12_readRow_2 N (nI all) p2 n) c2 (nI row.length) (nI s) = some (bI (match rep t e all row s b1 with | none => none | some q => rws t e cl all f q.2 q.1).isSome, c') ∧ fm RF c c' ∧ ∀ row' b', (match rep t e all row s b1 with | none => none | some q => rws t e cl all f q.2 q.1) = some (row', b') → UB c' t b' e ∧ mrow c' row' := fun ⟨c', a1, a2, a3⟩ => ⟨c', a1, fz.tr a2, a3⟩
            by_cases q4 : s = 16
            · rw [if_pos (show nI s = 16 by rw [q4]; rfl)]
              by_cases q5 : row.length = 0
              · have er : rep t e all row s b1 = none := by unfold rep; rw [if_pos ⟨q4, q5⟩]
                rw [if_pos (show nI row.length = 0 by rw [q5]; rfl), er]
                obtain ⟨c7, a1, a2⟩ := b_fail (c := c2) (a := 24) (p := p2) (P := RF) (fun i z => Or.inl ⟨rfl, by omega⟩)
                exact ⟨c7, a1, fz.tr a2, fun _ _ z => by cases z⟩
              · rw [if_neg (nI_ne0 (by omega) (by omega))]
                exact lift (go (fun z => q5 z.2))
            · rw [if_neg (show ¬ nI s = 16 from fun z => q4 ((nI_eq (b := 16) (by omega) (by decide)).mp z))]
              exact lift (go (fun z => q4 z.1))
  exact key 320 N b c [] (by simp; omega) (by omega) (by simp) h ⟨fun i hi => by simp at hi, by simp⟩ hc
