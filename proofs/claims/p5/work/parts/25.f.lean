/-! PURE: the reference: names of members, the new name -/
noncomputable def msl (m o i : Nat) : Prop := ((o = 204 ∨ o = 206 ∨ o = 208) ∧ i = m) ∨ (o = 205 ∧ 90 * m ≤ i ∧ i < 90 * m + 90) ∨ (o = 207 ∧ 400 * m ≤ i ∧ i < 400 * m + 400)
theorem mmbAt {P : Nat → Nat → Prop} {c c1 : hS} {m : Nat} {x : Mb} (h : mmb c m x) (hf : fm P c c1) (h1 : ∀ o i, P o i → ¬ msl m o i) : mmb c1 m x := by
  have n : ∀ o i, msl m o i → c1.1 o i = c.1 o i := fun o i q => hf.1 _ _ (fun z => h1 o i z q)
  have l1 := h.1.2.2.1
  have l2 := h.2.1.2.2.1
  exact ⟨⟨(n _ _ (Or.inl ⟨Or.inl rfl, rfl⟩)).trans h.1.1, fun i hi => (n _ _ (Or.inr (Or.inl ⟨rfl, by omega, by omega⟩))).trans (h.1.2.1 i hi), h.1.2.2⟩, ⟨(n _ _ (Or.inl ⟨Or.inr (Or.inl rfl), rfl⟩)).trans h.2.1.1, fun i hi => (n _ _ (Or.inr (Or.inr ⟨rfl, by omega, by omega⟩))).trans (h.2.1.2.1 i hi), h.2.1.2.2⟩, (n _ _ (Or.inl ⟨Or.inr (Or.inr rfl), rfl⟩)).trans h.2.2⟩
theorem m_nameAt {c : hS} {m i : Nat} {x : Mb} (h : mmb c m x) (hm : m < 34) (hi : i < x.1.length) : f_X12_nameAt c (nI m) (nI i) = some (nI (gt x.1 i), c) := by
  have := h.1.2.2.1
  unfold f_X12_nameAt
  rw [show (90 : Int32) * nI m + nI i = nI (90 * m + i) from by rw [show (90 : Int32) = nI 90 from rfl, nI_mul, nI_add], j_in_nI (show 90 * m + i < ln 205 from (by show 90 * m + i < 3060; omega)) (by decide), cond_true, nI_clamp (by omega), h.1.2.1 i hi]
theorem same_loop {F : Nat → hS → Int32 → Int32 → Option (Int32 × hS)} {c : hS} {j : Nat} {P : Nat → Bool} (hs : ∀ n k, k < j → F (n + 1) c 1 (nI k) = F n c (bI (P k)) (nI k + 1)) (h1 : ∀ n, F (n + 1) c 1 (nI j) = some (1, c)) (h0 : ∀ n k, k ≤ j → F (n + 1) c 0 (nI k) = some (0, c)) : ∀ d n k b, k + d = j → d < n → F n c (bI b) (nI k) = some (bI (b && (List.range' k d).all P), c) := by
  intro d
  induction d with
  | zero =>
    intro n k b hk hn
    obtain ⟨n, rfl⟩ : ∃ m, n = m + 1 := ⟨n - 1, by omega⟩
    have : k = j := by omega
    subst this
    cases b with
    | true => exact h1 n
    | false => exact h0 n k (Nat.le_refl _)
  | succ d ih =>
    intro n k b hk hn
    obtain ⟨n, rfl⟩ : ∃ m, n = m + 1 := ⟨n - 1, by omega⟩
    cases b with
    | false => exact h0 n k (by omega)
    | true =>
      show F (n + 1) c 1 (nI k) = _
      rw [hs n k (by omega), nI_1, ih n (k + 1) (P k) (by omega) (by omega), List.range'_succ, List.all_cons, Bool.true_and]
theorem m_isNamed {N : Nat} {c : hS} {m : Nat} {x : Mb} {t : List Nat} (hN : 1000000 ≤ N) (h : mmb c m x) (hm : m < 34) (hn : mrw c 14 209 t) : f_X12_isNamed N c (nI m) = some (bI (decide (x.1 = t)), c) := by
  have hx := h.1.2.2.1
  have ht : t.length ≤ 300 := hn.1
  unfold f_X12_isNamed
  rw [j_in_nI (show m < ln 204 from hm) (by decide), cond_true, nI_clamp (by omega), h.1.1, hn.2.1]
  have z : ∀ n k, k ≤ t.length → f_X12_isNamed_21 N (nI m) (n + 1) c 0 (nI k) = some (0, c) := fun n k hk => by
    rw [f_X12_isNamed_21]
    by_cases q : c.1 201 14 ≤ nI k
    · rw [if_pos q]; rfl
    · rw [if_neg q, if_pos rfl]; rfl
  by_cases e : x.1.length = t.length
  · rw [if_pos (by rw [e])]
    have key := same_loop (F := f_X12_isNamed_21 N (nI m)) (c := c) (j := t.length) (P := fun k => decide (gt x.1 k = gt t k)) (fun n k hk => by
      rw [f_X12_isNamed_21, hn.2.1, if_neg (nI_ge hk (by omega)), if_neg (by decide), m_nameAt h hm (by omega), bnd_some, j_in_nI (show k < ln 209 from (by show k < 300; omega)) (by decide), cond_true, nI_clamp (by omega), hn.2.2.1 k hk]
      have b1 := h.1.2.2.2.gt k
      have b2 := hn.2.2.2.gt k
      by_cases q : gt x.1 k = gt t k
      · rw [if_pos (by rw [q]), decide_eq_true q]; rfl
      · rw [if_neg (fun z => q ((nI_eq (by omega) (by omega)).mp z)), decide_eq_false q]; rfl) (fun n => by rw [f_X12_isNamed_21, hn.2.1, if_pos (nI_le (Nat.le_refl _) (by omega))]; rfl) z t.length N 0 true (by omega) (by omega)
    refine key.trans ?_
    congr 2
    congr 1
    rw [Bool.true_and]
    apply bool_eq
    rw [all_range, decide_eq_true_eq]
    exact ⟨fun q => gt_ext e (fun k hk => of_decide_eq_true (q k (by omega))), fun q k hk => by rw [q]; exact decide_eq_true rfl⟩
  · rw [if_neg (fun q => e ((nI_eq (by omega) (by omega)).mp q)), decide_eq_false (fun q => e (by rw [q]))]
    obtain ⟨n, rfl⟩ : ∃ n, N = n + 1 := ⟨N - 1, by omega⟩
    exact z n 0 (Nat.zero_le _)
theorem m_isUnderNew {N : Nat} {c : hS} {m : Nat} {x : Mb} {t : List Nat} (hN : 1000000 ≤ N) (h : mmb c m x) (hm : m < 34) (hn : mrw c 14 209 t) : f_X12_isUnderNew N c (nI m) = some (bI (und x.1 t), c) := by
  have hx := h.1.2.2.1
  have ht : t.length ≤ 300 := hn.1
  unfold f_X12_isUnderNew und
  rw [j_in_nI (show m < ln 204 from hm) (by decide), cond_true, nI_clamp (by omega), h.1.1, hn.2.1, nI_1]
  have z : ∀ n k, k ≤ t.length → f_X12_isUnderNew_37 N (nI m) (n + 1) c 0 (nI k) = some (0, c) := fun n k hk => by
    rw [f_X12_isUnderNew_37]
    by_cases q : c.1 201 14 ≤ nI k
    · rw [if_pos q]; rfl
    · rw [if_neg q, if_pos rfl]; rfl
  obtain ⟨n, rfl⟩ : ∃ n, N = n + 1 := ⟨N - 1, by omega⟩
  by_cases e : t.length + 1 < x.1.length
  · rw [if_neg (nI_ge e (by omega)), m_nameAt h hm (by omega), bnd_some, decide_eq_true e]
    have b1 := h.1.2.2.2.gt t.length
    by_cases e2 : gt x.1 t.length = 47
    · rw [if_pos (show nI (gt x.1 t.length) = 47 by rw [e2]; rfl), decide_eq_true e2]
      have key := same_loop (F := f_X12_isUnderNew_37 (n + 1) (nI m)) (c := c) (j := t.length) (P := fun k => decide (gt x.1 k = gt t k)) (fun n k hk => by
        rw [f_X12_isUnderNew_37, hn.2.1, if_neg (nI_ge hk (by omega)), if_neg (by decide), m_nameAt h hm (by omega), bnd_some, j_in_nI (show k < ln 209 from (by show k < 300; omega)) (by decide), cond_true, nI_clamp (by omega), hn.2.2.1 k hk]
        have b1 := h.1.2.2.2.gt k
        have b2 := hn.2.2.2.gt k
        by_cases q : gt x.1 k = gt t k
        · rw [if_pos (by rw [q]), decide_eq_true q]; rfl
        · rw [if_neg (fun z => q ((nI_eq (by omega) (by omega)).mp z)), decide_eq_false q]; rfl) (fun n => by rw [f_X12_isUnderNew_37, hn.2.1, if_pos (nI_le (Nat.le_refl _) (by omega))]; rfl) z t.length (n + 1) 0 true (by omega) (by omega)
      refine key.trans ?_
      congr 2
      congr 1
      rw [Bool.true_and, Bool.true_and, Bool.true_and]
      apply bool_eq
      rw [all_range, pfx_iff]
      exact ⟨fun q => ⟨by omega, fun k hk => of_decide_eq_true (q k hk)⟩, fun q k hk => decide_eq_true (q.2 k hk)⟩
    · rw [if_neg (show ¬ nI (gt x.1 t.length) = 47 from fun q => e2 ((nI_eq (b := 47) (by omega) (by decide)).mp q)), decide_eq_false e2]
      exact z n 0 (Nat.zero_le _)
  · rw [if_pos (nI_le (by omega) (by omega)), decide_eq_false e]
    exact z n 0 (Nat.zero_le _)
theorem m_isNewUnder {N : Nat} {c : hS} {m : Nat} {x : Mb} {t : List Nat} (hN : 1000000 ≤ N) (h : mmb c m x) (hm : m < 34) (hn : mrw c 14 209 t) : f_X12_isNewUnder N c (nI m) = some (bI (und t x.1), c) := by
  have hx := h.1.2.2.1
  have ht : t.length ≤ 300 := hn.1
  unfold f_X12_isNewUnder und
  rw [j_in_nI (show m < ln 204 from hm) (by decide), cond_true, nI_clamp (by omega), h.1.1, hn.2.1, nI_1]
  have z : ∀ n k, k ≤ x.1.length → f_X12_isNewUnder_37 N (nI m) (n + 1) c (nI x.1.length) 0 (nI k) = some (0, c) := fun n k hk => by
    rw [f_X12_isNewUnder_37]
    by_cases q : nI x.1.length ≤ nI k
    · rw [if_pos q]; rfl
    · rw [if_neg q, if_pos rfl]; rfl
  obtain ⟨n, rfl⟩ : ∃ n, N = n + 1 := ⟨N - 1, by omega⟩
  by_cases e : x.1.length + 1 < t.length
  · rw [if_neg (nI_ge e (by omega)), j_in_nI (show x.1.length < ln 209 from (by show x.1.length < 300; omega)) (by decide), cond_true, nI_clamp (by omega), hn.2.2.1 _ (by omega), decide_eq_true e]
    have b1 := hn.2.2.2.gt x.1.length
    by_cases e2 : gt t x.1.length = 47
    · rw [if_pos (show nI (gt t x.1.length) = 47 by rw [e2]; rfl), decide_eq_true e2]
      have key := same_loop (F := fun n' c a b => f_X12_isNewUnder_37 (n + 1) (nI m) n' c (nI x.1.length) a b) (c := c) (j := x.1.length) (P := fun k => decide (gt x.1 k = gt t k)) (fun n' k hk => by
        show f_X12_isNewUnder_37 (n + 1) (nI m) (n' + 1) c (nI x.1.length) 1 (nI k) = f_X12_isNewUnder_37 (n + 1) (nI m) n' c (nI x.1.length) (bI (decide (gt x.1 k = gt t k))) (nI k + 1)
        rw [f_X12_isNewUnder_37, if_neg (nI_ge hk (by omega)), if_neg (by decide), m_nameAt h hm (by omega), bnd_some, j_in_nI (show k < ln 209 from (by show k < 300; omega)) (by decide), cond_true, nI_clamp (by omega), hn.2.2.1 k (by omega)]
        have b1 := h.1.2.2.2.gt k
        have b2 := hn.2.2.2.gt k
        by_cases q : gt x.1 k = gt t k
        · rw [if_pos (by rw [q]), decide_eq_true q]; rfl
        · rw [if_neg (fun z => q ((nI_eq (by omega) (by omega)).mp z)), decide_eq_false q]; rfl) (fun n' => by
        show f_X12_isNewUnder_37 (n + 1) (nI m) (n' + 1) c (nI x.1.length) 1 (nI x.1.length) = _
        rw [f_X12_isNewUnder_37, if_pos (nI_le (Nat.le_refl _) (by omega))]; rfl) z x.1.length (n + 1) 0 true (by omega) (by omega)
      refine key.trans ?_
      congr 2
      congr 1
      rw [Bool.true_and, Bool.true_and, Bool.true_and]
      apply bool_eq
      rw [all_range, pfx_iff]
      exact ⟨fun q => ⟨by omega, fun k hk => (of_decide_eq_true (q k hk)).symm⟩, fun q k hk => decide_eq_true (q.2 k hk).symm⟩
    · rw [if_neg (show ¬ nI (gt t x.1.length) = 47 from fun q => e2 ((nI_eq (b := 47) (by omega) (by decide)).mp q)), decide_eq_false e2]
      exact z n 0 (Nat.zero_le _)
  · rw [if_pos (nI_le (by omega) (by omega)), decide_eq_false e]
    exact z n 0 (Nat.zero_le _)
theorem m_seek {N base : Nat} {c : hS} {ms : List Mb} {t : List Nat} (hN : 1000000 ≤ N) (h : msh c base ms) (hb : base + ms.length ≤ 34) (hn : mrw c 14 209 t) : f_X12_seek N c (nI base) (nI ms.length) = some (fnI t ms base, c) := by
  have key : ∀ d n i, i + d = ms.length → d < n → f_X12_seek_2 N (nI base) (nI ms.length) n c (nI (base + i)) = some (fnI t (ms.drop i) (base + i), c) := by
    intro d
    induction d with
    | zero =>
      intro n i hi hn
      obtain ⟨n, rfl⟩ : ∃ m, n = m + 1 := ⟨n - 1, by omega⟩
      rw [f_X12_seek_2, nI_add, if_pos (nI_le (by omega) (by omega)), List.drop_eq_nil_of_le (by omega)]
      rfl
    | succ d ih =>
      intro n i hi hn'
      obtain ⟨n, rfl⟩ : ∃ m, n = m + 1 := ⟨n - 1, by omega⟩
      have hil : i < ms.length := by omega
      rw [f_X12_seek_2, nI_add, if_neg (nI_ge (by omega) (by omega)), m_isNamed hN (h i hil) (by omega) hn, bnd_some, List.drop_eq_getElem_cons hil]
      unfold fnI
      by_cases e2 : ms[i].1 = t
      · rw [decide_eq_true e2, if_pos e2, if_neg (by decide)]
      · rw [decide_eq_false e2, if_neg e2, if_pos (show bI false = 0 from rfl), nI_1]
        exact ih n (i + 1) (by omega) (by omega)
  unfold f_X12_seek
  have := key ms.length N 0 (by omega) (by omega)
  simpa using this
theorem und_self (t : List Nat) : und t t = false := by
  unfold und
  rw [decide_eq_false (by omega)]
  rfl
theorem lu_und {a o : List Nat} (h : o.length ≠ 0) : lu a o = und a o := by
  unfold lu
  rw [decide_eq_false h]
  rfl
theorem m_isInTheWay {N base : Nat} {c : hS} {ms : List Mb} {t : List Nat} {d : Bool} (hN : 1000000 ≤ N) (h : msh c base ms) (hb : base + ms.length ≤ 34) (hn : mrw c 14 209 t) (hd : c.1 201 18 = bI d) (ht : t.length ≠ 0) (hms : ∀ x ∈ ms, x.1.length ≠ 0) : f_X12_isInTheWay N c (nI base) (nI ms.length) = some (bI (ms.any (wayB t d)), c) := by
  have key : ∀ r n i b, i + r = ms.length → r < n → f_X12_isInTheWay_5 N (nI base) (nI ms.length) n c (bI b) (nI (base + i)) = some (bI (b || (ms.drop i).any (wayB t d)), c) := by
    intro r
    induction r with
    | zero =>
      intro n i b hi hn
      obtain ⟨n, rfl⟩ : ∃ m, n = m + 1 := ⟨n - 1, by omega⟩
      rw [f_X12_isInTheWay_5, nI_add, if_pos (nI_le (by omega) (by omega)), List.drop_eq_nil_of_le (by omega)]
      cases b <;> rfl
    | succ r ih =>
      intro n i b hi hn'
      obtain ⟨n, rfl⟩ : ∃ m, n = m + 1 := ⟨n - 1, by omega⟩
      have hil : i < ms.length := by omega
      have hm := h i hil
      have x0 : ms[i].1.length ≠ 0 := hms _ (List.getElem_mem hil)
      have ew : wayB t d ms[i] = ((!d && und ms[i].1 t) || (!ms[i].2.2 && und t ms[i].1)) := by unfold wayB; rw [lu_und ht, lu_und x0]
      have e53 : ∀ w, wayB t d ms[i] = w → f_X12_isInTheWay_53 N (nI base) (nI ms.length) (f_X12_isInTheWay_5 N (nI base) (nI ms.length) n) c (bI b) (nI (base + i)) (bI w) = some (bI (b || (ms.drop i).any (wayB t d)), c) := by
        intro w hw
        unfold f_X12_isInTheWay_53
        rw [List.drop_eq_getElem_cons hil, List.any_cons, hw]
        cases b with
        | true =>
          rw [if_neg (by decide), nI_1]
          exact ih n (i + 1) true (by omega) (by omega)
        | false =>
          rw [if_pos (show bI false = 0 from rfl), m_isNamed hN hm (by omega) hn, bnd_some]
          by_cases e2 : ms[i].1 = t
          · have w0 : w = false := by rw [← hw, ew, e2, und_self]; simp
            subst w0
            rw [decide_eq_true e2, if_neg (by decide), nI_1]
            exact ih n (i + 1) false (by omega) (by omega)
          · rw [decide_eq_false e2, if_pos (show bI false = 0 from rfl)]
            cases w with
            | false =>
              rw [if_pos (show bI false = 0 from rfl), nI_1]
              exact ih n (i + 1) false (by omega) (by omega)
            | true =>
              rw [if_neg (by decide), nI_1]
              exact ih n (i + 1) true (by omega) (by omega)
      have e29 : (!d && und ms[i].1 t) = false → f_X12_isInTheWay_29 N (nI base) (nI ms.length) (f_X12_isInTheWay_5 N (nI base) (nI ms.length) n) c (bI b) (nI (base + i)) = some (bI (b || (ms.drop i).any (wayB t d)), c) := by
        intro hw
        rw [hw, Bool.false_or] at ew
        unfold f_X12_isInTheWay_29
        rw [j_in_nI (show base + i < ln 208 from (by show base + i < 34; omega)) (by decide), cond_true, nI_clamp (by omega), hm.2.2]
        cases q : ms[i].2.2 with
        | false =>
          rw [q] at ew
          rw [if_pos (show bI false = 0 from rfl), m_isNewUnder hN hm (by omega) hn, bnd_some]
          cases q2 : und t ms[i].1 with
          | false => rw [if_pos (show bI false = 0 from rfl)]; exact e53 false (by rw [ew, q2]; rfl)
          | true => rw [if_neg (by decide)]; exact e53 true (by rw [ew, q2]; rfl)
        | true =>
          rw [q] at ew
          rw [if_neg (by decide)]
          exact e53 false (by rw [ew]; rfl)
      rw [f_X12_isInTheWay_5, nI_add, if_neg (nI_ge (by omega) (by omega)), hd]
      cases d with
      | true => rw [if_neg (by decide)]; exact e29 rfl
      | false =>
        rw [if_pos (show bI false = 0 from rfl), m_isUnderNew hN hm (by omega) hn, bnd_some]
        cases q2 : und ms[i].1 t with
        | false => rw [if_pos (show bI false = 0 from rfl)]; exact e29 (by rw [q2]; rfl)
        | true => rw [if_neg (by decide)]; exact e53 true (by rw [ew, q2]; rfl)
  unfold f_X12_isInTheWay
  have := key ms.length N 0 false (by omega) (by omega)
  simpa [bI] using this
