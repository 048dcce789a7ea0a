/-! PURE: the reference: the codes that a block tells -/
noncomputable def TN (lens : List Nat) (i : Nat) : Nat → Nat
  | 0 => 0
  | l + 1 => TN lens i l + cntN lens (l + 1) i
theorem TN_off (lens : List Nat) : ∀ L, TN lens lens.length L = off lens (L + 1)
  | 0 => rfl
  | L + 1 => by unfold TN; rw [TN_off lens L, off_s (lens := lens) (l := L + 1) (by omega)]; rfl
theorem TN_0 (lens : List Nat) : ∀ L, TN lens 0 L = 0
  | 0 => rfl
  | L + 1 => by unfold TN; rw [TN_0 lens L]; rfl
theorem TN_s (lens : List Nat) (i : Nat) : ∀ L, TN lens (i + 1) L = TN lens i L + (if 0 < gt lens i ∧ gt lens i ≤ L then 1 else 0)
  | 0 => by rw [if_neg (by omega)]; rfl
  | L + 1 => by
    unfold TN
    rw [TN_s lens i L, cntN_s]
    by_cases q : gt lens i = L + 1
    · rw [if_pos q, if_neg (by omega), if_pos (by omega)]
      omega
    · rw [if_neg q, Nat.add_zero]
      by_cases w : 0 < gt lens i ∧ gt lens i ≤ L
      · rw [if_pos w, if_pos (by omega)]; omega
      · rw [if_neg w, if_neg (by omega)]; omega
theorem mxN_cnt {lens : List Nat} : ∀ L, 0 < mxN lens L → 0 < cnt lens (mxN lens L) ∧ mxN lens L ≤ L
  | 0, h => absurd h (Nat.lt_irrefl 0)
  | L + 1, h => by
    unfold mxN at h ⊢
    by_cases q : 0 < cnt lens (L + 1)
    · rw [if_pos q]; exact ⟨q, Nat.le_refl _⟩
    · rw [if_neg q] at h ⊢
      have := mxN_cnt L h
      exact ⟨this.1, by omega⟩
theorem off_two {lens : List Nat} {a b : Nat} (ha : 1 ≤ a) (hab : a < b) (hb : b ≤ 15) : cnt lens a + cnt lens b ≤ off lens 16 := by
  have h1 := off_s (lens := lens) (l := a) ha
  have h2 := off_mono (lens := lens) (a := a + 1) (b := b) (by omega) (by omega)
  have h3 := off_s (lens := lens) (l := b) (by omega)
  have h4 := off_mono (lens := lens) (a := b + 1) (b := 16) (by omega) (by omega)
  omega
theorem off_one' {lens : List Nat} {a : Nat} (ha : 1 ≤ a) (hb : a ≤ 15) : cnt lens a ≤ off lens 16 := by
  have h1 := off_s (lens := lens) (l := a) ha
  have h4 := off_mono (lens := lens) (a := a + 1) (b := 16) (by omega) (by omega)
  omega
theorem one_is {lens : List Nat} (h : off lens 16 = 1) : mxN lens 15 = 1 ↔ cnt lens 1 = 1 := by
  constructor
  · intro z
    have := (mxN_cnt (lens := lens) 15 (by omega)).1
    rw [z] at this
    have := off_one' (lens := lens) (a := 1) (by omega) (by omega)
    omega
  · intro z
    by_cases q : mxN lens 15 < 1
    · have := mxN_top (lens := lens) 15 1 q (by omega); omega
    · have a := mxN_cnt (lens := lens) 15 (by omega)
      by_cases w : mxN lens 15 = 1
      · exact w
      · have := off_two (lens := lens) (a := 1) (b := mxN lens 15) (by omega) (by omega) a.2; omega
noncomputable def DF (o i : Nat) : Prop := F56 o i ∨ o = 212 ∨ o = 213 ∨ o = 214
theorem ord_at {c : hS} : ∀ i, i < 19 → f_X12_order c (nI i) = some (nI (gt ordL i), c) := by
  intro i hi
  have : i = 0 ∨ i = 1 ∨ i = 2 ∨ i = 3 ∨ i = 4 ∨ i = 5 ∨ i = 6 ∨ i = 7 ∨ i = 8 ∨ i = 9 ∨ i = 10 ∨ i = 11 ∨ i = 12 ∨ i = 13 ∨ i = 14 ∨ i = 15 ∨ i = 16 ∨ i = 17 ∨ i = 18 := by omega
  rcases this with rfl | rfl | rfl | rfl | rfl | rfl | rfl | rfl | rfl | rfl | rfl | rfl | rfl | rfl | rfl | rfl | rfl | rfl | rfl <;> rfl
theorem ord_in (i : Nat) (hi : i < 19) : j_in (340 + nI (gt ordL i)) (ln 212) = true ∧ ((340 : Int32) + nI (gt ordL i)).toNatClampNeg = 340 + gt ordL i := by
  have h := ordL_lt i hi
  rw [show (340 : Int32) + nI (gt ordL i) = nI (340 + gt ordL i) from nI_add 340 _]
  exact ⟨j_in_nI (show 340 + gt ordL i < ln 212 from (by show 340 + gt ordL i < 360; omega)) (by decide), nI_clamp (by omega)⟩
theorem m_rc73x {N : Nat} {p1 : Int32} (hN : 1000000 ≤ N) : ∀ d m i c v2 v3 v4, i + d = 19 → d < m → c.1 201 5 ≠ 0 → ∃ c', f_X12_readCodes_73 N p1 m c v2 v3 v4 (nI i) = some (0, c') ∧ fm (fun o i => o = 212) c c' := by
  intro d
  induction d with
  | zero =>
    intro m i c v2 v3 v4 hi hm hf
    obtain ⟨m, rfl⟩ : ∃ j, m = j + 1 := ⟨m - 1, by omega⟩
    rw [f_X12_readCodes_73, if_pos (show (19 : Int32) ≤ nI i from nI_le (a := 19) (by omega) (by omega)), if_neg hf]
    exact ⟨c, rfl, fm.rf⟩
  | succ d ih =>
    intro m i c v2 v3 v4 hi hm hf
    obtain ⟨m, rfl⟩ : ∃ j, m = j + 1 := ⟨m - 1, by omega⟩
    obtain ⟨o1, o2⟩ := ord_in i (by omega)
    have nx : ∃ c', f_X12_readCodes_73 N p1 m (sI c 212 (340 + gt ordL i) 0) v2 v3 v4 (nI (i + 1)) = some (0, c') ∧ fm (fun o i => o = 212) c c' := by
      obtain ⟨c', a1, a2⟩ := ih m (i + 1) (sI c 212 (340 + gt ordL i) 0) v2 v3 v4 (by omega) (by omega) (by rw [sI_o (by decide)]; exact hf)
      exact ⟨c', a1, (fm.sI (P := fun o i => o = 212) rfl).tr a2⟩
    rw [f_X12_readCodes_73, if_neg (show ¬ (19 : Int32) ≤ nI i from nI_ge (b := 19) (by omega) (by decide)), ord_at i (by omega), bnd_some, o1, cond_true, o2, nI_1]
    by_cases q : v4 ≤ nI i
    · rw [if_pos q]; exact nx
    · rw [if_neg q, m_bits_x hN hf, bnd_some, cond_true]; exact nx
theorem m_rc61x {N : Nat} {c : hS} {p1 v2 v3 : Int32} (hN : 1000000 ≤ N) (hf : c.1 201 5 ≠ 0) : ∃ c', f_X12_readCodes_61 N p1 c v2 v3 = some (0, c') ∧ fm (fun o i => o = 212) c c' := by
  unfold f_X12_readCodes_61
  rw [m_bits_x hN hf, bnd_some]
  exact m_rc73x hN 19 N 0 c v2 v3 _ (by omega) (by omega) hf
theorem m_rc32x {N : Nat} {c : hS} {p1 v2 : Int32} (hN : 1000000 ≤ N) (hf : c.1 201 5 ≠ 0) : ∃ c', f_X12_readCodes_32 N p1 c v2 = some (0, c') ∧ fm (fun o i => o = 212) c c' := by
  unfold f_X12_readCodes_32
  rw [m_bits_x hN hf, bnd_some, if_neg hf]
  exact m_rc61x hN hf
theorem ord_inj : ∀ i, i < 19 → ∀ j, j < 19 → gt ordL i = gt ordL j → i = j := by decide
theorem ord_sur : ∀ k, k < 19 → ∃ j, j < 19 ∧ gt ordL j = k := by decide
theorem clF_at (t : List Nat) (b : Nat) : ∀ n, n ≤ 19 → ∀ j, j < 19 → gt (clF t b n) (gt ordL j) = if j < n then bv t (b + 3 * j) 3 else 0
  | 0, _, j, hj => by
    show gt (List.replicate 19 0) (gt ordL j) = _
    rw [gt_rep, if_neg (show ¬ j < 0 by omega)]
    split <;> rfl
  | n + 1, hn, j, hj => by
    show gt ((clF t b n).set (gt ordL n) (bv t (b + 3 * n) 3)) (gt ordL j) = _
    rw [gt_set (by rw [clF_len]; exact ordL_lt n (by omega)), clF_at t b n (by omega) j hj]
    by_cases q : j = n
    · subst q; rw [if_pos rfl, if_pos (by omega)]
    · rw [if_neg (fun z => q (ord_inj j hj n (by omega) z))]
      by_cases w : j < n
      · rw [if_pos w, if_pos (by omega)]
      · rw [if_neg w, if_neg (by omega)]
/-- the end of reading codes -/
theorem m_rc350 {N : Nat} {c : hS} {p1 : Int32} {lS lD : List Nat} {far : Bool} (hN : 1000000 ≤ N) (h5 : c.1 201 5 = 0) (hS : mln c 0 lS) (hD : mln c 300 lD) (l1 : lS.length = 288) (l2 : lD.length = 32) : ∃ c', f_X12_readCodes_350 N p1 c (bI far) = some (bI (decide (gt lS 256 ≠ 0) && (decide (ful lS 15 = 32768) && far)), c') ∧ fm (fun o i => (o = 201 ∧ (i = 5 ∨ i = 6)) ∨ o = 213) c c' ∧ ((decide (gt lS 256 ≠ 0) && (decide (ful lS 15 = 32768) && far)) = true → mcd c' 0 lS ∧ mcd c' 300 lD ∧ fm (fun o i => o = 213) c c') := by
  obtain ⟨v1, v2⟩ := hS.2 256 (by omega)
  rw [Nat.zero_add] at v1
  unfold f_X12_readCodes_350
  rw [show j_in 256 (ln 212) = true from by decide, cond_true, show (256 : Int32).toNatClampNeg = 256 from by decide, v1]
  have bad : ∀ c1 a, fm (fun o i => o = 213) c c1 → ∃ c', (bnd (f_X12_fails c1 a p1) fun x3 c4 => bif j_b x3 then some (x3, c4) else none) = some (0, c') ∧ fm (fun o i => (o = 201 ∧ (i = 5 ∨ i = 6)) ∨ o = 213) c c' := by
    intro c1 a f
    obtain ⟨c', e1, f1⟩ := b_fail (c := c1) (a := a) (p := p1) (P := fun o i => (o = 201 ∧ (i = 5 ∨ i = 6)) ∨ o = 213) (fun i z => Or.inl ⟨rfl, z⟩)
    exact ⟨c', e1, (f.mono (fun o i z => Or.inr z)).tr f1⟩
  by_cases q : gt lS 256 = 0
  · rw [if_pos (show nI (gt lS 256) = 0 by rw [q]; rfl), decide_eq_false (fun z => z q), Bool.false_and]
    obtain ⟨c', e1, f1⟩ := bad c 24 fm.rf
    exact ⟨c', e1, f1, fun z => by cases z⟩
  · have fb := FN_le (lens := lS) lS.length
    rw [FN_ful, l1] at fb
    rw [if_neg (nI_ne0 (by omega) (by omega)), decide_eq_true q, Bool.true_and, m_fullness (p1 := 0) (p2 := 288) hN hS rfl (by rw [l1]; rfl), bnd_some]
    by_cases q2 : ful lS 15 = 32768
    · rw [if_pos (show nI (ful lS 15) = 32768 by rw [q2]; rfl), decide_eq_true q2, Bool.true_and]
      cases far with
      | false =>
        rw [if_pos (show bI false = 0 from rfl)]
        obtain ⟨c', e1, f1⟩ := bad c 24 fm.rf
        exact ⟨c', e1, f1, fun z => by cases z⟩
      | true =>
        rw [if_neg (by decide)]
        obtain ⟨c1, a1, a2, a3⟩ := m_layCodes (p1 := 0) (p2 := 288) hN hS rfl (by rw [l1]; rfl)
        have hD1 : mln c1 300 lD := ⟨hD.1, fun i hi => ⟨(a3.1 _ _ (by omega)).trans (hD.2 i hi).1, (hD.2 i hi).2⟩⟩
        obtain ⟨c2, b1, b2, b3⟩ := m_layCodes (p1 := 300) (p2 := 32) hN hD1 rfl (by rw [l2]; rfl)
        rw [a1, bnd_some, b1, bnd_some]
        have f12 : fm (fun o i => o = 213) c c2 := (a3.mono (fun o i z => z.1)).tr (b3.mono (fun o i z => z.1))
        exact ⟨c2, rfl, f12.mono (fun o i z => Or.inr z), fun _ => ⟨⟨⟨a2.1.1, fun i hi => ⟨(b3.1 _ _ (by omega)).trans (a2.1.2 i hi).1, (a2.1.2 i hi).2⟩⟩, fun i hi h0 => (b3.1 _ _ (by omega)).trans (a2.2 i hi h0)⟩, b2, f12⟩⟩
    · rw [if_neg (show ¬ nI (ful lS 15) = 32768 from fun z => q2 ((nI_eq (b := 32768) (by omega) (by decide)).mp z)), decide_eq_false q2, Bool.false_and]
      obtain ⟨c', e1, f1⟩ := bad c 24 fm.rf
      exact ⟨c', e1, f1, fun z => by cases z⟩
theorem m_rc174 {N H K : Nat} {c : hS} {p1 : Int32} {row : List Nat} (hN : 1000000 ≤ N) (h5 : c.1 201 5 = 0) (hr : mrow c row) (hl : row.length = H + K) (hH : H ≤ 286) (hH1 : 257 ≤ H) (hK : K ≤ 30) : ∃ c', f_X12_readCodes_174 N p1 N c (nI H) (nI K) 0 = some (bI (okR H row), c') ∧ fm (fun o i => (o = 201 ∧ (i = 5 ∨ i = 6)) ∨ o = 212 ∨ o = 213) c c' ∧ (okR H row = true → mcd c' 0 (row.take H ++ List.replicate (288 - H) 0) ∧ mcd c' 300 (row.drop H ++ List.replicate (32 - K) 0) ∧ fm (fun o i => o = 212 ∨ o = 213) c c') := by
  obtain ⟨lS, eS⟩ : ∃ lS, lS = row.take H ++ List.replicate (288 - H) 0 := ⟨_, rfl⟩
  obtain ⟨lD, eD⟩ : ∃ lD, lD = row.drop H ++ List.replicate (32 - K) 0 := ⟨_, rfl⟩
  have tl : (row.take H).length = H := by rw [List.length_take]; omega
  have dl : (row.drop H).length = K := by rw [List.length_drop]; omega
  have l1 : lS.length = 288 := by rw [eS, List.length_append, tl, List.length_replicate]; omega
  have l2 : lD.length = 32 := by rw [eD, List.length_append, dl, List.length_replicate]; omega
  have gS : ∀ i, gt lS i = if i < H then gt row i else 0 := fun i => by
    rw [eS]
    by_cases q : i < H
    · rw [if_pos q, gt_app_l (by omega), gt_take q]
    · rw [if_neg q, gt_app_r (by omega), gt_rep]; split <;> rfl
  have gD : ∀ i, gt lD i = if i < K then gt row (H + i) else 0 := fun i => by
    rw [eD]
    by_cases q : i < K
    · rw [if_pos q, gt_app_l (by omega), gt_drop]
    · rw [if_neg q, gt_app_r (by omega), gt_rep]; split <;> rfl
  have g16 : ∀ k, gt row k < 16 := fun k => by
    by_cases q : k < row.length
    · exact (hr.1 k q).2
    · rw [gt_ge (by omega)]; decide
  -- the symbols' lengths
  have k174 : ∀ d m i c, i + d = 288 → d < m → mrow c row → (∀ k, k < i → c.1 212 k = nI (gt lS k)) → ∃ c', f_X12_readCodes_174 N p1 m c (nI H) (nI K) (nI i) = f_X12_readCodes_221 N p1 N c' (nI H) (nI K) 0 0 0 ∧ (∀ k, k < 288 → c'.1 212 k = nI (gt lS k)) ∧ fm (fun o i => o = 212) c c' := by
    intro d
    induction d with
    | zero =>
      intro m i c hi hm hr hk
      obtain ⟨m, rfl⟩ : ∃ j, m = j + 1 := ⟨m - 1, by omega⟩
      rw [f_X12_readCodes_174, if_pos (show (288 : Int32) ≤ nI i from nI_le (a := 288) (by omega) (by omega))]
      exact ⟨c, rfl, fun k a => hk k (by omega), fm.rf⟩
    | succ d ih =>
      intro m i c hi hm hr hk
      obtain ⟨m, rfl⟩ : ∃ j, m = j + 1 := ⟨m - 1, by omega⟩
      have f1 : fm (fun o i => o = 212) c (sI c 212 i (nI (gt lS i))) := fm.sI rfl
      obtain ⟨c', a1, a2, a3⟩ := ih m (i + 1) (sI c 212 i (nI (gt lS i))) (by omega) (by omega) (mrow_fm hr f1 (fun i => by omega)) (fun k hk' => by
        by_cases e : k = i
        · rw [e, sI_s]
        · rw [sI_j e]; exact hk k (by omega))
      refine ⟨c', ?_, a2, f1.tr a3⟩
      rw [← a1, f_X12_readCodes_174, if_neg (show ¬ (288 : Int32) ≤ nI i from nI_ge (b := 288) (by omega) (by decide)), j_in_nI (show i < ln 212 from (by show i < 360; omega)) (by decide), cond_true, cond_true, nI_clamp (by omega), nI_1]
      have gi := gS i
      by_cases q : i < H
      · rw [if_pos q] at gi
        rw [if_neg (nI_ge q (by omega)), j_in_nI (show i < ln 214 from (by show i < 330; omega)) (by decide), cond_true, (hr.1 i (by omega)).1, gi]
        rfl
      · rw [if_neg q] at gi
        rw [if_pos (nI_le (by omega) (by omega)), gi]
        rfl
  -- the distances'
  have k221 : ∀ d m i c, i + d = 32 → d < m → mrow c row → (∀ k, k < i → c.1 212 (300 + k) = nI (gt lD k)) → ∃ c', f_X12_readCodes_221 N p1 m c (nI H) (nI K) (nI (TN lD i 15)) (nI (cntN lD 1 i)) (nI i) = f_X12_readCodes_221 N p1 (0 + 1) c' (nI H) (nI K) (nI (off lD 16)) (nI (cnt lD 1)) (nI 32) ∧ (∀ k, k < 32 → c'.1 212 (300 + k) = nI (gt lD k)) ∧ fm (fun o i => o = 212 ∧ 300 ≤ i) c c' := by
    intro d
    induction d with
    | zero =>
      intro m i c hi hm hr hk
      obtain ⟨m, rfl⟩ : ∃ j, m = j + 1 := ⟨m - 1, by omega⟩
      have : i = 32 := by omega
      subst this
      have et := TN_off lD 15
      rw [l2] at et
      have ec : cntN lD 1 32 = cnt lD 1 := by unfold cnt; rw [l2]
      refine ⟨c, ?_, fun k a => hk k (by omega), fm.rf⟩
      rw [et, ec, f_X12_readCodes_221, f_X12_readCodes_221, if_pos (by decide), if_pos (by decide)]
    | succ d ih =>
      intro m i c hi hm hr hk
      obtain ⟨m, rfl⟩ : ∃ j, m = j + 1 := ⟨m - 1, by omega⟩
      have f1 : fm (fun o i => o = 212 ∧ 300 ≤ i) c (sI c 212 (300 + i) (nI (gt lD i))) := fm.sI (by omega)
      obtain ⟨c', a1, a2, a3⟩ := ih m (i + 1) (sI c 212 (300 + i) (nI (gt lD i))) (by omega) (by omega) (mrow_fm hr f1 (fun i => by omega)) (fun k hk' => by
        by_cases e : k = i
        · rw [e, sI_s]
        · rw [sI_j (by omega)]; exact hk k (by omega))
      refine ⟨c', ?_, a2, f1.tr a3⟩
      have gi := gD i
      have gl : gt lD i < 16 := by rw [gi]; split; exact g16 _; decide
      have e300 : (300 : Int32) + nI i = nI (300 + i) := nI_add 300 i
      have jn := j_in_nI (show 300 + i < ln 212 from (by show 300 + i < 360; omega)) (by decide : ln 212 < 2 ^ 31)
      have nc := nI_clamp (show 300 + i < 2 ^ 31 by omega)
      have ts := TN_s lD i 15
      have cs := cntN_s lD 1 i
      have e257 : f_X12_readCodes_257 N p1 (f_X12_readCodes_221 N p1 m) c (nI H) (nI K) (nI (TN lD i 15)) (nI (cntN lD 1 i)) (nI i) (nI (gt lD i)) (300 + nI i) = f_X12_readCodes_221 N p1 m (sI c 212 (300 + i) (nI (gt lD i))) (nI H) (nI K) (nI (TN lD (i + 1) 15)) (nI (cntN lD 1 (i + 1))) (nI (i + 1)) := by
        unfold f_X12_readCodes_257
        rw [e300, jn, cond_true, nc]
        dsimp only [st1]
        rw [cond_true, sI_s]
        have e279 : ∀ (w0 : Int32) (k : Nat), w0 = nI k → TN lD (i + 1) 15 = TN lD i 15 + k → f_X12_readCodes_279 N p1 (f_X12_readCodes_221 N p1 m) (sI c 212 (300 + i) (nI (gt lD i))) (nI H) (nI K) (nI (cntN lD 1 i)) (nI i) w0 (nI (TN lD i 15)) = f_X12_readCodes_221 N p1 m (sI c 212 (300 + i) (nI (gt lD i))) (nI H) (nI K) (nI (TN lD (i + 1) 15)) (nI (cntN lD 1 (i + 1))) (nI (i + 1)) := by
          intro w0 k hw hk'
          unfold f_X12_readCodes_279
          rw [e300, jn, cond_true, nc, sI_s, hw, nI_add, ← hk', nI_1, nI_1]
          by_cases z : gt lD i = 1
          · rw [if_pos z] at cs
            rw [if_pos (show nI (gt lD i) = 1 by rw [z]; rfl), cs]
          · rw [if_neg z] at cs
            rw [if_neg (show ¬ nI (gt lD i) = 1 from fun y => z ((nI_eq (b := 1) (by omega) (by decide)).mp y)), cs, show nI (cntN lD 1 i) + 0 = nI (cntN lD 1 i + 0) from nI_add _ 0]
        by_cases z : gt lD i = 0
        · rw [if_neg (by omega)] at ts
          rw [if_pos (show nI (gt lD i) ≤ 0 by rw [z]; decide)]
          exact e279 0 0 rfl ts
        · rw [if_pos (by omega)] at ts
          rw [if_neg (nI_nle (by omega) (by omega))]
          exact e279 1 1 rfl ts
      rw [← a1, ← e257, f_X12_readCodes_221, if_neg (show ¬ (32 : Int32) ≤ nI i from nI_ge (b := 32) (by omega) (by decide))]
      by_cases q : i < K
      · rw [if_pos q] at gi
        rw [if_neg (nI_ge q (by omega)), nI_add, j_in_nI (show H + i < ln 214 from (by show H + i < 330; omega)) (by decide), cond_true, nI_clamp (by omega), (hr.1 (H + i) (by omega)).1, gi]
      · rw [if_neg q] at gi
        rw [if_pos (nI_le (by omega) (by omega)), gi]
        rfl
  obtain ⟨c1, a1, a2, a3⟩ := k174 288 N 0 c (by omega) (by omega) hr (fun k hk => by omega)
  have a1' : f_X12_readCodes_174 N p1 N c (nI H) (nI K) 0 = _ := a1
  have b0 := k221 32 N 0 c1 (by omega) (by omega) (mrow_fm hr a3 (fun i => by omega)) (fun k hk => by omega)
  rw [TN_0] at b0
  obtain ⟨c2, b1, b2, b3⟩ := b0
  have b1' : f_X12_readCodes_221 N p1 N c1 (nI H) (nI K) 0 0 0 = _ := b1
  have f12 : fm (fun o i => o = 212) c c2 := a3.tr (b3.mono (fun o i z => z.1))
  have mS : mln c2 0 lS := ⟨by rw [l1]; decide, fun i hi => by
    rw [l1] at hi
    rw [Nat.zero_add, b3.1 _ _ (by omega)]
    exact ⟨a2 i hi, by rw [gS]; split; exact g16 _; decide⟩⟩
  have mD : mln c2 300 lD := ⟨by rw [l2]; decide, fun i hi => by
    rw [l2] at hi
    exact ⟨b2 i hi, by rw [gD]; split; exact g16 _; decide⟩⟩
  have h52 : c2.1 201 5 = 0 := (f12.1 _ _ (by omega)).trans h5
  have eok : okR H row = (decide (gt lS 256 ≠ 0) && (decide (ful lS 15 = 32768) && dsB lD)) := by
    unfold okR dsB
    rw [gS, if_pos (by omega), eS, ful_pad, eD, ful_pad, off_pad (L := 15), mxN_pad]
  rw [a1', b1', f_X12_readCodes_221, if_pos (by decide), m_fullness (p1 := 300) (p2 := 32) hN mD rfl (by rw [l2]; rfl), bnd_some]
  have fb := FN_le (lens := lD) lD.length
  rw [FN_ful, l2] at fb
  have o16 : off lD 16 ≤ lD.length := off_le lD 15
  have c1l := cnt_le lD 1
  have fin : ∀ far, dsB lD = far → ∃ c', f_X12_readCodes_350 N p1 c2 (bI far) = some (bI (okR H row), c') ∧ fm (fun o i => (o = 201 ∧ (i = 5 ∨ i = 6)) ∨ o = 212 ∨ o = 213) c c' ∧ (okR H row = true → mcd c' 0 lS ∧ mcd c' 300 lD ∧ fm (fun o i => o = 212 ∨ o = 213) c c') := by
    intro far hfar
    obtain ⟨c3, d1, d2, d3⟩ := m_rc350 (p1 := p1) (far := far) hN h52 mS mD l1 l2
    rw [← hfar, ← eok] at d1 d3
    rw [← hfar]
    refine ⟨c3, d1, (f12.mono (fun o i z => by omega)).tr (d2.mono (fun o i z => by omega)), fun z => ?_⟩
    obtain ⟨x1, x2, x3⟩ := d3 z
    exact ⟨x1, x2, (f12.mono (fun o i z => by omega)).tr (x3.mono (fun o i z => by omega))⟩
  rw [← eS, ← eD]
  unfold f_X12_readCodes_345 f_X12_readCodes_349
  by_cases q : ful lD 15 = 32768
  · rw [if_pos (show nI (ful lD 15) = 32768 by rw [q]; rfl)]
    exact fin true (by unfold dsB; rw [decide_eq_true q]; rfl)
  · rw [if_neg (show ¬ nI (ful lD 15) = 32768 from fun z => q ((nI_eq (b := 32768) (by omega) (by decide)).mp z))]
    by_cases q0 : off lD 16 = 0
    · rw [if_pos (show nI (off lD 16) = 0 by rw [q0]; rfl)]
      exact fin true (by unfold dsB; rw [decide_eq_false q, decide_eq_true q0]; rfl)
    · rw [if_neg (nI_ne0 (by omega) (by omega))]
      by_cases q1 : off lD 16 = 1
      · rw [if_pos (show nI (off lD 16) = 1 by rw [q1]; rfl)]
        have o1 := one_is q1
        by_cases qc : cnt lD 1 = 1
        · rw [if_pos (show nI (cnt lD 1) = 1 by rw [qc]; rfl)]
          exact fin true (by unfold dsB; rw [decide_eq_true q1, decide_eq_true (o1.mpr qc)]; simp)
        · rw [if_neg (show ¬ nI (cnt lD 1) = 1 from fun z => qc ((nI_eq (b := 1) (by omega) (by decide)).mp z))]
          exact fin false (by unfold dsB; rw [decide_eq_false q, decide_eq_false q0, decide_eq_false (fun z => qc (o1.mp z))]; simp)
      · rw [if_neg (show ¬ nI (off lD 16) = 1 from fun z => q1 ((nI_eq (b := 1) (by omega) (by decide)).mp z))]
        exact fin false (by unfold dsB; rw [decide_eq_false q, decide_eq_false q0, decide_eq_false q1]; rfl)
