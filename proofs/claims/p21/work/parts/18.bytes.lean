/-! BYTES: the rows of bytes of the class, over the abstract machine -/
/-- nothing but these numbers' cells has changed, and nothing is new -/
def am_fr (h h' : am_H) (S : List Nat) : Prop := h'.1 = h.1 ∧ h'.2.1 = h.2.1 ∧ h'.2.2.1 = h.2.2.1 ∧ ∀ o, o ∉ S → h'.2.2.2 o = h.2.2.2 o
theorem am_fr.rf {h : am_H} {S : List Nat} : am_fr h h S := ⟨rfl, rfl, rfl, fun _ _ => rfl⟩
theorem am_fr.tr {h1 h2 h3 : am_H} {S : List Nat} (a : am_fr h1 h2 S) (b : am_fr h2 h3 S) : am_fr h1 h3 S := ⟨b.1.trans a.1, b.2.1.trans a.2.1, b.2.2.1.trans a.2.2.1, fun o ho => (b.2.2.2 o ho).trans (a.2.2.2 o ho)⟩
theorem am_fr.put {h : am_H} {S : List Nat} {o : Nat} {c : am_C} (ho : o ∈ S) : am_fr h (am_put h o c) S := ⟨rfl, rfl, rfl, fun q hq => am_put_n h (fun e => hq (by rw [e]; exact ho)) c⟩
theorem by_ne {h : am_H} {b a n : Nat} {sz : Int32} {f : Nat → Value} (hb : by_at h b a n sz f) : a ≠ b := by
  rintro rfl
  have := hb.2.1
  rw [hb.2.2.2.2.2] at this
  cases this
theorem am_lt_t {x y : Int32} (h : am_cc .lt x y = true) : x < y := of_decide_eq_true (p := x < y) h
theorem am_ge_t {x y : Int32} (h : am_cc .ge x y = true) : y ≤ x := of_decide_eq_true (p := y ≤ x) h
theorem am_inT {k n : Nat} (hk : k < n) (hn : n < 2 ^ 31) : am_in (nI k) n = true := by
  unfold am_in
  rw [decide_eq_false (nI_pos (by omega)), nI_clamp (by omega)]
  exact Nat.blt_eq.mpr hk
set_option maxRecDepth 100000 in
/-- get: the byte, or 0 where there is none -/
theorem by_get {h : am_H} {b a n k j : Nat} {f : Nat → Value} (hb : by_at h b a n (nI k) f) (hn : n < 2 ^ 31) (hk : k ≤ n) (hj : j < k) : am_T am_i_X2_get [.ref b, .int (nI j)] h (some (.int (am_i (f j)))) h := by
  obtain ⟨b1, b2, b3, b4, b5, b6⟩ := hb
  refine am_P.many (u := (bif am_cc .lt (nI j) 0 then 30 else 4, [(0, .ref b), (1, .int (nI j))], [], h)) 2 rfl ?_
  refine am_P.bif (b := am_cc .lt (nI j) 0) (t := 30) (f := 4) (fun q => absurd (am_lt_t q) (nI_pos (by omega))) (fun _ => ?_)
  refine am_P.many (u := (6, [(0, .ref b), (1, .int (nI j))], [.ref b, .int (nI j)], h)) 2 rfl ?_
  refine am_P.getf (M := am_m_X2_get) rfl rfl b1 b2 rfl ?_
  rw [b4]
  refine am_P.many (u := (bif am_cc .ge (nI j) (nI k) then 30 else 12, [(0, .ref b), (1, .int (nI j))], [], h)) 1 rfl ?_
  refine am_P.bif (b := am_cc .ge (nI j) (nI k)) (t := 30) (f := 12) (fun q => absurd (am_ge_t q) (nI_ge hj (by omega))) (fun _ => ?_)
  refine am_P.many (u := (14, [(0, .ref b), (1, .int (nI j))], [.ref b, .int (nI j)], h)) 2 rfl ?_
  refine am_P.getf (M := am_m_X2_get) rfl rfl b1 b2 rfl ?_
  rw [b3]
  refine am_P.alen (M := am_m_X2_get) (ci := 20) rfl rfl b5 (by rw [b6]) rfl ?_
  rw [b6]
  refine am_P.many (u := (bif am_cc .ge (nI j) (nI n) then 30 else 21, [(0, .ref b), (1, .int (nI j))], [], h)) 1 rfl ?_
  refine am_P.bif (b := am_cc .ge (nI j) (nI n)) (t := 30) (f := 21) (fun q => absurd (am_ge_t q) (nI_ge (show j < n by omega) hn)) (fun _ => ?_)
  refine am_P.many (u := (22, [(0, .ref b), (1, .int (nI j))], [.ref b], h)) 1 rfl ?_
  refine am_P.getf (M := am_m_X2_get) rfl rfl b1 b2 rfl ?_
  rw [b3]
  refine am_P.many (u := (26, [(0, .ref b), (1, .int (nI j))], [.int (nI j), .ref a], h)) 1 rfl ?_
  refine am_P.iald (M := am_m_X2_get) rfl rfl b5 (by rw [b6]) (by rw [b6]; exact am_inT (n := n) (show j < n by omega) hn) ?_
  rw [b6, nI_clamp (by omega)]
  refine am_P.many (u := (31, [(0, .ref b), (1, .int (nI j))], [.int (am_i (f j))], h)) 1 rfl ?_
  exact am_P.ret (M := am_m_X2_get) rfl rfl rfl
set_option maxRecDepth 100000 in
/-- add: one byte more -/
theorem by_add {h : am_H} {b a n k : Nat} {f : Nat → Value} (x : Int32) (hb : by_at h b a n (nI k) f) (hn : n < 2 ^ 31) (hk : k < n) : ∃ h', am_T am_i_X2_add [.ref b, .int x] h none h' ∧ by_at h' b a n (nI (k + 1)) (am_up f k (.int (x &&& 255))) ∧ am_fr h h' [b, a] := by
  have hne := by_ne hb
  obtain ⟨b1, b2, b3, b4, b5, b6⟩ := hb
  refine ⟨am_put (am_put h a (20, n, am_up f k (.int (x &&& 255)))) b (1, (h.2.2.2 b).2.1, am_up (h.2.2.2 b).2.2 1 (.int (nI (k + 1)))), ?_, ⟨b1, ?_, ?_, ?_, b5, ?_⟩, (am_fr.put (by simp)).tr (am_fr.put (by simp))⟩
  · show am_P am_i_X2_add 0 [(0, .ref b), (1, .int x)] [] h none _
    refine am_P.many (u := (1, [(0, .ref b), (1, .int x)], [.ref b], h)) 1 rfl ?_
    refine am_P.getf (M := am_m_X2_add) (ci := 1) rfl rfl b1 b2 rfl ?_
    rw [b4]
    refine am_P.many (u := (bif am_cc .lt (nI k) 0 then 43 else 7, [(0, .ref b), (1, .int x)], [], h)) 1 rfl ?_
    refine am_P.bif (b := am_cc .lt (nI k) 0) (t := 43) (f := 7) (fun q => absurd (am_lt_t q) (nI_pos (by omega))) (fun _ => ?_)
    refine am_P.many (u := (8, [(0, .ref b), (1, .int x)], [.ref b], h)) 1 rfl ?_
    refine am_P.getf (M := am_m_X2_add) (ci := 1) rfl rfl b1 b2 rfl ?_
    rw [b4]
    refine am_P.many (u := (12, [(0, .ref b), (1, .int x)], [.ref b, .int (nI k)], h)) 1 rfl ?_
    refine am_P.getf (M := am_m_X2_add) (ci := 1) rfl rfl b1 b2 rfl ?_
    rw [b3]
    refine am_P.alen (M := am_m_X2_add) (ci := 20) rfl rfl b5 (by rw [b6]) rfl ?_
    rw [b6]
    refine am_P.many (u := (bif am_cc .ge (nI k) (nI n) then 43 else 19, [(0, .ref b), (1, .int x)], [], h)) 1 rfl ?_
    refine am_P.bif (b := am_cc .ge (nI k) (nI n)) (t := 43) (f := 19) (fun q => absurd (am_ge_t q) (nI_ge hk hn)) (fun _ => ?_)
    refine am_P.many (u := (20, [(0, .ref b), (1, .int x)], [.ref b], h)) 1 rfl ?_
    refine am_P.getf (M := am_m_X2_add) (ci := 1) rfl rfl b1 b2 rfl ?_
    rw [b3]
    refine am_P.many (u := (24, [(0, .ref b), (1, .int x)], [.ref b, .ref a], h)) 1 rfl ?_
    refine am_P.getf (M := am_m_X2_add) (ci := 1) rfl rfl b1 b2 rfl ?_
    rw [b4]
    refine am_P.many (u := (32, [(0, .ref b), (1, .int x)], [.int (x &&& 255), .int (nI k), .ref a], h)) 3 rfl ?_
    -- at 32: .iastore ; stack [.int (x &&& 255), .int (nI k), .ref a]
    refine am_P.iast (M := am_m_X2_add) rfl rfl b5 (by rw [b6]) (by rw [b6]; exact am_inT (n := n) hk hn) ?_
    rw [b6, nI_clamp (show k < 2 ^ 31 by omega)]
    refine am_P.many (u := (35, [(0, .ref b), (1, .int x)], [.ref b, .ref b], (am_put h a (20, n, am_up f k (.int (x &&& 255)))))) 2 rfl ?_
    refine am_P.getf (M := am_m_X2_add) (ci := 1) rfl rfl b1 (by rw [am_put_n h (Ne.symm hne)]; exact b2) rfl ?_
    rw [am_put_n h (Ne.symm hne), b4]
    refine am_P.many (u := (40, [(0, .ref b), (1, .int x)], [.int ((nI k) + 1), .ref b], (am_put h a (20, n, am_up f k (.int (x &&& 255)))))) 2 rfl ?_
    -- at 40: .putfield 15 ; stack [.int ((nI k) + 1), .ref b]
    refine am_P.putf (M := am_m_X2_add) (ci := 1) rfl rfl b1 (by rw [am_put_n h (Ne.symm hne)]; exact b2) rfl rfl ?_
    rw [am_put_n h (Ne.symm hne), show nI k + 1 = nI (k + 1) from nI_1 k]
    exact am_P.ret (M := am_m_X2_add) rfl rfl rfl
  · rw [am_put_s]
  · rw [am_put_s]; show am_up (h.2.2.2 b).2.2 1 (.int (nI (k + 1))) 0 = .ref a; rw [am_up_n (by decide)]; exact b3
  · rw [am_put_s]; show am_up (h.2.2.2 b).2.2 1 (.int (nI (k + 1))) 1 = .int (nI (k + 1)); rw [am_up_s]
  · rw [am_put_n _ hne, am_put_s]
set_option maxRecDepth 100000 in
/-- addZeros, from the head of its loop: d zeros more -/
theorem by_addZeros_loop {b a n m : Nat} (hn : n < 2 ^ 31) (hm : m < 2 ^ 31) : ∀ (d j k : Nat) (h : am_H) (f : Nat → Value), j + d = m → k + d ≤ n → by_at h b a n (nI k) f → ∃ (h' : am_H) (f' : Nat → Value), am_P am_i_X2_addZeros 2 [(2, .int (nI j)), (0, .ref b), (1, .int (nI m))] [] h none h' ∧ by_at h' b a n (nI (k + d)) f' ∧ am_fr h h' [b, a] ∧ (∀ i, i < k → f' i = f i) ∧ ∀ i, k ≤ i → i < k + d → f' i = .int 0 := by
  intro d
  induction d with
  | zero =>
    intro j k h f hj hk hb
    have hj : j = m := hj
    subst hj
    refine ⟨h, f, ?_, hb, am_fr.rf, fun _ _ => rfl, fun i h1 h2 => absurd h2 (Nat.not_lt.mpr h1)⟩
    refine am_P.many (u := (bif am_cc .ge (nI j) (nI j) then 18 else 7, [(2, .int (nI j)), (0, .ref b), (1, .int (nI j))], [], h)) 3 rfl ?_
    refine am_P.bif (b := am_cc .ge (nI j) (nI j)) (t := 18) (f := 7) (fun _ => ?_) (fun q => absurd (show am_cc .ge (nI j) (nI j) = true from decide_eq_true (nI_le (Nat.le_refl j) hm)) (by rw [q]; decide))
    exact am_P.ret (M := am_m_X2_addZeros) rfl rfl rfl
  | succ d ih =>
    intro j k h f hj hk hb
    obtain ⟨h1, t1, hb1, fr1⟩ := by_add 0 hb hn (by omega)
    obtain ⟨h2, f2, p2, hb2, fr2, e1, e2⟩ := ih (j + 1) (k + 1) h1 _ (by omega) (by omega) hb1
    refine ⟨h2, f2, ?_, by rw [show k + (d + 1) = k + 1 + d by omega]; exact hb2, fr1.tr fr2, fun i hi => ?_, fun i hi1 hi2 => ?_⟩
    · refine am_P.many (u := (bif am_cc .ge (nI j) (nI m) then 18 else 7, [(2, .int (nI j)), (0, .ref b), (1, .int (nI m))], [], h)) 3 rfl ?_
      refine am_P.bif (b := am_cc .ge (nI j) (nI m)) (t := 18) (f := 7) (fun q => absurd (am_ge_t q) (nI_ge (show j < m by omega) hm)) (fun _ => ?_)
      refine am_P.many (u := (9, [(2, .int (nI j)), (0, .ref b), (1, .int (nI m))], [.int 0, .ref b], h)) 2 rfl ?_
      refine am_P.callV (M := am_m_X2_addZeros) (M' := am_m_X2_add) (v1 := none) rfl rfl rfl rfl rfl hb.1 hb.2.1 rfl rfl rfl t1 ?_
      refine am_P.many (u := (2, [(2, .int (nI j + 1)), (0, .ref b), (1, .int (nI m))], [], h1)) 2 rfl ?_
      rw [nI_1]
      exact p2
    · rw [e1 i (by omega)]
      exact am_up_n (by omega)
    · by_cases hik : i = k
      · subst hik
        rw [e1 i (by omega), am_up_s]
        rfl
      · exact e2 i (by omega) (by omega)
