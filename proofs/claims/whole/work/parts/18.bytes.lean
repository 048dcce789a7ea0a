/-! BYTES: the rows of bytes of the class, over the abstract machine -/
/-- nothing but these numbers' cells has changed, and nothing is new -/
def am_fr (h h' : am_H) (S : List Nat) : Prop := h'.1 = h.1 ∧ h'.2.1 = h.2.1 ∧ h'.2.2.1 = h.2.2.1 ∧ ∀ o, o ∉ S → h'.2.2.2 o = h.2.2.2 o
theorem am_fr.rf {h : am_H} {S : List Nat} : am_fr h h S := ⟨rfl, rfl, rfl, fun _ _ => rfl⟩
theorem am_fr.tr {h1 h2 h3 : am_H} {S : List Nat} (a : am_fr h1 h2 S) (b : am_fr h2 h3 S) : am_fr h1 h3 S := ⟨b.1.trans a.1, b.2.1.trans a.2.1, b.2.2.1.trans a.2.2.1, fun o ho => (b.2.2.2 o ho).trans (a.2.2.2 o ho)⟩
theorem am_fr.put {h : am_H} {S : List Nat} {o : Nat} {c : am_C} (ho : o ∈ S) : am_fr h (am_put h o c) S := ⟨rfl, rfl, rfl, fun q hq => am_put_n h (fun e => hq (by rw [e]; exact ho)) c⟩
theorem by_ne {h : am_H} {b a n : Nat} {sz : Int32} {f : Nat → Value} (hb : by_at h b a n sz f) : a ≠ b := by
  rintro rfl
  have := hb.2.1
  rw [hb.2.2.2.2.2] at this
  cases this
theorem am_lt_t {x y : Int32} (h : am_cc .lt x y = true) : x < y := of_decide_eq_true (p := x < y) h
theorem am_ge_t {x y : Int32} (h : am_cc .ge x y = true) : y ≤ x := of_decide_eq_true (p := y ≤ x) h
theorem am_inT {k n : Nat} (hk : k < n) (hn : n < 2 ^ 31) : am_in (nI k) n = true := by
  unfold am_in
  rw [decide_eq_false (nI_pos (by omega)), nI_clamp (by omega)]
  exact Nat.blt_eq.mpr hk
set_option maxRecDepth 100000 in
/-- get: the byte, or 0 where there is none -/
theorem by_get {h : am_H} {b a n k j : Nat} {f : Nat → Value} (hb : by_at h b a n (nI k) f) (hn : n < 2 ^ 31) (hk : k ≤ n) (hj : j < k) : am_T 26 [.ref b, .int (nI j)] h (some (.int (am_i (f j)))) h := by
  obtain ⟨b1, b2, b3, b4, b5, b6⟩ := hb
  refine am_P.many (u := (bif am_cc .lt (nI j) 0 then 30 else 4, [(0, .ref b), (1, .int (nI j))], [], h)) 2 rfl ?_
  refine am_P.bif (b := am_cc .lt (nI j) 0) (t := 30) (f := 4) (fun q => absurd (am_lt_t q) (nI_pos (by omega))) (fun _ => ?_)
  refine am_P.many (u := (6, [(0, .ref b), (1, .int (nI j))], [.ref b, .int (nI j)], h)) 2 rfl ?_
  refine am_P.getf (M := am_m26) rfl rfl b1 b2 rfl ?_
  rw [b4]
  refine am_P.many (u := (bif am_cc .ge (nI j) (nI k) then 30 else 12, [(0, .ref b), (1, .int (nI j))], [], h)) 1 rfl ?_
  refine am_P.bif (b := am_cc .ge (nI j) (nI k)) (t := 30) (f := 12) (fun q => absurd (am_ge_t q) (nI_ge hj (by omega))) (fun _ => ?_)
  refine am_P.many (u := (14, [(0, .ref b), (1, .int (nI j))], [.ref b, .int (nI j)], h)) 2 rfl ?_
  refine am_P.getf (M := am_m26) rfl rfl b1 b2 rfl ?_
  rw [b3]
  refine am_P.alen (M := am_m26) (ci := 20) rfl rfl b5 (by rw [b6]) rfl ?_
  rw [b6]
  refine am_P.many (u := (bif am_cc .ge (nI j) (nI n) then 30 else 21, [(0, .ref b), (1, .int (nI j))], [], h)) 1 rfl ?_
  refine am_P.bif (b := am_cc .ge (nI j) (nI n)) (t := 30) (f := 21) (fun q => absurd (am_ge_t q) (nI_ge (show j < n by omega) hn)) (fun _ => ?_)
  refine am_P.many (u := (22, [(0, .ref b), (1, .int (nI j))], [.ref b], h)) 1 rfl ?_
  refine am_P.getf (M := am_m26) rfl rfl b1 b2 rfl ?_
  rw [b3]
  refine am_P.many (u := (26, [(0, .ref b), (1, .int (nI j))], [.int (nI j), .ref a], h)) 1 rfl ?_
  refine am_P.iald (M := am_m26) rfl rfl b5 (by rw [b6]) (by rw [b6]; exact am_inT (n := n) (show j < n by omega) hn) ?_
  rw [b6, nI_clamp (by omega)]
  refine am_P.many (u := (31, [(0, .ref b), (1, .int (nI j))], [.int (am_i (f j))], h)) 1 rfl ?_
  exact am_P.ret (M := am_m26) rfl rfl rfl
