section
/-! PURE: what the class writes in kind 0 -/
noncomputable def sumW (t : List Nat) (p n : Nat) : Nat := ((List.range n).map fun i => if 148 ≤ i ∧ i < 156 then 32 else gt t (p + i)).sum
theorem sumW_s (t : List Nat) (p n : Nat) : sumW t p (n + 1) = sumW t p n + (if 148 ≤ n ∧ n < 156 then 32 else gt t (p + n)) := by
  unfold sumW
  rw [List.range_succ, List.map_append, List.sum_append]
  simp
theorem sumW_app (t u : List Nat) (n : Nat) : sumW (t ++ u) t.length n = sumW u 0 n := by
  induction n with
  | zero => rfl
  | succ n ih => rw [sumW_s, sumW_s, ih, gt_app_r (by omega), show t.length + n - t.length = 0 + n by omega]
theorem sumW_le {t : List Nat} (h : byt t) (p n : Nat) : sumW t p n ≤ 255 * n := by
  induction n with
  | zero => simp [sumW]
  | succ n ih =>
    rw [sumW_s]
    have := h.gt (p + n)
    split <;> omega
theorem f_sumOf {N : Nat} {c : hS} {t : List Nat} {p : Nat} (hN : 1000000 ≤ N) (h : row c 3 t) (hp : p < 2 ^ 30) : f_X1_sumOf N c (nI p) = some (nI (sumW t p 512), c) := by
  have key : ∀ d n i, i + d = 512 → d < n → f_X1_sumOf_4 N (nI p) n c (nI (sumW t p i)) (nI i) = some (nI (sumW t p 512), c) := by
    intro d
    induction d with
    | zero =>
      intro n i hi hn
      obtain ⟨n, rfl⟩ : ∃ m, n = m + 1 := ⟨n - 1, by omega⟩
      have : i = 512 := by omega
      subst this
      rw [f_X1_sumOf_4, if_pos (by decide)]
    | succ d ih =>
      intro n i hi hn
      obtain ⟨n, rfl⟩ : ∃ m, n = m + 1 := ⟨n - 1, by omega⟩
      rw [f_X1_sumOf_4, if_neg (show ¬ (512 : Int32) ≤ nI i from nI_ge (b := 512) (by omega) (by decide))]
      have e31 : ¬ (148 ≤ i ∧ i < 156) → f_X1_sumOf_31 N (nI p) (f_X1_sumOf_4 N (nI p) n) c (nI i) (nI (sumW t p i)) = some (nI (sumW t p 512), c) := by
        intro q
        unfold f_X1_sumOf_31
        rw [nI_add, f_get h (by omega), bnd_some, nI_add, nI_1]
        have := ih n (i + 1) (by omega) (by omega)
        rwa [sumW_s, if_neg q] at this
      by_cases e1 : i < 148
      · rw [if_pos (show nI i < 148 from nI_lt (b := 148) e1 (by decide)), e31 (by omega)]
      · rw [if_neg (show ¬ nI i < 148 from nI_nlt (b := 148) (by omega) (by omega))]
        by_cases e2 : 156 ≤ i
        · rw [if_pos (show (156 : Int32) ≤ nI i from nI_le (a := 156) e2 (by omega)), e31 (by omega)]
        · rw [if_neg (show ¬ (156 : Int32) ≤ nI i from nI_ge (b := 156) (by omega) (by decide)), show (32 : Int32) = nI 32 from rfl, nI_add, nI_1]
          have := ih n (i + 1) (by omega) (by omega)
          rwa [sumW_s, if_pos (by omega)] at this
  unfold f_X1_sumOf
  have := key 512 N 0 (by omega) (by omega)
  rwa [show sumW t p 0 = 0 from rfl, nI_0] at this
/-- bytes set one behind the other -/
noncomputable def setL : List Nat → Nat → List Nat → List Nat
  | t, _, [] => t
  | t, q, d :: r => setL (t.set q d) (q + 1) r
theorem setL_mid : ∀ {ds A X B : List Nat}, X.length = ds.length → setL (A ++ (X ++ B)) A.length ds = A ++ (ds ++ B)
  | [], A, X, B, h => by
    have : X = [] := List.length_eq_zero_iff.mp h
    subst this
    rfl
  | d :: r, A, [], B, h => by simp at h
  | d :: r, A, x :: X, B, h => by
    unfold setL
    have e : (A ++ (x :: X ++ B)).set A.length d = (A ++ [d]) ++ (X ++ B) := by
      rw [List.set_append_right _ _ (Nat.le_refl _), Nat.sub_self]
      simp
    rw [e, show A.length + 1 = (A ++ [d]).length by simp, setL_mid (by simpa using h)]
    simp
theorem setL_len : ∀ {ds t : List Nat} {q : Nat}, (setL t q ds).length = t.length
  | [], t, q => rfl
  | d :: r, t, q => by
    unfold setL
    rw [setL_len]
    simp
theorem octs_get {v n i : Nat} (h : i < n) : (octs v n).drop i = od v (n - 1 - i) :: (octs v n).drop (i + 1) := by
  rw [List.drop_eq_getElem_cons (by rw [octs_len]; exact h)]
  congr 1
  simp [octs]
theorem f_setSum {N : Nat} {c : hS} {t : List Nat} {p : Nat} (hN : 1000000 ≤ N) (h : row c 3 t) (hp : p + 512 ≤ t.length) : ∃ c', f_X1_setSum N c (nI p) = some ((), c') ∧ row c' 3 (setL t (p + 148) (octs (sumW t p 512) 6)) ∧ fr [3, 4] c c' := by
  have hln : t.length ≤ 20000 := h.1
  unfold f_X1_setSum
  rw [f_sumOf hN h (by omega), bnd_some]
  have hv : sumW t p 512 < 2 ^ 31 := by have := sumW_le h.2.2.2 p 512; omega
  revert hv
  generalize sumW t p 512 = v
  intro hv
  have key : ∀ d n i c u, i + d = 6 → d < n → row c 3 u → u.length = t.length → ∃ c', f_X1_setSum_8 N (nI p) n c (nI v) (nI i) = some ((), c') ∧ row c' 3 (setL u (p + 148 + i) ((octs v 6).drop i)) ∧ fr [3, 4] c c' := by
    intro d
    induction d with
    | zero =>
      intro n i c u hi hn hu hl
      obtain ⟨n, rfl⟩ : ∃ m, n = m + 1 := ⟨n - 1, by omega⟩
      have : i = 6 := by omega
      subst this
      rw [f_X1_setSum_8, if_pos (by decide), List.drop_eq_nil_of_le (by rw [octs_len]; decide)]
      exact ⟨c, rfl, hu, fr.rf⟩
    | succ d ih =>
      intro n i c u hi hn hu hl
      obtain ⟨n, rfl⟩ : ∃ m, n = m + 1 := ⟨n - 1, by omega⟩
      have e5 : (5 : Int32) - nI i = nI (5 - i) := by
        rw [show (5 : Int32) = nI (5 - i) + nI i by rw [nI_add, show 5 - i + i = 5 by omega]; rfl, Int32.add_sub_cancel]
      obtain ⟨c1, e1, r1, f1⟩ := f_set (k := p + 148 + i) (nI (od v (5 - i))) hu (by omega)
      rw [b8_nI' (by have := od_lt v (5 - i); omega)] at r1
      obtain ⟨c2, e2, r2, f2⟩ := ih n (i + 1) c1 _ (by omega) (by omega) r1 (by simpa using hl)
      refine ⟨c2, ?_, ?_, f1.tr f2⟩
      · rw [f_X1_setSum_8, if_neg (show ¬ (6 : Int32) ≤ nI i from nI_ge (b := 6) (by omega) (by decide)), e5, od_eq hv (by omega), show nI p + 148 + nI i = nI (p + 148 + i) by rw [show (148 : Int32) = nI 148 from rfl, nI_add, nI_add], e1, bnd_some, nI_1]
        exact e2
      · rw [octs_get (by omega)]
        exact r2
  obtain ⟨c', e, r, q⟩ := key 6 N 0 c t (by omega) (by omega) h rfl
  exact ⟨c', e, by simpa using r, q⟩
noncomputable def z7 : List Nat := [48, 48, 48, 48, 48, 48, 48]
theorem z7_len : z7.length = 7 := rfl
noncomputable def sd0 : List Nat := [48, 48, 48, 48, 48, 48]
theorem sd0_len : sd0.length = 6 := rfl
/-- a head of kind 0, with six digits for its sum -/
noncomputable def head0 (x : Mb) (sd : List Nat) : List Nat := nmS x ++ (List.replicate (100 - (nmS x).length) 0 ++ ((if x.2.2 then [48, 48, 48, 48, 55, 53, 53] else [48, 48, 48, 48, 54, 52, 52]) ++ ([0] ++ (z7 ++ ([0] ++ (z7 ++ ([0] ++ (octs x.2.1.length 11 ++ ([0] ++ (octs 0 11 ++ ([0] ++ (sd ++ ([0] ++ ([32] ++ ([if x.2.2 then 53 else 48] ++ (List.replicate 100 0 ++ ([117, 115, 116, 97, 114, 0, 48, 48] ++ (List.replicate 64 0 ++ (z7 ++ ([0] ++ (z7 ++ List.replicate 168 0)))))))))))))))))))))
theorem nmS_len {x : Mb} (h : x.1.length ≤ 90) : (nmS x).length ≤ 91 := by
  unfold nmS
  cases x.2.2 <;> simp <;> omega
theorem head0_len {x : Mb} {sd : List Nat} (h : x.1.length ≤ 90) (hd : sd.length = 6) : (head0 x sd).length = 512 := by
  have := nmS_len h
  unfold head0
  simp only [List.length_append, List.length_replicate, octs_len, hd, z7_len, List.length_cons, List.length_nil]
  cases x.2.2 <;> simp only [if_true, if_false, Bool.false_eq_true, List.length_cons, List.length_nil] <;> omega
theorem subI {a b : Nat} (h : b ≤ a) : nI a - nI b = nI (a - b) := by
  rw [show nI a = nI (a - b) + nI b by rw [nI_add]; congr 1; omega, Int32.add_sub_cancel]
theorem subL {a b k : Nat} {x : Int32} (hx : x = nI k) (h : b ≤ a + k) : nI a + x - nI b = nI (a + k - b) := by
  subst hx
  rw [nI_add, subI h]
/-- what is behind a head's six digits -/
noncomputable def tail0 (x : Mb) : List Nat := [0] ++ ([32] ++ ([if x.2.2 then 53 else 48] ++ (List.replicate 100 0 ++ ([117, 115, 116, 97, 114, 0, 48, 48] ++ (List.replicate 64 0 ++ (z7 ++ ([0] ++ (z7 ++ List.replicate 168 0))))))))
noncomputable def front0 (x : Mb) : List Nat := nmS x ++ (List.replicate (100 - (nmS x).length) 0 ++ ((if x.2.2 then [48, 48, 48, 48, 55, 53, 53] else [48, 48, 48, 48, 54, 52, 52]) ++ ([0] ++ (z7 ++ ([0] ++ (z7 ++ ([0] ++ (octs x.2.1.length 11 ++ ([0] ++ (octs 0 11 ++ [0]))))))))))
theorem front0_len {x : Mb} (h : x.1.length ≤ 90) : (front0 x).length = 148 := by
  have := nmS_len h
  unfold front0
  simp only [List.length_append, List.length_replicate, octs_len, z7_len, List.length_cons, List.length_nil]
  cases x.2.2 <;> simp only [if_true, if_false, Bool.false_eq_true, List.length_cons, List.length_nil] <;> omega
theorem head0_eq (x : Mb) (sd : List Nat) : head0 x sd = front0 x ++ (sd ++ tail0 x) := by
  unfold head0 front0 tail0
  simp only [List.append_assoc]
theorem f_addHead0 {N : Nat} {c : hS} {t : List Nat} {m : Nat} {x : Mb} (hN : 1000000 ≤ N) (h : row c 3 t) (hm : mbr c m x) (hm4 : 4 < m) (hl : t.length + 512 ≤ 20000) (hx : x.1.length ≤ 90) (hb : x.2.1.length ≤ 400) : AP (f_X1_addHead N c m) c t (head0 x (octs (sumW (head0 x sd0) 0 512) 6)) := by
  have hn := nmS_len hx
  -- up to the sum
  have key : ∃ c', f_X1_addHead N c m = bnd (f_X1_setSum N c' (nI t.length)) (fun _ c15 => some ((), c15)) ∧ row c' 3 (t ++ head0 x sd0) ∧ fr [3, 4] c c' := by
    have last : ∀ (v : Nat) (w : Int32) (c1 : hS) (u : List Nat), b8 w = v → row c1 3 u → u.length = t.length + 156 → ∃ c', f_X1_addHead_176 N m c1 (nI t.length) w = bnd (f_X1_setSum N c' (nI t.length)) (fun _ c15 => some ((), c15)) ∧ row c' 3 (u ++ ([v] ++ (List.replicate 100 0 ++ ([117, 115, 116, 97, 114, 0, 48, 48] ++ (List.replicate 64 0 ++ (z7 ++ ([0] ++ (z7 ++ List.replicate 168 0)))))))) ∧ fr [3, 4] c1 c' := by
      intro v w c1 u hv hu hul
      unfold f_X1_addHead_176
      obtain ⟨d1, e1, r1, f1⟩ := AP.add hu (by omega) hv
      rw [e1, bnd_some, f_size r1, bnd_some]
      obtain ⟨d2, e2, r2, f2⟩ := AP.zeros (N := N) (m := 100) hN r1 (by simp only [List.length_append, List.length_replicate, List.length_cons, List.length_nil, octs_len, z7_len, sd0_len]; omega) (show nI t.length + 257 - nI (u ++ [v]).length = nI 100 by rw [subL (x := 257) (k := 257) rfl (by simp only [List.length_append, List.length_replicate, List.length_cons, List.length_nil, octs_len, z7_len, sd0_len]; omega)]; congr 1; simp only [List.length_append, List.length_replicate, List.length_cons, List.length_nil, octs_len, z7_len, sd0_len]; omega)
      rw [e2, bnd_some]
      obtain ⟨d3, e3, r3, f3⟩ := AP.mark (N := N) (w := sa1) (v := [117, 115, 116, 97, 114, 0, 48, 48]) hN r2 (by simp only [List.length_append, List.length_replicate, List.length_cons, List.length_nil, octs_len, z7_len, sd0_len]; omega) (by decide)
      rw [e3, bnd_some, f_size r3, bnd_some]
      obtain ⟨d4, e4, r4, f4⟩ := AP.zeros (N := N) (m := 64) hN r3 (by simp only [List.length_append, List.length_replicate, List.length_cons, List.length_nil, octs_len, z7_len, sd0_len]; omega) (show nI t.length + 329 - nI (u ++ [v] ++ List.replicate 100 0 ++ [117, 115, 116, 97, 114, 0, 48, 48]).length = nI 64 by rw [subL (x := 329) (k := 329) rfl (by simp only [List.length_append, List.length_replicate, List.length_cons, List.length_nil, octs_len, z7_len, sd0_len]; omega)]; congr 1; simp only [List.length_append, List.length_replicate, List.length_cons, List.length_nil, octs_len, z7_len, sd0_len]; omega)
      rw [e4, bnd_some]
      obtain ⟨d5, e5, r5, f5⟩ := AP.text (N := N) (w := tx17) (v := z7) hN r4 (by simp only [List.length_append, List.length_replicate, List.length_cons, List.length_nil, octs_len, z7_len, sd0_len]; omega) (by decide)
      rw [e5, bnd_some]
      obtain ⟨d6, e6, r6, f6⟩ := AP.add (x := 0) (v := 0) r5 (by simp only [List.length_append, List.length_replicate, List.length_cons, List.length_nil, octs_len, z7_len, sd0_len]; omega) rfl
      rw [e6, bnd_some]
      obtain ⟨d7, e7, r7, f7⟩ := AP.text (N := N) (w := tx17) (v := z7) hN r6 (by simp only [List.length_append, List.length_replicate, List.length_cons, List.length_nil, octs_len, z7_len, sd0_len]; omega) (by decide)
      rw [e7, bnd_some, f_size r7, bnd_some]
      obtain ⟨d8, e8, r8, f8⟩ := AP.zeros (N := N) (m := 168) hN r7 (by simp only [List.length_append, List.length_replicate, List.length_cons, List.length_nil, octs_len, z7_len, sd0_len]; omega) (show nI t.length + 512 - nI (u ++ [v] ++ List.replicate 100 0 ++ [117, 115, 116, 97, 114, 0, 48, 48] ++ List.replicate 64 0 ++ z7 ++ [0] ++ z7).length = nI 168 by rw [subL (x := 512) (k := 512) rfl (by simp only [List.length_append, List.length_replicate, List.length_cons, List.length_nil, octs_len, z7_len, sd0_len]; omega)]; congr 1; simp only [List.length_append, List.length_replicate, List.length_cons, List.length_nil, octs_len, z7_len, sd0_len]; omega)
      rw [e8, bnd_some]
      refine ⟨d8, rfl, ?_, ((((((f1.tr f2).tr f3).tr f4).tr f5).tr f6).tr f7).tr f8⟩
      simpa only [List.append_assoc] using r8
    have mid : ∀ (w : List Int32) (v : List Nat) (c1 : hS) (u : List Nat), w.map b8 = v → v.length = 7 → row c1 3 u → mbr c1 m x → u.length = t.length + 100 → ∃ c', f_X1_addHead_51 N m c1 (nI t.length) w = bnd (f_X1_setSum N c' (nI t.length)) (fun _ c15 => some ((), c15)) ∧ row c' 3 (u ++ (v ++ ([0] ++ (z7 ++ ([0] ++ (z7 ++ ([0] ++ (octs x.2.1.length 11 ++ ([0] ++ (octs 0 11 ++ ([0] ++ (sd0 ++ tail0 x)))))))))))) ∧ fr [3, 4] c1 c' := by
      intro w v c1 u hv hv7 hu hm1 hul
      unfold f_X1_addHead_51
      obtain ⟨d1, e1, r1, f1⟩ := AP.text (N := N) hN hu (by omega) hv
      rw [e1, bnd_some]
      obtain ⟨d2, e2, r2, f2⟩ := AP.add (x := 0) (v := 0) r1 (by simp only [List.length_append, List.length_replicate, List.length_cons, List.length_nil, octs_len, z7_len, sd0_len]; omega) rfl
      rw [e2, bnd_some]
      obtain ⟨d3, e3, r3, f3⟩ := AP.text (N := N) (w := tx17) (v := z7) hN r2 (by simp only [List.length_append, List.length_replicate, List.length_cons, List.length_nil, octs_len, z7_len, sd0_len]; omega) (by decide)
      rw [e3, bnd_some]
      obtain ⟨d4, e4, r4, f4⟩ := AP.add (x := 0) (v := 0) r3 (by simp only [List.length_append, List.length_replicate, List.length_cons, List.length_nil, octs_len, z7_len, sd0_len]; omega) rfl
      rw [e4, bnd_some]
      obtain ⟨d5, e5, r5, f5⟩ := AP.text (N := N) (w := tx17) (v := z7) hN r4 (by simp only [List.length_append, List.length_replicate, List.length_cons, List.length_nil, octs_len, z7_len, sd0_len]; omega) (by decide)
      rw [e5, bnd_some]
      obtain ⟨d6, e6, r6, f6⟩ := AP.add (x := 0) (v := 0) r5 (by simp only [List.length_append, List.length_replicate, List.length_cons, List.length_nil, octs_len, z7_len, sd0_len]; omega) rfl
      have m6 := hm1.fr (((((f1.tr f2).tr f3).tr f4).tr f5).tr f6) (by simp only [List.mem_cons, List.not_mem_nil, or_false]; omega) (by simp only [List.mem_cons, List.not_mem_nil, or_false]; omega) (by simp only [List.mem_cons, List.not_mem_nil, or_false]; omega) (by simp only [List.mem_cons, List.not_mem_nil, or_false]; omega) (by simp only [List.mem_cons, List.not_mem_nil, or_false]; omega)
      rw [e6, bnd_some, f_size m6.2.1, bnd_some]
      obtain ⟨d7, e7, r7, f7⟩ := AP.octal (N := N) (v := x.2.1.length) (n := 11) (m := 11) hN r6 (by simp only [List.length_append, List.length_replicate, List.length_cons, List.length_nil, octs_len, z7_len, sd0_len]; omega) rfl (by omega) (by decide) rfl
      rw [e7, bnd_some]
      obtain ⟨d8, e8, r8, f8⟩ := AP.add (x := 0) (v := 0) r7 (by simp only [List.length_append, List.length_replicate, List.length_cons, List.length_nil, octs_len, z7_len, sd0_len]; omega) rfl
      rw [e8, bnd_some]
      obtain ⟨d9, e9, r9, f9⟩ := AP.octal (N := N) (v := 0) (n := 11) (m := 11) hN r8 (by simp only [List.length_append, List.length_replicate, List.length_cons, List.length_nil, octs_len, z7_len, sd0_len]; omega) rfl (by omega) (by decide) rfl
      rw [show (0 : Int32) = nI 0 from rfl, e9, bnd_some, show nI 0 = (0 : Int32) from rfl]
      obtain ⟨da, ea, ra, fa⟩ := AP.add (x := 0) (v := 0) r9 (by simp only [List.length_append, List.length_replicate, List.length_cons, List.length_nil, octs_len, z7_len, sd0_len]; omega) rfl
      rw [ea, bnd_some]
      obtain ⟨db, eb, rb, fb⟩ := AP.text (N := N) (w := tx18) (v := sd0) hN ra (by simp only [List.length_append, List.length_replicate, List.length_cons, List.length_nil, octs_len, z7_len, sd0_len]; omega) (by decide)
      rw [eb, bnd_some]
      obtain ⟨dc, ec, rc, fc⟩ := AP.add (x := 0) (v := 0) rb (by simp only [List.length_append, List.length_replicate, List.length_cons, List.length_nil, octs_len, z7_len, sd0_len]; omega) rfl
      rw [ec, bnd_some]
      obtain ⟨dd, ed, rd, fd⟩ := AP.add (x := 32) (v := 32) rc (by simp only [List.length_append, List.length_replicate, List.length_cons, List.length_nil, octs_len, z7_len, sd0_len]; omega) rfl
      rw [ed, bnd_some]
      have fall := ((((((f7.tr f8).tr f9).tr fa).tr fb).tr fc).tr fd)
      have md := m6.fr fall (by simp only [List.mem_cons, List.not_mem_nil, or_false]; omega) (by simp only [List.mem_cons, List.not_mem_nil, or_false]; omega) (by simp only [List.mem_cons, List.not_mem_nil, or_false]; omega) (by simp only [List.mem_cons, List.not_mem_nil, or_false]; omega) (by simp only [List.mem_cons, List.not_mem_nil, or_false]; omega)
      rw [md.2.2]
      have ul : (u ++ v ++ [0] ++ z7 ++ [0] ++ z7 ++ [0] ++ octs x.2.1.length 11 ++ [0] ++ octs 0 11 ++ [0] ++ sd0 ++ [0] ++ [32]).length = t.length + 156 := by simp only [List.length_append, List.length_replicate, List.length_cons, List.length_nil, octs_len, z7_len, sd0_len]; omega
      cases hd : x.2.2 with
      | false =>
        rw [if_pos (show bI false = 0 from rfl)]
        obtain ⟨c', g1, g2, g3⟩ := last 48 48 dd _ rfl rd ul
        refine ⟨c', g1, ?_, ((((((f1.tr f2).tr f3).tr f4).tr f5).tr f6).tr fall).tr g3⟩
        unfold tail0
        rw [hd]
        simpa only [List.append_assoc, Bool.false_eq_true, if_true, if_false] using g2
      | true =>
        rw [if_neg (by decide)]
        obtain ⟨c', g1, g2, g3⟩ := last 53 53 dd _ rfl rd ul
        refine ⟨c', g1, ?_, ((((((f1.tr f2).tr f3).tr f4).tr f5).tr f6).tr fall).tr g3⟩
        unfold tail0
        rw [hd]
        simpa only [List.append_assoc, Bool.false_eq_true, if_true, if_false] using g2
    unfold f_X1_addHead
    rw [f_size h, bnd_some]
    obtain ⟨d1, e1, r1, f1⟩ := AP.title (N := N) hN h hm hm4 (by omega)
    rw [e1, bnd_some, f_size r1, bnd_some]
    obtain ⟨d2, e2, r2, f2⟩ := AP.zeros (N := N) (m := 100 - (nmS x).length) hN r1 (by simp only [List.length_append, List.length_replicate, List.length_cons, List.length_nil, octs_len, z7_len, sd0_len]; omega) (show nI t.length + 100 - nI (t ++ nmS x).length = nI (100 - (nmS x).length) by rw [subL (x := 100) (k := 100) rfl (by simp only [List.length_append, List.length_replicate, List.length_cons, List.length_nil, octs_len, z7_len, sd0_len]; omega)]; congr 1; simp only [List.length_append, List.length_replicate, List.length_cons, List.length_nil, octs_len, z7_len, sd0_len]; omega)
    rw [e2, bnd_some]
    have m2 := hm.fr (f1.tr f2) (by simp only [List.mem_cons, List.not_mem_nil, or_false]; omega) (by simp only [List.mem_cons, List.not_mem_nil, or_false]; omega) (by simp only [List.mem_cons, List.not_mem_nil, or_false]; omega) (by simp only [List.mem_cons, List.not_mem_nil, or_false]; omega) (by simp only [List.mem_cons, List.not_mem_nil, or_false]; omega)
    rw [m2.2.2]
    have ul : (t ++ nmS x ++ List.replicate (100 - (nmS x).length) 0).length = t.length + 100 := by simp only [List.length_append, List.length_replicate, List.length_cons, List.length_nil, octs_len, z7_len, sd0_len]; omega
    cases hd : x.2.2 with
    | false =>
      rw [if_pos (show bI false = 0 from rfl)]
      obtain ⟨c', g1, g2, g3⟩ := mid tx16 [48, 48, 48, 48, 54, 52, 52] d2 _ (by decide) rfl r2 m2 ul
      refine ⟨c', g1, ?_, (f1.tr f2).tr g3⟩
      rw [head0_eq]
      unfold front0
      rw [hd]
      simpa only [List.append_assoc, Bool.false_eq_true, if_true, if_false] using g2
    | true =>
      rw [if_neg (by decide)]
      obtain ⟨c', g1, g2, g3⟩ := mid tx15 [48, 48, 48, 48, 55, 53, 53] d2 _ (by decide) rfl r2 m2 ul
      refine ⟨c', g1, ?_, (f1.tr f2).tr g3⟩
      rw [head0_eq]
      unfold front0
      rw [hd]
      simpa only [List.append_assoc, Bool.false_eq_true, if_true, if_false] using g2
  obtain ⟨c1, e1, r1, f1⟩ := key
  have hlen : (head0 x sd0).length = 512 := head0_len hx rfl
  obtain ⟨c2, e2, r2, f2⟩ := f_setSum hN r1 (p := t.length) (by simp only [List.length_append, List.length_replicate, List.length_cons, List.length_nil, octs_len, z7_len, sd0_len]; omega)
  refine ⟨c2, by rw [e1, e2, bnd_some], ?_, f1.tr f2⟩
  rw [sumW_app] at r2
  have e3 : setL (t ++ head0 x sd0) (t.length + 148) (octs (sumW (head0 x sd0) 0 512) 6) = t ++ head0 x (octs (sumW (head0 x sd0) 0 512) 6) := by
    rw [head0_eq, head0_eq, ← List.append_assoc, show t.length + 148 = (t ++ front0 x).length by simp [front0_len hx], setL_mid (by rw [octs_len]; rfl), List.append_assoc]
  rwa [e3] at r2
noncomputable def out0 (x : Mb) : List Nat := head0 x (octs (sumW (head0 x sd0) 0 512) 6) ++ (x.2.1 ++ List.replicate (upTo x.2.1.length 512 - x.2.1.length) 0)
noncomputable def all0 (ms : List Mb) : List Nat := ms.flatMap out0 ++ List.replicate 1024 0
/-- names and bodies fit -/
noncomputable def okM (ms : List Mb) : Prop := ms.length ≤ 16 ∧ ∀ x ∈ ms, x.1.length ≤ 90 ∧ x.2.1.length ≤ 400
theorem upTo_le {a b : Nat} (h : 0 < b) : a ≤ upTo a b ∧ upTo a b < a + b := by
  rw [upTo_eq h]
  have := Nat.mod_lt a h
  have := Nat.mod_le a b
  split <;> omega
theorem out0_len {x : Mb} (hx : x.1.length ≤ 90) (hb : x.2.1.length ≤ 400) : (out0 x).length ≤ 1024 := by
  unfold out0
  have := upTo_le (a := x.2.1.length) (b := 512) (by decide)
  rw [List.length_append, head0_len hx (octs_len _ _), List.length_append, List.length_replicate]
  have h2 : upTo x.2.1.length 512 ≤ 512 := by
    rw [upTo_eq (by decide)]
    split
    · omega
    · rename_i q
      rw [Nat.mod_eq_of_lt (show x.2.1.length < 512 by omega)]
      omega
  omega
theorem f_layOut0 {N : Nat} {c : hS} {s : Nat} {t : List Nat} {ms : List Mb} {w : Int32} (hN : 1000000 ≤ N) (h : row c 3 t) (hsh : shf c s ms) (hs : s = 37 ∨ s = 119) (hok : okM ms) (ht : t = []) : ∃ c', f_X1_layOut N c s w = some ((), c') ∧ row c' 3 (all0 ms) ∧ fr [3, 4] c c' := by
  subst ht
  have hs4 : 4 < s := by omega
  have key : ∀ d n i c t, i + d = ms.length → d < n → shf c s ms → row c 3 t → t.length ≤ 1024 * i → AP (f_X1_layOut_2 N s w n c (nI i)) c t ((ms.drop i).flatMap out0 ++ List.replicate 1024 0) := by
    intro d
    induction d with
    | zero =>
      intro n i c t hi hn hsh h hl
      have h16 := hsh.1
      obtain ⟨n, rfl⟩ : ∃ m, n = m + 1 := ⟨n - 1, by omega⟩
      rw [f_X1_layOut_2]
      unfold f_X9_size
      rw [bnd_some, hsh.2.1, if_pos (nI_le (by omega) (by omega)), List.drop_eq_nil_of_le (by omega)]
      exact AP.last_ (AP.zeros hN h (by omega) rfl)
    | succ d ih =>
      intro n i c t hi hn hsh h hl
      have h16 := hsh.1
      obtain ⟨n, rfl⟩ : ∃ m, n = m + 1 := ⟨n - 1, by omega⟩
      have hil : i < ms.length := by omega
      have hm := hsh.mb hil
      have hx := hok.2 ms[i] (List.getElem_mem hil)
      obtain ⟨k, hk, ek⟩ := hsh.2.2.1 i (by omega)
      rw [f_X1_layOut_2]
      unfold f_X9_size
      rw [bnd_some, hsh.2.1, if_neg (nI_ge hil (by omega)), f_member hsh hs hil, bnd_some]
      dsimp only [opt]
      rw [beq6 (hsh.kc6 hs (by omega)), cond_true, List.drop_eq_getElem_cons hil, List.flatMap_cons]
      have hol := out0_len hx.1 hx.2
      unfold out0 at hol ⊢
      simp only [List.append_assoc]
      have hh := head0_len (sd := octs (sumW (head0 ms[i] sd0) 0 512) 6) hx.1 (octs_len _ _)
      rw [List.length_append, List.length_append, List.length_replicate, hh] at hol
      refine AP.bnd_ (f_addHead0 hN h hm (by omega) (by omega) hx.1 hx.2) (fun c1 r1 f1 => ?_)
      have m1 := hm.fr f1 (by simp only [List.mem_cons, List.not_mem_nil, or_false]; omega) (by simp only [List.mem_cons, List.not_mem_nil, or_false]; omega) (by simp only [List.mem_cons, List.not_mem_nil, or_false]; omega) (by simp only [List.mem_cons, List.not_mem_nil, or_false]; omega) (by simp only [List.mem_cons, List.not_mem_nil, or_false]; omega)
      rw [f_size m1.2.1, bnd_some]
      refine AP.bnd_ (AP.whole hN r1 m1.2.1 (by omega) (by rw [List.length_append, hh]; omega) rfl) (fun c2 r2 f2 => ?_)
      have hu := upTo_le (a := ms[i].2.1.length) (b := 512) (by decide)
      rw [show (512 : Int32) = nI 512 from rfl, f_roundedUp (by omega) (by decide) (by decide), bnd_some, subI hu.1]
      refine AP.bnd_ (AP.zeros hN r2 (by rw [List.length_append, List.length_append, hh]; omega) rfl) (fun c3 r3 f3 => ?_)
      rw [nI_1]
      refine ih n (i + 1) c3 _ (by omega) (by omega) ?_ r3 (by rw [List.length_append, List.length_append, List.length_append, List.length_replicate, hh]; omega)
      have ff := (f1.tr f2).tr f3
      refine ⟨hsh.1, (ff.i (by simp only [List.mem_cons, List.not_mem_nil, or_false]; omega) 1).trans hsh.2.1, fun i hi => ?_, fun i j hi hj e => ?_, fun i hi => ?_⟩
      · rw [ff.r (by simp only [List.mem_cons, List.not_mem_nil, or_false]; omega)]; exact hsh.2.2.1 i hi
      · rw [ff.r (by simp only [List.mem_cons, List.not_mem_nil, or_false]; omega), ff.r (by simp only [List.mem_cons, List.not_mem_nil, or_false]; omega)] at e
        exact hsh.2.2.2.1 i j hi hj e
      · rw [ff.r (by simp only [List.mem_cons, List.not_mem_nil, or_false]; omega)]
        obtain ⟨x, x1, x2⟩ := hsh.2.2.2.2 i hi
        obtain ⟨k, hk, ek⟩ := hsh.2.2.1 i hi
        exact ⟨x, x1.fr ff (by simp only [List.mem_cons, List.not_mem_nil, or_false]; omega) (by simp only [List.mem_cons, List.not_mem_nil, or_false]; omega) (by simp only [List.mem_cons, List.not_mem_nil, or_false]; omega) (by simp only [List.mem_cons, List.not_mem_nil, or_false]; omega) (by simp only [List.mem_cons, List.not_mem_nil, or_false]; omega), x2⟩
  obtain ⟨c', e, r, f⟩ := key ms.length N 0 c [] (by omega) (by have := hsh.1; omega) hsh h (by simp)
  rw [List.nil_append, List.drop_zero] at r
  exact ⟨c', e, r, f⟩
end
section
/-! PURE: what the class writes in kind 1 -/
noncomputable def hd16 (v i : Nat) : Nat := if v / 16 ^ i % 16 < 10 then 48 + v / 16 ^ i % 16 else 87 + v / 16 ^ i % 16
noncomputable def hexn (v n : Nat) : List Nat := (List.range n).reverse.map (hd16 v)
noncomputable def hexs (v : Nat) : List Nat := hexn v 8
theorem hexn_len (v n : Nat) : (hexn v n).length = n := by simp [hexn]
theorem hexs_len (v : Nat) : (hexs v).length = 8 := hexn_len v 8
theorem hd16_lt (v i : Nat) : hd16 v i < 103 := by
  unfold hd16
  have := Nat.mod_lt (v / 16 ^ i) (show 0 < 16 by decide)
  split <;> omega
theorem AP.num {N : Nat} {c : hS} {t : List Nat} {x : Int32} {v : Nat} (hN : 1000000 ≤ N) (h : row c 3 t) (hl : t.length + 8 ≤ 20000) (hx : x = nI v) (hv : v < 2 ^ 31) : AP (f_X4_addNumber N c x) c t (hexs v) := by
  subst hx
  unfold f_X4_addNumber hexs
  have key : ∀ d n' c t, d ≤ 8 → d < n' → row c 3 t → t.length + d ≤ 20000 → AP (f_X4_addNumber_3 N (nI v) n' c (nI (4 * d) - 4)) c t (hexn v d) := by
    intro d
    induction d with
    | zero =>
      intro n' c t _ hn' hr hl
      obtain ⟨n', rfl⟩ : ∃ k, n' = k + 1 := ⟨n' - 1, by omega⟩
      rw [f_X4_addNumber_3, if_pos (by decide)]
      exact AP.end_ hr
    | succ d ih =>
      intro n' c t hd hn' hr hl
      obtain ⟨n', rfl⟩ : ∃ k, n' = k + 1 := ⟨n' - 1, by omega⟩
      have e4 : nI (4 * (d + 1)) - 4 = nI (4 * d) := by
        rw [show (4 : Int32) = nI 4 from rfl, subI (by omega)]; congr 1
      rw [e4, f_X4_addNumber_3, if_neg (nI_pos (by omega)), ushr_nI (by omega) (by omega), and15, show hexn v (d + 1) = [hd16 v d] ++ hexn v d by simp [hexn, List.range_succ]]
      have ep : (2 : Nat) ^ (4 * d) = 16 ^ d := by rw [Nat.pow_mul]
      rw [ep]
      have hm := Nat.mod_lt (v / 16 ^ d) (show 0 < 16 by decide)
      have nx : nI (4 * d) + (-4) = nI (4 * d) - 4 := (Int32.sub_eq_add_neg _ _).symm
      rw [nx]
      unfold hd16
      by_cases e : v / 16 ^ d % 16 < 10
      · rw [if_neg (show ¬ (10 : Int32) ≤ nI (v / 16 ^ d % 16) from nI_ge (b := 10) e (by decide)), if_pos e, show (48 : Int32) = nI 48 from rfl, nI_add]
        refine AP.bnd_ (AP.add hr (by omega) (b8_nI' (by omega))) (fun c1 r1 f1 => ?_)
        exact ih n' c1 _ (by omega) (by omega) r1 (by simp; omega)
      · rw [if_pos (show (10 : Int32) ≤ nI (v / 16 ^ d % 16) from nI_le (a := 10) (by omega) (by omega)), if_neg e, show (87 : Int32) = nI 87 from rfl, nI_add]
        refine AP.bnd_ (AP.add hr (by omega) (b8_nI' (by omega))) (fun c1 r1 f1 => ?_)
        exact ih n' c1 _ (by omega) (by omega) r1 (by simp; omega)
  exact key 8 N c t (by omega) (by omega) h hl
noncomputable def mk1 : List Nat := [48, 55, 48, 55, 48, 49]
noncomputable def head1 (a b d e : Nat) : List Nat := mk1 ++ (hexs a ++ (hexs b ++ (hexs 1 ++ (hexs 0 ++ (hexs 0 ++ (hexs 0 ++ (hexs d ++ (hexs 0 ++ (hexs 0 ++ (hexs 0 ++ (hexs 0 ++ (hexs e ++ hexs 0))))))))))))
theorem head1_len (a b d e : Nat) : (head1 a b d e).length = 110 := by
  unfold head1 mk1
  simp only [List.length_append, hexs_len, List.length_cons, List.length_nil]
theorem AP.hd1 {N : Nat} {c : hS} {t : List Nat} {p1 p2 p3 p4 : Int32} {a b d e : Nat} (hN : 1000000 ≤ N) (h : row c 3 t) (hl : t.length + 110 ≤ 20000) (h1 : p1 = nI a) (h2 : p2 = nI b) (h3 : p3 = nI d) (h4 : p4 = nI e) (ha : a < 2 ^ 31) (hb : b < 2 ^ 31) (hd : d < 2 ^ 31) (he : e < 2 ^ 31) : AP (f_X4_addHead N c p1 p2 p3 p4) c t (head1 a b d e) := by
  unfold f_X4_addHead head1
  refine AP.bnd_ (AP.mark (v := mk1) hN h (by simp only [mk1, List.length_cons, List.length_nil]; omega) (by decide)) (fun c0 r0 f0 => ?_)
  have hl0 : (t ++ mk1).length + 104 ≤ 20000 := by simp only [List.length_append, mk1, List.length_cons, List.length_nil]; omega
  revert hl0 r0
  generalize t ++ mk1 = u
  intro r0 hl0
  have key : ∀ n, AP (f_X4_addHead_13 N p1 p2 p3 p4 (n + 14) c0 0) c0 u (hexs a ++ (hexs b ++ (hexs 1 ++ (hexs 0 ++ (hexs 0 ++ (hexs 0 ++ (hexs d ++ (hexs 0 ++ (hexs 0 ++ (hexs 0 ++ (hexs 0 ++ (hexs e ++ hexs 0)))))))))))) := by
    intro n
    rw [f_X4_addHead_13, if_neg (by decide), if_pos (by decide)]
    refine AP.bnd_ (AP.num (v := a) hN r0 (by omega) h1 ha) (fun c1 r1 f1 => ?_)
    rw [f_X4_addHead_13, if_neg (by decide), if_neg (by decide), if_pos (by decide)]
    refine AP.bnd_ (AP.num (v := b) hN r1 (by simp only [List.length_append, hexs_len]; omega) h2 hb) (fun c2 r2 f2 => ?_)
    rw [f_X4_addHead_13, if_neg (by decide), if_neg (by decide), if_neg (by decide), if_pos (by decide)]
    refine AP.bnd_ (AP.num (v := 1) hN r2 (by simp only [List.length_append, hexs_len]; omega) rfl (by decide)) (fun c3 r3 f3 => ?_)
    rw [f_X4_addHead_13, if_neg (by decide), if_neg (by decide), if_neg (by decide), if_neg (by decide), if_neg (by decide), if_neg (by decide)]
    refine AP.bnd_ (AP.num (v := 0) hN r3 (by simp only [List.length_append, hexs_len]; omega) rfl (by decide)) (fun c4 r4 f4 => ?_)
    rw [f_X4_addHead_13, if_neg (by decide), if_neg (by decide), if_neg (by decide), if_neg (by decide), if_neg (by decide), if_neg (by decide)]
    refine AP.bnd_ (AP.num (v := 0) hN r4 (by simp only [List.length_append, hexs_len]; omega) rfl (by decide)) (fun c5 r5 f5 => ?_)
    rw [f_X4_addHead_13, if_neg (by decide), if_neg (by decide), if_neg (by decide), if_neg (by decide), if_neg (by decide), if_neg (by decide)]
    refine AP.bnd_ (AP.num (v := 0) hN r5 (by simp only [List.length_append, hexs_len]; omega) rfl (by decide)) (fun c6 r6 f6 => ?_)
    rw [f_X4_addHead_13, if_neg (by decide), if_neg (by decide), if_neg (by decide), if_neg (by decide), if_pos (by decide)]
    refine AP.bnd_ (AP.num (v := d) hN r6 (by simp only [List.length_append, hexs_len]; omega) h3 hd) (fun c7 r7 f7 => ?_)
    rw [f_X4_addHead_13, if_neg (by decide), if_neg (by decide), if_neg (by decide), if_neg (by decide), if_neg (by decide), if_neg (by decide)]
    refine AP.bnd_ (AP.num (v := 0) hN r7 (by simp only [List.length_append, hexs_len]; omega) rfl (by decide)) (fun c8 r8 f8 => ?_)
    rw [f_X4_addHead_13, if_neg (by decide), if_neg (by decide), if_neg (by decide), if_neg (by decide), if_neg (by decide), if_neg (by decide)]
    refine AP.bnd_ (AP.num (v := 0) hN r8 (by simp only [List.length_append, hexs_len]; omega) rfl (by decide)) (fun c9 r9 f9 => ?_)
    rw [f_X4_addHead_13, if_neg (by decide), if_neg (by decide), if_neg (by decide), if_neg (by decide), if_neg (by decide), if_neg (by decide)]
    refine AP.bnd_ (AP.num (v := 0) hN r9 (by simp only [List.length_append, hexs_len]; omega) rfl (by decide)) (fun c10 r10 f10 => ?_)
    rw [f_X4_addHead_13, if_neg (by decide), if_neg (by decide), if_neg (by decide), if_neg (by decide), if_neg (by decide), if_neg (by decide)]
    refine AP.bnd_ (AP.num (v := 0) hN r10 (by simp only [List.length_append, hexs_len]; omega) rfl (by decide)) (fun c11 r11 f11 => ?_)
    rw [f_X4_addHead_13, if_neg (by decide), if_neg (by decide), if_neg (by decide), if_neg (by decide), if_neg (by decide), if_pos (by decide)]
    refine AP.bnd_ (AP.num (v := e) hN r11 (by simp only [List.length_append, hexs_len]; omega) h4 he) (fun c12 r12 f12 => ?_)
    rw [f_X4_addHead_13, if_neg (by decide), if_neg (by decide), if_neg (by decide), if_neg (by decide), if_neg (by decide), if_neg (by decide)]
    have := AP.bnd_ (K := fun _ c6 => f_X4_addHead_13 N p1 p2 p3 p4 (n + 1) c6 (0 + 1 + 1 + 1 + 1 + 1 + 1 + 1 + 1 + 1 + 1 + 1 + 1 + 1)) (AP.num (v := 0) hN r12 (by simp only [List.length_append, hexs_len]; omega) rfl (by decide)) (fun c13 r13 f13 => by rw [f_X4_addHead_13, if_pos (by decide)]; exact AP.end_ r13)
    rwa [List.append_nil] at this
  have := key (N - 14)
  rwa [show N - 14 + 14 = N by omega] at this
noncomputable def r4 (n : Nat) : Nat := upTo n 4 - n
theorem r4_lt (n : Nat) : r4 n < 4 := by
  have := upTo_le (a := n) (b := 4) (by decide)
  unfold r4; omega
theorem AP.rest {N : Nat} {c : hS} {t : List Nat} (hN : 1000000 ≤ N) (h : row c 3 t) (hl : t.length + 3 ≤ 20000) : AP (f_X4_addRest N c) c t (List.replicate (r4 t.length) 0) := by
  have hr := r4_lt t.length
  have hu := upTo_le (a := t.length) (b := 4) (by decide)
  unfold f_X4_addRest
  rw [f_size h, bnd_some, show (4 : Int32) = nI 4 from rfl, f_roundedUp (by omega) (by decide) (by decide), bnd_some, f_size h, bnd_some, subI hu.1]
  exact AP.last_ (AP.zeros hN h (by omega) rfl)
noncomputable def ttl1 (k : Nat) (x : Mb) : List Nat := head1 k (if x.2.2 then 16877 else 33188) x.2.1.length (x.1.length + 1) ++ (x.1 ++ [0])
noncomputable def out1 (p k : Nat) (x : Mb) : List Nat := ttl1 k x ++ (List.replicate (r4 (p + (ttl1 k x).length)) 0 ++ (x.2.1 ++ List.replicate (r4 (p + (ttl1 k x).length + r4 (p + (ttl1 k x).length) + x.2.1.length)) 0))
noncomputable def trl : List Nat := [84, 82, 65, 73, 76, 69, 82, 33, 33, 33]
noncomputable def end1 (p : Nat) : List Nat := head1 0 0 0 11 ++ (trl ++ ([0] ++ List.replicate (r4 (p + 121)) 0))
noncomputable def w1 : List Mb → Nat → Nat → List Nat
  | [], _, p => end1 p
  | x :: r, k, p => out1 p k x ++ w1 r (k + 1) (p + (out1 p k x).length)
theorem ttl1_len (k : Nat) (x : Mb) : (ttl1 k x).length = 111 + x.1.length := by
  unfold ttl1
  simp only [List.length_append, head1_len, List.length_cons, List.length_nil]
  omega
theorem out1_len {p k : Nat} {x : Mb} (hx : x.1.length ≤ 90) (hb : x.2.1.length ≤ 400) : (out1 p k x).length ≤ 607 := by
  unfold out1
  simp only [List.length_append, List.length_replicate, ttl1_len]
  have h1 := r4_lt (p + (111 + x.1.length))
  have h2 := r4_lt (p + (111 + x.1.length) + r4 (p + (111 + x.1.length)) + x.2.1.length)
  omega
theorem shf.fr {S : List Nat} {c c1 : hS} {s : Nat} {ms : List Mb} (h : shf c s ms) (hf : fr S c c1) (hS : ∀ o, o ∈ S → o < s ∨ s + 82 ≤ o) : shf c1 s ms := by
  have n0 : ∀ o, s ≤ o → o < s + 82 → o ∉ S := fun o h1 h2 q => by have := hS o q; omega
  refine ⟨h.1, (hf.i (n0 _ (by omega) (by omega)) 1).trans h.2.1, fun i hi => ?_, fun i j hi hj e => ?_, fun i hi => ?_⟩
  · rw [hf.r (n0 _ (by omega) (by omega))]; exact h.2.2.1 i hi
  · rw [hf.r (n0 _ (by omega) (by omega)), hf.r (n0 _ (by omega) (by omega))] at e
    exact h.2.2.2.1 i j hi hj e
  · rw [hf.r (n0 _ (by omega) (by omega))]
    obtain ⟨x, x1, x2⟩ := h.2.2.2.2 i hi
    obtain ⟨k, hk, ek⟩ := h.2.2.1 i hi
    exact ⟨x, x1.fr hf (n0 _ (by omega) (by omega)) (n0 _ (by omega) (by omega)) (n0 _ (by omega) (by omega)) (n0 _ (by omega) (by omega)) (n0 _ (by omega) (by omega)), x2⟩
theorem f_out1 {N s i m md : Nat} {w wd : Int32} {c : hS} {t r : List Nat} {x : Mb} {k2 : hS → Int32 → Option (Unit × hS)} (hN : 1000000 ≤ N) (h : row c 3 t) (hm : mbr c m x) (hm4 : 4 < m) (hl : t.length + 607 ≤ 20000) (hx : x.1.length ≤ 90) (hb : x.2.1.length ≤ 400) (hi : i < 1000) (hwd : wd = nI md) (hmd : md = if x.2.2 then 16877 else 33188) (hK : ∀ c', row c' 3 (t ++ out1 t.length (i + 1) x) → fr [3, 4] c c' → AP (k2 c' (nI i + 1)) c' (t ++ out1 t.length (i + 1) x) r) : AP (f_X4_layOut_48 N s w k2 c (nI i) m (nI x.2.1.length) wd) c t (out1 t.length (i + 1) x ++ r) := by
  have tl := ttl1_len (i + 1) x
  have hmd2 : md < 2 ^ 31 := by rw [hmd]; cases x.2.2 <;> decide
  have eo : out1 t.length (i + 1) x = head1 (i + 1) md x.2.1.length (x.1.length + 1) ++ (x.1 ++ ([0] ++ (List.replicate (r4 (t.length + (ttl1 (i + 1) x).length)) 0 ++ (x.2.1 ++ List.replicate (r4 (t.length + (ttl1 (i + 1) x).length + r4 (t.length + (ttl1 (i + 1) x).length) + x.2.1.length)) 0)))) := by
    rw [hmd]
    simp only [out1, ttl1, List.append_assoc]
  have q1 := r4_lt (t.length + (ttl1 (i + 1) x).length)
  have q2 := r4_lt (t.length + (ttl1 (i + 1) x).length + r4 (t.length + (ttl1 (i + 1) x).length) + x.2.1.length)
  rw [eo] at hK ⊢
  simp only [List.append_assoc]
  unfold f_X4_layOut_48
  rw [f_size hm.1, bnd_some]
  refine AP.bnd_ (AP.hd1 hN h (by omega) (nI_1 i) hwd rfl (nI_1 _) (by omega) hmd2 (by omega) (by omega)) (fun c1 r1 f1 => ?_)
  have m1 := hm.fr f1 (by simp only [List.mem_cons, List.not_mem_nil, or_false]; omega) (by simp only [List.mem_cons, List.not_mem_nil, or_false]; omega) (by simp only [List.mem_cons, List.not_mem_nil, or_false]; omega) (by simp only [List.mem_cons, List.not_mem_nil, or_false]; omega) (by simp only [List.mem_cons, List.not_mem_nil, or_false]; omega)
  refine AP.bnd_ (AP.title0 hN r1 m1 (by omega) (by simp only [List.length_append, head1_len]; omega)) (fun c2 r2 f2 => ?_)
  refine AP.bnd_ (AP.add (v := 0) r2 (by simp only [List.length_append, head1_len]; omega) rfl) (fun c3 r3 f3 => ?_)
  have e3 : (t ++ head1 (i + 1) md x.2.1.length (x.1.length + 1) ++ x.1 ++ [0]).length = t.length + (ttl1 (i + 1) x).length := by
    simp only [List.length_append, head1_len, List.length_cons, List.length_nil, tl]; omega
  have a4 := AP.rest hN r3 (by rw [e3]; omega)
  rw [e3] at a4
  refine AP.bnd_ a4 (fun c4 r4' f4 => ?_)
  have m4 := m1.fr ((f2.tr f3).tr f4) (by simp only [List.mem_cons, List.not_mem_nil, or_false]; omega) (by simp only [List.mem_cons, List.not_mem_nil, or_false]; omega) (by simp only [List.mem_cons, List.not_mem_nil, or_false]; omega) (by simp only [List.mem_cons, List.not_mem_nil, or_false]; omega) (by simp only [List.mem_cons, List.not_mem_nil, or_false]; omega)
  refine AP.bnd_ (AP.whole hN r4' m4.2.1 (by omega) (by rw [List.length_append, e3, List.length_replicate]; omega) rfl) (fun c5 r5 f5 => ?_)
  have e5 : (t ++ head1 (i + 1) md x.2.1.length (x.1.length + 1) ++ x.1 ++ [0] ++ List.replicate (r4 (t.length + (ttl1 (i + 1) x).length)) 0 ++ x.2.1).length = t.length + (ttl1 (i + 1) x).length + r4 (t.length + (ttl1 (i + 1) x).length) + x.2.1.length := by
    rw [List.length_append, List.length_append, e3, List.length_replicate]
  have a6 := AP.rest hN r5 (by rw [e5]; omega)
  rw [e5] at a6
  refine AP.bnd_ a6 (fun c6 r6 f6 => ?_)
  have ff := ((((f1.tr f2).tr f3).tr f4).tr f5).tr f6
  simp only [List.append_assoc] at r6 hK ⊢
  exact hK c6 r6 ff
theorem f_layOut1 {N : Nat} {c : hS} {s : Nat} {ms : List Mb} {w : Int32} (hN : 1000000 ≤ N) (h : row c 3 []) (hsh : shf c s ms) (hs : s = 37 ∨ s = 119) (hok : okM ms) : ∃ c', f_X4_layOut N c s w = some ((), c') ∧ row c' 3 (w1 ms 1 0) ∧ fr [3, 4] c c' := by
  have hs4 : 4 < s := by omega
  have key : ∀ d n i c t, i + d = ms.length → d < n → shf c s ms → row c 3 t → t.length ≤ 607 * i → AP (f_X4_layOut_2 N s w n c (nI i)) c t (w1 (ms.drop i) (i + 1) t.length) := by
    intro d
    induction d with
    | zero =>
      intro n i c t hi hn hsh h hl
      have h16 := hsh.1
      obtain ⟨n, rfl⟩ : ∃ m, n = m + 1 := ⟨n - 1, by omega⟩
      rw [f_X4_layOut_2]
      unfold f_X9_size
      rw [bnd_some, hsh.2.1, if_pos (nI_le (by omega) (by omega)), List.drop_eq_nil_of_le (by omega)]
      unfold w1 end1
      refine AP.bnd_ (AP.hd1 hN h (by omega) rfl rfl rfl rfl (by decide) (by decide) (by decide) (by decide)) (fun c1 r1 f1 => ?_)
      refine AP.bnd_ (AP.text (v := trl) hN r1 (by simp only [List.length_append, head1_len, trl, List.length_cons, List.length_nil]; omega) (by decide)) (fun c2 r2 f2 => ?_)
      refine AP.bnd_ (AP.add (v := 0) r2 (by simp only [List.length_append, head1_len, trl, List.length_cons, List.length_nil]; omega) rfl) (fun c3 r3 f3 => ?_)
      have e3 : (t ++ head1 0 0 0 11 ++ trl ++ [0]).length = t.length + 121 := by simp only [List.length_append, head1_len, trl, List.length_cons, List.length_nil]
      have := AP.last_ (AP.rest hN r3 (by rw [e3]; omega))
      rwa [e3] at this
    | succ d ih =>
      intro n i c t hi hn hsh h hl
      have h16 := hsh.1
      obtain ⟨n, rfl⟩ : ∃ m, n = m + 1 := ⟨n - 1, by omega⟩
      have hil : i < ms.length := by omega
      have hm := hsh.mb hil
      have hx := hok.2 ms[i] (List.getElem_mem hil)
      obtain ⟨k, hk, ek⟩ := hsh.2.2.1 i (by omega)
      have hol := out1_len (p := t.length) (k := i + 1) hx.1 hx.2
      rw [f_X4_layOut_2]
      unfold f_X9_size
      rw [bnd_some, hsh.2.1, if_neg (nI_ge hil (by omega)), f_member hsh hs hil, bnd_some]
      dsimp only [opt]
      rw [beq6 (hsh.kc6 hs (by omega)), cond_true, List.drop_eq_getElem_cons hil, f_size hm.2.1, bnd_some, hm.2.2]
      have nxt : ∀ c', row c' 3 (t ++ out1 t.length (i + 1) ms[i]) → fr [3, 4] c c' → AP (f_X4_layOut_2 N s w n c' (nI i + 1)) c' (t ++ out1 t.length (i + 1) ms[i]) (w1 (ms.drop (i + 1)) (i + 1 + 1) (t.length + (out1 t.length (i + 1) ms[i]).length)) := by
        intro c' r' f'
        rw [nI_1, ← List.length_append]
        exact ih n (i + 1) c' _ (by omega) (by omega) (hsh.fr f' (fun o ho => by simp only [List.mem_cons, List.not_mem_nil, or_false] at ho; omega)) r' (by rw [List.length_append]; omega)
      unfold w1
      cases hd : ms[i].2.2 with
      | false => rw [if_pos (show bI false = 0 from rfl)]; exact f_out1 (md := 33188) hN h hm (by omega) (by omega) hx.1 hx.2 (by omega) rfl (by rw [hd]; rfl) nxt
      | true => rw [if_neg (by decide)]; exact f_out1 (md := 16877) hN h hm (by omega) (by omega) hx.1 hx.2 (by omega) rfl (by rw [hd]; rfl) nxt
  obtain ⟨c', e, r, f⟩ := key ms.length N 0 c [] (by omega) (by have := hsh.1; omega) hsh h (by simp)
  rw [List.nil_append, List.drop_zero] at r
  exact ⟨c', e, r, f⟩
end
section
/-! PURE: packing -/
/-- bytes that are done, the byte that is held, how many bits it has -/
noncomputable abbrev Pk : Type := List Nat × Nat × Nat
noncomputable def psh (s : Pk) (b : Nat) : Pk := if s.2.2 + 1 = 8 then (s.1 ++ [s.2.1 + b * 2 ^ s.2.2], 0, 0) else (s.1, s.2.1 + b * 2 ^ s.2.2, s.2.2 + 1)
noncomputable def psL (s : Pk) (bs : List Nat) : Pk := bs.foldl psh s
theorem psL_app (s : Pk) (a b : List Nat) : psL s (a ++ b) = psL (psL s a) b := List.foldl_append
noncomputable def pkOk (s : Pk) : Prop := s.2.2 < 8 ∧ s.2.1 < 2 ^ s.2.2
theorem psh_ok {s : Pk} {b : Nat} (h : pkOk s) (hb : b < 2) : pkOk (psh s b) := by
  unfold psh
  split
  · exact ⟨show 0 < 8 by decide, show 0 < 2 ^ 0 by decide⟩
  · refine ⟨by have := h.1; simp only; omega, ?_⟩
    show s.2.1 + b * 2 ^ s.2.2 < 2 ^ (s.2.2 + 1)
    have := h.2
    have : b * 2 ^ s.2.2 ≤ 1 * 2 ^ s.2.2 := Nat.mul_le_mul_right _ (by omega)
    rw [Nat.pow_succ]
    omega
noncomputable def bitL (bs : List Nat) : Prop := ∀ b ∈ bs, b < 2
theorem psL_ok {bs : List Nat} : ∀ {s : Pk}, pkOk s → bitL bs → pkOk (psL s bs) := by
  induction bs with
  | nil => intro s h _; exact h
  | cons b r ih => intro s h hb; exact ih (psh_ok h (hb b (by simp))) (fun x hx => hb x (by simp [hx]))
theorem psL_len {bs : List Nat} : ∀ {s : Pk}, s.2.2 < 8 → 8 * (psL s bs).1.length + (psL s bs).2.2 = 8 * s.1.length + s.2.2 + bs.length ∧ (psL s bs).2.2 < 8 := by
  induction bs with
  | nil => intro s h; exact ⟨by simp [psL], h⟩
  | cons b r ih =>
    intro s h
    have e : (psh s b).2.2 < 8 ∧ 8 * (psh s b).1.length + (psh s b).2.2 = 8 * s.1.length + s.2.2 + 1 := by
      unfold psh
      split
      · exact ⟨show 0 < 8 by decide, by simp; omega⟩
      · exact ⟨by simp only; omega, by simp only; omega⟩
    obtain ⟨i1, i2⟩ := ih e.1
    refine ⟨?_, i2⟩
    show 8 * (psL (psh s b) r).1.length + (psL (psh s b) r).2.2 = _
    rw [i1, e.2, List.length_cons]
    omega
noncomputable def bLE (v n : Nat) : List Nat := (List.range n).map fun i => v / 2 ^ i % 2
noncomputable def bBE (v n : Nat) : List Nat := (List.range n).reverse.map fun i => v / 2 ^ i % 2
theorem bLE_bit (v n : Nat) : bitL (bLE v n) := fun b hb => by
  unfold bLE at hb
  obtain ⟨i, _, rfl⟩ := List.mem_map.mp hb
  exact Nat.mod_lt _ (by decide)
theorem bBE_bit (v n : Nat) : bitL (bBE v n) := fun b hb => by
  unfold bBE at hb
  obtain ⟨i, _, rfl⟩ := List.mem_map.mp hb
  exact Nat.mod_lt _ (by decide)
theorem bLE_len (v n : Nat) : (bLE v n).length = n := by simp [bLE]
theorem bBE_len (v n : Nat) : (bBE v n).length = n := by simp [bBE]
theorem bitL.app {a b : List Nat} (h1 : bitL a) (h2 : bitL b) : bitL (a ++ b) := fun x hx => (List.mem_append.mp hx).elim (h1 x) (h2 x)
theorem and1 (a : Nat) : nI a &&& 1 = nI (a % 2) := by
  rw [show (1 : Int32) = nI 1 from rfl, nx_and]
  congr 1
  exact Nat.and_two_pow_sub_one_eq_mod a 1
theorem held_or {h b k : Nat} (hh : h < 2 ^ k) (hk : k < 8) : nI h ||| j_shl (nI b) (nI k) = nI (h + b * 2 ^ k) := by
  rw [shl_nI b (by omega), nx_or, Nat.or_comm, or_add hh, Nat.add_comm]
/-- the class's packer -/
noncomputable def pkC (c : hS) (t : List Nat) (s : Pk) : Prop := row c 3 (t ++ s.1) ∧ c.1 10 1 = nI s.2.1 ∧ c.1 10 2 = nI s.2.2 ∧ pkOk s
noncomputable abbrev Spk : List Nat := [3, 4, 10]
/-- a run that pushes these bits -/
noncomputable def PB (X : Option (Unit × hS)) (c : hS) (t : List Nat) (s : Pk) (bs : List Nat) : Prop := ∃ c', X = some ((), c') ∧ pkC c' t (psL s bs) ∧ fr Spk c c' ∧ c'.1 10 3 = c.1 10 3
theorem PB.end_ {c : hS} {t : List Nat} {s : Pk} (h : pkC c t s) : PB (some ((), c)) c t s [] := ⟨c, rfl, h, fr.rf, rfl⟩
theorem PB.bnd_ {X : Option (Unit × hS)} {K : Unit → hS → Option (Unit × hS)} {c : hS} {t : List Nat} {s : Pk} {p r : List Nat} (hX : PB X c t s p) (hK : ∀ c1, pkC c1 t (psL s p) → fr Spk c c1 → c1.1 10 3 = c.1 10 3 → PB (K () c1) c1 t (psL s p) r) : PB (bnd X K) c t s (p ++ r) := by
  obtain ⟨c1, e1, r1, f1, d1⟩ := hX
  obtain ⟨c2, e2, r2, f2, d2⟩ := hK c1 r1 f1 d1
  refine ⟨c2, ?_, by rw [psL_app]; exact r2, f1.tr f2, d2.trans d1⟩
  rw [e1, bnd_some]
  exact e2
theorem PB.last_ {X : Option (Unit × hS)} {c : hS} {t : List Nat} {s : Pk} {p : List Nat} (hX : PB X c t s p) : PB (bnd X fun _ c1 => some ((), c1)) c t s p := by
  have := PB.bnd_ (K := fun _ c1 => some ((), c1)) hX (fun c1 r1 _ _ => PB.end_ r1)
  rwa [List.append_nil] at this
theorem PB.bits {N : Nat} {c : hS} {t : List Nat} {s : Pk} {x m : Int32} {v n : Nat} (hN : 1000000 ≤ N) (h : pkC c t s) (hl : t.length + s.1.length + n ≤ 20000) (hx : x = nI v) (hv : v < 2 ^ 31) (hn : n ≤ 16) (hm : m = nI n) : PB (f_X8_addBits N c x m) c t s (bLE v n) := by
  subst hx
  subst hm
  unfold f_X8_addBits
  have key : ∀ d n' i c s, i + d = n → d < n' → pkC c t s → t.length + s.1.length + d ≤ 20000 → PB (f_X8_addBits_2 N (nI v) (nI n) n' c (nI i)) c t s ((List.range' i d).map fun i => v / 2 ^ i % 2) := by
    intro d
    induction d with
    | zero =>
      intro n' i c s hi hn' h hl
      obtain ⟨n', rfl⟩ : ∃ k, n' = k + 1 := ⟨n' - 1, by omega⟩
      rw [f_X8_addBits_2, if_pos (nI_le (by omega) (by omega))]
      exact PB.end_ h
    | succ d ih =>
      intro n' i c s hi hn' h hl
      obtain ⟨n', rfl⟩ : ∃ k, n' = k + 1 := ⟨n' - 1, by omega⟩
      obtain ⟨h1, h2, h3, h4⟩ := h
      rw [f_X8_addBits_2, if_neg (nI_ge (by omega) (by omega)), shr_nI hv (by omega), and1, h2, h3, held_or h4.2 h4.1]
      dsimp only [st1]
      have e2 : (sI c 10 1 (nI (s.2.1 + v / 2 ^ i % 2 * 2 ^ s.2.2))).1 10 2 = nI s.2.2 := by rw [sI_j (by decide)]; exact h3
      rw [e2, nI_1, sI_s, sI_j (show (1 : Nat) ≠ 2 by decide), sI_s, nI_1]
      have hb : v / 2 ^ i % 2 < 2 := Nat.mod_lt _ (by decide)
      have ok := psh_ok h4 hb
      rw [List.range'_succ, List.map_cons]
      have f12 : fr Spk c (sI (sI c 10 1 (nI (s.2.1 + v / 2 ^ i % 2 * 2 ^ s.2.2))) 10 2 (nI (s.2.2 + 1))) := (fr.sI (by simp)).tr (fr.sI (by simp))
      have r12 := h1.fr (S := [10]) (c1 := sI (sI c 10 1 (nI (s.2.1 + v / 2 ^ i % 2 * 2 ^ s.2.2))) 10 2 (nI (s.2.2 + 1))) ((fr.sI (by simp)).tr (fr.sI (by simp))) (by decide) (by decide)
      by_cases e : s.2.2 + 1 = 8
      · have hlt : s.2.1 + v / 2 ^ i % 2 * 2 ^ s.2.2 < 256 := by
          have a1 := h4.2
          have e7 : s.2.2 = 7 := by omega
          rw [e7] at a1 ⊢
          omega
        rw [e, if_pos (show nI 8 = 8 from rfl)]
        rw [e] at r12 f12
        obtain ⟨c3, e3, r3, f3⟩ := f_add (nI (s.2.1 + v / 2 ^ i % 2 * 2 ^ s.2.2)) r12 (by rw [ln4]; simp; omega)
        rw [e3, bnd_some, b8_nI' hlt] at *
        have f5 : fr [10] c3 (sI (sI c3 10 1 0) 10 2 0) := (fr.sI (by simp)).tr (fr.sI (by simp))
        have eq : psh s (v / 2 ^ i % 2) = (s.1 ++ [s.2.1 + v / 2 ^ i % 2 * 2 ^ s.2.2], 0, 0) := by unfold psh; rw [if_pos e]
        have p5 : pkC (sI (sI c3 10 1 0) 10 2 0) t (psh s (v / 2 ^ i % 2)) := by
          refine ⟨?_, ?_, ?_, ok⟩
          · rw [eq]
            have := r3.fr f5 (by decide) (by decide)
            rwa [List.append_assoc] at this
          · rw [eq, sI_j (by decide), sI_s]; rfl
          · rw [eq, sI_s]; rfl
        obtain ⟨c6, e6, r6, f6, d6⟩ := ih n' (i + 1) _ _ (by omega) (by omega) p5 (by rw [eq]; simp; omega)
        refine ⟨c6, ?_, r6, (f12.tr ((f3.mono (fun o ho => by simp at ho ⊢; omega)).tr (f5.mono (fun o ho => by simp at ho ⊢; omega)))).tr f6, ?_⟩
        · exact e6
        · rw [d6, sI_j (by decide), sI_j (by decide), f3.i (by decide), sI_j (by decide), sI_j (by decide)]
      · have h7 : s.2.2 + 1 < 8 := by have := h4.1; omega
        rw [if_neg (show ¬ nI (s.2.2 + 1) = 8 from fun q => e ((nI_eq (by omega) (show 8 < 2 ^ 31 by decide)).mp q))]
        have eq : psh s (v / 2 ^ i % 2) = (s.1, s.2.1 + v / 2 ^ i % 2 * 2 ^ s.2.2, s.2.2 + 1) := by unfold psh; rw [if_neg e]
        have p2 : pkC (sI (sI c 10 1 (nI (s.2.1 + v / 2 ^ i % 2 * 2 ^ s.2.2))) 10 2 (nI (s.2.2 + 1))) t (psh s (v / 2 ^ i % 2)) := by
          refine ⟨?_, ?_, ?_, ok⟩
          · rw [eq]; exact r12
          · rw [eq, sI_j (by decide), sI_s]
          · rw [eq, sI_s]
        obtain ⟨c6, e6, r6, f6, d6⟩ := ih n' (i + 1) _ _ (by omega) (by omega) p2 (by rw [eq]; simp only; omega)
        refine ⟨c6, e6, r6, f12.tr f6, ?_⟩
        rw [d6, sI_j (by decide), sI_j (by decide)]
  have := key n N 0 c s (by omega) (by omega) h hl
  rw [bLE, List.range_eq_range']
  exact this
theorem PB.code {N : Nat} {c : hS} {t : List Nat} {s : Pk} {x m : Int32} {v n : Nat} (hN : 1000000 ≤ N) (h : pkC c t s) (hl : t.length + s.1.length + n ≤ 20000) (hx : x = nI v) (hv : v < 2 ^ 31) (hn : n ≤ 16) (hm : m = nI n) : PB (f_X8_addCode N c x m) c t s (bBE v n) := by
  subst hx
  subst hm
  unfold f_X8_addCode
  have key : ∀ d n' c s, d ≤ n → d < n' → pkC c t s → t.length + s.1.length + d ≤ 20000 → PB (f_X8_addCode_4 N (nI v) (nI n) n' c (nI d - 1)) c t s (bBE v d) := by
    intro d
    induction d with
    | zero =>
      intro n' c s _ hn' h hl
      obtain ⟨n', rfl⟩ : ∃ k, n' = k + 1 := ⟨n' - 1, by omega⟩
      rw [f_X8_addCode_4, if_pos (by decide)]
      exact PB.end_ h
    | succ d ih =>
      intro n' c s hd hn' h hl
      obtain ⟨n', rfl⟩ : ∃ k, n' = k + 1 := ⟨n' - 1, by omega⟩
      rw [nI_pred, f_X8_addCode_4, if_neg (nI_pos (by omega)), shr_nI hv (by omega), show bBE v (d + 1) = [v / 2 ^ d % 2] ++ bBE v d by simp [bBE, List.range_succ]]
      have b1 := PB.bits (v := v / 2 ^ d) (n := 1) (m := 1) hN h (by omega) rfl (Nat.lt_of_le_of_lt (Nat.div_le_self _ _) hv) (by decide) rfl
      rw [show bLE (v / 2 ^ d) 1 = [v / 2 ^ d % 2] by simp [bLE, List.range_succ]] at b1
      refine PB.bnd_ b1 (fun c1 r1 f1 _ => ?_)
      rw [show nI d + -1 = nI d - 1 from (Int32.sub_eq_add_neg _ _).symm]
      have hlen := psL_len (s := s) (bs := [v / 2 ^ d % 2]) h.2.2.2.1
      have h8 := h.2.2.2.1
      refine ih n' c1 _ (by omega) (by omega) r1 ?_
      simp only [List.length_cons, List.length_nil] at hlen
      omega
  exact key n N c s (by omega) (by omega) h hl
end
section
/-! PURE: lengths, distances, symbols -/
noncomputable def lbits (s : Nat) : Nat := if s < 8 ∨ s = 28 then 0 else (s - 4) / 4
noncomputable def lbase (s : Nat) : Nat := if s = 28 then 258 else if s < 8 then 3 + s else (4 + s % 4) * 2 ^ ((s - 4) / 4) + 3
noncomputable def dbits (s : Nat) : Nat := if s < 4 then 0 else (s - 2) / 2
noncomputable def dbase (s : Nat) : Nat := if s < 4 then 1 + s else (2 + s % 2) * 2 ^ ((s - 2) / 2) + 1
theorem f_lengthBits {c : hS} {s : Nat} (hs : s < 29) : f_X11_lengthBits c (nI s) = some (nI (lbits s), c) := by
  unfold f_X11_lengthBits lbits
  by_cases e : s < 8
  · rw [if_pos (show nI s < 8 from nI_lt (b := 8) e (by decide)), if_pos (Or.inl e)]; rfl
  · rw [if_neg (show ¬ nI s < 8 from nI_nlt (b := 8) (by omega) (by omega))]
    by_cases e2 : s = 28
    · subst e2; rfl
    · rw [if_neg (show ¬ nI s = 28 from fun q => e2 ((nI_eq (by omega) (show 28 < 2 ^ 31 by decide)).mp q)), if_neg (by omega), (by decide +kernel : ∀ s, s < 29 → 8 ≤ s → j_shr (nI s - 4) 2 = nI ((s - 4) / 4)) s hs (by omega)]
theorem f_lengthBase {c : hS} {s : Nat} (hs : s < 29) : f_X11_lengthBase c (nI s) = some (nI (lbase s), c) := by
  unfold f_X11_lengthBase
  by_cases e2 : s = 28
  · subst e2; rfl
  · rw [if_neg (show ¬ nI s = 28 from fun q => e2 ((nI_eq (by omega) (show 28 < 2 ^ 31 by decide)).mp q))]
    by_cases e : s < 8
    · rw [if_neg (show ¬ (8 : Int32) ≤ nI s from nI_ge (b := 8) e (by decide)), show (3 : Int32) = nI 3 from rfl, nI_add]
      unfold lbase
      rw [if_neg e2, if_pos e]
    · rw [if_pos (show (8 : Int32) ≤ nI s from nI_le (a := 8) (by omega) (by omega)), f_lengthBits hs, bnd_some, (by decide +kernel : ∀ s, s < 29 → 8 ≤ s → s ≠ 28 → j_shl (4 + (nI s &&& 3)) (nI (lbits s)) + 3 = nI (lbase s)) s hs (by omega) e2]
theorem f_distanceBits {c : hS} {s : Nat} (hs : s < 30) : f_X11_distanceBits c (nI s) = some (nI (dbits s), c) := by
  unfold f_X11_distanceBits dbits
  by_cases e : s < 4
  · rw [if_neg (show ¬ (4 : Int32) ≤ nI s from nI_ge (b := 4) e (by decide)), if_pos e]; rfl
  · rw [if_pos (show (4 : Int32) ≤ nI s from nI_le (a := 4) (by omega) (by omega)), if_neg e, (by decide +kernel : ∀ s, s < 30 → 4 ≤ s → j_shr (nI s - 2) 1 = nI ((s - 2) / 2)) s hs (by omega)]
theorem f_distanceBase {c : hS} {s : Nat} (hs : s < 30) : f_X11_distanceBase c (nI s) = some (nI (dbase s), c) := by
  unfold f_X11_distanceBase
  by_cases e : s < 4
  · rw [if_neg (show ¬ (4 : Int32) ≤ nI s from nI_ge (b := 4) e (by decide)), show (1 : Int32) = nI 1 from rfl, nI_add]
    unfold dbase
    rw [if_pos e]
  · rw [if_pos (show (4 : Int32) ≤ nI s from nI_le (a := 4) (by omega) (by omega)), f_distanceBits hs, bnd_some, (by decide +kernel : ∀ s, s < 30 → 4 ≤ s → j_shl (2 + (nI s &&& 1)) (nI (dbits s)) + 1 = nI (dbase s)) s hs (by omega)]
theorem lbase_lt : ∀ s, s < 29 → lbase s < 300 := by decide +kernel
theorem dbase_lt : ∀ s, s < 30 → dbase s < 2 ^ 16 := by decide +kernel
theorem lbits_lt : ∀ s, s < 29 → lbits s ≤ 5 := by decide +kernel
theorem dbits_lt : ∀ s, s < 30 → dbits s ≤ 13 := by decide +kernel
/-- the largest step whose base is not above n -/
noncomputable def lst (n : Nat) : Nat → Nat
  | 0 => 0
  | s + 1 => if lbase (s + 1) ≤ n then s + 1 else lst n s
noncomputable def dst (n : Nat) : Nat → Nat
  | 0 => 0
  | s + 1 => if dbase (s + 1) ≤ n then s + 1 else dst n s
theorem lst_le (n : Nat) : ∀ s, lst n s ≤ s
  | 0 => Nat.le_refl _
  | s + 1 => by
    unfold lst
    split
    · exact Nat.le_refl _
    · exact Nat.le_succ_of_le (lst_le n s)
theorem dst_le (n : Nat) : ∀ s, dst n s ≤ s
  | 0 => Nat.le_refl _
  | s + 1 => by
    unfold dst
    split
    · exact Nat.le_refl _
    · exact Nat.le_succ_of_le (dst_le n s)
theorem lst_base {n : Nat} (hn : 3 ≤ n) : ∀ s, lbase (lst n s) ≤ n
  | 0 => hn
  | s + 1 => by
    unfold lst
    split
    · assumption
    · exact lst_base hn s
theorem dst_base {n : Nat} (hn : 1 ≤ n) : ∀ s, dbase (dst n s) ≤ n
  | 0 => hn
  | s + 1 => by
    unfold dst
    split
    · assumption
    · exact dst_base hn s
theorem f_lengthStep {N n : Nat} {c : hS} (hN : 1000000 ≤ N) (hn : n < 2 ^ 31) : f_X8_lengthStep N c (nI n) = some (nI (lst n 28), c) := by
  have key : ∀ s k, s < 29 → s < k → f_X8_lengthStep_3 N (nI n) k c (nI s) = some (nI (lst n s), c) := by
    intro s
    induction s with
    | zero =>
      intro k _ hk
      obtain ⟨k, rfl⟩ : ∃ m, k = m + 1 := ⟨k - 1, by omega⟩
      rw [f_X8_lengthStep_3, if_pos (by decide)]
      rfl
    | succ s ih =>
      intro k hs hk
      obtain ⟨k, rfl⟩ : ∃ m, k = m + 1 := ⟨k - 1, by omega⟩
      have lb := lbase_lt (s + 1) hs
      rw [f_X8_lengthStep_3, if_neg (show ¬ nI (s + 1) ≤ 0 from nI_nle (by omega) (by omega)), f_lengthBase hs, bnd_some]
      unfold lst
      by_cases e : lbase (s + 1) ≤ n
      · rw [if_pos (nI_le e hn), if_pos e]
      · rw [if_neg (nI_ge (by omega) (by omega)), if_neg e, show nI (s + 1) + (-1) = nI s from by rw [← Int32.sub_eq_add_neg, nI_pred]]
        exact ih k (by omega) (by omega)
  exact key 28 N (by decide) (by omega)
theorem f_distanceSymbol {N n : Nat} {c : hS} (hN : 1000000 ≤ N) (hn : n < 2 ^ 31) (hd : c.1 10 3 = nI n) : f_X8_distanceSymbol N c = some (nI (dst n 29), c) := by
  have key : ∀ s k, s < 30 → s < k → f_X8_distanceSymbol_3 N k c (nI s) = some (nI (dst n s), c) := by
    intro s
    induction s with
    | zero =>
      intro k _ hk
      obtain ⟨k, rfl⟩ : ∃ m, k = m + 1 := ⟨k - 1, by omega⟩
      rw [f_X8_distanceSymbol_3, if_pos (by decide)]
      rfl
    | succ s ih =>
      intro k hs hk
      obtain ⟨k, rfl⟩ : ∃ m, k = m + 1 := ⟨k - 1, by omega⟩
      have lb := dbase_lt (s + 1) hs
      rw [f_X8_distanceSymbol_3, if_neg (show ¬ nI (s + 1) ≤ 0 from nI_nle (by omega) (by omega)), f_distanceBase hs, bnd_some, hd]
      unfold dst
      by_cases e : dbase (s + 1) ≤ n
      · rw [if_pos (nI_le e hn), if_pos e]
      · rw [if_neg (nI_ge (by omega) (by omega)), if_neg e, show nI (s + 1) + (-1) = nI s from by rw [← Int32.sub_eq_add_neg, nI_pred]]
        exact ih k (by omega) (by omega)
  exact key 29 N (by decide) (by omega)
/-- the fixed code of a symbol, and how many bits it has -/
noncomputable def fxC (s : Nat) : Nat := if s < 144 then 48 + s else if s < 256 then 400 + s - 144 else if s < 280 then s - 256 else 192 + s - 280
noncomputable def fxL (s : Nat) : Nat := if s < 144 then 8 else if s < 256 then 9 else if s < 280 then 7 else 8
theorem fxL_le (s : Nat) : fxL s ≤ 9 := by
  unfold fxL
  split
  · decide
  · split
    · decide
    · split <;> decide
noncomputable def symB (s : Nat) : List Nat := bBE (fxC s) (fxL s)
theorem PB.symbol {N : Nat} {c : hS} {t : List Nat} {s : Pk} {x : Int32} {v : Nat} (hN : 1000000 ≤ N) (h : pkC c t s) (hl : t.length + s.1.length + 9 ≤ 20000) (hx : x = nI v) (hv : v < 288) : PB (f_X8_addSymbol N c x) c t s (symB v) := by
  subst hx
  unfold f_X8_addSymbol symB fxC fxL
  by_cases e1 : v < 144
  · rw [if_neg (show ¬ (144 : Int32) ≤ nI v from nI_ge (b := 144) e1 (by decide)), if_pos e1, if_pos e1]
    exact PB.last_ (PB.code hN h (by omega) (by rw [show (48 : Int32) = nI 48 from rfl, nI_add]) (by omega) (by decide) rfl)
  · rw [if_pos (show (144 : Int32) ≤ nI v from nI_le (a := 144) (by omega) (by omega)), if_neg e1, if_neg e1]
    by_cases e2 : v < 256
    · rw [if_neg (show ¬ (256 : Int32) ≤ nI v from nI_ge (b := 256) e2 (by decide)), if_pos e2, if_pos e2]
      exact PB.last_ (PB.code hN h (by omega) (by rw [show (400 : Int32) = nI 400 from rfl, nI_add, show (144 : Int32) = nI 144 from rfl, subI (by omega)]) (by omega) (by decide) rfl)
    · rw [if_pos (show (256 : Int32) ≤ nI v from nI_le (a := 256) (by omega) (by omega)), if_neg e2, if_neg e2]
      by_cases e3 : v < 280
      · rw [if_neg (show ¬ (280 : Int32) ≤ nI v from nI_ge (b := 280) e3 (by decide)), if_pos e3, if_pos e3]
        exact PB.last_ (PB.code hN h (by omega) (by rw [show (256 : Int32) = nI 256 from rfl, subI (by omega)]) (by omega) (by decide) rfl)
      · rw [if_pos (show (280 : Int32) ≤ nI v from nI_le (a := 280) (by omega) (by omega)), if_neg e3, if_neg e3]
        exact PB.last_ (PB.code hN h (by omega) (by rw [show (192 : Int32) = nI 192 from rfl, nI_add, show (280 : Int32) = nI 280 from rfl, subI (by omega)]) (by omega) (by decide) rfl)
/-! the longest row that begins before, too -/
noncomputable def mlf (l : List Nat) (q p : Nat) : Nat → Nat → Nat
  | 0, n => n
  | r + 1, n => if gt l (q + n) = gt l (p + n) then mlf l q p r (n + 1) else n
theorem mlf_le (l : List Nat) (q p : Nat) : ∀ r n, mlf l q p r n ≤ n + r
  | 0, n => Nat.le_refl _
  | r + 1, n => by
    unfold mlf
    split
    · have := mlf_le l q p r (n + 1); omega
    · omega
noncomputable def mst (l : List Nat) (p : Nat) : Nat := min 258 (l.length - p)
noncomputable def bst (l : List Nat) (p : Nat) : Nat → Nat × Nat → Nat × Nat
  | 0, b => b
  | q + 1, b => bst l p q (if b.1 < mlf l q p (mst l p) 0 then (mlf l q p (mst l p) 0, p - q) else b)
theorem bst_full {l : List Nat} {p : Nat} : ∀ {q : Nat} {b : Nat × Nat}, mst l p ≤ b.1 → bst l p q b = b
  | 0, b, _ => rfl
  | q + 1, b, h => by
    unfold bst
    have := mlf_le l q p (mst l p) 0
    rw [if_neg (by omega)]
    exact bst_full h
theorem bst_le {l : List Nat} {p : Nat} : ∀ {q : Nat} {b : Nat × Nat}, q ≤ p → b.1 ≤ mst l p → (b.1 = 0 ∨ (1 ≤ b.2 ∧ b.2 ≤ p)) → (bst l p q b).1 ≤ mst l p ∧ ((bst l p q b).1 = 0 ∨ (1 ≤ (bst l p q b).2 ∧ (bst l p q b).2 ≤ p))
  | 0, b, _, h, h2 => ⟨h, h2⟩
  | q + 1, b, hq, h, h2 => by
    unfold bst
    have := mlf_le l q p (mst l p) 0
    by_cases e : b.1 < mlf l q p (mst l p) 0
    · rw [if_pos e]
      exact bst_le (by omega) (by simpa using this) (Or.inr ⟨by simp only; omega, by simp only; omega⟩)
    · rw [if_neg e]
      exact bst_le (by omega) h h2
theorem f_longestBefore {N : Nat} {c : hS} {b p : Nat} {l : List Nat} (hN : 1000000 ≤ N) (h : row c b l) (hp : p < l.length) (hb : b ≠ 10) (hb1 : b + 1 ≠ 10) : ∃ c', f_X8_longestBefore N c b (nI p) = some (nI (bst l p p (0, 0)).1, c') ∧ ((bst l p p (0, 0)).1 = 0 ∨ c'.1 10 3 = nI (bst l p p (0, 0)).2) ∧ (c' = c ∨ ∃ z, c' = sI c 10 3 z) := by
  have l1 := h.lt
  have l2 : l.length ≤ 20000 := Nat.le_trans h.1 (ln_le _)
  have hm : mst l p ≤ l.length - p := Nat.min_le_right _ _
  have hm2 : mst l p ≤ 258 := Nat.min_le_left _ _
  -- how far they are alike
  have inner : ∀ (k21 : hS → Int32 → Int32 → Int32 → Option (Int32 × hS)) (c : hS) (v4 : Int32) (q : Nat), row c b l → q < p → ∀ r n j, j + r = mst l p → r < n → f_X8_longestBefore_35 N b (nI p) k21 n c (nI (mst l p)) v4 (nI q) (nI j) = f_X8_longestBefore_67 N b (nI p) k21 c (nI (mst l p)) v4 (nI q) (nI (mlf l q p r j)) := by
    intro k21 c v4 q h hq r
    induction r with
    | zero =>
      intro n j hj hn
      obtain ⟨n, rfl⟩ : ∃ m, n = m + 1 := ⟨n - 1, by omega⟩
      rw [f_X8_longestBefore_35, if_pos (nI_le (by omega) (by omega))]
      rfl
    | succ r ih =>
      intro n j hj hn
      obtain ⟨n, rfl⟩ : ∃ m, n = m + 1 := ⟨n - 1, by omega⟩
      rw [f_X8_longestBefore_35, if_neg (nI_ge (by omega) (by omega)), nI_add, f_get h (by omega), bnd_some, nI_add, f_get h (by omega), bnd_some]
      unfold mlf
      have b1 := h.2.2.2.gt (q + j)
      have b2 := h.2.2.2.gt (p + j)
      by_cases e : gt l (q + j) = gt l (p + j)
      · rw [e, if_pos rfl, if_pos rfl, nI_1]
        exact ih n (j + 1) (by omega) (by omega)
      · rw [if_neg (fun z => e ((nI_eq (by omega) (by omega)).mp z)), if_neg e]
  have key : ∀ q n c (w : Nat × Nat), q ≤ p → q < n → row c b l → w.1 ≤ mst l p → (w.1 = 0 ∨ c.1 10 3 = nI w.2) → ∃ c', f_X8_longestBefore_21 N b (nI p) n c (nI (mst l p)) (nI w.1) (nI q - 1) = some (nI (bst l p q w).1, c') ∧ ((bst l p q w).1 = 0 ∨ c'.1 10 3 = nI (bst l p q w).2) ∧ (c' = c ∨ ∃ z, c' = sI c 10 3 z) := by
    intro q
    induction q with
    | zero =>
      intro n c w _ hn h hw hd
      obtain ⟨n, rfl⟩ : ∃ m, n = m + 1 := ⟨n - 1, by omega⟩
      rw [f_X8_longestBefore_21, if_pos (by decide)]
      exact ⟨c, rfl, hd, Or.inl rfl⟩
    | succ q ih =>
      intro n c w hq hn h hw hd
      obtain ⟨n, rfl⟩ : ∃ m, n = m + 1 := ⟨n - 1, by omega⟩
      rw [nI_pred, f_X8_longestBefore_21, if_neg (nI_pos (by omega))]
      by_cases e : mst l p ≤ w.1
      · rw [if_pos (nI_le e (by omega)), bst_full e]
        exact ⟨c, rfl, hd, Or.inl rfl⟩
      · rw [if_neg (nI_ge (by omega) (by omega)), show (0 : Int32) = nI 0 from rfl, inner _ c _ q h (by omega) (mst l p) N 0 (by omega) (by omega)]
        unfold f_X8_longestBefore_67 bst
        have ml := mlf_le l q p (mst l p) 0
        rw [show nI q + (-1) = nI q - 1 from (Int32.sub_eq_add_neg _ _).symm]
        by_cases e2 : w.1 < mlf l q p (mst l p) 0
        · rw [if_neg (nI_ge e2 (by omega)), if_pos e2, subI (by omega)]
          dsimp only [st1]
          obtain ⟨c', g1, g2, g3⟩ := ih n (sI c 10 3 (nI (p - q))) (mlf l q p (mst l p) 0, p - q) (by omega) (by omega) (h.fr (S := [10]) (fr.sI (by simp)) (by simpa using hb) (by simpa using hb1)) (by simpa using ml) (Or.inr (sI_s _ _ _ _))
          refine ⟨c', g1, g2, ?_⟩
          rcases g3 with g3 | ⟨z, g3⟩
          · exact Or.inr ⟨_, g3⟩
          · refine Or.inr ⟨z, ?_⟩
            rw [g3]
            unfold sI
            congr 1
            funext a b
            by_cases q : a = 10 ∧ b = 3
            · rw [if_pos q, if_pos q]
            · rw [if_neg q, if_neg q]
              dsimp only
              rw [if_neg q]
        · rw [if_pos (nI_le (by omega) (by omega)), if_neg e2]
          exact ih n c w (by omega) (by omega) h hw hd
  unfold f_X8_longestBefore
  rw [f_size h, bnd_some, subI (by omega)]
  have em : j_min 258 (nI (l.length - p)) = nI (mst l p) := by
    unfold j_min mst
    by_cases e : l.length - p < 258
    · rw [if_pos (show nI (l.length - p) < 258 from nI_lt (b := 258) e (by decide)), Nat.min_eq_right (by omega)]
    · rw [if_neg (show ¬ nI (l.length - p) < 258 from nI_nlt (b := 258) (by omega) (by omega)), Nat.min_eq_left (by omega)]
      rfl
  rw [em]
  exact key p N c (0, 0) (Nat.le_refl _) (by omega) h (Nat.zero_le _) (Or.inl rfl)
end
section
/-! PURE: the class packs a row -/
noncomputable def mtB (n far : Nat) : List Nat := symB (257 + lst n 28) ++ (bLE (n - lbase (lst n 28)) (lbits (lst n 28)) ++ (bBE (dst far 29) 5 ++ bLE (far - dbase (dst far 29)) (dbits (dst far 29))))
noncomputable def pkF (l : List Nat) : Nat → Nat → List Nat
  | 0, _ => []
  | n + 1, p => if l.length ≤ p then symB 256 else if (bst l p p (0, 0)).1 < 3 then symB (gt l p) ++ pkF l n (p + 1) else mtB (bst l p p (0, 0)).1 (bst l p p (0, 0)).2 ++ pkF l n (p + (bst l p p (0, 0)).1)
noncomputable def pkBits (l : List Nat) : List Nat := bLE 1 1 ++ (bLE 1 2 ++ pkF l (l.length + 1) 0)
noncomputable def fin (s : Pk) : List Nat := if s.2.2 = 0 then s.1 else s.1 ++ [s.2.1]
noncomputable def packed (l : List Nat) : List Nat := fin (psL ([], 0, 0) (pkBits l))
theorem symB_len (s : Nat) : (symB s).length ≤ 9 := by
  unfold symB
  rw [bBE_len]
  exact fxL_le s
theorem symB_bit (s : Nat) : bitL (symB s) := bBE_bit _ _
theorem mtB_len (n far : Nat) : (mtB n far).length ≤ 32 := by
  unfold mtB
  have h1 := symB_len (257 + lst n 28)
  have h2 := lbits_lt (lst n 28) (by have := lst_le n 28; omega)
  have h3 := dbits_lt (dst far 29) (by have := dst_le far 29; omega)
  simp only [List.length_append, bLE_len, bBE_len]
  omega
theorem pkF_len (l : List Nat) : ∀ n p, p ≤ l.length → (pkF l n p).length ≤ 11 * (l.length - p) + 9
  | 0, p, _ => by simp [pkF]
  | n + 1, p, hp => by
    unfold pkF
    split
    · have := symB_len 256; omega
    · split
      · have h1 := symB_len (gt l p)
        have h2 := pkF_len l n (p + 1) (by omega)
        rw [List.length_append]
        omega
      · rename_i e1 e2
        have h1 := mtB_len (bst l p p (0, 0)).1 (bst l p p (0, 0)).2
        have h3 := (bst_le (l := l) (p := p) (q := p) (b := (0, 0)) (Nat.le_refl _) (Nat.zero_le _) (Or.inl rfl)).1
        have h4 : mst l p ≤ l.length - p := Nat.min_le_right _ _
        have h2 := pkF_len l n (p + (bst l p p (0, 0)).1) (by omega)
        rw [List.length_append]
        omega
theorem fin_len {s : Pk} (h : s.2.2 < 8) : 8 * (fin s).length ≤ 8 * s.1.length + s.2.2 + 7 := by
  unfold fin
  split
  · omega
  · simp; omega
theorem packed_len (l : List Nat) : (packed l).length ≤ 2 * l.length + 4 := by
  have h1 := psL_len (s := (([], 0, 0) : Pk)) (bs := pkBits l) (show 0 < 8 by decide)
  have h2 := fin_len h1.2
  have h3 := pkF_len l (l.length + 1) 0 (Nat.zero_le _)
  have h4 : (pkBits l).length = 3 + (pkF l (l.length + 1) 0).length := by
    unfold pkBits
    simp only [List.length_append, bLE_len]
    omega
  unfold packed
  simp only [List.length_nil] at h1
  omega
/-- a run that pushes these bits, and ends -/
noncomputable def PE (X : Option (Unit × hS)) (c : hS) (t : List Nat) (s : Pk) (bs : List Nat) : Prop := ∃ c', X = some ((), c') ∧ row c' 3 (t ++ fin (psL s bs)) ∧ fr Spk c c'
theorem PE.bnd_ {X : Option (Unit × hS)} {K : Unit → hS → Option (Unit × hS)} {c : hS} {t : List Nat} {s : Pk} {p r : List Nat} (hX : PB X c t s p) (hK : ∀ c1, pkC c1 t (psL s p) → fr Spk c c1 → c1.1 10 3 = c.1 10 3 → PE (K () c1) c1 t (psL s p) r) : PE (bnd X K) c t s (p ++ r) := by
  obtain ⟨c1, e1, r1, f1, d1⟩ := hX
  obtain ⟨c2, e2, r2, f2⟩ := hK c1 r1 f1 d1
  refine ⟨c2, ?_, by rw [psL_app]; exact r2, f1.tr f2⟩
  rw [e1, bnd_some]
  exact e2
theorem pk_grow {c : hS} {t : List Nat} {s : Pk} (h : pkC c t s) (bs : List Nat) : (psL s bs).1.length ≤ s.1.length + bs.length := by
  have h1 := psL_len (s := s) (bs := bs) h.2.2.2.1
  have h2 := h.2.2.2.1
  omega
theorem PE.end_ {X : Option (Unit × hS)} {c : hS} {t : List Nat} {s : Pk} {bs : List Nat} (hX : PB X c t s bs) (hs : pkC c t s) (hl : t.length + s.1.length + bs.length + 1 ≤ 20000) : PE (bnd X fun _ c3 => if c3.1 10 2 ≤ 0 then some ((), c3) else bnd (f_X2_add c3 3 (c3.1 10 1)) fun _ c4 => some ((), c4)) c t s bs := by
  obtain ⟨c3, e3, ⟨q1, q2, q3, q4⟩, f3, _⟩ := hX
  have g := pk_grow hs bs
  revert q1 q2 q3 q4 g
  unfold PE
  generalize psL s bs = z
  intro q1 q2 q3 q4 g
  rw [e3, bnd_some, q2, q3]
  unfold fin
  by_cases e2 : z.2.2 = 0
  · rw [e2, if_pos (show nI 0 ≤ 0 by decide), if_pos rfl]
    exact ⟨c3, rfl, q1, f3⟩
  · have h8 := q4.1
    rw [if_neg (nI_nle (by omega) (by omega)), if_neg e2]
    have hlt : z.2.1 < 256 := Nat.lt_of_lt_of_le q4.2 (show 2 ^ z.2.2 ≤ 2 ^ 8 from Nat.pow_le_pow_right (by decide) (by omega))
    obtain ⟨c4, e4, r4, f4⟩ := f_add (nI z.2.1) q1 (by rw [ln4, List.length_append]; omega)
    rw [b8_nI' hlt, List.append_assoc] at r4
    exact ⟨c4, by rw [e4, bnd_some], r4, f3.tr (f4.mono (fun o ho => by simp at ho ⊢; omega))⟩
theorem f_packF {N : Nat} {b : Nat} {l t : List Nat} (hN : 1000000 ≤ N) (hb : b ∉ Spk) (hb' : b + 1 ∉ Spk) : ∀ d n p c s, l.length < p + d → d < n → p ≤ l.length → row c b l → pkC c t s → t.length + s.1.length + 11 * (l.length - p) + 50 ≤ 20000 → PE (f_X8_addPacked_24 N b n c (nI p)) c t s (pkF l d p) := by
  have hb1 : b ≠ 10 := fun e => hb (by rw [e]; simp)
  have hb2 : b + 1 ≠ 10 := fun e => hb' (by rw [e]; simp)
  intro d
  induction d with
  | zero => intro n p c s h1 h2 h3; omega
  | succ d ih =>
    intro n p c s hpd hn hp hr hs hl
    obtain ⟨n, rfl⟩ : ∃ m, n = m + 1 := ⟨n - 1, by omega⟩
    have l1 := hr.lt
    rw [f_X8_addPacked_24, f_size hr, bnd_some]
    unfold pkF
    by_cases e : l.length ≤ p
    · rw [if_pos (nI_le e (by omega)), if_pos e]
      exact PE.end_ (PB.symbol (v := 256) hN hs (by omega) rfl (by decide)) hs (by have := symB_len 256; omega)
    · rw [if_neg (nI_ge (by omega) l1), if_neg e]
      obtain ⟨c6, e6, d6, g6⟩ := f_longestBefore (p := p) hN hr (by omega) hb1 hb2
      obtain ⟨w1, w2⟩ := bst_le (l := l) (p := p) (q := p) (b := (0, 0)) (Nat.le_refl _) (Nat.zero_le _) (Or.inl rfl)
      have w3 : mst l p ≤ l.length - p := Nat.min_le_right _ _
      have w4 : mst l p ≤ 258 := Nat.min_le_left _ _
      rw [e6, bnd_some]
      revert d6 w1 w2
      generalize bst l p p (0, 0) = w
      intro d6 w1 w2
      have f6 : fr [10] c c6 := by
        rcases g6 with q | ⟨z, q⟩
        · rw [q]; exact fr.rf
        · rw [q]; exact fr.sI (by simp)
      have s6 : pkC c6 t s := by
        refine ⟨hs.1.fr f6 (by decide) (by decide), ?_, ?_, hs.2.2.2⟩
        · rcases g6 with q | ⟨z, q⟩
          · rw [q]; exact hs.2.1
          · rw [q, sI_j (by decide)]; exact hs.2.1
        · rcases g6 with q | ⟨z, q⟩
          · rw [q]; exact hs.2.2.1
          · rw [q, sI_j (by decide)]; exact hs.2.2.1
      have hr6 := hr.fr f6 (by simpa using hb1) (by simpa using hb2)
      have lift : ∀ {X : Option (Unit × hS)} {bs : List Nat}, PE X c6 t s bs → PE X c t s bs := fun ⟨c', a1, a2, a3⟩ => ⟨c', a1, a2, (f6.mono (fun o ho => by simp at ho ⊢; omega)).tr a3⟩
      by_cases e3 : w.1 < 3
      · rw [if_pos (show nI w.1 < 3 from nI_lt (b := 3) e3 (by decide)), if_pos e3, f_get hr6 (by omega), bnd_some]
        have bb := hr.2.2.2.gt p
        apply lift
        refine PE.bnd_ (PB.symbol (v := gt l p) hN s6 (by omega) rfl (by omega)) (fun c9 r9 f9 _ => ?_)
        have g := pk_grow s6 (symB (gt l p))
        have g2 := symB_len (gt l p)
        rw [nI_1]
        exact ih n (p + 1) c9 _ (by omega) (by omega) (by omega) (hr6.fr f9 hb hb') r9 (by omega)
      · rw [if_neg (show ¬ nI w.1 < 3 from nI_nlt (b := 3) (by omega) (by omega)), if_neg e3, f_lengthStep hN (by omega), bnd_some]
        have far1 : 1 ≤ w.2 ∧ w.2 ≤ p := w2.resolve_left (by omega)
        have d7 : c6.1 10 3 = nI w.2 := d6.resolve_left (by omega)
        have ls := lst_le w.1 28
        have lb := lst_base (n := w.1) (by omega) 28
        have ds := dst_le w.2 29
        have db := dst_base far1.1 29
        have lbt := lbits_lt (lst w.1 28) (by omega)
        have dbt := dbits_lt (dst w.2 29) (by omega)
        have p2 : p < 20000 := by have := hr.1; have := ln_le (b + 1); omega
        unfold mtB
        rw [List.append_assoc, List.append_assoc, List.append_assoc]
        apply lift
        rw [show (257 : Int32) = nI 257 from rfl, nI_add]
        refine PE.bnd_ (PB.symbol (v := 257 + lst w.1 28) hN s6 (by omega) rfl (by omega)) (fun c12 r12 f12 d12 => ?_)
        have g1 := pk_grow s6 (symB (257 + lst w.1 28))
        have g2 := symB_len (257 + lst w.1 28)
        rw [f_lengthBase (by omega), bnd_some, f_lengthBits (by omega), bnd_some, subI lb]
        refine PE.bnd_ (PB.bits (v := w.1 - lbase (lst w.1 28)) (n := lbits (lst w.1 28)) hN r12 (by omega) rfl (by omega) (by omega) rfl) (fun c17 r17 f17 d17 => ?_)
        have g3 := pk_grow r12 (bLE (w.1 - lbase (lst w.1 28)) (lbits (lst w.1 28)))
        rw [bLE_len] at g3
        rw [f_distanceSymbol (n := w.2) hN (by omega) (by rw [d17, d12, d7]), bnd_some]
        refine PE.bnd_ (PB.code (v := dst w.2 29) (n := 5) (m := 5) hN r17 (by omega) rfl (by omega) (by decide) rfl) (fun c20 r20 f20 d20 => ?_)
        have g4 := pk_grow r17 (bBE (dst w.2 29) 5)
        rw [bBE_len] at g4
        rw [f_distanceBase (by omega), bnd_some, f_distanceBits (by omega), bnd_some, d20, d17, d12, d7, subI db]
        refine PE.bnd_ (PB.bits (v := w.2 - dbase (dst w.2 29)) (n := dbits (dst w.2 29)) hN r20 (by omega) rfl (by omega) (by omega) rfl) (fun c25 r25 f25 d25 => ?_)
        have g5 := pk_grow r20 (bLE (w.2 - dbase (dst w.2 29)) (dbits (dst w.2 29)))
        rw [bLE_len] at g5
        rw [nI_add]
        have ff := (((f12.tr f17).tr f20).tr f25)
        exact ih n (p + w.1) c25 _ (by omega) (by omega) (by omega) (hr6.fr ff hb hb') r25 (by omega)
theorem f_addPacked {N : Nat} {c : hS} {b : Nat} {l t : List Nat} (hN : 1000000 ≤ N) (hb : b ∉ Spk) (hb' : b + 1 ∉ Spk) (hr : row c b l) (ht : row c 3 t) (hll : l.length ≤ 512) (hl : t.length + 11 * l.length + 60 ≤ 20000) : ∃ c', f_X8_addPacked N c b = some ((), c') ∧ row c' 3 (t ++ packed l) ∧ fr Spk c c' := by
  have hb1 : b ≠ 10 := fun e => hb (by rw [e]; simp)
  have hb2 : b + 1 ≠ 10 := fun e => hb' (by rw [e]; simp)
  have f2 : fr [10] c (sI (sI c 10 1 0) 10 2 0) := (fr.sI (by simp)).tr (fr.sI (by simp))
  have s2 : pkC (sI (sI c 10 1 0) 10 2 0) t ([], 0, 0) := by
    refine ⟨?_, ?_, ?_, show 0 < 8 by decide, show 0 < 2 ^ 0 by decide⟩
    · rw [List.append_nil]; exact ht.fr f2 (by decide) (by decide)
    · rw [sI_j (by decide), sI_s]; rfl
    · rw [sI_s]; rfl
  have r2 := hr.fr f2 (by simpa using hb1) (by simpa using hb2)
  have := PE.bnd_ (K := fun _ c3 => bnd (f_X8_addBits N c3 1 2) fun _ c4 => f_X8_addPacked_24 N b N c4 0) (PB.bits (v := 1) (n := 1) hN s2 (by simp; omega) rfl (by decide) (by decide) rfl) (fun c3 r3 f3 _ => PE.bnd_ (K := fun _ c4 => f_X8_addPacked_24 N b N c4 0) (PB.bits (v := 1) (n := 2) hN r3 (by have := pk_grow s2 (bLE 1 1); rw [bLE_len] at this; simp at this; omega) rfl (by decide) (by decide) rfl) (fun c4 r4 f4 _ => f_packF hN hb hb' (l.length + 1) N 0 c4 _ (by omega) (by omega) (by omega) ((r2.fr f3 hb hb').fr f4 hb hb') r4 (by
    have g1 := pk_grow s2 (bLE 1 1)
    have g2 := pk_grow r3 (bLE 1 2)
    rw [bLE_len] at g1 g2
    simp only [List.length_nil] at g1
    omega)))
  obtain ⟨c', e', r', f'⟩ := this
  refine ⟨c', ?_, r', (f2.mono (fun o ho => by simp at ho ⊢; omega)).tr f'⟩
  unfold f_X8_addPacked
  exact e'
end
section
/-! PURE: what the class writes in kind 2 -/
noncomputable def le (v n : Nat) : List Nat := (List.range n).map fun i => v / 2 ^ (8 * i) % 256
theorem le_len (v n : Nat) : (le v n).length = n := by simp [le]
noncomputable def u32 (x : Int32) : Nat := x.toUInt32.toNat
theorem u32_lt (x : Int32) : u32 x < 2 ^ 32 := x.toBitVec.isLt
theorem u32_nI (x : Int32) : x = nI (u32 x) := i32_ext (by rw [nI_u, Nat.mod_eq_of_lt (u32_lt x)]; rfl)
theorem ext_lN (x : Int32) : ∃ v, v < 2 ^ 64 ∧ x.toInt64 = lN v ∧ v % 2 ^ 32 = u32 x := by
  refine ⟨x.toInt64.toBitVec.toNat, x.toInt64.toBitVec.isLt, wb_inj (by rw [wb_tb]; simp), ?_⟩
  have h1 : x.toInt64.toInt32 = x := Int32.toInt32_toInt64 x
  have h2 : x.toInt64.toInt32 = nI x.toInt64.toBitVec.toNat := by
    rw [show x.toInt64 = lN x.toInt64.toBitVec.toNat from wb_inj (by rw [wb_tb]; simp), lN_i]
    simp [wb_tb]
  have h3 : u32 x = u32 (nI x.toInt64.toBitVec.toNat) := by rw [← h2, h1]
  rw [h3]
  rfl
theorem le_mod {v w n : Nat} (hn : n ≤ 4) (h : v % 2 ^ 32 = w) : le v n = le w n := by
  unfold le
  apply List.map_congr_left
  intro i hi
  have hi : i < 4 := by have := List.mem_range.mp hi; omega
  subst h
  have e : 2 ^ 32 = 2 ^ (8 * i) * 2 ^ (32 - 8 * i) := by rw [← Nat.pow_add]; congr 1; omega
  rw [e, Nat.mod_mul_right_div_self]
  have e2 : 2 ^ (32 - 8 * i) = 256 * 2 ^ (24 - 8 * i) := by rw [show (256 : Nat) = 2 ^ 8 from rfl, ← Nat.pow_add]; congr 1; omega
  rw [e2, Nat.mod_mul_right_mod]
theorem AP.le64 {N : Nat} {c : hS} {t : List Nat} {x : Int64} {v m : Nat} {k : Int32} (hN : 1000000 ≤ N) (h : row c 3 t) (hl : t.length + m ≤ 20000) (hx : x = lN v) (hv : v < 2 ^ 64) (hm : m ≤ 8) (hk : k = nI m) : AP (f_X2_addLittle N c 3 x k) c t (le v m) := AP.little hN h hl hx hv hm hk
theorem AP.le32 {N : Nat} {c : hS} {t : List Nat} {x : Int32} {m : Nat} {k : Int32} (hN : 1000000 ≤ N) (h : row c 3 t) (hl : t.length + m ≤ 20000) (hm : m ≤ 4) (hk : k = nI m) : AP (f_X2_addLittle N c 3 x.toInt64 k) c t (le (u32 x) m) := by
  obtain ⟨v, h1, h2, h3⟩ := ext_lN x
  rw [← le_mod hm h3]
  exact AP.little hN h hl h2 h1 (by omega) hk
theorem AP.leN {N : Nat} {c : hS} {t : List Nat} {x : Int32} {v m : Nat} {k : Int32} (hN : 1000000 ≤ N) (h : row c 3 t) (hl : t.length + m ≤ 20000) (hx : x = nI v) (hv : v < 2 ^ 31) (hm : m ≤ 4) (hk : k = nI m) : AP (f_X2_addLittle N c 3 x.toInt64 k) c t (le v m) := by
  subst hx
  have := AP.le32 (x := nI v) hN h hl hm hk
  rwa [show u32 (nI v) = v from by show (nI v).toUInt32.toNat = v; rw [nI_u, Nat.mod_eq_of_lt (by omega)]] at this
noncomputable def mk3 : List Nat := [80, 75, 3, 4]
noncomputable def mk4 : List Nat := [80, 75, 1, 2]
noncomputable def mk5 : List Nat := [80, 75, 5, 6]
/-- what a local head and an entry have alike -/
noncomputable def com (x : Mb) (way size : Nat) : List Nat := le 20 2 ++ (le 0 2 ++ (le way 2 ++ (le 0 2 ++ (le 33 2 ++ (le (u32 (crc x.2.1)) 4 ++ (le size 4 ++ (le x.2.1.length 4 ++ le (nmS x).length 2)))))))
theorem com_len (x : Mb) (way size : Nat) : (com x way size).length = 24 := by
  unfold com
  simp only [List.length_append, le_len]
noncomputable def loc (x : Mb) (way size : Nat) : List Nat := mk3 ++ (com x way size ++ (le 0 2 ++ nmS x))
theorem loc_len (x : Mb) (way size : Nat) : (loc x way size).length = 30 + (nmS x).length := by
  unfold loc mk3
  simp only [List.length_append, le_len, com_len, List.length_cons, List.length_nil]
  omega
theorem nmS_eq (x : Mb) : (nmS x).length = x.1.length + (if x.2.2 then 1 else 0) := by
  unfold nmS
  cases x.2.2 <;> simp
theorem f_titleBytes {c : hS} {m : Nat} {x : Mb} (h : mbr c m x) : f_X5_titleBytes c m = some (nI (nmS x).length, c) := by
  unfold f_X5_titleBytes
  rw [f_size h.1, bnd_some, h.2.2, nmS_eq]
  cases x.2.2 with
  | false => rw [if_pos (show bI false = 0 from rfl), show (0 : Int32) = nI 0 from rfl, nI_add]; rfl
  | true => rw [if_neg (by decide), nI_1]; rfl
theorem f_addLocal {N : Nat} {c : hS} {t : List Nat} {m way : Nat} {x : Mb} {w : Int32} (hN : 1000000 ≤ N) (h : row c 3 t) (hm : mbr c m x) (hm4 : 4 < m) (hl : t.length + 121 ≤ 20000) (hx : x.1.length ≤ 90) (hb : x.2.1.length ≤ 400) (hw : w = nI way) (hway : way < 16) : AP (f_X5_addLocal N c m w) c t (loc x way 0) := by
  have hn := nmS_len hx
  unfold f_X5_addLocal loc com
  simp only [List.append_assoc]
  have l3 : mk3.length = 4 := rfl
  refine AP.bnd_ (AP.mark (v := mk3) hN h (by rw [l3]; omega) (by decide)) (fun c1 r1 f1 => ?_)
  refine AP.bnd_ (AP.le64 (v := 20) hN r1 (by simp only [List.length_append, l3]; omega) rfl (by decide) (by decide) rfl) (fun c2 r2 f2 => ?_)
  refine AP.bnd_ (AP.le64 (v := 0) hN r2 (by simp only [List.length_append, le_len, l3]; omega) rfl (by decide) (by decide) rfl) (fun c3 r3 f3 => ?_)
  refine AP.bnd_ (AP.leN (v := way) hN r3 (by simp only [List.length_append, le_len, l3]; omega) hw (by omega) (by decide) rfl) (fun c4 r4 f4 => ?_)
  refine AP.bnd_ (AP.le64 (v := 0) hN r4 (by simp only [List.length_append, le_len, l3]; omega) rfl (by decide) (by decide) rfl) (fun c5 r5 f5 => ?_)
  refine AP.bnd_ (AP.le64 (v := 33) hN r5 (by simp only [List.length_append, le_len, l3]; omega) rfl (by decide) (by decide) rfl) (fun c6 r6 f6 => ?_)
  have m6 := hm.fr (((((f1.tr f2).tr f3).tr f4).tr f5).tr f6) (by simp only [List.mem_cons, List.not_mem_nil, or_false]; omega) (by simp only [List.mem_cons, List.not_mem_nil, or_false]; omega) (by simp only [List.mem_cons, List.not_mem_nil, or_false]; omega) (by simp only [List.mem_cons, List.not_mem_nil, or_false]; omega) (by simp only [List.mem_cons, List.not_mem_nil, or_false]; omega)
  rw [f_checkOf hN m6.2.1, bnd_some]
  refine AP.bnd_ (AP.le32 hN r6 (by simp only [List.length_append, le_len, l3]; omega) (by decide) rfl) (fun c9 r9 f9 => ?_)
  refine AP.bnd_ (AP.le64 (v := 0) hN r9 (by simp only [List.length_append, le_len, l3]; omega) rfl (by decide) (by decide) rfl) (fun c10 r10 f10 => ?_)
  have m10 := m6.fr (f9.tr f10) (by simp only [List.mem_cons, List.not_mem_nil, or_false]; omega) (by simp only [List.mem_cons, List.not_mem_nil, or_false]; omega) (by simp only [List.mem_cons, List.not_mem_nil, or_false]; omega) (by simp only [List.mem_cons, List.not_mem_nil, or_false]; omega) (by simp only [List.mem_cons, List.not_mem_nil, or_false]; omega)
  rw [f_size m10.2.1, bnd_some]
  refine AP.bnd_ (AP.leN (v := x.2.1.length) hN r10 (by simp only [List.length_append, le_len, l3]; omega) rfl (by omega) (by decide) rfl) (fun c13 r13 f13 => ?_)
  have m13 := m10.fr f13 (by simp only [List.mem_cons, List.not_mem_nil, or_false]; omega) (by simp only [List.mem_cons, List.not_mem_nil, or_false]; omega) (by simp only [List.mem_cons, List.not_mem_nil, or_false]; omega) (by simp only [List.mem_cons, List.not_mem_nil, or_false]; omega) (by simp only [List.mem_cons, List.not_mem_nil, or_false]; omega)
  rw [f_titleBytes m13, bnd_some]
  refine AP.bnd_ (AP.leN (v := (nmS x).length) hN r13 (by simp only [List.length_append, le_len, l3]; omega) rfl (by omega) (by decide) rfl) (fun c16 r16 f16 => ?_)
  refine AP.bnd_ (AP.le64 (v := 0) hN r16 (by simp only [List.length_append, le_len, l3]; omega) rfl (by decide) (by decide) rfl) (fun c17 r17 f17 => ?_)
  have m17 := m13.fr (f16.tr f17) (by simp only [List.mem_cons, List.not_mem_nil, or_false]; omega) (by simp only [List.mem_cons, List.not_mem_nil, or_false]; omega) (by simp only [List.mem_cons, List.not_mem_nil, or_false]; omega) (by simp only [List.mem_cons, List.not_mem_nil, or_false]; omega) (by simp only [List.mem_cons, List.not_mem_nil, or_false]; omega)
  exact AP.last_ (AP.title hN r17 m17 (by omega) (by simp only [List.length_append, le_len, l3]; omega))
theorem b8_ushr {v k : Nat} (hv : v < 2 ^ 31) (hk : k < 4) : b8 (j_ushr (nI v) (8 * nI k)) = v / 2 ^ (8 * k) % 256 := by
  rw [show (8 : Int32) * nI k = nI (8 * k) from nI_mul 8 k, ushr_nI (by omega) (by omega), b8_nI]
theorem le_get {v n i : Nat} (h : i < n) : (le v n).drop i = v / 2 ^ (8 * i) % 256 :: (le v n).drop (i + 1) := by
  rw [List.drop_eq_getElem_cons (by rw [le_len]; exact h)]
  congr 1
  simp [le]
theorem f_setSize {N : Nat} {c : hS} {t : List Nat} {p v : Nat} (hN : 1000000 ≤ N) (h : row c 3 t) (hp : p + 22 ≤ t.length) (hv : v < 2 ^ 31) : ∃ c', f_X5_setSize N c (nI p) (nI v) = some ((), c') ∧ row c' 3 (setL t (p + 18) (le v 4)) ∧ fr [3, 4] c c' := by
  have hln : t.length ≤ 20000 := h.1
  unfold f_X5_setSize
  have key : ∀ d n i c u, i + d = 4 → d < n → row c 3 u → u.length = t.length → ∃ c', f_X5_setSize_2 N (nI p) (nI v) n c (nI i) = some ((), c') ∧ row c' 3 (setL u (p + 18 + i) ((le v 4).drop i)) ∧ fr [3, 4] c c' := by
    intro d
    induction d with
    | zero =>
      intro n i c u hi hn hu hl
      obtain ⟨n, rfl⟩ : ∃ m, n = m + 1 := ⟨n - 1, by omega⟩
      have : i = 4 := by omega
      subst this
      rw [f_X5_setSize_2, if_pos (by decide), List.drop_eq_nil_of_le (by rw [le_len]; decide)]
      exact ⟨c, rfl, hu, fr.rf⟩
    | succ d ih =>
      intro n i c u hi hn hu hl
      obtain ⟨n, rfl⟩ : ∃ m, n = m + 1 := ⟨n - 1, by omega⟩
      obtain ⟨c1, e1, r1, f1⟩ := f_set (k := p + 18 + i) (j_ushr (nI v) (8 * nI i)) hu (by omega)
      rw [b8_ushr hv (by omega)] at r1
      obtain ⟨c2, e2, r2, f2⟩ := ih n (i + 1) c1 _ (by omega) (by omega) r1 (by simpa using hl)
      refine ⟨c2, ?_, ?_, f1.tr f2⟩
      · rw [f_X5_setSize_2, if_neg (show ¬ (4 : Int32) ≤ nI i from nI_ge (b := 4) (by omega) (by decide)), show nI p + 18 + nI i = nI (p + 18 + i) by rw [show (18 : Int32) = nI 18 from rfl, nI_add, nI_add], e1, bnd_some, nI_1]
        exact e2
      · rw [le_get (by omega)]
        exact r2
  obtain ⟨c', e, r, q⟩ := key 4 N 0 c t (by omega) (by omega) h rfl
  exact ⟨c', e, by simpa using r, q⟩
/-- the bytes of a member as they are written -/
noncomputable def wayB2 (pk : Bool) (x : Mb) : Bool := pk && decide (0 < x.2.1.length)
noncomputable def dat (pk : Bool) (x : Mb) : List Nat := if wayB2 pk x then packed x.2.1 else x.2.1
noncomputable def way2 (pk : Bool) (x : Mb) : Nat := if wayB2 pk x then 8 else 0
noncomputable def lo2 (pk : Bool) (x : Mb) : List Nat := loc x (way2 pk x) (dat pk x).length ++ dat pk x
theorem dat_len {pk : Bool} {x : Mb} (hb : x.2.1.length ≤ 400) : (dat pk x).length ≤ 804 := by
  unfold dat
  split
  · have := packed_len x.2.1; omega
  · omega
theorem lo2_len {pk : Bool} {x : Mb} : (lo2 pk x).length = 30 + (nmS x).length + (dat pk x).length := by
  unfold lo2
  rw [List.length_append, loc_len]
theorem loc_set (x : Mb) (way v : Nat) (t r : List Nat) : setL (t ++ (loc x way 0 ++ r)) (t.length + 18) (le v 4) = t ++ (loc x way v ++ r) := by
  have e : ∀ z, loc x way z = (mk3 ++ (le 20 2 ++ (le 0 2 ++ (le way 2 ++ (le 0 2 ++ (le 33 2 ++ le (u32 (crc x.2.1)) 4)))))) ++ (le z 4 ++ (le x.2.1.length 4 ++ (le (nmS x).length 2 ++ (le 0 2 ++ nmS x)))) := by
    intro z
    unfold loc com
    simp only [List.append_assoc]
  rw [e 0, e v]
  generalize hA : mk3 ++ (le 20 2 ++ (le 0 2 ++ (le way 2 ++ (le 0 2 ++ (le 33 2 ++ le (u32 (crc x.2.1)) 4))))) = A
  have hl : A.length = 18 := by
    rw [← hA]
    simp only [List.length_append, le_len, mk3, List.length_cons, List.length_nil]
  rw [show t ++ (A ++ (le 0 4 ++ (le x.2.1.length 4 ++ (le (nmS x).length 2 ++ (le 0 2 ++ nmS x)))) ++ r) = (t ++ A) ++ (le 0 4 ++ (le x.2.1.length 4 ++ (le (nmS x).length 2 ++ (le 0 2 ++ (nmS x ++ r))))) by simp only [List.append_assoc], show t.length + 18 = (t ++ A).length by rw [List.length_append, hl], setL_mid (by rw [le_len, le_len])]
  simp only [List.append_assoc]
end
