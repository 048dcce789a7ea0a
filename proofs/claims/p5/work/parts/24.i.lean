/-! PURE: what the class writes in kind 0 -/
noncomputable def sumW (t : List Nat) (p n : Nat) : Nat := ((List.range n).map fun i => if 148 ≤ i ∧ i < 156 then 32 else gt t (p + i)).sum
theorem sumW_s (t : List Nat) (p n : Nat) : sumW t p (n + 1) = sumW t p n + (if 148 ≤ n ∧ n < 156 then 32 else gt t (p + n)) := by
  unfold sumW
  rw [List.range_succ, List.map_append, List.sum_append]
  simp
theorem sumW_app (t u : List Nat) (n : Nat) : sumW (t ++ u) t.length n = sumW u 0 n := by
  induction n with
  | zero => rfl
  | succ n ih => rw [sumW_s, sumW_s, ih, gt_app_r (by omega), show t.length + n - t.length = 0 + n by omega]
theorem sumW_le {t : List Nat} (h : byt t) (p n : Nat) : sumW t p n ≤ 255 * n := by
  induction n with
  | zero => simp [sumW]
  | succ n ih =>
    rw [sumW_s]
    have := h.gt (p + n)
    split <;> omega
theorem f_sumOf {N : Nat} {c : hS} {t : List Nat} {p : Nat} (hN : 1000000 ≤ N) (h : row c 3 t) (hp : p < 2 ^ 30) : f_X1_sumOf N c (nI p) = some (nI (sumW t p 512), c) := by
  have key : ∀ d n i, i + d = 512 → d < n → f_X1_sumOf_4 N (nI p) n c (nI (sumW t p i)) (nI i) = some (nI (sumW t p 512), c) := by
    intro d
    induction d with
    | zero =>
      intro n i hi hn
      obtain ⟨n, rfl⟩ : ∃ m, n = m + 1 := ⟨n - 1, by omega⟩
      have : i = 512 := by omega
      subst this
      rw [f_X1_sumOf_4, if_pos (by decide)]
    | succ d ih =>
      intro n i hi hn
      obtain ⟨n, rfl⟩ : ∃ m, n = m + 1 := ⟨n - 1, by omega⟩
      rw [f_X1_sumOf_4, if_neg (show ¬ (512 : Int32) ≤ nI i from nI_ge (b := 512) (by omega) (by decide))]
      have e31 : ¬ (148 ≤ i ∧ i < 156) → f_X1_sumOf_31 N (nI p) (f_X1_sumOf_4 N (nI p) n) c (nI i) (nI (sumW t p i)) = some (nI (sumW t p 512), c) := by
        intro q
        unfold f_X1_sumOf_31
        rw [nI_add, f_get h (by omega), bnd_some, nI_add, nI_1]
        have := ih n (i + 1) (by omega) (by omega)
        rwa [sumW_s, if_neg q] at this
      by_cases e1 : i < 148
      · rw [if_pos (show nI i < 148 from nI_lt (b := 148) e1 (by decide)), e31 (by omega)]
      · rw [if_neg (show ¬ nI i < 148 from nI_nlt (b := 148) (by omega) (by omega))]
        by_cases e2 : 156 ≤ i
        · rw [if_pos (show (156 : Int32) ≤ nI i from nI_le (a := 156) e2 (by omega)), e31 (by omega)]
        · rw [if_neg (show ¬ (156 : Int32) ≤ nI i from nI_ge (b := 156) (by omega) (by decide)), show (32 : Int32) = nI 32 from rfl, nI_add, nI_1]
          have := ih n (i + 1) (by omega) (by omega)
          rwa [sumW_s, if_pos (by omega)] at this
  unfold f_X1_sumOf
  have := key 512 N 0 (by omega) (by omega)
  rwa [show sumW t p 0 = 0 from rfl, nI_0] at this
/-- bytes set one behind the other -/
noncomputable def setL : List Nat → Nat → List Nat → List Nat
  | t, _, [] => t
  | t, q, d :: r => setL (t.set q d) (q + 1) r
theorem setL_mid : ∀ {ds A X B : List Nat}, X.length = ds.length → setL (A ++ (X ++ B)) A.length ds = A ++ (ds ++ B)
  | [], A, X, B, h => by
    have : X = [] := List.length_eq_zero_iff.mp h
    subst this
    rfl
  | d :: r, A, [], B, h => by simp at h
  | d :: r, A, x :: X, B, h => by
    unfold setL
    have e : (A ++ (x :: X ++ B)).set A.length d = (A ++ [d]) ++ (X ++ B) := by
      rw [List.set_append_right _ _ (Nat.le_refl _), Nat.sub_self]
      simp
    rw [e, show A.length + 1 = (A ++ [d]).length by simp, setL_mid (by simpa using h)]
    simp
theorem setL_len : ∀ {ds t : List Nat} {q : Nat}, (setL t q ds).length = t.length
  | [], t, q => rfl
  | d :: r, t, q => by
    unfold setL
    rw [setL_len]
    simp
theorem octs_get {v n i : Nat} (h : i < n) : (octs v n).drop i = od v (n - 1 - i) :: (octs v n).drop (i + 1) := by
  rw [List.drop_eq_getElem_cons (by rw [octs_len]; exact h)]
  congr 1
  simp [octs]
theorem f_setSum {N : Nat} {c : hS} {t : List Nat} {p : Nat} (hN : 1000000 ≤ N) (h : row c 3 t) (hp : p + 512 ≤ t.length) : ∃ c', f_X1_setSum N c (nI p) = some ((), c') ∧ row c' 3 (setL t (p + 148) (octs (sumW t p 512) 6)) ∧ fr [3, 4] c c' := by
  have hln : t.length ≤ 20000 := h.1
  unfold f_X1_setSum
  rw [f_sumOf hN h (by omega), bnd_some]
  have hv : sumW t p 512 < 2 ^ 31 := by have := sumW_le h.2.2.2 p 512; omega
  revert hv
  generalize sumW t p 512 = v
  intro hv
  have key : ∀ d n i c u, i + d = 6 → d < n → row c 3 u → u.length = t.length → ∃ c', f_X1_setSum_8 N (nI p) n c (nI v) (nI i) = some ((), c') ∧ row c' 3 (setL u (p + 148 + i) ((octs v 6).drop i)) ∧ fr [3, 4] c c' := by
    intro d
    induction d with
    | zero =>
      intro n i c u hi hn hu hl
      obtain ⟨n, rfl⟩ : ∃ m, n = m + 1 := ⟨n - 1, by omega⟩
      have : i = 6 := by omega
      subst this
      rw [f_X1_setSum_8, if_pos (by decide), List.drop_eq_nil_of_le (by rw [octs_len]; decide)]
      exact ⟨c, rfl, hu, fr.rf⟩
    | succ d ih =>
      intro n i c u hi hn hu hl
      obtain ⟨n, rfl⟩ : ∃ m, n = m + 1 := ⟨n - 1, by omega⟩
      have e5 : (5 : Int32) - nI i = nI (5 - i) := by
        rw [show (5 : Int32) = nI (5 - i) + nI i by rw [nI_add, show 5 - i + i = 5 by omega]; rfl, Int32.add_sub_cancel]
      obtain ⟨c1, e1, r1, f1⟩ := f_set (k := p + 148 + i) (nI (od v (5 - i))) hu (by omega)
      rw [b8_nI' (by have := od_lt v (5 - i); omega)] at r1
      obtain ⟨c2, e2, r2, f2⟩ := ih n (i + 1) c1 _ (by omega) (by omega) r1 (by simpa using hl)
      refine ⟨c2, ?_, ?_, f1.tr f2⟩
      · rw [f_X1_setSum_8, if_neg (show ¬ (6 : Int32) ≤ nI i from nI_ge (b := 6) (by omega) (by decide)), e5, od_eq hv (by omega), show nI p + 148 + nI i = nI (p + 148 + i) by rw [show (148 : Int32) = nI 148 from rfl, nI_add, nI_add], e1, bnd_some, nI_1]
        exact e2
      · rw [octs_get (by omega)]
        exact r2
  obtain ⟨c', e, r, q⟩ := key 6 N 0 c t (by omega) (by omega) h rfl
  exact ⟨c', e, by simpa using r, q⟩
noncomputable def z7 : List Nat := [48, 48, 48, 48, 48, 48, 48]
theorem z7_len : z7.length = 7 := rfl
noncomputable def sd0 : List Nat := [48, 48, 48, 48, 48, 48]
theorem sd0_len : sd0.length = 6 := rfl
/-- a head of kind 0, with six digits for its sum -/
noncomputable def head0 (x : Mb) (sd : List Nat) : List Nat := nmS x ++ (List.replicate (100 - (nmS x).length) 0 ++ ((if x.2.2 then [48, 48, 48, 48, 55, 53, 53] else [48, 48, 48, 48, 54, 52, 52]) ++ ([0] ++ (z7 ++ ([0] ++ (z7 ++ ([0] ++ (octs x.2.1.length 11 ++ ([0] ++ (octs 0 11 ++ ([0] ++ (sd ++ ([0] ++ ([32] ++ ([if x.2.2 then 53 else 48] ++ (List.replicate 100 0 ++ ([117, 115, 116, 97, 114, 0, 48, 48] ++ (List.replicate 64 0 ++ (z7 ++ ([0] ++ (z7 ++ List.replicate 168 0)))))))))))))))))))))
theorem nmS_len {x : Mb} (h : x.1.length ≤ 90) : (nmS x).length ≤ 91 := by
  unfold nmS
  cases x.2.2 <;> simp <;> omega
theorem head0_len {x : Mb} {sd : List Nat} (h : x.1.length ≤ 90) (hd : sd.length = 6) : (head0 x sd).length = 512 := by
  have := nmS_len h
  unfold head0
  simp only [List.length_append, List.length_replicate, octs_len, hd, z7_len, List.length_cons, List.length_nil]
  cases x.2.2 <;> simp only [if_true, if_false, Bool.false_eq_true, List.length_cons, List.length_nil] <;> omega
theorem subI {a b : Nat} (h : b ≤ a) : nI a - nI b = nI (a - b) := by
  rw [show nI a = nI (a - b) + nI b by rw [nI_add]; congr 1; omega, Int32.add_sub_cancel]
theorem subL {a b k : Nat} {x : Int32} (hx : x = nI k) (h : b ≤ a + k) : nI a + x - nI b = nI (a + k - b) := by
  subst hx
  rw [nI_add, subI h]
/-- what is behind a head's six digits -/
noncomputable def tail0 (x : Mb) : List Nat := [0] ++ ([32] ++ ([if x.2.2 then 53 else 48] ++ (List.replicate 100 0 ++ ([117, 115, 116, 97, 114, 0, 48, 48] ++ (List.replicate 64 0 ++ (z7 ++ ([0] ++ (z7 ++ List.replicate 168 0))))))))
noncomputable def front0 (x : Mb) : List Nat := nmS x ++ (List.replicate (100 - (nmS x).length) 0 ++ ((if x.2.2 then [48, 48, 48, 48, 55, 53, 53] else [48, 48, 48, 48, 54, 52, 52]) ++ ([0] ++ (z7 ++ ([0] ++ (z7 ++ ([0] ++ (octs x.2.1.length 11 ++ ([0] ++ (octs 0 11 ++ [0]))))))))))
theorem front0_len {x : Mb} (h : x.1.length ≤ 90) : (front0 x).length = 148 := by
  have := nmS_len h
  unfold front0
  simp only [List.length_append, List.length_replicate, octs_len, z7_len, List.length_cons, List.length_nil]
  cases x.2.2 <;> simp only [if_true, if_false, Bool.false_eq_true, List.length_cons, List.length_nil] <;> omega
theorem head0_eq (x : Mb) (sd : List Nat) : head0 x sd = front0 x ++ (sd ++ tail0 x) := by
  unfold head0 front0 tail0
  simp only [List.append_assoc]
theorem f_addHead0 {N : Nat} {c : hS} {t : List Nat} {m : Nat} {x : Mb} (hN : 1000000 ≤ N) (h : row c 3 t) (hm : mbr c m x) (hm4 : 4 < m) (hl : t.length + 512 ≤ 20000) (hx : x.1.length ≤ 90) (hb : x.2.1.length ≤ 400) : AP (f_X1_addHead N c m) c t (head0 x (octs (sumW (head0 x sd0) 0 512) 6)) := by
  have hn := nmS_len hx
  -- up to the sum
  have key : ∃ c', f_X1_addHead N c m = bnd (f_X1_setSum N c' (nI t.length)) (fun _ c15 => some ((), c15)) ∧ row c' 3 (t ++ head0 x sd0) ∧ fr [3, 4] c c' := by
    have last : ∀ (v : Nat) (w : Int32) (c1 : hS) (u : List Nat), b8 w = v → row c1 3 u → u.length = t.length + 156 → ∃ c', f_X1_addHead_176 N m c1 (nI t.length) w = bnd (f_X1_setSum N c' (nI t.length)) (fun _ c15 => some ((), c15)) ∧ row c' 3 (u ++ ([v] ++ (List.replicate 100 0 ++ ([117, 115, 116, 97, 114, 0, 48, 48] ++ (List.replicate 64 0 ++ (z7 ++ ([0] ++ (z7 ++ List.replicate 168 0)))))))) ∧ fr [3, 4] c1 c' := by
      intro v w c1 u hv hu hul
      unfold f_X1_addHead_176
      obtain ⟨d1, e1, r1, f1⟩ := AP.add hu (by omega) hv
      rw [e1, bnd_some, f_size r1, bnd_some]
      obtain ⟨d2, e2, r2, f2⟩ := AP.zeros (N := N) (m := 100) hN r1 (by simp only [List.length_append, List.length_replicate, List.length_cons, List.length_nil, octs_len, z7_len, sd0_len]; omega) (show nI t.length + 257 - nI (u ++ [v]).length = nI 100 by rw [subL (x := 257) (k := 257) rfl (by simp only [List.length_append, List.length_replicate, List.length_cons, List.length_nil, octs_len, z7_len, sd0_len]; omega)]; congr 1; simp only [List.length_append, List.length_replicate, List.length_cons, List.length_nil, octs_len, z7_len, sd0_len]; omega)
      rw [e2, bnd_some]
      obtain ⟨d3, e3, r3, f3⟩ := AP.mark (N := N) (w := sa1) (v := [117, 115, 116, 97, 114, 0, 48, 48]) hN r2 (by simp only [List.length_append, List.length_replicate, List.length_cons, List.length_nil, octs_len, z7_len, sd0_len]; omega) (by decide)
      rw [e3, bnd_some, f_size r3, bnd_some]
      obtain ⟨d4, e4, r4, f4⟩ := AP.zeros (N := N) (m := 64) hN r3 (by simp only [List.length_append, List.length_replicate, List.length_cons, List.length_nil, octs_len, z7_len, sd0_len]; omega) (show nI t.length + 329 - nI (u ++ [v] ++ List.replicate 100 0 ++ [117, 115, 116, 97, 114, 0, 48, 48]).length = nI 64 by rw [subL (x := 329) (k := 329) rfl (by simp only [List.length_append, List.length_replicate, List.length_cons, List.length_nil, octs_len, z7_len, sd0_len]; omega)]; congr 1; simp only [List.length_append, List.length_replicate, List.length_cons, List.length_nil, octs_len, z7_len, sd0_len]; omega)
      rw [e4, bnd_some]
      obtain ⟨d5, e5, r5, f5⟩ := AP.text (N := N) (w := tx17) (v := z7) hN r4 (by simp only [List.length_append, List.length_replicate, List.length_cons, List.length_nil, octs_len, z7_len, sd0_len]; omega) (by decide)
      rw [e5, bnd_some]
      obtain ⟨d6, e6, r6, f6⟩ := AP.add (x := 0) (v := 0) r5 (by simp only [List.length_append, List.length_replicate, List.length_cons, List.length_nil, octs_len, z7_len, sd0_len]; omega) rfl
      rw [e6, bnd_some]
      obtain ⟨d7, e7, r7, f7⟩ := AP.text (N := N) (w := tx17) (v := z7) hN r6 (by simp only [List.length_append, List.length_replicate, List.length_cons, List.length_nil, octs_len, z7_len, sd0_len]; omega) (by decide)
      rw [e7, bnd_some, f_size r7, bnd_some]
      obtain ⟨d8, e8, r8, f8⟩ := AP.zeros (N := N) (m := 168) hN r7 (by simp only [List.length_append, List.length_replicate, List.length_cons, List.length_nil, octs_len, z7_len, sd0_len]; omega) (show nI t.length + 512 - nI (u ++ [v] ++ List.replicate 100 0 ++ [117, 115, 116, 97, 114, 0, 48, 48] ++ List.replicate 64 0 ++ z7 ++ [0] ++ z7).length = nI 168 by rw [subL (x := 512) (k := 512) rfl (by simp only [List.length_append, List.length_replicate, List.length_cons, List.length_nil, octs_len, z7_len, sd0_len]; omega)]; congr 1; simp only [List.length_append, List.length_replicate, List.length_cons, List.length_nil, octs_len, z7_len, sd0_len]; omega)
      rw [e8, bnd_some]
      refine ⟨d8, rfl, ?_, ((((((f1.tr f2).tr f3).tr f4).tr f5).tr f6).tr f7).tr f8⟩
      simpa only [List.append_assoc] using r8
    have mid : ∀ (w : List Int32) (v : List Nat) (c1 : hS) (u : List Nat), w.map b8 = v → v.length = 7 → row c1 3 u → mbr c1 m x → u.length = t.length + 100 → ∃ c', f_X1_addHead_51 N m c1 (nI t.length) w = bnd (f_X1_setSum N c' (nI t.length)) (fun _ c15 => some ((), c15)) ∧ row c' 3 (u ++ (v ++ ([0] ++ (z7 ++ ([0] ++ (z7 ++ ([0] ++ (octs x.2.1.length 11 ++ ([0] ++ (octs 0 11 ++ ([0] ++ (sd0 ++ tail0 x)))))))))))) ∧ fr [3, 4] c1 c' := by
      intro w v c1 u hv hv7 hu hm1 hul
      unfold f_X1_addHead_51
      obtain ⟨d1, e1, r1, f1⟩ := AP.text (N := N) hN hu (by omega) hv
      rw [e1, bnd_some]
      obtain ⟨d2, e2, r2, f2⟩ := AP.add (x := 0) (v := 0) r1 (by simp only [List.length_append, List.length_replicate, List.length_cons, List.length_nil, octs_len, z7_len, sd0_len]; omega) rfl
      rw [e2, bnd_some]
      obtain ⟨d3, e3, r3, f3⟩ := AP.text (N := N) (w := tx17) (v := z7) hN r2 (by simp only [List.length_append, List.length_replicate, List.length_cons, List.length_nil, octs_len, z7_len, sd0_len]; omega) (by decide)
      rw [e3, bnd_some]
      obtain ⟨d4, e4, r4, f4⟩ := AP.add (x := 0) (v := 0) r3 (by simp only [List.length_append, List.length_replicate, List.length_cons, List.length_nil, octs_len, z7_len, sd0_len]; omega) rfl
      rw [e4, bnd_some]
      obtain ⟨d5, e5, r5, f5⟩ := AP.text (N := N) (w := tx17) (v := z7) hN r4 (by simp only [List.length_append, List.length_replicate, List.length_cons, List.length_nil, octs_len, z7_len, sd0_len]; omega) (by decide)
      rw [e5, bnd_some]
      obtain ⟨d6, e6, r6, f6⟩ := AP.add (x := 0) (v := 0) r5 (by simp only [List.length_append, List.length_replicate, List.length_cons, List.length_nil, octs_len, z7_len, sd0_len]; omega) rfl
      have m6 := hm1.fr (((((f1.tr f2).tr f3).tr f4).tr f5).tr f6) (by simp only [List.mem_cons, List.not_mem_nil, or_false]; omega) (by simp only [List.mem_cons, List.not_mem_nil, or_false]; omega) (by simp only [List.mem_cons, List.not_mem_nil, or_false]; omega) (by simp only [List.mem_cons, List.not_mem_nil, or_false]; omega) (by simp only [List.mem_cons, List.not_mem_nil, or_false]; omega)
      rw [e6, bnd_some, f_size m6.2.1, bnd_some]
      obtain ⟨d7, e7, r7, f7⟩ := AP.octal (N := N) (v := x.2.1.length) (n := 11) (m := 11) hN r6 (by simp only [List.length_append, List.length_replicate, List.length_cons, List.length_nil, octs_len, z7_len, sd0_len]; omega) rfl (by omega) (by decide) rfl
      rw [e7, bnd_some]
      obtain ⟨d8, e8, r8, f8⟩ := AP.add (x := 0) (v := 0) r7 (by simp only [List.length_append, List.length_replicate, List.length_cons, List.length_nil, octs_len, z7_len, sd0_len]; omega) rfl
      rw [e8, bnd_some]
      obtain ⟨d9, e9, r9, f9⟩ := AP.octal (N := N) (v := 0) (n := 11) (m := 11) hN r8 (by simp only [List.length_append, List.length_replicate, List.length_cons, List.length_nil, octs_len, z7_len, sd0_len]; omega) rfl (by omega) (by decide) rfl
      rw [show (0 : Int32) = nI 0 from rfl, e9, bnd_some, show nI 0 = (0 : Int32) from rfl]
      obtain ⟨da, ea, ra, fa⟩ := AP.add (x := 0) (v := 0) r9 (by simp only [List.length_append, List.length_replicate, List.length_cons, List.length_nil, octs_len, z7_len, sd0_len]; omega) rfl
      rw [ea, bnd_some]
      obtain ⟨db, eb, rb, fb⟩ := AP.text (N := N) (w := tx18) (v := sd0) hN ra (by simp only [List.length_append, List.length_replicate, List.length_cons, List.length_nil, octs_len, z7_len, sd0_len]; omega) (by decide)
      rw [eb, bnd_some]
      obtain ⟨dc, ec, rc, fc⟩ := AP.add (x := 0) (v := 0) rb (by simp only [List.length_append, List.length_replicate, List.length_cons, List.length_nil, octs_len, z7_len, sd0_len]; omega) rfl
      rw [ec, bnd_some]
      obtain ⟨dd, ed, rd, fd⟩ := AP.add (x := 32) (v := 32) rc (by simp only [List.length_append, List.length_replicate, List.length_cons, List.length_nil, octs_len, z7_len, sd0_len]; omega) rfl
      rw [ed, bnd_some]
      have fall := ((((((f7.tr f8).tr f9).tr fa).tr fb).tr fc).tr fd)
      have md := m6.fr fall (by simp only [List.mem_cons, List.not_mem_nil, or_false]; omega) (by simp only [List.mem_cons, List.not_mem_nil, or_false]; omega) (by simp only [List.mem_cons, List.not_mem_nil, or_false]; omega) (by simp only [List.mem_cons, List.not_mem_nil, or_false]; omega) (by simp only [List.mem_cons, List.not_mem_nil, or_false]; omega)
      rw [md.2.2]
      have ul : (u ++ v ++ [0] ++ z7 ++ [0] ++ z7 ++ [0] ++ octs x.2.1.length 11 ++ [0] ++ octs 0 11 ++ [0] ++ sd0 ++ [0] ++ [32]).length = t.length + 156 := by simp only [List.length_append, List.length_replicate, List.length_cons, List.length_nil, octs_len, z7_len, sd0_len]; omega
      cases hd : x.2.2 with
      | false =>
        rw [if_pos (show bI false = 0 from rfl)]
        obtain ⟨c', g1, g2, g3⟩ := last 48 48 dd _ rfl rd ul
        refine ⟨c', g1, ?_, ((((((f1.tr f2).tr f3).tr f4).tr f5).tr f6).tr fall).tr g3⟩
        unfold tail0
        rw [hd]
        simpa only [List.append_assoc, Bool.false_eq_true, if_true, if_false] using g2
      | true =>
        rw [if_neg (by decide)]
        obtain ⟨c', g1, g2, g3⟩ := last 53 53 dd _ rfl rd ul
        refine ⟨c', g1, ?_, ((((((f1.tr f2).tr f3).tr f4).tr f5).tr f6).tr fall).tr g3⟩
        unfold tail0
        rw [hd]
        simpa only [List.append_assoc, Bool.false_eq_true, if_true, if_false] using g2
    unfold f_X1_addHead
    rw [f_size h, bnd_some]
    obtain ⟨d1, e1, r1, f1⟩ := AP.title (N := N) hN h hm hm4 (by omega)
    rw [e1, bnd_some, f_size r1, bnd_some]
    obtain ⟨d2, e2, r2, f2⟩ := AP.zeros (N := N) (m := 100 - (nmS x).length) hN r1 (by simp only [List.length_append, List.length_replicate, List.length_cons, List.length_nil, octs_len, z7_len, sd0_len]; omega) (show nI t.length + 100 - nI (t ++ nmS x).length = nI (100 - (nmS x).length) by rw [subL (x := 100) (k := 100) rfl (by simp only [List.length_append, List.length_replicate, List.length_cons, List.length_nil, octs_len, z7_len, sd0_len]; omega)]; congr 1; simp only [List.length_append, List.length_replicate, List.length_cons, List.length_nil, octs_len, z7_len, sd0_len]; omega)
    rw [e2, bnd_some]
    have m2 := hm.fr (f1.tr f2) (by simp only [List.mem_cons, List.not_mem_nil, or_false]; omega) (by simp only [List.mem_cons, List.not_mem_nil, or_false]; omega) (by simp only [List.mem_cons, List.not_mem_nil, or_false]; omega) (by simp only [List.mem_cons, List.not_mem_nil, or_false]; omega) (by simp only [List.mem_cons, List.not_mem_nil, or_false]; omega)
    rw [m2.2.2]
    have ul : (t ++ nmS x ++ List.replicate (100 - (nmS x).length) 0).length = t.length + 100 := by simp only [List.length_append, List.length_replicate, List.length_cons, List.length_nil, octs_len, z7_len, sd0_len]; omega
    cases hd : x.2.2 with
    | false =>
      rw [if_pos (show bI false = 0 from rfl)]
      obtain ⟨c', g1, g2, g3⟩ := mid tx16 [48, 48, 48, 48, 54, 52, 52] d2 _ (by decide) rfl r2 m2 ul
      refine ⟨c', g1, ?_, (f1.tr f2).tr g3⟩
      rw [head0_eq]
      unfold front0
      rw [hd]
      simpa only [List.append_assoc, Bool.false_eq_true, if_true, if_false] using g2
    | true =>
      rw [if_neg (by decide)]
      obtain ⟨c', g1, g2, g3⟩ := mid tx15 [48, 48, 48, 48, 55, 53, 53] d2 _ (by decide) rfl r2 m2 ul
      refine ⟨c', g1, ?_, (f1.tr f2).tr g3⟩
      rw [head0_eq]
      unfold front0
      rw [hd]
      simpa only [List.append_assoc, Bool.false_eq_true, if_true, if_false] using g2
  obtain ⟨c1, e1, r1, f1⟩ := key
  have hlen : (head0 x sd0).length = 512 := head0_len hx rfl
  obtain ⟨c2, e2, r2, f2⟩ := f_setSum hN r1 (p := t.length) (by simp only [List.length_append, List.length_replicate, List.length_cons, List.length_nil, octs_len, z7_len, sd0_len]; omega)
  refine ⟨c2, by rw [e1, e2, bnd_some], ?_, f1.tr f2⟩
  rw [sumW_app] at r2
  have e3 : setL (t ++ head0 x sd0) (t.length + 148) (octs (sumW (head0 x sd0) 0 512) 6) = t ++ head0 x (octs (sumW (head0 x sd0) 0 512) 6) := by
    rw [head0_eq, head0_eq, ← List.append_assoc, show t.length + 148 = (t ++ front0 x).length by simp [front0_len hx], setL_mid (by rw [octs_len]; rfl), List.append_assoc]
  rwa [e3] at r2
noncomputable def out0 (x : Mb) : List Nat := head0 x (octs (sumW (head0 x sd0) 0 512) 6) ++ (x.2.1 ++ List.replicate (upTo x.2.1.length 512 - x.2.1.length) 0)
noncomputable def all0 (ms : List Mb) : List Nat := ms.flatMap out0 ++ List.replicate 1024 0
/-- names and bodies fit -/
noncomputable def okM (ms : List Mb) : Prop := ms.length ≤ 16 ∧ ∀ x ∈ ms, x.1.length ≤ 90 ∧ x.2.1.length ≤ 400
theorem upTo_le {a b : Nat} (h : 0 < b) : a ≤ upTo a b ∧ upTo a b < a + b := by
  rw [upTo_eq h]
  have := Nat.mod_lt a h
  have := Nat.mod_le a b
  split <;> omega
theorem out0_len {x : Mb} (hx : x.1.length ≤ 90) (hb : x.2.1.length ≤ 400) : (out0 x).length ≤ 1024 := by
  unfold out0
  have := upTo_le (a := x.2.1.length) (b := 512) (by decide)
  rw [List.length_append, head0_len hx (octs_len _ _), List.length_append, List.length_replicate]
  have h2 : upTo x.2.1.length 512 ≤ 512 := by
    rw [upTo_eq (by decide)]
    split
    · omega
    · rename_i q
      rw [Nat.mod_eq_of_lt (show x.2.1.length < 512 by omega)]
      omega
  omega
theorem f_layOut0 {N : Nat} {c : hS} {s : Nat} {t : List Nat} {ms : List Mb} {w : Int32} (hN : 1000000 ≤ N) (h : row c 3 t) (hsh : shf c s ms) (hs : s = 37 ∨ s = 119) (hok : okM ms) (ht : t = []) : ∃ c', f_X1_layOut N c s w = some ((), c') ∧ row c' 3 (all0 ms) ∧ fr [3, 4] c c' := by
  subst ht
  have hs4 : 4 < s := by omega
  have key : ∀ d n i c t, i + d = ms.length → d < n → shf c s ms → row c 3 t → t.length ≤ 1024 * i → AP (f_X1_layOut_2 N s w n c (nI i)) c t ((ms.drop i).flatMap out0 ++ List.replicate 1024 0) := by
    intro d
    induction d with
    | zero =>
      intro n i c t hi hn hsh h hl
      have h16 := hsh.1
      obtain ⟨n, rfl⟩ : ∃ m, n = m + 1 := ⟨n - 1, by omega⟩
      rw [f_X1_layOut_2]
      unfold f_X9_size
      rw [bnd_some, hsh.2.1, if_pos (nI_le (by omega) (by omega)), List.drop_eq_nil_of_le (by omega)]
      exact AP.last_ (AP.zeros hN h (by omega) rfl)
    | succ d ih =>
      intro n i c t hi hn hsh h hl
      have h16 := hsh.1
      obtain ⟨n, rfl⟩ : ∃ m, n = m + 1 := ⟨n - 1, by omega⟩
      have hil : i < ms.length := by omega
      have hm := hsh.mb hil
      have hx := hok.2 ms[i] (List.getElem_mem hil)
      obtain ⟨k, hk, ek⟩ := hsh.2.2.1 i (by omega)
      rw [f_X1_layOut_2]
      unfold f_X9_size
      rw [bnd_some, hsh.2.1, if_neg (nI_ge hil (by omega)), f_member hsh hs hil, bnd_some]
      dsimp only [opt]
      rw [beq6 (hsh.kc6 hs (by omega)), cond_true, List.drop_eq_getElem_cons hil, List.flatMap_cons]
      have hol := out0_len hx.1 hx.2
      unfold out0 at hol ⊢
      simp only [List.append_assoc]
      have hh := head0_len (sd := octs (sumW (head0 ms[i] sd0) 0 512) 6) hx.1 (octs_len _ _)
      rw [List.length_append, List.length_append, List.length_replicate, hh] at hol
      refine AP.bnd_ (f_addHead0 hN h hm (by omega) (by omega) hx.1 hx.2) (fun c1 r1 f1 => ?_)
      have m1 := hm.fr f1 (by simp only [List.mem_cons, List.not_mem_nil, or_false]; omega) (by simp only [List.mem_cons, List.not_mem_nil, or_false]; omega) (by simp only [List.mem_cons, List.not_mem_nil, or_false]; omega) (by simp only [List.mem_cons, List.not_mem_nil, or_false]; omega) (by simp only [List.mem_cons, List.not_mem_nil, or_false]; omega)
      rw [f_size m1.2.1, bnd_some]
      refine AP.bnd_ (AP.whole hN r1 m1.2.1 (by omega) (by rw [List.length_append, hh]; omega) rfl) (fun c2 r2 f2 => ?_)
      have hu := upTo_le (a := ms[i].2.1.length) (b := 512) (by decide)
      rw [show (512 : Int32) = nI 512 from rfl, f_roundedUp (by omega) (by decide) (by decide), bnd_some, subI hu.1]
      refine AP.bnd_ (AP.zeros hN r2 (by rw [List.length_append, List.length_append, hh]; omega) rfl) (fun c3 r3 f3 => ?_)
      rw [nI_1]
      refine ih n (i + 1) c3 _ (by omega) (by omega) ?_ r3 (by rw [List.length_append, List.length_append, List.length_append, List.length_replicate, hh]; omega)
      have ff := (f1.tr f2).tr f3
      refine ⟨hsh.1, (ff.i (by simp only [List.mem_cons, List.not_mem_nil, or_false]; omega) 1).trans hsh.2.1, fun i hi => ?_, fun i j hi hj e => ?_, fun i hi => ?_⟩
      · rw [ff.r (by simp only [List.mem_cons, List.not_mem_nil, or_false]; omega)]; exact hsh.2.2.1 i hi
      · rw [ff.r (by simp only [List.mem_cons, List.not_mem_nil, or_false]; omega), ff.r (by simp only [List.mem_cons, List.not_mem_nil, or_false]; omega)] at e
        exact hsh.2.2.2.1 i j hi hj e
      · rw [ff.r (by simp only [List.mem_cons, List.not_mem_nil, or_false]; omega)]
        obtain ⟨x, x1, x2⟩ := hsh.2.2.2.2 i hi
        obtain ⟨k, hk, ek⟩ := hsh.2.2.1 i hi
        exact ⟨x, x1.fr ff (by simp only [List.mem_cons, List.not_mem_nil, or_false]; omega) (by simp only [List.mem_cons, List.not_mem_nil, or_false]; omega) (by simp only [List.mem_cons, List.not_mem_nil, or_false]; omega) (by simp only [List.mem_cons, List.not_mem_nil, or_false]; omega) (by simp only [List.mem_cons, List.not_mem_nil, or_false]; omega), x2⟩
  obtain ⟨c', e, r, f⟩ := key ms.length N 0 c [] (by omega) (by have := hsh.1; omega) hsh h (by simp)
  rw [List.nil_append, List.drop_zero] at r
  exact ⟨c', e, r, f⟩
