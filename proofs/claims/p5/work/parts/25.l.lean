/-! PURE: the reference: kind 0 written -/
noncomputable def H0 (x : Mb) (a b d e f g h i j k l m : List Nat) : List Nat := nmS x ++ (List.replicate (100 - (nmS x).length) 0 ++ (a ++ ([0] ++ (b ++ ([0] ++ (d ++ ([0] ++ (e ++ ([0] ++ (f ++ ([0] ++ (g ++ (h ++ (i ++ (j ++ (List.replicate 100 0 ++ (k ++ (List.replicate 64 0 ++ (l ++ ([0] ++ (m ++ (List.replicate 168 0))))))))))))))))))))))
theorem setL_at {A X B ds T : List Nat} {q : Nat} (hT : T = A ++ (X ++ B)) (hq : q = A.length) (hl : X.length = ds.length) : setL T q ds = A ++ (ds ++ B) := by
  subst hT hq
  exact setL_mid hl
theorem h0_a {x : Mb} {t a b d e f g h i j k l m v' : List Nat} (hx : (nmS x).length ≤ 100)  (hv : a.length = v'.length) : setL (t ++ H0 x a b d e f g h i j k l m) (t.length + 100) v' = t ++ H0 x v' b d e f g h i j k l m := by
  rw [setL_at (A := t ++ (nmS x ++ (List.replicate (100 - (nmS x).length) 0))) (X := a) (B := [0] ++ (b ++ ([0] ++ (d ++ ([0] ++ (e ++ ([0] ++ (f ++ ([0] ++ (g ++ (h ++ (i ++ (j ++ (List.replicate 100 0 ++ (k ++ (List.replicate 64 0 ++ (l ++ ([0] ++ (m ++ (List.replicate 168 0)))))))))))))))))))) (by simp only [H0, List.append_assoc]) (by simp only [List.length_append, List.length_replicate, List.length_cons, List.length_nil]; omega) hv]
  simp only [H0, List.append_assoc]
theorem h0_b {x : Mb} {t a b d e f g h i j k l m v' : List Nat} (hx : (nmS x).length ≤ 100) (ha : a.length = 7) (hv : b.length = v'.length) : setL (t ++ H0 x a b d e f g h i j k l m) (t.length + 108) v' = t ++ H0 x a v' d e f g h i j k l m := by
  rw [setL_at (A := t ++ (nmS x ++ (List.replicate (100 - (nmS x).length) 0 ++ (a ++ ([0]))))) (X := b) (B := [0] ++ (d ++ ([0] ++ (e ++ ([0] ++ (f ++ ([0] ++ (g ++ (h ++ (i ++ (j ++ (List.replicate 100 0 ++ (k ++ (List.replicate 64 0 ++ (l ++ ([0] ++ (m ++ (List.replicate 168 0)))))))))))))))))) (by simp only [H0, List.append_assoc]) (by simp only [List.length_append, List.length_replicate, List.length_cons, List.length_nil, ha]; omega) hv]
  simp only [H0, List.append_assoc]
theorem h0_d {x : Mb} {t a b d e f g h i j k l m v' : List Nat} (hx : (nmS x).length ≤ 100) (ha : a.length = 7) (hb : b.length = 7) (hv : d.length = v'.length) : setL (t ++ H0 x a b d e f g h i j k l m) (t.length + 116) v' = t ++ H0 x a b v' e f g h i j k l m := by
  rw [setL_at (A := t ++ (nmS x ++ (List.replicate (100 - (nmS x).length) 0 ++ (a ++ ([0] ++ (b ++ ([0]))))))) (X := d) (B := [0] ++ (e ++ ([0] ++ (f ++ ([0] ++ (g ++ (h ++ (i ++ (j ++ (List.replicate 100 0 ++ (k ++ (List.replicate 64 0 ++ (l ++ ([0] ++ (m ++ (List.replicate 168 0)))))))))))))))) (by simp only [H0, List.append_assoc]) (by simp only [List.length_append, List.length_replicate, List.length_cons, List.length_nil, ha, hb]; omega) hv]
  simp only [H0, List.append_assoc]
theorem h0_e {x : Mb} {t a b d e f g h i j k l m v' : List Nat} (hx : (nmS x).length ≤ 100) (ha : a.length = 7) (hb : b.length = 7) (hd : d.length = 7) (hv : e.length = v'.length) : setL (t ++ H0 x a b d e f g h i j k l m) (t.length + 124) v' = t ++ H0 x a b d v' f g h i j k l m := by
  rw [setL_at (A := t ++ (nmS x ++ (List.replicate (100 - (nmS x).length) 0 ++ (a ++ ([0] ++ (b ++ ([0] ++ (d ++ ([0]))))))))) (X := e) (B := [0] ++ (f ++ ([0] ++ (g ++ (h ++ (i ++ (j ++ (List.replicate 100 0 ++ (k ++ (List.replicate 64 0 ++ (l ++ ([0] ++ (m ++ (List.replicate 168 0)))))))))))))) (by simp only [H0, List.append_assoc]) (by simp only [List.length_append, List.length_replicate, List.length_cons, List.length_nil, ha, hb, hd]; omega) hv]
  simp only [H0, List.append_assoc]
theorem h0_f {x : Mb} {t a b d e f g h i j k l m v' : List Nat} (hx : (nmS x).length ≤ 100) (ha : a.length = 7) (hb : b.length = 7) (hd : d.length = 7) (he : e.length = 11) (hv : f.length = v'.length) : setL (t ++ H0 x a b d e f g h i j k l m) (t.length + 136) v' = t ++ H0 x a b d e v' g h i j k l m := by
  rw [setL_at (A := t ++ (nmS x ++ (List.replicate (100 - (nmS x).length) 0 ++ (a ++ ([0] ++ (b ++ ([0] ++ (d ++ ([0] ++ (e ++ ([0]))))))))))) (X := f) (B := [0] ++ (g ++ (h ++ (i ++ (j ++ (List.replicate 100 0 ++ (k ++ (List.replicate 64 0 ++ (l ++ ([0] ++ (m ++ (List.replicate 168 0)))))))))))) (by simp only [H0, List.append_assoc]) (by simp only [List.length_append, List.length_replicate, List.length_cons, List.length_nil, ha, hb, hd, he]; omega) hv]
  simp only [H0, List.append_assoc]
theorem h0_g {x : Mb} {t a b d e f g h i j k l m v' : List Nat} (hx : (nmS x).length ≤ 100) (ha : a.length = 7) (hb : b.length = 7) (hd : d.length = 7) (he : e.length = 11) (hf : f.length = 11) (hv : g.length = v'.length) : setL (t ++ H0 x a b d e f g h i j k l m) (t.length + 148) v' = t ++ H0 x a b d e f v' h i j k l m := by
  rw [setL_at (A := t ++ (nmS x ++ (List.replicate (100 - (nmS x).length) 0 ++ (a ++ ([0] ++ (b ++ ([0] ++ (d ++ ([0] ++ (e ++ ([0] ++ (f ++ ([0]))))))))))))) (X := g) (B := h ++ (i ++ (j ++ (List.replicate 100 0 ++ (k ++ (List.replicate 64 0 ++ (l ++ ([0] ++ (m ++ (List.replicate 168 0)))))))))) (by simp only [H0, List.append_assoc]) (by simp only [List.length_append, List.length_replicate, List.length_cons, List.length_nil, ha, hb, hd, he, hf]; omega) hv]
  simp only [H0, List.append_assoc]
theorem h0_h {x : Mb} {t a b d e f g h i j k l m v' : List Nat} (hx : (nmS x).length ≤ 100) (ha : a.length = 7) (hb : b.length = 7) (hd : d.length = 7) (he : e.length = 11) (hf : f.length = 11) (hg : g.length = 6) (hv : h.length = v'.length) : setL (t ++ H0 x a b d e f g h i j k l m) (t.length + 154) v' = t ++ H0 x a b d e f g v' i j k l m := by
  rw [setL_at (A := t ++ (nmS x ++ (List.replicate (100 - (nmS x).length) 0 ++ (a ++ ([0] ++ (b ++ ([0] ++ (d ++ ([0] ++ (e ++ ([0] ++ (f ++ ([0] ++ (g)))))))))))))) (X := h) (B := i ++ (j ++ (List.replicate 100 0 ++ (k ++ (List.replicate 64 0 ++ (l ++ ([0] ++ (m ++ (List.replicate 168 0))))))))) (by simp only [H0, List.append_assoc]) (by simp only [List.length_append, List.length_replicate, List.length_cons, List.length_nil, ha, hb, hd, he, hf, hg]; omega) hv]
  simp only [H0, List.append_assoc]
theorem h0_i {x : Mb} {t a b d e f g h i j k l m v' : List Nat} (hx : (nmS x).length ≤ 100) (ha : a.length = 7) (hb : b.length = 7) (hd : d.length = 7) (he : e.length = 11) (hf : f.length = 11) (hg : g.length = 6) (hh : h.length = 1) (hv : i.length = v'.length) : setL (t ++ H0 x a b d e f g h i j k l m) (t.length + 155) v' = t ++ H0 x a b d e f g h v' j k l m := by
  rw [setL_at (A := t ++ (nmS x ++ (List.replicate (100 - (nmS x).length) 0 ++ (a ++ ([0] ++ (b ++ ([0] ++ (d ++ ([0] ++ (e ++ ([0] ++ (f ++ ([0] ++ (g ++ (h))))))))))))))) (X := i) (B := j ++ (List.replicate 100 0 ++ (k ++ (List.replicate 64 0 ++ (l ++ ([0] ++ (m ++ (List.replicate 168 0)))))))) (by simp only [H0, List.append_assoc]) (by simp only [List.length_append, List.length_replicate, List.length_cons, List.length_nil, ha, hb, hd, he, hf, hg, hh]; omega) hv]
  simp only [H0, List.append_assoc]
theorem h0_j {x : Mb} {t a b d e f g h i j k l m v' : List Nat} (hx : (nmS x).length ≤ 100) (ha : a.length = 7) (hb : b.length = 7) (hd : d.length = 7) (he : e.length = 11) (hf : f.length = 11) (hg : g.length = 6) (hh : h.length = 1) (hi : i.length = 1) (hv : j.length = v'.length) : setL (t ++ H0 x a b d e f g h i j k l m) (t.length + 156) v' = t ++ H0 x a b d e f g h i v' k l m := by
  rw [setL_at (A := t ++ (nmS x ++ (List.replicate (100 - (nmS x).length) 0 ++ (a ++ ([0] ++ (b ++ ([0] ++ (d ++ ([0] ++ (e ++ ([0] ++ (f ++ ([0] ++ (g ++ (h ++ (i)))))))))))))))) (X := j) (B := List.replicate 100 0 ++ (k ++ (List.replicate 64 0 ++ (l ++ ([0] ++ (m ++ (List.replicate 168 0))))))) (by simp only [H0, List.append_assoc]) (by simp only [List.length_append, List.length_replicate, List.length_cons, List.length_nil, ha, hb, hd, he, hf, hg, hh, hi]; omega) hv]
  simp only [H0, List.append_assoc]
theorem h0_k {x : Mb} {t a b d e f g h i j k l m v' : List Nat} (hx : (nmS x).length ≤ 100) (ha : a.length = 7) (hb : b.length = 7) (hd : d.length = 7) (he : e.length = 11) (hf : f.length = 11) (hg : g.length = 6) (hh : h.length = 1) (hi : i.length = 1) (hj : j.length = 1) (hv : k.length = v'.length) : setL (t ++ H0 x a b d e f g h i j k l m) (t.length + 257) v' = t ++ H0 x a b d e f g h i j v' l m := by
  rw [setL_at (A := t ++ (nmS x ++ (List.replicate (100 - (nmS x).length) 0 ++ (a ++ ([0] ++ (b ++ ([0] ++ (d ++ ([0] ++ (e ++ ([0] ++ (f ++ ([0] ++ (g ++ (h ++ (i ++ (j ++ (List.replicate 100 0)))))))))))))))))) (X := k) (B := List.replicate 64 0 ++ (l ++ ([0] ++ (m ++ (List.replicate 168 0))))) (by simp only [H0, List.append_assoc]) (by simp only [List.length_append, List.length_replicate, List.length_cons, List.length_nil, ha, hb, hd, he, hf, hg, hh, hi, hj]; omega) hv]
  simp only [H0, List.append_assoc]
theorem h0_l {x : Mb} {t a b d e f g h i j k l m v' : List Nat} (hx : (nmS x).length ≤ 100) (ha : a.length = 7) (hb : b.length = 7) (hd : d.length = 7) (he : e.length = 11) (hf : f.length = 11) (hg : g.length = 6) (hh : h.length = 1) (hi : i.length = 1) (hj : j.length = 1) (hk : k.length = 8) (hv : l.length = v'.length) : setL (t ++ H0 x a b d e f g h i j k l m) (t.length + 329) v' = t ++ H0 x a b d e f g h i j k v' m := by
  rw [setL_at (A := t ++ (nmS x ++ (List.replicate (100 - (nmS x).length) 0 ++ (a ++ ([0] ++ (b ++ ([0] ++ (d ++ ([0] ++ (e ++ ([0] ++ (f ++ ([0] ++ (g ++ (h ++ (i ++ (j ++ (List.replicate 100 0 ++ (k ++ (List.replicate 64 0)))))))))))))))))))) (X := l) (B := [0] ++ (m ++ (List.replicate 168 0))) (by simp only [H0, List.append_assoc]) (by simp only [List.length_append, List.length_replicate, List.length_cons, List.length_nil, ha, hb, hd, he, hf, hg, hh, hi, hj, hk]; omega) hv]
  simp only [H0, List.append_assoc]
theorem h0_m {x : Mb} {t a b d e f g h i j k l m v' : List Nat} (hx : (nmS x).length ≤ 100) (ha : a.length = 7) (hb : b.length = 7) (hd : d.length = 7) (he : e.length = 11) (hf : f.length = 11) (hg : g.length = 6) (hh : h.length = 1) (hi : i.length = 1) (hj : j.length = 1) (hk : k.length = 8) (hl : l.length = 7) (hv : m.length = v'.length) : setL (t ++ H0 x a b d e f g h i j k l m) (t.length + 337) v' = t ++ H0 x a b d e f g h i j k l v' := by
  rw [setL_at (A := t ++ (nmS x ++ (List.replicate (100 - (nmS x).length) 0 ++ (a ++ ([0] ++ (b ++ ([0] ++ (d ++ ([0] ++ (e ++ ([0] ++ (f ++ ([0] ++ (g ++ (h ++ (i ++ (j ++ (List.replicate 100 0 ++ (k ++ (List.replicate 64 0 ++ (l ++ ([0])))))))))))))))))))))) (X := m) (B := List.replicate 168 0) (by simp only [H0, List.append_assoc]) (by simp only [List.length_append, List.length_replicate, List.length_cons, List.length_nil, ha, hb, hd, he, hf, hg, hh, hi, hj, hk, hl]; omega) hv]
  simp only [H0, List.append_assoc]
theorem H0_bl {x : Mb} (hx : (nmS x).length ≤ 100) : H0 x (List.replicate 7 0) (List.replicate 7 0) (List.replicate 7 0) (List.replicate 11 0) (List.replicate 11 0) (List.replicate 6 0) (List.replicate 1 0) (List.replicate 1 0) (List.replicate 1 0) (List.replicate 8 0) (List.replicate 7 0) (List.replicate 7 0) = nmS x ++ List.replicate (512 - (nmS x).length) 0 := by
  unfold H0
  rw [show ([0] : List Nat) = List.replicate 1 0 from rfl]
  simp only [List.replicate_append_replicate]
  congr 2
  omega
theorem H0_hd (x : Mb) (sd : List Nat) : head0 x sd = H0 x (if x.2.2 then [48, 48, 48, 48, 55, 53, 53] else [48, 48, 48, 48, 54, 52, 52]) z7 z7 (octs x.2.1.length 11) (octs 0 11) sd [0] [32] [if x.2.2 then 53 else 48] [117, 115, 116, 97, 114, 0, 48, 48] z7 z7 := rfl
noncomputable def MO (X : Option (Unit × hS)) (c : hS) (t' : List Nat) : Prop := ∃ c', X = some ((), c') ∧ mrw c' 4 203 t' ∧ fm W1 c c'
theorem MO.bnd_ {X : Option (Unit × hS)} {K : Unit → hS → Option (Unit × hS)} {c : hS} {t1 t2 : List Nat} (hX : MO X c t1) (hK : ∀ c1, mrw c1 4 203 t1 → fm W1 c c1 → MO (K () c1) c1 t2) : MO (bnd X K) c t2 := by
  obtain ⟨c1, e1, r1, f1⟩ := hX
  obtain ⟨c2, e2, r2, f2⟩ := hK c1 r1 f1
  exact ⟨c2, by rw [e1, bnd_some]; exact e2, r2, f1.tr f2⟩
theorem od_eq' {v i : Nat} (hv : v < 2 ^ 31) (hi : i ≤ 10) : (48 : Int32) + ((j_shr (nI v) (nI (3 * i))) &&& 7) = nI (od v i) := by
  rw [shr_nI hv (by omega), and7, show (48 : Int32) = nI 48 from rfl, nI_add]
  unfold od
  rw [show (8 : Nat) ^ i = 2 ^ (3 * i) by rw [Nat.pow_mul]]
theorem m_octalAt {N p v n : Nat} {c : hS} {t : List Nat} {p1 p2 p3 : Int32} (hN : 1000000 ≤ N) (h : mrw c 4 203 t) (hp : p + n ≤ t.length) (hv : v < 2 ^ 31) (hn : n ≤ 11) (h1 : p1 = nI p) (h2 : p2 = nI v) (h3 : p3 = nI n) : MO (f_X12_octalAt N c p1 p2 p3) c (setL t p (octs v n)) := by
  subst h1 h2 h3
  have ht : t.length ≤ 20000 := h.1
  have key : ∀ d m i c u, i + d = n → d < m → mrw c 4 203 u → u.length = t.length → MO (f_X12_octalAt_3 N (nI p) (nI v) (nI n) m c (nI i)) c (setL u (p + i) ((octs v n).drop i)) := by
    intro d
    induction d with
    | zero =>
      intro m i c u hi hm hu hl
      obtain ⟨m, rfl⟩ : ∃ k, m = k + 1 := ⟨m - 1, by omega⟩
      rw [f_X12_octalAt_3, if_pos (nI_le (by omega) (by omega)), List.drop_eq_nil_of_le (by rw [octs_len]; omega)]
      exact ⟨c, rfl, hu, fm.rf⟩
    | succ d ih =>
      intro m i c u hi hm hu hl
      obtain ⟨m, rfl⟩ : ∃ k, m = k + 1 := ⟨m - 1, by omega⟩
      have e1 : (3 : Int32) * (nI n - 1 - nI i) = nI (3 * (n - 1 - i)) := by
        rw [show nI n - 1 = nI (n - 1) from subI (b := 1) (by omega), subI (by omega), show (3 : Int32) = nI 3 from rfl, nI_mul]
      have r1 := hu.set (k := p + i) (x := od v (n - 1 - i)) (by decide) (by omega) (by have := od_lt v (n - 1 - i); omega)
      obtain ⟨c2, e2, r2, f2⟩ := ih m (i + 1) _ _ (by omega) (by omega) r1 (by simpa using hl)
      refine ⟨c2, ?_, ?_, (fm.sI (Or.inl rfl)).tr f2⟩
      · rw [f_X12_octalAt_3, if_neg (nI_ge (by omega) (by omega)), e1, if_pos (show nI (3 * (n - 1 - i)) ≤ 30 from nI_le (b := 30) (by omega) (by decide)), nI_add, j_in_nI (show p + i < ln 203 from (by show p + i < 20000; omega)) (by decide), cond_true, nI_clamp (by omega), od_eq' hv (by omega), nI_1]
        exact e2
      · rw [octs_get (by omega)]
        exact r2
  have := key n N 0 c t (by omega) (by omega) h rfl
  rwa [List.drop_zero, Nat.add_zero] at this
theorem setL_1 (t : List Nat) (q x : Nat) : setL t q [x] = t.set q x := rfl
noncomputable def sumZ (t : List Nat) (p n : Nat) : Nat := ((List.range n).map fun i => gt t (p + i)).sum
theorem sumZ_s (t : List Nat) (p n : Nat) : sumZ t p (n + 1) = sumZ t p n + gt t (p + n) := by
  unfold sumZ
  rw [List.range_succ]
  simp
theorem sumW_Z {t : List Nat} {p : Nat} (h : ∀ i, 148 ≤ i → i < 156 → gt t (p + i) = 0) : ∀ n, sumW t p n = sumZ t p n + 32 * (min n 156 - min n 148) := by
  intro n
  induction n with
  | zero => rfl
  | succ n ih =>
    rw [sumW_s, sumZ_s, ih]
    by_cases q : 148 ≤ n ∧ n < 156
    · rw [if_pos q, h n q.1 q.2]; omega
    · rw [if_neg q]; omega
theorem sumW_cg {t u : List Nat} {p q : Nat} : ∀ n, (∀ i, i < n → ¬ (148 ≤ i ∧ i < 156) → gt t (p + i) = gt u (q + i)) → sumW t p n = sumW u q n := by
  intro n
  induction n with
  | zero => intro _; rfl
  | succ n ih =>
    intro h
    rw [sumW_s, sumW_s, ih (fun i hi z => h i (by omega) z)]
    by_cases w : 148 ≤ n ∧ n < 156
    · rw [if_pos w, if_pos w]
    · rw [if_neg w, if_neg w, h n (by omega) w]
theorem sumZ_le {t : List Nat} (h : byt t) (p n : Nat) : sumZ t p n ≤ 255 * n := by
  induction n with
  | zero => exact Nat.zero_le _
  | succ n ih =>
    rw [sumZ_s]
    have := h.gt (p + n)
    omega
theorem gt_mid {A X B : List Nat} {k : Nat} (h1 : A.length ≤ k) (h2 : k < A.length + X.length) : gt (A ++ (X ++ B)) k = gt X (k - A.length) := by
  rw [gt_app_r h1, gt_app_l (by omega)]
theorem gt_out {A X Y B : List Nat} {k : Nat} (hl : X.length = Y.length) (h : ¬ (A.length ≤ k ∧ k < A.length + X.length)) : gt (A ++ (X ++ B)) k = gt (A ++ (Y ++ B)) k := by
  by_cases q : k < A.length
  · rw [gt_app_l q, gt_app_l q]
  · rw [gt_app_r (by omega), gt_app_r (by omega), gt_app_r (by omega), gt_app_r (by omega), hl]
/-- what is behind a head's eight bytes of the sum -/
noncomputable def tl0 (x : Mb) : List Nat := [if x.2.2 then 53 else 48] ++ (List.replicate 100 0 ++ ([117, 115, 116, 97, 114, 0, 48, 48] ++ (List.replicate 64 0 ++ (z7 ++ ([0] ++ (z7 ++ List.replicate 168 0))))))
theorem head_8 (x : Mb) (g h i : List Nat) : H0 x (if x.2.2 then [48, 48, 48, 48, 55, 53, 53] else [48, 48, 48, 48, 54, 52, 52]) z7 z7 (octs x.2.1.length 11) (octs 0 11) g h i [if x.2.2 then 53 else 48] [117, 115, 116, 97, 114, 0, 48, 48] z7 z7 = front0 x ++ ((g ++ (h ++ i)) ++ tl0 x) := by
  simp only [H0, front0, tl0, List.append_assoc]
theorem sum_eq {x : Mb} {t : List Nat} (hx : x.1.length ≤ 90) : 256 + sumZ (t ++ (front0 x ++ ((List.replicate 6 0 ++ (List.replicate 1 0 ++ List.replicate 1 0)) ++ tl0 x))) t.length 512 = sumW (head0 x sd0) 0 512 := by
  have fl := front0_len hx
  have e8 : (List.replicate 6 0 ++ (List.replicate 1 0 ++ List.replicate 1 0) : List Nat) = List.replicate 8 0 := rfl
  rw [e8]
  have h1 := sumW_Z (t := t ++ (front0 x ++ (List.replicate 8 0 ++ tl0 x))) (p := t.length) (fun i a b => by
    rw [gt_app_r (by omega), Nat.add_sub_cancel_left, gt_mid (by omega) (by rw [fl, List.length_replicate]; omega), fl]
    exact (by decide : ∀ j, j < 8 → gt (List.replicate 8 0) j = 0) _ (by omega)) 512
  have h2 := sumW_cg (t := t ++ (front0 x ++ (List.replicate 8 0 ++ tl0 x))) (p := t.length) (u := head0 x sd0) (q := 0) 512 (fun i a b => by
    rw [gt_app_r (by omega), Nat.add_sub_cancel_left, Nat.zero_add, H0_hd, head_8]
    exact gt_out rfl (by rw [fl, List.length_replicate]; omega))
  rw [← h2, h1]
  omega
