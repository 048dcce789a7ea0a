/-! PURE: the class's public methods: rows -/
theorem i_cases (x : Int32) : x < 0 ∨ ∃ k, k < 2 ^ 31 ∧ x = nI k := by
  by_cases h : x < 0
  · exact Or.inl h
  · refine Or.inr ⟨x.toInt.toNat, ?_, ?_⟩
    · have := Int32.toInt_lt x
      omega
    · have h0 : 0 ≤ x.toInt := by
        rw [Int32.lt_iff_toInt_lt] at h
        have : (0 : Int32).toInt = 0 := by decide
        omega
      have h1 := Int32.toInt_lt x
      apply Int32.toInt_inj.mp
      rw [show nI x.toInt.toNat = Int32.ofNat x.toInt.toNat from rfl, Int32.toInt_ofNat_of_lt (by omega)]
      omega
/-- nothing of the reference or of the law has changed since g -/
noncomputable def xt (g c : hS) : Prop := ∀ o, 201 ≤ o → (∀ j, c.1 o j = g.1 o j) ∧ (∀ j, c.2.1 o j = g.2.1 o j) ∧ ∀ j, c.2.2 o j = g.2.2 o j
theorem xt.rf {c : hS} : xt c c := fun _ _ => ⟨fun _ => rfl, fun _ => rfl, fun _ => rfl⟩
theorem xt.mv {S : List Nat} {g c c1 : hS} (h : xt g c) (hf : fr S c c1) (hS : ∀ o, o ∈ S → o < 201) : xt g c1 := fun o ho => by
  have n : o ∉ S := fun q => by have := hS o q; omega
  exact ⟨fun j => ((hf.1 o n).1 j).trans ((h o ho).1 j), fun j => ((hf.1 o n).2.1 j).trans ((h o ho).2.1 j), fun j => ((hf.1 o n).2.2 j).trans ((h o ho).2.2 j)⟩
/-- the class's state: buffer, tape, members -/
noncomputable def PC (g c : hS) (b t : List Nat) (ms : List Mb) : Prop := row c 1 b ∧ row c 3 t ∧ 0 ≤ c.1 5 1 ∧ 0 ≤ c.1 7 1 ∧ fxd c ∧ (okM ms ∧ xt g c) ∧ ∃ s s' ms', c.2.2 0 8 = s ∧ c.2.2 0 9 = s' ∧ ((s = 37 ∧ s' = 119) ∨ (s = 119 ∧ s' = 37)) ∧ shf c s ms ∧ shf c s' ms'
theorem PC.kp {S : List Nat} {g c c1 : hS} {b t : List Nat} {ms : List Mb} (h : PC g c b t ms) (hf : fr S c c1) (h0 : ∀ o, o ∈ S → o = 9 ∨ o = 10 ∨ o = 11 ∨ (20 ≤ o ∧ o < 37)) : PC g c1 b t ms := by
  obtain ⟨r1, r3, r5, r7, fx, ok, s, s', ms', e1, e2, e3, e4, e5⟩ := h
  have n : ∀ o, ¬ (o = 9 ∨ o = 10 ∨ o = 11 ∨ (20 ≤ o ∧ o < 37)) → o ∉ S := fun o ho q => ho (h0 o q)
  refine ⟨r1.fr hf (n _ (by omega)) (n _ (by omega)), r3.fr hf (n _ (by omega)) (n _ (by omega)), hf.2.1 r5, hf.2.2 r7, fx.fr hf (fun o ho => by have := h0 o ho; omega), ⟨ok.1, ok.2.mv hf (fun o ho => by have := h0 o ho; omega)⟩, s, s', ms', (hf.r (n _ (by omega)) 8).trans e1, (hf.r (n _ (by omega)) 9).trans e2, e3, e4.fr hf (fun o ho => by have := h0 o ho; omega), e5.fr hf (fun o ho => by have := h0 o ho; omega)⟩
theorem PC.buf {g c c1 : hS} {b b' t : List Nat} {ms : List Mb} (h : PC g c b t ms) (hf : fr [1, 2] c c1) (hb : row c1 1 b') : PC g c1 b' t ms := by
  obtain ⟨r1, r3, r5, r7, fx, ok, s, s', ms', e1, e2, e3, e4, e5⟩ := h
  refine ⟨hb, r3.fr hf (by decide) (by decide), hf.2.1 r5, hf.2.2 r7, fx.fr hf (by decide), ⟨ok.1, ok.2.mv hf (by decide)⟩, s, s', ms', (hf.r (by decide) 8).trans e1, (hf.r (by decide) 9).trans e2, e3, e4.fr hf (fun o ho => by simp at ho; omega), e5.fr hf (fun o ho => by simp at ho; omega)⟩
theorem PC.tap {g c c1 : hS} {b t t' : List Nat} {ms : List Mb} (h : PC g c b t ms) (hf : fr Spk c c1) (hb : row c1 3 t') : PC g c1 b t' ms := by
  obtain ⟨r1, r3, r5, r7, fx, ok, s, s', ms', e1, e2, e3, e4, e5⟩ := h
  refine ⟨r1.fr hf (by decide) (by decide), hb, hf.2.1 r5, hf.2.2 r7, fx.fr hf (by decide), ⟨ok.1, ok.2.mv hf (by decide)⟩, s, s', ms', (hf.r (by decide) 8).trans e1, (hf.r (by decide) 9).trans e2, e3, e4.fr hf (fun o ho => by simp at ho; omega), e5.fr hf (fun o ho => by simp at ho; omega)⟩
/-- a public method's answer: its number in the law's words, the value, the state behind it -/
noncomputable def AN {α : Type} (g : hS) (X : Option ((α ⊕ Nat) × hS)) (pm : Nat → Nat) (k : Nat) (v : α) (b t : List Nat) (ms : List Mb) : Prop := ∃ r c', X = some (r, c') ∧ PC g c' b t ms ∧ (match r with
  | .inl x => k = 0 ∧ x = v
  | .inr p => k ≠ 0 ∧ pm p = k)
theorem AN.ok {α : Type} {X : Option ((α ⊕ Nat) × hS)} {pm : Nat → Nat} {k : Nat} {v : α} {g c' : hS} {b t : List Nat} {ms : List Mb} (hX : X = some (.inl v, c')) (hk : k = 0) (h : PC g c' b t ms) : AN g X pm k v b t ms := ⟨_, _, hX, h, hk, rfl⟩
theorem AN.no {α : Type} {X : Option ((α ⊕ Nat) × hS)} {pm : Nat → Nat} {k p : Nat} {v : α} {g c' : hS} {b t : List Nat} {ms : List Mb} (hX : X = some (.inr p, c')) (hk : pm p = k) (h0 : k ≠ 0) (h : PC g c' b t ms) : AN g X pm k v b t ms := ⟨_, _, hX, h, h0, hk⟩
noncomputable def big (x : Int64) (m : Nat) : List Nat := (List.range m).reverse.map fun k => b8 (j_lushr x (8 * nI k)).toInt32
theorem big_len (x : Int64) (m : Nat) : (big x m).length = m := by unfold big; simp
/-! type -/
noncomputable def tyK (b : List Nat) (n : Int32) : Nat := if n < 1 ∨ 8 < n then 1 else if 512 < b.length + n.toNatClampNeg then 2 else 0
noncomputable def tyB (b : List Nat) (x : Int64) (n : Int32) : List Nat := if tyK b n = 0 then b ++ big x n.toNatClampNeg else b
noncomputable def tyM (p : Nat) : Nat := if p = 11 then 1 else 2
theorem c_type {N : Nat} {g c : hS} {b t : List Nat} {ms : List Mb} {x : Int64} {n : Int32} (hN : 1000000 ≤ N) (h : PC g c b t ms) : AN g (f_X11_type N c x n) tyM (tyK b n) (nI (tyB b x n).length) (tyB b x n) t ms := by
  have hb := h.1
  have hbl : b.length ≤ 512 := hb.1
  unfold f_X11_type
  by_cases h1 : n < 1
  · have k1 : tyK b n = 1 := by unfold tyK; rw [if_pos (Or.inl h1)]
    have e1 : tyB b x n = b := by unfold tyB; rw [if_neg (by rw [k1]; decide)]
    rw [if_pos h1, k1, e1]
    exact AN.no rfl rfl (by decide) h
  · rw [if_neg h1]
    by_cases h8 : n ≤ 8
    · rw [if_pos h8]
      have hor : ¬ (n < 1 ∨ 8 < n) := fun q => q.elim h1 (fun z => absurd h8 (Int32.not_le.mpr z))
      rcases i_cases n with q | ⟨k, hk, rfl⟩
      · exact absurd (Int32.lt_of_lt_of_le q (by decide)) h1
      · have k8 : k ≤ 8 := (nI_leI hk (show 8 < 2 ^ 31 by decide)).mp h8
        rw [f_size hb, bnd_some, nI_add, ]
        by_cases h5 : b.length + k ≤ 512
        · have k1 : tyK b (nI k) = 0 := by unfold tyK; rw [if_neg hor, nI_clamp hk, if_neg (by omega)]
          have e1 : tyB b x (nI k) = b ++ big x k := by unfold tyB; rw [if_pos k1, nI_clamp hk]
          rw [if_pos (show nI (b.length + k) ≤ 512 from nI_le (b := 512) h5 (by decide)), k1, e1]
          obtain ⟨c3, a1, a2, a3⟩ := f_addBig (x := x) (m := k) hN hb h5
          rw [a1, bnd_some, f_size a2, bnd_some]
          exact AN.ok rfl rfl (h.buf a3 a2)
        · have k1 : tyK b (nI k) = 2 := by unfold tyK; rw [if_neg hor, nI_clamp hk, if_pos (by omega)]
          have e1 : tyB b x (nI k) = b := by unfold tyB; rw [if_neg (by rw [k1]; decide)]
          rw [if_neg (show ¬ nI (b.length + k) ≤ 512 from nI_ge (show 512 < b.length + k by omega) (by omega)), k1, e1]
          exact AN.no rfl rfl (by decide) h
    · have k1 : tyK b n = 1 := by unfold tyK; rw [if_pos (Or.inr (Int32.not_le.mp h8))]
      have e1 : tyB b x n = b := by unfold tyB; rw [if_neg (by rw [k1]; decide)]
      rw [if_neg h8, k1, e1]
      exact AN.no rfl rfl (by decide) h
/-! keep, typed -/
noncomputable def keK (b : List Nat) (n : Int32) : Nat := if n < 0 then 1 else if b.length < n.toNatClampNeg then 1 else 0
noncomputable def keB (b : List Nat) (n : Int32) : List Nat := if keK b n = 0 then b.take n.toNatClampNeg else b
noncomputable def onM (_ : Nat) : Nat := 1
theorem c_keep {g c : hS} {b t : List Nat} {ms : List Mb} {n : Int32} (h : PC g c b t ms) : AN g (f_X11_keep c n) onM (keK b n) () (keB b n) t ms := by
  have hb := h.1
  have hbl := hb.lt
  unfold f_X11_keep
  rcases i_cases n with q | ⟨k, hk, rfl⟩
  · have k1 : keK b n = 1 := by unfold keK; rw [if_pos q]
    have e1 : keB b n = b := by unfold keB; rw [if_neg (by rw [k1]; decide)]
    rw [if_pos q, k1, e1]
    exact AN.no rfl rfl (by decide) h
  · rw [if_neg (nI_pos hk), f_size hb, bnd_some]
    by_cases h5 : k ≤ b.length
    · have k1 : keK b (nI k) = 0 := by unfold keK; rw [if_neg (nI_pos hk), nI_clamp hk, if_neg (by omega)]
      have e1 : keB b (nI k) = b.take k := by unfold keB; rw [if_pos k1, nI_clamp hk]
      rw [if_pos (nI_le h5 hbl), k1, e1]
      obtain ⟨c3, a1, a2, a3⟩ := f_cut hb h5
      rw [a1, bnd_some]
      exact AN.ok rfl rfl (h.buf (a3.mono (by decide)) a2)
    · have k1 : keK b (nI k) = 1 := by unfold keK; rw [if_neg (nI_pos hk), nI_clamp hk, if_pos (by omega)]
      have e1 : keB b (nI k) = b := by unfold keB; rw [if_neg (by rw [k1]; decide)]
      rw [if_neg (nI_ge (by omega) hk), k1, e1]
      exact AN.no rfl rfl (by decide) h
noncomputable def haB (b : List Nat) (i : Int32) : Bool := !decide (i < 0) && decide (i.toNatClampNeg < b.length)
theorem f_has' {c : hS} {r : Nat} {b : List Nat} {i : Int32} (h : row c r b) : f_X2_has c r i = some (bI (haB b i), c) := by
  unfold haB
  rcases i_cases i with q | ⟨k, hk, rfl⟩
  · rw [f_has_neg q, decide_eq_true q]; rfl
  · rw [f_has h hk, decide_eq_false (nI_pos hk), nI_clamp hk]
    by_cases z : k < b.length
    · rw [if_pos z, decide_eq_true z]; rfl
    · rw [if_neg z, decide_eq_false z]; rfl
theorem haB_so {b : List Nat} {i : Int32} (h : haB b i = true) : ∃ k, k < 2 ^ 31 ∧ i = nI k ∧ k < b.length := by
  unfold haB at h
  rcases i_cases i with q | ⟨k, hk, rfl⟩
  · rw [decide_eq_true q] at h; cases h
  · rw [nI_clamp hk] at h
    simp only [Bool.and_eq_true, decide_eq_true_eq] at h
    exact ⟨k, hk, rfl, h.2⟩
noncomputable def tdK (b : List Nat) (i : Int32) : Nat := if haB b i = true then 0 else 1
noncomputable def tdV (b : List Nat) (i : Int32) : Int32 := nI (gt b i.toNatClampNeg)
theorem c_typed {g c : hS} {b t : List Nat} {ms : List Mb} {i : Int32} (h : PC g c b t ms) : AN g (f_X11_typed c i) onM (tdK b i) (tdV b i) b t ms := by
  have hb := h.1
  unfold f_X11_typed tdK
  rw [f_has' hb, bnd_some]
  cases z : haB b i with
  | false => rw [if_pos (show bI false = 0 from rfl), if_neg (by decide)]; exact AN.no rfl rfl (by decide) h
  | true =>
    obtain ⟨k, hk, rfl, hkl⟩ := haB_so z
    rw [if_neg (by decide), if_pos rfl, f_get hb hk, bnd_some]
    unfold tdV
    rw [nI_clamp hk]
    exact AN.ok rfl rfl h
/-! count -/
noncomputable def coK (w : Int32) : Nat := if w = 0 ∨ w = 1 ∨ w = 2 then 0 else 1
noncomputable def coV (b t : List Nat) (ms : List Mb) (w : Int32) : Int32 := if w = 0 then nI ms.length else if w = 1 then nI b.length else nI t.length
theorem PC.sh {g c : hS} {b t : List Nat} {ms : List Mb} (h : PC g c b t ms) : ∃ s, c.2.2 0 8 = s ∧ (s = 37 ∨ s = 119) ∧ shf c s ms ∧ Nat.beq (kc s) 8 = true := by
  obtain ⟨r1, r3, r5, r7, fx, ok, s, s', ms', e1, e2, e3, e4, e5⟩ := h
  refine ⟨s, e1, by omega, e4, ?_⟩
  rcases e3 with ⟨rfl, _⟩ | ⟨rfl, _⟩ <;> decide
theorem c_count {g c : hS} {b t : List Nat} {ms : List Mb} {w : Int32} (h : PC g c b t ms) : AN g (f_X11_count c w) onM (coK w) (coV b t ms w) b t ms := by
  obtain ⟨s, s1, s2, s3, s4⟩ := h.sh
  unfold f_X11_count coK coV
  by_cases w0 : w = 0
  · rw [if_pos w0, if_pos (Or.inl w0), if_pos w0, s1, s4, cond_true]
    unfold f_X9_size
    rw [bnd_some, s3.2.1]
    exact AN.ok rfl rfl h
  · by_cases w1 : w = 1
    · rw [if_neg w0, if_pos w1, if_pos (Or.inr (Or.inl w1)), if_neg w0, if_pos w1, f_size h.1, bnd_some]
      exact AN.ok rfl rfl h
    · by_cases w2 : w = 2
      · rw [if_neg w0, if_neg w1, if_pos w2, if_pos (Or.inr (Or.inr w2)), if_neg w0, if_neg w1, f_size h.2.1, bnd_some]
        exact AN.ok rfl rfl h
      · rw [if_neg w0, if_neg w1, if_neg w2, if_neg (fun z => by rcases z with z | z | z <;> contradiction)]
        exact AN.no rfl rfl (by decide) h
/-! feed, end, poke -/
noncomputable def feK (t : List Nat) : Nat := if t.length + 20 ≤ 20000 then 0 else 1
noncomputable def fiv (a b c d e : Int32) : List Nat := big a.toInt64 4 ++ (big b.toInt64 4 ++ (big c.toInt64 4 ++ (big d.toInt64 4 ++ big e.toInt64 4)))
noncomputable def feT (t : List Nat) (p1 p2 p3 p4 p5 : Int32) : List Nat := if feK t = 0 then t ++ fiv p1 p2 p3 p4 p5 else t
theorem c_feed {N : Nat} {g c : hS} {b t : List Nat} {ms : List Mb} {p1 p2 p3 p4 p5 : Int32} (hN : 1000000 ≤ N) (h : PC g c b t ms) : AN g (f_X11_feed N c p1 p2 p3 p4 p5) onM (feK t) (nI (feT t p1 p2 p3 p4 p5).length) b (feT t p1 p2 p3 p4 p5) ms := by
  have ht := h.2.1
  have htl : t.length ≤ 20000 := ht.1
  unfold f_X11_feed
  rw [f_size ht, bnd_some, show nI t.length + 20 = nI (t.length + 20) from nI_add _ 20]
  by_cases q : t.length + 20 ≤ 20000
  · have k1 : feK t = 0 := by unfold feK; rw [if_pos q]
    have e1 : feT t p1 p2 p3 p4 p5 = t ++ fiv p1 p2 p3 p4 p5 := by unfold feT; rw [if_pos k1]
    rw [if_pos (show nI (t.length + 20) ≤ 20000 from nI_le (b := 20000) q (by decide)), k1, e1, show (4 : Int32) = nI 4 from rfl]
    obtain ⟨c3, a1, a2, a3⟩ := f_addBig (x := p1.toInt64) (m := 4) hN ht (show _ ≤ 20000 by omega)
    rw [a1, bnd_some]
    rw [show (List.range 4).reverse.map (fun k => b8 (j_lushr p1.toInt64 (8 * nI k)).toInt32) = big p1.toInt64 4 from rfl] at a2
    obtain ⟨c4, b1, b2, b3⟩ := f_addBig (x := p2.toInt64) (m := 4) hN a2 (show _ ≤ 20000 by rw [List.length_append, big_len]; omega)
    rw [b1, bnd_some]
    rw [show (List.range 4).reverse.map (fun k => b8 (j_lushr p2.toInt64 (8 * nI k)).toInt32) = big p2.toInt64 4 from rfl] at b2
    obtain ⟨c5, d1, d2, d3⟩ := f_addBig (x := p3.toInt64) (m := 4) hN b2 (show _ ≤ 20000 by rw [List.length_append, List.length_append, big_len, big_len]; omega)
    rw [d1, bnd_some]
    rw [show (List.range 4).reverse.map (fun k => b8 (j_lushr p3.toInt64 (8 * nI k)).toInt32) = big p3.toInt64 4 from rfl] at d2
    obtain ⟨c6, g1, g2, g3⟩ := f_addBig (x := p4.toInt64) (m := 4) hN d2 (show _ ≤ 20000 by rw [List.length_append, List.length_append, List.length_append, big_len, big_len, big_len]; omega)
    rw [g1, bnd_some]
    rw [show (List.range 4).reverse.map (fun k => b8 (j_lushr p4.toInt64 (8 * nI k)).toInt32) = big p4.toInt64 4 from rfl] at g2
    obtain ⟨c7, j1, j2, j3⟩ := f_addBig (x := p5.toInt64) (m := 4) hN g2 (show _ ≤ 20000 by rw [List.length_append, List.length_append, List.length_append, List.length_append, big_len, big_len, big_len, big_len]; omega)
    rw [j1, bnd_some]
    rw [show (List.range 4).reverse.map (fun k => b8 (j_lushr p5.toInt64 (8 * nI k)).toInt32) = big p5.toInt64 4 from rfl, List.append_assoc, List.append_assoc, List.append_assoc, List.append_assoc] at j2
    rw [f_size j2, bnd_some]
    exact AN.ok rfl rfl (h.tap (((((a3.tr b3).tr d3).tr g3).tr j3).mono (by decide)) j2)
  · have k1 : feK t = 1 := by unfold feK; rw [if_neg q]
    have e1 : feT t p1 p2 p3 p4 p5 = t := by unfold feT; rw [if_neg (by rw [k1]; decide)]
    rw [if_neg (show ¬ nI (t.length + 20) ≤ 20000 from nI_ge (show 20000 < t.length + 20 by omega) (by omega)), k1, e1]
    exact AN.no rfl rfl (by decide) h
theorem c_end {g c : hS} {b t : List Nat} {ms : List Mb} {n : Int32} (h : PC g c b t ms) : AN g (f_X11_end c n) onM (keK t n) () b (keB t n) ms := by
  have hb := h.2.1
  have hbl := hb.lt
  unfold f_X11_end
  rcases i_cases n with q | ⟨k, hk, rfl⟩
  · have k1 : keK t n = 1 := by unfold keK; rw [if_pos q]
    have e1 : keB t n = t := by unfold keB; rw [if_neg (by rw [k1]; decide)]
    rw [if_pos q, k1, e1]
    exact AN.no rfl rfl (by decide) h
  · rw [if_neg (nI_pos hk), f_size hb, bnd_some]
    by_cases h5 : k ≤ t.length
    · have k1 : keK t (nI k) = 0 := by unfold keK; rw [if_neg (nI_pos hk), nI_clamp hk, if_neg (by omega)]
      have e1 : keB t (nI k) = t.take k := by unfold keB; rw [if_pos k1, nI_clamp hk]
      rw [if_pos (nI_le h5 hbl), k1, e1]
      obtain ⟨c3, a1, a2, a3⟩ := f_cut hb h5
      rw [a1, bnd_some]
      exact AN.ok rfl rfl (h.tap (a3.mono (by decide)) a2)
    · have k1 : keK t (nI k) = 1 := by unfold keK; rw [if_neg (nI_pos hk), nI_clamp hk, if_pos (by omega)]
      have e1 : keB t (nI k) = t := by unfold keB; rw [if_neg (by rw [k1]; decide)]
      rw [if_neg (nI_ge (by omega) hk), k1, e1]
      exact AN.no rfl rfl (by decide) h
noncomputable def poK (t : List Nat) (i v : Int32) : Nat := if haB t i = true then (if v < 0 ∨ 255 < v then 2 else 0) else 1
noncomputable def poT (t : List Nat) (i v : Int32) : List Nat := if poK t i v = 0 then t.set i.toNatClampNeg (b8 v) else t
noncomputable def poM (p : Nat) : Nat := if p = 11 then 1 else 2
theorem c_poke {g c : hS} {b t : List Nat} {ms : List Mb} {i v : Int32} (h : PC g c b t ms) : AN g (f_X11_poke c i v) poM (poK t i v) (tdV t i) b (poT t i v) ms := by
  have hb := h.2.1
  unfold f_X11_poke
  rw [f_has' hb, bnd_some]
  cases z : haB t i with
  | false =>
    have k1 : poK t i v = 1 := by unfold poK; rw [z]; rfl
    have e1 : poT t i v = t := by unfold poT; rw [if_neg (by rw [k1]; decide)]
    rw [if_pos (show bI false = 0 from rfl), k1, e1]; exact AN.no rfl rfl (by decide) h
  | true =>
    rw [if_neg (by decide)]
    have no : (v < 0 ∨ 255 < v) → ∀ p c', p = 32 → c' = c → AN g (some (Sum.inr p, c')) poM (poK t i v) (tdV t i) b (poT t i v) ms := by
      intro q p c' hp hc
      have k1 : poK t i v = 2 := by unfold poK; rw [if_pos z, if_pos q]
      have e1 : poT t i v = t := by unfold poT; rw [if_neg (by rw [k1]; decide)]
      rw [k1, e1, hp, hc]
      exact AN.no rfl rfl (by decide) h
    obtain ⟨k, hk, rfl, hkl⟩ := haB_so z
    by_cases v0 : v < 0
    · rw [if_pos v0]; exact no (Or.inl v0) _ _ rfl rfl
    · rw [if_neg v0]
      by_cases v1 : v ≤ 255
      · have hor : ¬ (v < 0 ∨ 255 < v) := fun q => q.elim v0 (fun z => absurd v1 (Int32.not_le.mpr z))
        have k1 : poK t (nI k) v = 0 := by unfold poK; rw [if_pos z, if_neg hor]
        have e1 : poT t (nI k) v = t.set k (b8 v) := by unfold poT; rw [if_pos k1, nI_clamp hk]
        rw [if_pos v1, f_get hb hk, bnd_some, k1, e1]
        unfold tdV
        rw [nI_clamp hk]
        obtain ⟨c5, a1, a2, a3⟩ := f_set v hb hkl
        rw [a1, bnd_some]
        exact AN.ok rfl rfl (h.tap (a3.mono (by decide)) a2)
      · rw [if_neg v1]; exact no (Or.inr (Int32.not_le.mp v1)) _ _ rfl rfl
