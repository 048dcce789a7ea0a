/-! PURE: the reference: kind 0 written, whole -/
theorem m_sum {N p i : Nat} {c : hS} {t : List Nat} {p1 : Int32} (hN : 1000000 ≤ N) (h : mrw c 4 203 t) (hp : p + 512 ≤ t.length) : f_X12_writeBlock_241 N p1 N c (nI p) 256 0 = f_X12_writeBlock_241 N p1 (0 + 1) c (nI p) (nI (256 + sumZ t p 512)) (nI 512) := by
  have ht : t.length ≤ 20000 := h.1
  have key : ∀ d n i, i + d = 512 → d < n → f_X12_writeBlock_241 N p1 n c (nI p) (nI (256 + sumZ t p i)) (nI i) = f_X12_writeBlock_241 N p1 (0 + 1) c (nI p) (nI (256 + sumZ t p 512)) (nI 512) := by
    intro d
    induction d with
    | zero =>
      intro n i hi hn
      obtain ⟨n, rfl⟩ : ∃ m, n = m + 1 := ⟨n - 1, by omega⟩
      have : i = 512 := by omega
      subst this
      rw [f_X12_writeBlock_241, f_X12_writeBlock_241, if_pos (by decide), if_pos (by decide)]
    | succ d ih =>
      intro n i hi hn
      obtain ⟨n, rfl⟩ : ∃ m, n = m + 1 := ⟨n - 1, by omega⟩
      rw [f_X12_writeBlock_241, if_neg (show ¬ (512 : Int32) ≤ nI i from nI_ge (b := 512) (by omega) (by decide)), nI_add, j_in_nI (show p + i < ln 203 from (by show p + i < 20000; omega)) (by decide), cond_true, nI_clamp (by omega), h.2.2.1 (p + i) (by omega), nI_add, nI_1, Nat.add_assoc 256, ← sumZ_s]
      exact ih n (i + 1) (by omega) (by omega)
  exact key 512 N 0 (by omega) (by omega)
theorem m_set1 {c : hS} {t : List Nat} {p x : Nat} {y z : Int32} {K : hS → Option (Unit × hS)} {t2 : List Nat} (h : mrw c 4 203 t) (hp : p < t.length) (hx : x < 256) (hy : y = nI p) (hz : z = nI x) (hK : ∀ c1, mrw c1 4 203 (setL t p [x]) → fm W1 c c1 → MO (K c1) c1 t2) : MO (bif j_in y (ln 203) then st1 (sI c 203 y.toNatClampNeg z) K else none) c t2 := by
  subst hy hz
  have ht : t.length ≤ 20000 := h.1
  rw [j_in_nI (show p < ln 203 from (by show p < 20000; omega)) (by decide), cond_true, nI_clamp (by omega)]
  have f1 : fm W1 c (sI c 203 p (nI x)) := fm.sI (Or.inl rfl)
  obtain ⟨c', e, r, f⟩ := hK _ (h.set (k := p) (x := x) (by decide) hp hx) f1
  exact ⟨c', e, r, f1.tr f⟩
theorem MO.of {X : Option (Unit × hS)} {c : hS} {t r t2 : List Nat} (h : MP X c t r) (e : t ++ r = t2) : MO X c t2 := by subst e; exact h
theorem add_lit (p k : Nat) {x : Int32} (hx : x = nI k) : nI p + x = nI (p + k) := by rw [hx, nI_add]
theorem z7_o : octs 0 7 = z7 := by decide
theorem m_wb126 {N m : Nat} {c : hS} {t : List Nat} {x : Mb} {a b d e f j : List Nat} (hN : 1000000 ≤ N) (h : mrw c 4 203 (t ++ H0 x a b d e f (List.replicate 6 0) (List.replicate 1 0) (List.replicate 1 0) j (List.replicate 8 0) (List.replicate 7 0) (List.replicate 7 0))) (hm : mmb c m x) (hm34 : m < 34) (hl : t.length + 1024 ≤ 20000) (ht : t.length % 512 = 0) (h4 : a = (if x.2.2 then [48, 48, 48, 48, 55, 53, 53] else [48, 48, 48, 48, 54, 52, 52]) ∧ b = z7 ∧ d = z7 ∧ e = octs x.2.1.length 11 ∧ f = octs 0 11 ∧ j = [if x.2.2 then 53 else 48]) : MO (f_X12_writeBlock_126 N (nI m) N c (nI t.length) 0) c (t ++ out0 x) := by
  have hx := hm.1.2.2.1
  have hb := hm.2.1.2.2.1
  have nl := nmS_len hx
  obtain ⟨ea, eb, ed, ee, ef, ej⟩ := h4
  have la : a.length = 7 := by rw [ea]; cases x.2.2 <;> rfl
  have lb : b.length = 7 := by rw [eb]; rfl
  have ld : d.length = 7 := by rw [ed]; rfl
  have le : e.length = 11 := by rw [ee, octs_len]
  have lf : f.length = 11 := by rw [ef, octs_len]
  have lj : j.length = 1 := by rw [ej]; rfl
  have hlen : ∀ g h' i' k l m', g.length = 6 → h'.length = 1 → i'.length = 1 → k.length = 8 → l.length = 7 → m'.length = 7 → (H0 x a b d e f g h' i' j k l m').length = 512 := by
    intro g h' i' k l m' q1 q2 q3 q4 q5 q6
    unfold H0
    simp only [List.length_append, List.length_replicate, List.length_cons, List.length_nil, la, lb, ld, le, lf, lj, q1, q2, q3, q4, q5, q6]
    omega
  have z := fun n => List.length_replicate (n := n) (a := (0 : Nat))
  obtain ⟨n, hn⟩ : ∃ n, N = n + 9 := ⟨N - 9, by omega⟩
  -- the mark
  have mark : ∀ v, v = [117, 115, 116, 97, 114, 0, 48, 48] → MO (f_X12_writeBlock_126 N (nI m) (n + 9) c (nI t.length) 0) c (t ++ out0 x) := by
    intro mk emk
    have lt : (t ++ H0 x a b d e f (List.replicate 6 0) (List.replicate 1 0) (List.replicate 1 0) j (List.replicate 8 0) (List.replicate 7 0) (List.replicate 7 0)).length = t.length + 512 := by rw [List.length_append, hlen _ _ _ _ _ _ rfl rfl rfl rfl rfl rfl]
    obtain ⟨T, eT⟩ : ∃ T, T = t ++ H0 x a b d e f (List.replicate 6 0) (List.replicate 1 0) (List.replicate 1 0) j (List.replicate 8 0) (List.replicate 7 0) (List.replicate 7 0) := ⟨_, rfl⟩
    rw [← eT] at h lt
    have stp : ∀ (i v : Nat) (w y : Int32) (k : hS → Option (Unit × hS)) (u : List Nat) (c : hS), i < 8 → v < 256 → w = nI v → y = nI i → u.length = t.length + 512 → mrw c 4 203 u → (∀ c1, mrw c1 4 203 (setL u (t.length + 257 + i) [v]) → fm W1 c c1 → MO (k c1) c1 (t ++ out0 x)) → MO (bif j_in (nI t.length + 257 + y) (ln 203) then st1 (sI c 203 (nI t.length + 257 + y).toNatClampNeg w) k else none) c (t ++ out0 x) := by
      intro i v w y k u c hi hv hw hy hu hr hK
      subst hy
      rw [show nI t.length + 257 + nI i = nI (t.length + 257 + i) from by rw [show nI t.length + 257 = nI (t.length + 257) from nI_add _ 257, nI_add]]
      exact m_set1 hr (by omega) hv rfl hw hK
    have sl : ∀ (u : List Nat) q v, (setL u q [v]).length = u.length := fun u q v => setL_len
    rw [f_X12_writeBlock_126, if_neg (by decide), if_pos (by decide)]
    refine stp 0 117 _ _ _ T c (by decide) (by decide) rfl rfl lt h (fun c1 r1 f1 => ?_)
    rw [f_X12_writeBlock_126, if_neg (by decide), if_neg (by decide), if_pos (by decide)]
    refine stp 1 115 _ _ _ _ c1 (by decide) (by decide) rfl rfl (by rw [sl, lt]) r1 (fun c2 r2 f2 => ?_)
    rw [f_X12_writeBlock_126, if_neg (by decide), if_neg (by decide), if_neg (by decide), if_pos (by decide)]
    refine stp 2 116 _ _ _ _ c2 (by decide) (by decide) rfl rfl (by rw [sl, sl, lt]) r2 (fun c3 r3 f3 => ?_)
    rw [f_X12_writeBlock_126, if_neg (by decide), if_neg (by decide), if_neg (by decide), if_neg (by decide), if_pos (by decide)]
    refine stp 3 97 _ _ _ _ c3 (by decide) (by decide) rfl rfl (by rw [sl, sl, sl, lt]) r3 (fun c4 r4 f4 => ?_)
    rw [f_X12_writeBlock_126, if_neg (by decide), if_neg (by decide), if_neg (by decide), if_neg (by decide), if_neg (by decide), if_pos (by decide)]
    refine stp 4 114 _ _ _ _ c4 (by decide) (by decide) rfl rfl (by rw [sl, sl, sl, sl, lt]) r4 (fun c5 r5 f5 => ?_)
    rw [f_X12_writeBlock_126, if_neg (by decide), if_neg (by decide), if_neg (by decide), if_neg (by decide), if_neg (by decide), if_neg (by decide), if_pos (by decide)]
    refine stp 5 0 _ _ _ _ c5 (by decide) (by decide) rfl rfl (by rw [sl, sl, sl, sl, sl, lt]) r5 (fun c6 r6 f6 => ?_)
    rw [f_X12_writeBlock_126, if_neg (by decide), if_neg (by decide), if_neg (by decide), if_neg (by decide), if_neg (by decide), if_neg (by decide), if_neg (by decide)]
    refine stp 6 48 _ _ _ _ c6 (by decide) (by decide) rfl rfl (by rw [sl, sl, sl, sl, sl, sl, lt]) r6 (fun c7 r7 f7 => ?_)
    rw [f_X12_writeBlock_126, if_neg (by decide), if_neg (by decide), if_neg (by decide), if_neg (by decide), if_neg (by decide), if_neg (by decide), if_neg (by decide)]
    refine stp 7 48 _ _ _ _ c7 (by decide) (by decide) rfl rfl (by rw [sl, sl, sl, sl, sl, sl, sl, lt]) r7 (fun c8 r8 f8 => ?_)
    have r8' : mrw c8 4 203 (setL T (t.length + 257) mk) := by rw [emk]; exact r8
    rw [eT, h0_k (by omega) la lb ld le lf (z 6) (z 1) (z 1) lj (by rw [emk]; rfl)] at r8'
    have lmk : mk.length = 8 := by rw [emk]; rfl
    have m8 := mmbW (mmbW (mmbW (mmbW (mmbW (mmbW (mmbW (mmbW hm f1) f2) f3) f4) f5) f6) f7) f8
    rw [f_X12_writeBlock_126, if_pos (by decide)]
    refine MO.bnd_ (m_octalAt (p := t.length + 329) (v := 0) (n := 7) hN r8' (by rw [List.length_append, hlen _ _ _ _ _ _ rfl rfl rfl lmk rfl rfl]; omega) (by decide) (by decide) (add_lit _ 329 rfl) rfl rfl) (fun c9 r9 f9 => ?_)
    rw [h0_l (by omega) la lb ld le lf (z 6) (z 1) (z 1) lj lmk (by rw [octs_len]; rfl), z7_o] at r9
    refine MO.bnd_ (m_octalAt (p := t.length + 337) (v := 0) (n := 7) hN r9 (by rw [List.length_append, hlen _ _ _ _ _ _ rfl rfl rfl lmk rfl rfl]; omega) (by decide) (by decide) (add_lit _ 337 rfl) rfl rfl) (fun c10 r10 f10 => ?_)
    rw [h0_m (by omega) la lb ld le lf (z 6) (z 1) (z 1) lj lmk rfl (by rw [octs_len]; rfl), z7_o] at r10
    have m10 := mmbW (mmbW m8 f9) f10
    rw [m_sum (i := 0) hN r10 (by rw [List.length_append, hlen _ _ _ _ _ _ rfl rfl rfl lmk rfl rfl]; exact Nat.le_refl _)]
    have es : 256 + sumZ (t ++ H0 x a b d e f (List.replicate 6 0) (List.replicate 1 0) (List.replicate 1 0) j mk z7 z7) t.length 512 = sumW (head0 x sd0) 0 512 := by
      rw [ea, eb, ed, ee, ef, ej, emk, head_8]
      exact sum_eq hx
    rw [es]
    obtain ⟨S, eS⟩ : ∃ S, S = sumW (head0 x sd0) 0 512 := ⟨_, rfl⟩
    have hS : S < 2 ^ 31 := by
      rw [eS, ← es]
      have := sumZ_le r10.2.2.2 t.length 512
      omega
    rw [← eS, f_X12_writeBlock_241, if_pos (by decide)]
    refine MO.bnd_ (m_octalAt (p := t.length + 148) (v := S) (n := 6) hN r10 (by rw [List.length_append, hlen _ _ _ _ _ _ rfl rfl rfl lmk rfl rfl]; omega) hS (by decide) (add_lit _ 148 rfl) rfl rfl) (fun c11 r11 f11 => ?_)
    rw [h0_g (by omega) la lb ld le lf (by rw [octs_len]; rfl)] at r11
    have ol := octs_len S 6
    refine m_set1 (p := t.length + 154) (x := 0) r11 (by rw [List.length_append, hlen _ _ _ _ _ _ ol rfl rfl lmk rfl rfl]; omega) (by decide) (add_lit _ 154 rfl) rfl (fun c12 r12 f12 => ?_)
    rw [h0_h (v' := [0]) (by omega) la lb ld le lf ol (by rfl)] at r12
    refine m_set1 (p := t.length + 155) (x := 32) r12 (by rw [List.length_append, hlen _ _ _ _ _ _ ol rfl rfl lmk rfl rfl]; omega) (by decide) (add_lit _ 155 rfl) rfl (fun c13 r13 f13 => ?_)
    rw [h0_i (v' := [32]) (by omega) la lb ld le lf ol rfl (by rfl)] at r13
    have m13 := mmbW (mmbW (mmbW m10 f11) f12) f13
    have eh : H0 x a b d e f (octs S 6) [0] [32] j mk z7 z7 = head0 x (octs S 6) := by rw [H0_hd, ea, eb, ed, ee, ef, ej, emk]
    rw [eh] at r13
    have hh := head0_len (sd := octs S 6) hx ol
    have hu := upTo_le (a := x.2.1.length) (b := 512) (by decide)
    have hu2 : upTo x.2.1.length 512 ≤ 512 := by unfold upTo; omega
    refine MO.of (t := t ++ head0 x (octs S 6)) (r := x.2.1 ++ List.replicate (upTo x.2.1.length 512 - x.2.1.length) 0) ?_ (by unfold out0; rw [← eS, List.append_assoc])
    refine MP.bnd_ (MP.bytes hN r13 m13 hm34 (by rw [List.length_append, hh]; omega)) (fun c14 r14 f14 => ?_)
    have e14 : (t ++ head0 x (octs S 6) ++ x.2.1).length = t.length + 512 + x.2.1.length := by rw [List.length_append, List.length_append, hh]
    refine MP.last_ (MP.zeros hN r14 (by rw [e14]; omega) ?_)
    rw [r14.2.1, e14, up512 (by omega)]
    exact congrArg nI (by unfold upTo at *; omega)
  have := mark _ rfl
  rw [← hn] at this
  exact this
theorem m_writeBlock {N m : Nat} {c : hS} {t : List Nat} {x : Mb} (hN : 1000000 ≤ N) (h : mrw c 4 203 t) (hm : mmb c m x) (hm34 : m < 34) (hl : t.length + 1024 ≤ 20000) (ht : t.length % 512 = 0) : MO (f_X12_writeBlock N c (nI m)) c (t ++ out0 x) := by
  have hx := hm.1.2.2.1
  have hb := hm.2.1.2.2.1
  have nl := nmS_len hx
  have z := fun n => List.length_replicate (n := n) (a := (0 : Nat))
  unfold f_X12_writeBlock
  refine MO.bnd_ (MP.name1 hN h hm hm34 (by omega)) (fun c1 r1 f1 => ?_)
  rw [h.2.1]
  refine MO.bnd_ (MP.zeros (m := 512 - (nmS x).length) hN r1 (by rw [List.length_append]; omega) ?_) (fun c2 r2 f2 => ?_)
  · rw [show nI t.length + 512 = nI (t.length + 512) from nI_add _ 512, List.length_append]
    congr 1
    omega
  rw [List.append_assoc, ← H0_bl (by omega)] at r2
  have m2 := mmbW (mmbW hm f1) f2
  rw [j_in_nI (show m < ln 208 from hm34) (by decide), cond_true, nI_clamp (by omega), m2.2.2]
  have go : ∀ (w : Int32) (v : Nat) (a : List Nat), w = nI v → v < 2 ^ 31 → octs v 7 = a → a = (if x.2.2 then [48, 48, 48, 48, 55, 53, 53] else [48, 48, 48, 48, 54, 52, 52]) → MO (f_X12_writeBlock_43 N (nI m) c2 (nI t.length) w (nI t.length + 100)) c2 (t ++ out0 x) := by
    intro w v a hw hv ho ha
    have la : a.length = 7 := by rw [← ho, octs_len]
    have hlen : ∀ a b d e f j, a.length = 7 → b.length = 7 → d.length = 7 → e.length = 11 → f.length = 11 → j.length = 1 → (H0 x a b d e f (List.replicate 6 0) (List.replicate 1 0) (List.replicate 1 0) j (List.replicate 8 0) (List.replicate 7 0) (List.replicate 7 0)).length = 512 := by
      intro a b d e f j q1 q2 q3 q4 q5 q6
      unfold H0
      simp only [List.length_append, List.length_replicate, List.length_cons, List.length_nil, q1, q2, q3, q4, q5, q6]
      omega
    unfold f_X12_writeBlock_43
    refine MO.bnd_ (m_octalAt (p := t.length + 100) (v := v) (n := 7) hN r2 (by rw [List.length_append, hlen _ _ _ _ _ _ rfl rfl rfl rfl rfl rfl]; omega) hv (by decide) (add_lit _ 100 rfl) hw rfl) (fun c3 r3 f3 => ?_)
    rw [h0_a (by omega) (by rw [octs_len]; rfl), ho] at r3
    refine MO.bnd_ (m_octalAt (p := t.length + 108) (v := 0) (n := 7) hN r3 (by rw [List.length_append, hlen _ _ _ _ _ _ la rfl rfl rfl rfl rfl]; omega) (by decide) (by decide) (add_lit _ 108 rfl) rfl rfl) (fun c4 r4 f4 => ?_)
    rw [h0_b (by omega) la (by rw [octs_len]; rfl), z7_o] at r4
    refine MO.bnd_ (m_octalAt (p := t.length + 116) (v := 0) (n := 7) hN r4 (by rw [List.length_append, hlen _ _ _ _ _ _ la rfl rfl rfl rfl rfl]; omega) (by decide) (by decide) (add_lit _ 116 rfl) rfl rfl) (fun c5 r5 f5 => ?_)
    rw [h0_d (by omega) la rfl (by rw [octs_len]; rfl), z7_o] at r5
    have m5 := mmbW (mmbW (mmbW m2 f3) f4) f5
    rw [j_in_nI (show m < ln 206 from hm34) (by decide), cond_true, nI_clamp (by omega), m5.2.1.1]
    refine MO.bnd_ (m_octalAt (p := t.length + 124) (v := x.2.1.length) (n := 11) hN r5 (by rw [List.length_append, hlen _ _ _ _ _ _ la rfl rfl rfl rfl rfl]; omega) (by omega) (by decide) (add_lit _ 124 rfl) rfl rfl) (fun c6 r6 f6 => ?_)
    have l11 := octs_len x.2.1.length 11
    rw [h0_e (by omega) la rfl rfl (by rw [octs_len]; rfl)] at r6
    refine MO.bnd_ (m_octalAt (p := t.length + 136) (v := 0) (n := 11) hN r6 (by rw [List.length_append, hlen _ _ _ _ _ _ la rfl rfl l11 rfl rfl]; omega) (by decide) (by decide) (add_lit _ 136 rfl) rfl rfl) (fun c7 r7 f7 => ?_)
    rw [h0_f (by omega) la rfl rfl l11 (by rw [octs_len]; rfl)] at r7
    have m7 := mmbW (mmbW m5 f6) f7
    rw [j_in_nI (show m < ln 208 from hm34) (by decide), cond_true, m7.2.2]
    cases hd : x.2.2 with
    | false =>
      rw [if_pos (show bI false = 0 from rfl)]
      refine m_set1 (p := t.length + 156) (x := 48) r7 (by rw [List.length_append, hlen _ _ _ _ _ _ la rfl rfl l11 (octs_len 0 11) rfl]; omega) (by decide) (add_lit _ 156 rfl) rfl (fun c8 r8 f8 => ?_)
      rw [h0_j (v' := [48]) (by omega) la rfl rfl l11 (octs_len 0 11) (z 6) (z 1) (z 1) (by rfl)] at r8
      exact m_wb126 hN r8 (mmbW m7 f8) hm34 hl ht ⟨ha, rfl, rfl, rfl, rfl, by rw [hd]; rfl⟩
    | true =>
      rw [if_neg (by decide)]
      refine m_set1 (p := t.length + 156) (x := 53) r7 (by rw [List.length_append, hlen _ _ _ _ _ _ la rfl rfl l11 (octs_len 0 11) rfl]; omega) (by decide) (add_lit _ 156 rfl) rfl (fun c8 r8 f8 => ?_)
      rw [h0_j (v' := [53]) (by omega) la rfl rfl l11 (octs_len 0 11) (z 6) (z 1) (z 1) (by rfl)] at r8
      exact m_wb126 hN r8 (mmbW m7 f8) hm34 hl ht ⟨ha, rfl, rfl, rfl, rfl, by rw [hd]; rfl⟩
  cases hd : x.2.2 with
  | false => rw [if_pos (show bI false = 0 from rfl)]; exact go _ 420 [48, 48, 48, 48, 54, 52, 52] rfl (by decide) (by decide) (by rw [hd]; rfl)
  | true => rw [if_neg (by decide)]; exact go _ 493 [48, 48, 48, 48, 55, 53, 53] rfl (by decide) (by decide) (by rw [hd]; rfl)
theorem out0_md {x : Mb} (hx : x.1.length ≤ 90) (hb : x.2.1.length ≤ 400) : (out0 x).length % 512 = 0 := by
  have hu := upTo_le (a := x.2.1.length) (b := 512) (by decide)
  unfold out0
  rw [List.length_append, head0_len hx (octs_len _ _), List.length_append, List.length_replicate]
  unfold upTo at *
  omega
