/-! PURE: the reference: packing -/
noncomputable def mkC (c : hS) (t : List Nat) (s : Pk) : Prop := mrw c 4 203 (t ++ s.1) ∧ c.1 201 33 = nI s.2.1 ∧ c.1 201 34 = nI s.2.2 ∧ pkOk s
noncomputable def QF (o i : Nat) : Prop := o = 203 ∨ (o = 201 ∧ (i = 4 ∨ i = 33 ∨ i = 34))
noncomputable def PQ (o i : Nat) : Prop := o = 203 ∨ (o = 201 ∧ (i = 4 ∨ i = 30 ∨ i = 33 ∨ i = 34 ∨ i = 35))
theorem QF_PQ {o i : Nat} (h : QF o i) : PQ o i := by unfold QF at h; unfold PQ; omega
noncomputable def MB (X : Option (Unit × hS)) (c : hS) (t : List Nat) (s : Pk) (bs : List Nat) : Prop := ∃ c', X = some ((), c') ∧ mkC c' t (psL s bs) ∧ fm QF c c'
theorem MB.end_ {c : hS} {t : List Nat} {s : Pk} (h : mkC c t s) : MB (some ((), c)) c t s [] := ⟨c, rfl, h, fm.rf⟩
theorem MB.bnd_ {X : Option (Unit × hS)} {K : Unit → hS → Option (Unit × hS)} {c : hS} {t : List Nat} {s : Pk} {p r : List Nat} (hX : MB X c t s p) (hK : ∀ c1, mkC c1 t (psL s p) → fm QF c c1 → MB (K () c1) c1 t (psL s p) r) : MB (bnd X K) c t s (p ++ r) := by
  obtain ⟨c1, e1, r1, f1⟩ := hX
  obtain ⟨c2, e2, r2, f2⟩ := hK c1 r1 f1
  exact ⟨c2, by rw [e1, bnd_some]; exact e2, by rw [psL_app]; exact r2, f1.tr f2⟩
theorem m_putBit {c : hS} {t : List Nat} {s : Pk} {b : Nat} (h : mkC c t s) (hb : b < 2) (hl : t.length + s.1.length + 1 ≤ 20000) : MB (f_X12_putBit c (nI b)) c t s [b] := by
  obtain ⟨h1, h2, h3, h4⟩ := h
  unfold f_X12_putBit
  rw [h2, h3, held_or h4.2 h4.1]
  dsimp only [st1]
  have e2 : (sI c 201 33 (nI (s.2.1 + b * 2 ^ s.2.2))).1 201 34 = nI s.2.2 := by rw [sI_j (by decide)]; exact h3
  rw [e2, nI_1, sI_s, sI_j (show (33 : Nat) ≠ 34 by decide), sI_s]
  have ok := psh_ok h4 hb
  have f12 : fm (fun o i => o = 201 ∧ (i = 33 ∨ i = 34)) c (sI (sI c 201 33 (nI (s.2.1 + b * 2 ^ s.2.2))) 201 34 (nI (s.2.2 + 1))) := (fm.sI (by omega)).tr (fm.sI (by omega))
  have f12' : fm QF c (sI (sI c 201 33 (nI (s.2.1 + b * 2 ^ s.2.2))) 201 34 (nI (s.2.2 + 1))) := f12.mono (fun o i z => by unfold QF; omega)
  have r12 := h1.fm f12 (by omega) (fun i => by omega)
  show MB _ c t s [b]
  by_cases e : s.2.2 + 1 = 8
  · have hlt : s.2.1 + b * 2 ^ s.2.2 < 256 := by
      have a1 := h4.2
      have e7 : s.2.2 = 7 := by omega
      rw [e7] at a1 ⊢
      omega
    rw [e, if_pos (show nI 8 = 8 from rfl)]
    rw [e] at r12 f12'
    obtain ⟨c3, e3, r3, f3⟩ := MP.putN r12 (by rw [List.length_append]; omega) rfl hlt
    rw [e3, bnd_some]
    have f5 : fm (fun o i => o = 201 ∧ (i = 33 ∨ i = 34)) c3 (sI (sI c3 201 33 0) 201 34 0) := (fm.sI (by omega)).tr (fm.sI (by omega))
    have eq : psL s [b] = (s.1 ++ [s.2.1 + b * 2 ^ s.2.2], 0, 0) := by show psh s b = _; unfold psh; rw [if_pos e]
    refine ⟨_, rfl, ⟨?_, ?_, ?_, ok⟩, (f12'.tr (f3.mono (fun o i z => by unfold W1 at z; unfold QF; omega))).tr (f5.mono (fun o i z => by unfold QF; omega))⟩
    · rw [eq]
      have := r3.fm f5 (by omega) (fun i => by omega)
      rwa [List.append_assoc] at this
    · rw [eq, sI_j (by decide), sI_s]; rfl
    · rw [eq, sI_s]; rfl
  · have h7 : s.2.2 + 1 < 8 := by have := h4.1; omega
    rw [if_neg (show ¬ nI (s.2.2 + 1) = 8 from fun q => e ((nI_eq (b := 8) (by omega) (by decide)).mp q))]
    have eq : psL s [b] = (s.1, s.2.1 + b * 2 ^ s.2.2, s.2.2 + 1) := by show psh s b = _; unfold psh; rw [if_neg e]
    refine ⟨_, rfl, ⟨?_, ?_, ?_, ok⟩, f12'⟩
    · rw [eq]; exact r12
    · rw [eq, sI_j (by decide), sI_s]
    · rw [eq, sI_s]
theorem mk_grow {c : hS} {t : List Nat} {s : Pk} (h : mkC c t s) (bs : List Nat) : (psL s bs).1.length ≤ s.1.length + bs.length := by
  have h1 := psL_len (s := s) (bs := bs) h.2.2.2.1
  have h2 := h.2.2.2.1
  omega
theorem MB.bits {N : Nat} {c : hS} {t : List Nat} {s : Pk} {x m : Int32} {v n : Nat} (hN : 1000000 ≤ N) (h : mkC c t s) (hl : t.length + s.1.length + n ≤ 20000) (hx : x = nI v) (hv : v < 2 ^ 31) (hn : n ≤ 16) (hm : m = nI n) : MB (f_X12_putBits N c x m) c t s (bLE v n) := by
  subst hx hm
  unfold f_X12_putBits
  have key : ∀ d n' i c s, i + d = n → d < n' → mkC c t s → t.length + s.1.length + d ≤ 20000 → MB (f_X12_putBits_2 N (nI v) (nI n) n' c (nI i)) c t s ((List.range' i d).map fun i => v / 2 ^ i % 2) := by
    intro d
    induction d with
    | zero =>
      intro n' i c s hi hn' h hl
      obtain ⟨n', rfl⟩ : ∃ k, n' = k + 1 := ⟨n' - 1, by omega⟩
      rw [f_X12_putBits_2, if_pos (nI_le (by omega) (by omega))]
      exact MB.end_ h
    | succ d ih =>
      intro n' i c s hi hn' h hl
      obtain ⟨n', rfl⟩ : ∃ k, n' = k + 1 := ⟨n' - 1, by omega⟩
      rw [f_X12_putBits_2, if_neg (nI_ge (by omega) (by omega)), shr_nI hv (by omega), and1, List.range'_succ, List.map_cons]
      refine MB.bnd_ (p := [v / 2 ^ i % 2]) (m_putBit h (Nat.mod_lt _ (by decide)) (by omega)) (fun c1 r1 f1 => ?_)
      have g := mk_grow h [v / 2 ^ i % 2]
      simp only [List.length_cons, List.length_nil] at g
      rw [nI_1]
      exact ih n' (i + 1) c1 _ (by omega) (by omega) r1 (by omega)
  have := key n N 0 c s (by omega) (by omega) h hl
  rw [bLE, List.range_eq_range']
  exact this
theorem MB.code {N : Nat} {c : hS} {t : List Nat} {s : Pk} {x : Int32} {i v n : Nat} (hN : 1000000 ≤ N) (h : mkC c t s) (hl : t.length + s.1.length + n ≤ 20000) (hx : x = nI i) (hi : i < 360) (hv : v < 2 ^ 31) (hn : n ≤ 16) (h2 : c.1 212 i = nI n) (h3 : c.1 213 i = nI v) : MB (f_X12_putCode N c x) c t s (bBE v n) := by
  subst hx
  unfold f_X12_putCode
  rw [j_in_nI (show i < ln 212 from hi) (by decide), cond_true, nI_clamp (by omega), h2]
  have key : ∀ d n' c s, d ≤ n → d < n' → mkC c t s → c.1 213 i = nI v → t.length + s.1.length + d ≤ 20000 → MB (f_X12_putCode_9 N (nI i) n' c (nI d - 1)) c t s (bBE v d) := by
    intro d
    induction d with
    | zero =>
      intro n' c s _ hn' h h3 hl
      obtain ⟨n', rfl⟩ : ∃ k, n' = k + 1 := ⟨n' - 1, by omega⟩
      rw [f_X12_putCode_9, if_pos (by decide)]
      exact MB.end_ h
    | succ d ih =>
      intro n' c s hd hn' h h3 hl
      obtain ⟨n', rfl⟩ : ∃ k, n' = k + 1 := ⟨n' - 1, by omega⟩
      rw [nI_pred, f_X12_putCode_9, if_neg (nI_pos (by omega)), j_in_nI (show i < ln 213 from hi) (by decide), cond_true, nI_clamp (show i < 2 ^ 31 by omega), h3, shr_nI hv (by omega), and1, show bBE v (d + 1) = [v / 2 ^ d % 2] ++ bBE v d by simp [bBE, List.range_succ]]
      refine MB.bnd_ (m_putBit h (Nat.mod_lt _ (by decide)) (by omega)) (fun c1 r1 f1 => ?_)
      have g := mk_grow h [v / 2 ^ d % 2]
      simp only [List.length_cons, List.length_nil] at g
      rw [show nI d + -1 = nI d - 1 from (Int32.sub_eq_add_neg _ _).symm]
      exact ih n' c1 _ (by omega) (by omega) r1 ((f1.1 _ _ (by unfold QF; omega)).trans h3) (by omega)
  exact key n N c s (by omega) (by omega) h h3 hl
/-- the codes that packing uses -/
noncomputable def fxM (c : hS) : Prop := mcd c 0 fxS ∧ mcd c 300 fxD
theorem mcd_fm {P : Nat → Nat → Prop} {c c1 : hS} {base : Nat} {lens : List Nat} (h : mcd c base lens) (hf : fm P c c1) (hP : ∀ o i, P o i → o ≠ 212 ∧ o ≠ 213) : mcd c1 base lens := ⟨⟨h.1.1, fun i hi => ⟨(hf.1 _ _ (fun z => (hP _ _ z).1 rfl)).trans (h.1.2 i hi).1, (h.1.2 i hi).2⟩⟩, fun i hi h0 => (hf.1 _ _ (fun z => (hP _ _ z).2 rfl)).trans (h.2 i hi h0)⟩
theorem fxM_fm {P : Nat → Nat → Prop} {c c1 : hS} (h : fxM c) (hf : fm P c c1) (hP : ∀ o i, P o i → o ≠ 212 ∧ o ≠ 213) : fxM c1 := ⟨mcd_fm h.1 hf hP, mcd_fm h.2 hf hP⟩
theorem QF_n {o i : Nat} (h : QF o i) : o ≠ 212 ∧ o ≠ 213 := by unfold QF at h; omega
theorem PQ_n {o i : Nat} (h : PQ o i) : o ≠ 212 ∧ o ≠ 213 := by unfold PQ at h; omega
theorem MB.symbol {N : Nat} {c : hS} {t : List Nat} {s : Pk} {x : Int32} {v : Nat} (hN : 1000000 ≤ N) (h : mkC c t s) (hc : fxM c) (hl : t.length + s.1.length + 9 ≤ 20000) (hx : x = nI v) (hv : v < 288) : MB (f_X12_putCode N c x) c t s (symB v) := by
  have a := hc.1.1.2 v (by rw [fxS_len]; exact hv)
  have h9 := fxL_le v
  rw [Nat.zero_add, fxS_gt hv] at a
  have b := hc.1.2 v (by rw [fxS_len]; exact hv) (by rw [fxS_gt hv]; unfold fxL; split <;> (try split) <;> (try split) <;> decide)
  rw [Nat.zero_add, fx_code v hv] at b
  have hc' : fxC v < 1000 := by unfold fxC; split <;> (try split) <;> (try split) <;> omega
  exact MB.code hN h (by omega) hx (by omega) (by omega) (by omega) a.1 b
theorem MB.dist {N : Nat} {c : hS} {t : List Nat} {s : Pk} {x : Int32} {v : Nat} (hN : 1000000 ≤ N) (h : mkC c t s) (hc : fxM c) (hl : t.length + s.1.length + 5 ≤ 20000) (hx : x = nI (300 + v)) (hv : v < 32) : MB (f_X12_putCode N c x) c t s (bBE v 5) := by
  have a := hc.2.1.2 v hv
  rw [fxD_gt hv] at a
  have b := hc.2.2 v hv (by rw [fxD_gt hv]; decide)
  rw [fx_dist v hv] at b
  exact MB.code hN h (by omega) hx (by omega) (by omega) (by decide) a.1 b
theorem m_lengthOf {c : hS} {s : Nat} (hs : s < 29) : ∃ c', f_X12_lengthOf c (nI s) = some (nI (lbase s), c') ∧ c'.1 201 30 = nI (lbits s) ∧ fm (fun o i => o = 201 ∧ i = 30) c c' := by
  unfold f_X12_lengthOf
  dsimp only [st1]
  have f1 : fm (fun o i => o = 201 ∧ i = 30) c (sI c 201 30 0) := fm.sI ⟨rfl, rfl⟩
  by_cases e : s = 28
  · subst e
    rw [if_pos (by decide)]
    exact ⟨_, rfl, sI_s _ _ _ _, f1⟩
  · rw [if_neg (show ¬ nI s = 28 from fun q => e ((nI_eq (b := 28) (by omega) (by decide)).mp q))]
    by_cases e8 : s < 8
    · rw [if_neg (show ¬ (8 : Int32) ≤ nI s from nI_ge (b := 8) e8 (by decide))]
      exact ⟨_, by rw [(by decide +kernel : ∀ s, s < 8 → (3 : Int32) + nI s = nI (lbase s)) s e8], by rw [sI_s, (by decide : ∀ s, s < 8 → lbits s = 0) s e8]; rfl, f1⟩
    · have h1 := (by decide +kernel : ∀ s, s < 28 → 8 ≤ s → nI s / 4 - 1 = nI (lbits s) ∧ 3 + j_shl (4 + j_rem (nI s) 4) (nI (lbits s)) = nI (lbase s)) s (by omega) (by omega)
      rw [if_pos (show (8 : Int32) ≤ nI s from nI_le (a := 8) (by omega) (by omega)), h1.1, sI_s, h1.2]
      exact ⟨_, rfl, sI_s _ _ _ _, f1.tr (fm.sI ⟨rfl, rfl⟩)⟩
theorem m_distanceOf {c : hS} {s : Nat} (hs : s < 30) : ∃ c', f_X12_distanceOf c (nI s) = some (nI (dbase s), c') ∧ c'.1 201 30 = nI (dbits s) ∧ fm (fun o i => o = 201 ∧ i = 30) c c' := by
  unfold f_X12_distanceOf
  dsimp only [st1]
  have f1 : fm (fun o i => o = 201 ∧ i = 30) c (sI c 201 30 0) := fm.sI ⟨rfl, rfl⟩
  by_cases e4 : s < 4
  · rw [if_neg (show ¬ (4 : Int32) ≤ nI s from nI_ge (b := 4) e4 (by decide))]
    exact ⟨_, by rw [(by decide +kernel : ∀ s, s < 4 → (1 : Int32) + nI s = nI (dbase s)) s e4], by rw [sI_s, (by decide : ∀ s, s < 4 → dbits s = 0) s e4]; rfl, f1⟩
  · have h1 := (by decide +kernel : ∀ s, s < 30 → 4 ≤ s → nI s / 2 - 1 = nI (dbits s) ∧ 1 + j_shl (2 + j_rem (nI s) 2) (nI (dbits s)) = nI (dbase s)) s (by omega) (by omega)
    rw [if_pos (show (4 : Int32) ≤ nI s from nI_le (a := 4) (by omega) (by omega)), h1.1, sI_s, h1.2]
    exact ⟨_, rfl, sI_s _ _ _ _, f1.tr (fm.sI ⟨rfl, rfl⟩)⟩
theorem m_match {N p : Nat} {c : hS} {l : List Nat} (hN : 1000000 ≤ N) (h : mrw c 32 215 l) (hp : p < l.length) : ∃ c', f_X12_match N c (nI p) = some (nI (bst l p p (0, 0)).1, c') ∧ ((bst l p p (0, 0)).1 = 0 ∨ c'.1 201 35 = nI (bst l p p (0, 0)).2) ∧ fm (fun o i => o = 201 ∧ i = 35) c c' := by
  have hl : l.length ≤ 512 := h.1
  have inn : ∀ r m n q c v2 (k6 : hS → Int32 → Int32 → Option (Int32 × hS)), n + r = mst l p → r < m → q < p → mrw c 32 215 l → f_X12_match_13 N (nI p) k6 m c v2 (nI q) (nI n) = f_X12_match_59 N (nI p) k6 c v2 (nI q) (nI (mlf l q p r n)) := by
    have mm : mst l p = min 258 (l.length - p) := rfl
    intro r
    induction r with
    | zero =>
      intro m n q c v2 k6 hn hm hq h
      obtain ⟨m, rfl⟩ : ∃ k, m = k + 1 := ⟨m - 1, by omega⟩
      unfold mlf
      rw [f_X12_match_13]
      by_cases e : 258 ≤ n
      · rw [if_pos (show (258 : Int32) ≤ nI n from nI_le (a := 258) e (by omega))]
      · rw [if_neg (show ¬ (258 : Int32) ≤ nI n from nI_ge (b := 258) (by omega) (by decide)), h.2.1, nI_add, if_pos (nI_le (by omega) (by omega))]
    | succ r ih =>
      intro m n q c v2 k6 hn hm hq h
      obtain ⟨m, rfl⟩ : ∃ k, m = k + 1 := ⟨m - 1, by omega⟩
      unfold mlf
      rw [f_X12_match_13, if_neg (show ¬ (258 : Int32) ≤ nI n from nI_ge (b := 258) (by omega) (by decide)), h.2.1, nI_add, nI_add, if_neg (nI_ge (by omega) (by omega)), j_in_nI (show q + n < ln 215 from (by show q + n < 512; omega)) (by decide), cond_true, j_in_nI (show p + n < ln 215 from (by show p + n < 512; omega)) (by decide), cond_true, nI_clamp (by omega), nI_clamp (by omega), h.2.2.1 _ (by omega), h.2.2.1 _ (by omega), nI_1]
      have b1 := h.2.2.2.gt (q + n)
      have b2 := h.2.2.2.gt (p + n)
      by_cases e : gt l (q + n) = gt l (p + n)
      · rw [if_pos (by rw [e]), if_pos e]
        exact ih m (n + 1) q c v2 k6 (by omega) (by omega) hq h
      · rw [if_neg (fun z => e ((nI_eq (by omega) (by omega)).mp z)), if_neg e]
  have key : ∀ q m c b, q ≤ p → q < m → mrw c 32 215 l → b.1 ≤ mst l p → (b.1 = 0 ∨ c.1 201 35 = nI b.2) → ∃ c', f_X12_match_6 N (nI p) m c (nI b.1) (nI q - 1) = some (nI (bst l p q b).1, c') ∧ ((bst l p q b).1 = 0 ∨ c'.1 201 35 = nI (bst l p q b).2) ∧ fm (fun o i => o = 201 ∧ i = 35) c c' := by
    have m8 : mst l p ≤ 258 := Nat.min_le_left _ _
    intro q
    induction q with
    | zero =>
      intro m c b hq hm h hb hv
      obtain ⟨m, rfl⟩ : ∃ k, m = k + 1 := ⟨m - 1, by omega⟩
      rw [f_X12_match_6, if_pos (by decide)]
      exact ⟨c, rfl, hv, fm.rf⟩
    | succ q ih =>
      intro m c b hq hm h hb hv
      obtain ⟨m, rfl⟩ : ∃ k, m = k + 1 := ⟨m - 1, by omega⟩
      have hle := mlf_le l q p (mst l p) 0
      have ei := inn (mst l p) N 0 q c (nI b.1) (f_X12_match_6 N (nI p) m) (by omega) (by omega) (by omega) h
      have ei' : f_X12_match_13 N (nI p) (f_X12_match_6 N (nI p) m) N c (nI b.1) (nI q) 0 = _ := ei
      rw [nI_pred, f_X12_match_6, if_neg (nI_pos (by omega)), ei']
      unfold f_X12_match_59 bst
      rw [show nI q + -1 = nI q - 1 from (Int32.sub_eq_add_neg _ _).symm]
      by_cases e : b.1 < mlf l q p (mst l p) 0
      · rw [if_neg (nI_ge e (by omega)), if_pos e, subI (by omega)]
        dsimp only [st1]
        have f1 : fm (fun o i => o = 201 ∧ i = 35) c (sI c 201 35 (nI (p - q))) := fm.sI ⟨rfl, rfl⟩
        obtain ⟨c', w1, w2, w3⟩ := ih m _ (mlf l q p (mst l p) 0, p - q) (by omega) (by omega) (h.fm f1 (by omega) (fun i => by omega)) (by show mlf l q p (mst l p) 0 ≤ mst l p; omega) (Or.inr (sI_s _ _ _ _))
        exact ⟨c', w1, w2, f1.tr w3⟩
      · rw [if_pos (nI_le (by omega) (by omega)), if_neg e]
        exact ih m c b (by omega) (by omega) h hb hv
  unfold f_X12_match
  exact key p N c (0, 0) (Nat.le_refl _) (by omega) h (Nat.zero_le _) (Or.inl rfl)
