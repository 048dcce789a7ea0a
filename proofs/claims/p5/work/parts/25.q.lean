/-! PURE: the reference: kind 2 written; write -/
theorem sh8 {w : BitVec 32} {s : Nat} (hs : s ≤ 24) : (w.sshiftRight s).setWidth 8 = (w >>> s).setWidth 8 := by
  apply BitVec.eq_of_getLsbD_eq
  intro i hi
  simp only [BitVec.getLsbD_setWidth, BitVec.getLsbD_sshiftRight, BitVec.getLsbD_ushiftRight]
  have h1 : s + i < 32 := by omega
  have h4 : ¬ (32 ≤ i) := by omega
  simp [h1, hi, h4]
theorem sh24 {w : BitVec 32} : ((w.sshiftRight 16).sshiftRight 8).setWidth 8 = (w >>> 24).setWidth 8 := by
  apply BitVec.eq_of_getLsbD_eq
  intro i hi
  simp only [BitVec.getLsbD_setWidth, BitVec.getLsbD_sshiftRight, BitVec.getLsbD_ushiftRight]
  have h1 : 8 + i < 32 := by omega
  have h2 : 16 + (8 + i) < 32 := by omega
  have h4 : ¬ (32 ≤ i) := by omega
  have h5 : ¬ (32 ≤ 8 + i) := by omega
  have h6 : 16 + (8 + i) = 24 + i := by omega
  rw [← h6]
  simp [h1, h2, hi, h4, h5]
theorem b8_s {w x : Int32} {s : Nat} (h : x.toBitVec.setWidth 8 = (w.toBitVec >>> s).setWidth 8) : b8 x = u32 w / 2 ^ s % 256 := by
  rw [b8_w, h, BitVec.toNat_setWidth, BitVec.toNat_ushiftRight, Nat.shiftRight_eq_div_pow]
  rfl
theorem b8_8 (w : Int32) : b8 (j_shr w 8) = u32 w / 2 ^ 8 % 256 := b8_s (show (w.toBitVec.sshiftRight 8).setWidth 8 = _ from sh8 (by decide))
theorem b8_16 (w : Int32) : b8 (j_shr w 16) = u32 w / 2 ^ 16 % 256 := b8_s (show (w.toBitVec.sshiftRight 16).setWidth 8 = _ from sh8 (by decide))
theorem b8_24 (w : Int32) : b8 (j_shr (j_shr w 16) 8) = u32 w / 2 ^ 24 % 256 := b8_s (show ((w.toBitVec.sshiftRight 16).sshiftRight 8).setWidth 8 = _ from sh24)
theorem le_2 (v : Nat) : le v 2 = [v % 256] ++ [v / 2 ^ 8 % 256] := by simp [le, List.range_succ]
theorem le_4 (v : Nat) : le v 4 = le v 2 ++ ([v / 2 ^ 16 % 256] ++ [v / 2 ^ 24 % 256]) := by simp [le, List.range_succ]
theorem MP.two {c : hS} {t : List Nat} {x : Int32} {v : Nat} (h : mrw c 4 203 t) (hl : t.length + 2 ≤ 20000) (hv : u32 x = v) : MP (f_X12_putTwo c x) c t (le v 2) := by
  subst hv
  rw [le_2]
  exact MP.bnd_ (MP.put h (by omega) rfl) (fun c1 r1 f1 => MP.last_ (MP.put r1 (by simp; omega) (b8_8 x)))
theorem MP.four {c : hS} {t : List Nat} {x : Int32} {v : Nat} (h : mrw c 4 203 t) (hl : t.length + 4 ≤ 20000) (hv : u32 x = v) : MP (f_X12_putFour c x) c t (le v 4) := by
  subst hv
  rw [le_4]
  refine MP.bnd_ (MP.two h (by omega) rfl) (fun c1 r1 f1 => MP.last_ ?_)
  exact MP.bnd_ (MP.put r1 (by simp only [List.length_append, le_len]; omega) (b8_16 x)) (fun c2 r2 f2 => MP.last_ (MP.put r2 (by simp only [List.length_append, le_len, List.length_cons, List.length_nil]; omega) (b8_24 x)))
theorem u32_n {v : Nat} (h : v < 2 ^ 31) : u32 (nI v) = v := by
  show (nI v).toUInt32.toNat = v
  rw [nI_u]
  omega
theorem m_checkOf {N m : Nat} {c : hS} {x : Mb} (hN : 1000000 ≤ N) (h : mmb c m x) (hm : m < 34) : f_X12_checkOf N c (nI m) = some (crc x.2.1, c) := by
  have hb := h.2.1.2.2.1
  have key : ∀ d n j v, j + d = x.2.1.length → d < n → f_X12_checkOf_4 N (nI m) n c v (nI j) = some (crcL v (x.2.1.drop j) ^^^ (-1), c) := by
    intro d
    induction d with
    | zero =>
      intro n j v hj hn
      obtain ⟨n, rfl⟩ : ∃ m, n = m + 1 := ⟨n - 1, by omega⟩
      rw [f_X12_checkOf_4, j_in_nI (show m < ln 206 from hm) (by decide), cond_true, nI_clamp (by omega), h.2.1.1, if_pos (nI_le (by omega) (by omega)), List.drop_eq_nil_of_le (by omega)]
      rfl
    | succ d ih =>
      intro n j v hj hn
      obtain ⟨n, rfl⟩ : ∃ m, n = m + 1 := ⟨n - 1, by omega⟩
      rw [f_X12_checkOf_4, j_in_nI (show m < ln 206 from hm) (by decide), cond_true, nI_clamp (show m < 2 ^ 31 by omega), h.2.1.1, if_neg (nI_ge (by omega) (by omega)), mul400 m j, j_in_nI (show 400 * m + j < ln 207 from (by show 400 * m + j < 13600; omega)) (by decide), cond_true, nI_clamp (by omega), h.2.1.2.1 j (by omega), m_checkMore hN, bnd_some, nI_1, ih n (j + 1) _ (by omega) (by omega), crcL_s (l := x.2.1) (j := j) (by omega)]
  unfold f_X12_checkOf
  have := key x.2.1.length N 0 (-1) (by omega) (by omega)
  rw [List.drop_zero] at this
  exact this
theorem m_namedSize {c : hS} {m : Nat} {x : Mb} (h : mmb c m x) (hm : m < 34) : f_X12_namedSize c (nI m) = some (nI (nmS x).length, c) := by
  unfold f_X12_namedSize
  rw [j_in_nI (show m < ln 204 from hm) (by decide), cond_true, j_in_nI (show m < ln 208 from hm) (by decide), cond_true, nI_clamp (by omega), h.2.2, h.1.1, nmS_eq]
  cases x.2.2 with
  | false => rw [if_pos (show bI false = 0 from rfl), show nI x.1.length + 0 = nI (x.1.length + 0) from nI_add _ 0]; rfl
  | true => rw [if_neg (by decide), nI_1]; rfl
theorem m_fourInto {N p v : Nat} {c : hS} {t : List Nat} {x y : Int32} (hN : 1000000 ≤ N) (h : mrw c 4 203 t) (hp : p + 4 ≤ t.length) (hv : v < 2 ^ 31) (hx : x = nI p) (hy : y = nI v) : MO (f_X12_fourInto N c x y) c (setL t p (le v 4)) := by
  subst hx hy
  have ht : t.length ≤ 20000 := h.1
  have key : ∀ d m i c u, i + d = 4 → d < m → mrw c 4 203 u → u.length = t.length → MO (f_X12_fourInto_2 N (nI p) (nI v) m c (nI i)) c (setL u (p + i) ((le v 4).drop i)) := by
    intro d
    induction d with
    | zero =>
      intro m i c u hi hm hu hl
      obtain ⟨m, rfl⟩ : ∃ k, m = k + 1 := ⟨m - 1, by omega⟩
      rw [f_X12_fourInto_2, if_pos (show (4 : Int32) ≤ nI i from nI_le (a := 4) (by omega) (by omega)), List.drop_eq_nil_of_le (by rw [le_len]; omega)]
      exact ⟨c, rfl, hu, fm.rf⟩
    | succ d ih =>
      intro m i c u hi hm hu hl
      obtain ⟨m, rfl⟩ : ∃ k, m = k + 1 := ⟨m - 1, by omega⟩
      have r1 := hu.set (k := p + i) (x := v / 2 ^ (8 * i) % 256) (by decide) (by omega) (Nat.mod_lt _ (by decide))
      obtain ⟨c2, e2, r2, f2⟩ := ih m (i + 1) _ _ (by omega) (by omega) r1 (by simpa using hl)
      refine ⟨c2, ?_, ?_, (fm.sI (Or.inl rfl)).tr f2⟩
      · rw [f_X12_fourInto_2, if_neg (show ¬ (4 : Int32) ≤ nI i from nI_ge (b := 4) (by omega) (by decide)), nI_add, j_in_nI (show p + i < ln 203 from (by show p + i < 20000; omega)) (by decide), cond_true, nI_clamp (by omega), show (8 : Int32) * nI i = nI (8 * i) from nI_mul 8 i, shr_nI hv (by omega), b8_and, b8_nI, nI_1]
        exact e2
      · rw [le_get (by omega)]
        exact r2
  have := key 4 N 0 c t (by omega) (by omega) h rfl
  rwa [List.drop_zero, Nat.add_zero] at this
theorem MP.cps {X : Option (Unit × hS)} {K : Unit → hS → Option (Unit × hS)} {R : Option (Unit × hS) → Prop} {c : hS} {t p : List Nat} (hX : MP X c t p) (hK : ∀ c1, mrw c1 4 203 (t ++ p) → fm W1 c c1 → R (K () c1)) : R (bnd X K) := by
  obtain ⟨c1, e1, r1, f1⟩ := hX
  rw [e1, bnd_some]
  exact hK c1 r1 f1
/-- what a local head leaves -/
noncomputable def LF (m o i : Nat) : Prop := PK o i ∨ o = 215 ∨ (o = 201 ∧ i = 32) ∨ ((o = 216 ∨ o = 217 ∨ o = 218) ∧ i = m)
theorem m_local {N m : Nat} {c : hS} {t : List Nat} {x : Mb} {pk : Bool} (hN : 1000000 ≤ N) (h : mrw c 4 203 t) (hm : mmb c m x) (hm16 : m < 16) (hl : t.length + 4700 ≤ 20000) : ∃ c', f_X12_writeLocal N c (nI m) (bI pk) = some ((), c') ∧ mrw c' 4 203 (t ++ lo2 pk x) ∧ (c'.1 216 m = nI t.length ∧ c'.1 217 m = nI (way2 pk x) ∧ c'.1 218 m = nI (dat pk x).length) ∧ fm (LF m) c c' := by
  have hx := hm.1.2.2.1
  have hb := hm.2.1.2.2.1
  have nl := nmS_len hx
  have dl := dat_len (pk := pk) hb
  unfold f_X12_writeLocal
  rw [j_in_nI (show m < ln 216 from hm16) (by decide), cond_true, nI_clamp (by omega), h.2.1]
  dsimp only [st1]
  obtain ⟨c1, e1⟩ : ∃ c1, sI c 216 m (nI t.length) = c1 := ⟨_, rfl⟩
  rw [e1]
  have f1 : fm (fun o i => o = 216 ∧ i = m) c c1 := by rw [← e1]; exact fm.sI ⟨rfl, rfl⟩
  have v1 : c1.1 216 m = nI t.length := by rw [← e1, sI_s]
  have m1 : mmb c1 m x := hm.fm f1 (fun o i a b => by omega)
  have r1 : mrw c1 4 203 t := h.fm f1 (by omega) (fun i => by omega)
  have main : ∀ (way : Nat), way = way2 pk x → ∃ c', f_X12_writeLocal_36 N (nI m) (bI pk) c1 (nI t.length) (nI way) (nI m) = some ((), c') ∧ mrw c' 4 203 (t ++ lo2 pk x) ∧ (c'.1 216 m = nI t.length ∧ c'.1 217 m = nI (way2 pk x) ∧ c'.1 218 m = nI (dat pk x).length) ∧ fm (LF m) c1 c' := by
    intro way hway
    have w8 : way = 0 ∨ way = 8 := by rw [hway]; unfold way2; split <;> omega
    unfold f_X12_writeLocal_36
    rw [j_in_nI (show m < ln 217 from hm16) (by decide), cond_true, nI_clamp (by omega)]
    dsimp only [st1]
    obtain ⟨c2, e2⟩ : ∃ c2, sI c1 217 m (nI way) = c2 := ⟨_, rfl⟩
    rw [e2]
    have f2 : fm (fun o i => o = 217 ∧ i = m) c1 c2 := by rw [← e2]; exact fm.sI ⟨rfl, rfl⟩
    have v2 : c2.1 217 m = nI way := by rw [← e2, sI_s]
    have m2 : mmb c2 m x := m1.fm f2 (fun o i a b => by omega)
    have r2 : mrw c2 4 203 t := r1.fm f2 (by omega) (fun i => by omega)
    have nw : ∀ o i, o ≠ 203 → o ≠ 201 → ¬ W1 o i := fun o i a b => by unfold W1; omega
    have ln1 : ∀ {c : hS} {u : List Nat}, mrw c 4 203 u → u.length ≤ 20000 := fun h => h.1
    obtain ⟨c3, e3, r3, g3⟩ := MP.put (x := 80) (v := 80) r2 (by omega) rfl
    rw [e3, bnd_some]
    obtain ⟨c4, e4, r4, f4⟩ := MP.put (x := 75) (v := 75) r3 (by simp; omega) rfl
    rw [e4, bnd_some]
    obtain ⟨c5, e5, r5, f5⟩ := MP.put (x := 3) (v := 3) r4 (by simp; omega) rfl
    rw [e5, bnd_some]
    obtain ⟨c6, e6, r6, f6⟩ := MP.put (x := 4) (v := 4) r5 (by simp; omega) rfl
    rw [e6, bnd_some]
    obtain ⟨c7, e7, r7, f7⟩ := MP.two (x := 20) (v := 20) r6 (by simp; omega) rfl
    rw [e7, bnd_some]
    obtain ⟨c8, e8, r8, f8⟩ := MP.two (x := 0) (v := 0) r7 (by simp [le_len]; omega) rfl
    rw [e8, bnd_some]
    have g8 := ((((g3.tr f4).tr f5).tr f6).tr f7).tr f8
    rw [cond_true, g8.1 _ _ (nw _ _ (by decide) (by decide)), v2]
    obtain ⟨c9, e9, r9, f9⟩ := MP.two (x := nI way) (v := way) r8 (by simp [le_len]; omega) (u32_n (by omega))
    rw [e9, bnd_some]
    obtain ⟨c10, e10, r10, f10⟩ := MP.two (x := 0) (v := 0) r9 (by simp [le_len]; omega) rfl
    rw [e10, bnd_some]
    obtain ⟨c11, e11, r11, f11⟩ := MP.two (x := 33) (v := 33) r10 (by simp [le_len]; omega) rfl
    rw [e11, bnd_some]
    have g11 := ((g8.tr f9).tr f10).tr f11
    rw [m_checkOf hN (mmbW m2 g11) (by omega), bnd_some]
    obtain ⟨c13, e13, r13, f13⟩ := MP.four (x := crc x.2.1) (v := u32 (crc x.2.1)) r11 (by simp [le_len]; omega) rfl
    rw [e13, bnd_some]
    obtain ⟨c14, e14, r14, f14⟩ := MP.four (x := 0) (v := 0) r13 (by simp [le_len]; omega) rfl
    rw [e14, bnd_some]
    have g14 := (g11.tr f13).tr f14
    rw [j_in_nI (show m < ln 206 from (by show m < 34; omega)) (by decide), cond_true, (mmbW m2 g14).2.1.1]
    obtain ⟨c15, e15, r15, f15⟩ := MP.four (x := nI x.2.1.length) (v := x.2.1.length) r14 (by simp [le_len]; omega) (u32_n (by omega))
    rw [e15, bnd_some]
    rw [m_namedSize (mmbW m2 (g14.tr f15)) (by omega), bnd_some]
    obtain ⟨c18, e18, r18, f18⟩ := MP.two (x := nI (nmS x).length) (v := (nmS x).length) r15 (by simp [le_len]; omega) (u32_n (by omega))
    rw [e18, bnd_some]
    obtain ⟨c19, e19, r19, f19⟩ := MP.two (x := 0) (v := 0) r18 (by simp [le_len]; omega) rfl
    rw [e19, bnd_some]
    have g19 := ((g14.tr f15).tr f18).tr f19
    obtain ⟨c20, e20, r20, f20⟩ := MP.name1 hN r19 (mmbW m2 g19) (by omega) (by simp [le_len]; omega)
    rw [e20, bnd_some]
    have g20 := g19.tr f20
    have m20 := mmbW m2 g20
    have er : t ++ [80] ++ [75] ++ [3] ++ [4] ++ le 20 2 ++ le 0 2 ++ le way 2 ++ le 0 2 ++ le 33 2 ++ le (u32 (crc x.2.1)) 4 ++ le 0 4 ++ le x.2.1.length 4 ++ le (nmS x).length 2 ++ le 0 2 ++ nmS x = t ++ loc x way 0 := by simp only [loc, com, mk3, List.append_assoc, List.cons_append, List.nil_append]
    rw [er] at r20
    have ll := loc_len x way 0
    have lt : (t ++ loc x way 0).length = t.length + 30 + (nmS x).length := by rw [List.length_append, ll]; omega
    rw [cond_true, g20.1 _ _ (nw _ _ (by decide) (by decide)), v2]
    have wv20 : c20.1 216 m = nI t.length ∧ c20.1 217 m = nI way := ⟨by rw [g20.1 _ _ (nw _ _ (by decide) (by decide)), f2.1 _ _ (by omega)]; exact v1, by rw [g20.1 _ _ (nw _ _ (by decide) (by decide))]; exact v2⟩
    have gz : fm (LF m) c1 c20 := (f2.mono (fun o i z => by unfold LF; omega)).tr (g20.mono (fun o i z => by unfold W1 at z; unfold LF PK PQ; omega))
    -- the end: size, and its place in the head
    have fin : ∀ c' (r : List Nat), r = dat pk x → mrw c' 4 203 (t ++ loc x way 0 ++ r) → c'.1 216 m = nI t.length ∧ c'.1 217 m = nI way → fm (LF m) c1 c' → ∃ c'', f_X12_writeLocal_212 N (nI m) (bI pk) c' (nI t.length) (nI (t ++ loc x way 0).length) = some ((), c'') ∧ mrw c'' 4 203 (t ++ lo2 pk x) ∧ (c''.1 216 m = nI t.length ∧ c''.1 217 m = nI (way2 pk x) ∧ c''.1 218 m = nI (dat pk x).length) ∧ fm (LF m) c1 c'' := by
      intro c' r hr hc hw hf
      subst hr
      have l2 : (t ++ loc x way 0 ++ dat pk x).length = (t ++ loc x way 0).length + (dat pk x).length := List.length_append
      unfold f_X12_writeLocal_212
      rw [j_in_nI (show m < ln 218 from hm16) (by decide), cond_true, nI_clamp (show m < 2 ^ 31 by omega), hc.2.1, l2, subI (by omega), Nat.add_sub_cancel_left]
      dsimp only [st1]
      rw [cond_true, sI_s]
      have fa : fm (fun o i => o = 218 ∧ i = m) c' (sI c' 218 m (nI (dat pk x).length)) := fm.sI ⟨rfl, rfl⟩
      obtain ⟨c2', e2', r2', f2'⟩ := m_fourInto (p := t.length + 18) (v := (dat pk x).length) hN (hc.fm fa (by omega) (fun i => by omega)) (by rw [l2, lt]; omega) (by omega) (show nI t.length + 18 = nI (t.length + 18) from nI_add _ 18) rfl
      rw [e2', bnd_some]
      rw [List.append_assoc, loc_set] at r2'
      refine ⟨c2', rfl, by unfold lo2; rw [← hway]; exact r2', ⟨?_, ?_, ?_⟩, (hf.tr (fa.mono (fun o i z => by unfold LF; omega))).tr (f2'.mono (fun o i z => by unfold W1 at z; unfold LF PK PQ; omega))⟩
      · rw [f2'.1 _ _ (nw _ _ (by decide) (by decide)), fa.1 _ _ (by omega)]; exact hw.1
      · rw [f2'.1 _ _ (nw _ _ (by decide) (by decide)), fa.1 _ _ (by omega), ← hway]; exact hw.2
      · rw [f2'.1 _ _ (nw _ _ (by decide) (by decide)), sI_s]
    rcases w8 with w0 | w8
    · have nb : wayB2 pk x = false := by
        unfold way2 at hway
        cases z : wayB2 pk x with
        | false => rfl
        | true => rw [z, if_pos rfl] at hway; omega
      have ed : dat pk x = x.2.1 := by unfold dat; rw [nb]; rfl
      rw [if_neg (show ¬ nI way = 8 by rw [w0]; decide)]
      obtain ⟨c21, e21, r21, f21⟩ := MP.bytes hN r20 m20 (by omega) (by rw [lt]; omega)
      rw [e21, bnd_some, r20.2.1]
      exact fin c21 x.2.1 ed.symm r21 ⟨by rw [f21.1 _ _ (nw _ _ (by decide) (by decide))]; exact wv20.1, by rw [f21.1 _ _ (nw _ _ (by decide) (by decide))]; exact wv20.2⟩ (gz.tr (f21.mono (fun o i z => by unfold W1 at z; unfold LF PK PQ; omega)))
    · have nb : wayB2 pk x = true := by
        unfold way2 at hway
        cases z : wayB2 pk x with
        | true => rfl
        | false => rw [z, if_neg (by decide)] at hway; omega
      have ed : dat pk x = packed x.2.1 := by unfold dat; rw [nb]; rfl
      rw [if_pos (show nI way = 8 by rw [w8]; rfl), cond_true, m20.2.1.1, r20.2.1]
      try dsimp only [st1]
      obtain ⟨c22, e22⟩ : ∃ c22, sI c20 201 32 (nI x.2.1.length) = c22 := ⟨_, rfl⟩
      rw [e22]
      have f22 : fm (fun o i => o = 201 ∧ i = 32) c20 c22 := by rw [← e22]; exact fm.sI ⟨rfl, rfl⟩
      have v22 : c22.1 201 32 = nI x.2.1.length := by rw [← e22, sI_s]
      have m22 : mmb c22 m x := m20.fm f22 (fun o i a b => by omega)
      obtain ⟨c23, e23, i23, w23, f23⟩ := cp_loop (F := fun n c k => f_X12_writeLocal_165 N (nI m) (bI pk) n c (nI t.length) (nI (t ++ loc x way 0).length) k) (X := fun c => f_X12_writeLocal_165 N (nI m) (bI pk) (0 + 1) c (nI t.length) (nI (t ++ loc x way 0).length) (nI x.2.1.length)) (o := 215) (o' := 207) (a := 400 * m) (b := 0) (len := x.2.1.length) (fun c => c.1 201 32 = nI x.2.1.length) (fun c i x q => by rw [sI_o (by decide)]; exact q) (fun n c i hi q => by
        show f_X12_writeLocal_165 N (nI m) (bI pk) (n + 1) c (nI t.length) (nI (t ++ loc x way 0).length) (nI i) = _
        rw [f_X12_writeLocal_165, q, if_neg (nI_ge hi (by omega)), mul400 m i, j_in_nI (show 400 * m + i < ln 207 from (by show 400 * m + i < 13600; omega)) (by decide), cond_true, j_in_nI (show i < ln 215 from (by show i < 512; omega)) (by decide), cond_true, nI_clamp (by omega), nI_clamp (by omega), Nat.zero_add]
        rfl) (fun n c q => by
        show f_X12_writeLocal_165 N (nI m) (bI pk) (n + 1) c (nI t.length) (nI (t ++ loc x way 0).length) (nI x.2.1.length) = f_X12_writeLocal_165 N (nI m) (bI pk) (0 + 1) c (nI t.length) (nI (t ++ loc x way 0).length) (nI x.2.1.length)
        rw [f_X12_writeLocal_165, f_X12_writeLocal_165, q, if_pos (nI_le (Nat.le_refl _) (by omega)), if_pos (nI_le (Nat.le_refl _) (by omega))]) (by omega) x.2.1.length N c22 0 (by omega) (by omega) v22
      have f23' : fm (fun o i => o = 215) c22 c23 := f23.mono (fun o i z => z.1)
      have e23' : f_X12_writeLocal_165 N (nI m) (bI pk) N c22 (nI t.length) (nI (t ++ loc x way 0).length) 0 = f_X12_writeLocal_165 N (nI m) (bI pk) (0 + 1) c23 (nI t.length) (nI (t ++ loc x way 0).length) (nI x.2.1.length) := e23
      have r23 : mrw c23 32 215 x.2.1 := by
        refine ⟨show x.2.1.length ≤ 512 by omega, i23, fun i hi => ?_, hm.2.1.2.2.2⟩
        have := w23 i (Nat.zero_le _) hi
        rw [Nat.zero_add] at this
        rw [this]
        exact m22.2.1.2.1 i hi
      have t23 : mrw c23 4 203 (t ++ loc x way 0) := (r20.fm f22 (by omega) (fun i => by omega)).fm f23' (by omega) (fun i => by omega)
      obtain ⟨c24, e24, t24, f24⟩ := m_putPacked hN r23 t23 (by rw [lt]; omega)
      rw [e23', f_X12_writeLocal_165, i23, if_pos (nI_le (Nat.le_refl _) (by omega)), e24, bnd_some]
      have np : ∀ o i, PK o i → o ≠ 216 ∧ o ≠ 217 := fun o i z => by unfold PK PQ at z; omega
      exact fin c24 _ ed.symm t24 ⟨by rw [f24.1 _ _ (fun z => (np _ _ z).1 rfl), f23'.1 _ _ (by omega), f22.1 _ _ (by omega)]; exact wv20.1, by rw [f24.1 _ _ (fun z => (np _ _ z).2 rfl), f23'.1 _ _ (by omega), f22.1 _ _ (by omega)]; exact wv20.2⟩ (((gz.tr (f22.mono (fun o i z => by unfold LF; omega))).tr (f23'.mono (fun o i z => by unfold LF; omega))).tr (f24.mono (fun o i z => Or.inl z)))
  have lift : ∀ {X : Option (Unit × hS)}, (∃ c', X = some ((), c') ∧ mrw c' 4 203 (t ++ lo2 pk x) ∧ (c'.1 216 m = nI t.length ∧ c'.1 217 m = nI (way2 pk x) ∧ c'.1 218 m = nI (dat pk x).length) ∧ fm (LF m) c1 c') → ∃ c', X = some ((), c') ∧ mrw c' 4 203 (t ++ lo2 pk x) ∧ (c'.1 216 m = nI t.length ∧ c'.1 217 m = nI (way2 pk x) ∧ c'.1 218 m = nI (dat pk x).length) ∧ fm (LF m) c c' := fun ⟨c', a1, a2, a3, a4⟩ => ⟨c', a1, a2, a3, (f1.mono (fun o i z => by unfold LF; omega)).tr a4⟩
  cases pk with
  | false =>
    rw [if_pos (show bI false = 0 from rfl)]
    exact lift (main 0 (by unfold way2 wayB2; rfl))
  | true =>
    rw [if_neg (by decide), j_in_nI (show m < ln 206 from (by show m < 34; omega)) (by decide), cond_true, m1.2.1.1]
    by_cases e : x.2.1.length = 0
    · rw [if_pos (show nI x.2.1.length ≤ 0 by rw [e]; decide)]
      exact lift (main 0 (by unfold way2 wayB2; rw [decide_eq_false (by omega)]; rfl))
    · rw [if_neg (nI_nle (by omega) (by omega))]
      exact lift (main 8 (by unfold way2 wayB2; rw [decide_eq_true (by omega)]; rfl))
