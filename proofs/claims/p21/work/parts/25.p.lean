section
/-! PURE: the reference: rows packed -/
noncomputable def M2 (X : Option (Unit × hS)) (c : hS) (t : List Nat) (s : Pk) (bs : List Nat) : Prop := ∃ c', X = some ((), c') ∧ mkC c' t (psL s bs) ∧ fm PQ c c'
theorem M2.bnd_ {X : Option (Unit × hS)} {K : Unit → hS → Option (Unit × hS)} {c : hS} {t : List Nat} {s : Pk} {p r : List Nat} (hX : MB X c t s p) (hK : ∀ c1, mkC c1 t (psL s p) → fm QF c c1 → M2 (K () c1) c1 t (psL s p) r) : M2 (bnd X K) c t s (p ++ r) := by
  obtain ⟨c1, e1, r1, f1⟩ := hX
  obtain ⟨c2, e2, r2, f2⟩ := hK c1 r1 f1
  exact ⟨c2, by rw [e1, bnd_some]; exact e2, by rw [psL_app]; exact r2, (f1.mono (fun o i z => QF_PQ z)).tr f2⟩
theorem M2.pre {X : Option (Unit × hS)} {c c1 : hS} {t : List Nat} {s : Pk} {p : List Nat} (h : M2 X c1 t s p) (hf : fm PQ c c1) : M2 X c t s p := by
  obtain ⟨c2, e2, r2, f2⟩ := h
  exact ⟨c2, e2, r2, hf.tr f2⟩
theorem M2.of {X : Option (Unit × hS)} {c : hS} {t : List Nat} {s : Pk} {p : List Nat} (h : MB X c t s p) : M2 (bnd X fun _ c6 => some ((), c6)) c t s p := by
  obtain ⟨c2, e2, r2, f2⟩ := h
  exact ⟨c2, by rw [e2, bnd_some], r2, f2.mono (fun o i z => QF_PQ z)⟩
theorem mkC_fm {c c1 : hS} {t : List Nat} {s : Pk} (h : mkC c t s) {i : Nat} (hf : fm (fun o j => o = 201 ∧ j = i) c c1) (hi : i ≠ 4 ∧ i ≠ 33 ∧ i ≠ 34) : mkC c1 t s := ⟨h.1.fm hf (by omega) (fun i => by omega), (hf.1 _ _ (by omega)).trans h.2.1, (hf.1 _ _ (by omega)).trans h.2.2.1, h.2.2.2⟩
theorem m_putMatch {N n far : Nat} {c : hS} {t : List Nat} {s : Pk} {x y : Int32} (hN : 1000000 ≤ N) (h : mkC c t s) (hc : fxM c) (hn : 3 ≤ n) (hn2 : n ≤ 258) (hf : 1 ≤ far) (hf2 : far ≤ 512) (hl : t.length + s.1.length + 40 ≤ 20000) (hx : x = nI n) (hy : y = nI far) : M2 (f_X12_putMatch N c x y) c t s (mtB n far) := by
  subst hx hy
  have t50 : ∀ d c s, d < 30 → dbase d ≤ far → mkC c t s → fxM c → t.length + s.1.length + 18 ≤ 20000 → M2 (bnd (f_X12_distanceOf c (nI d)) fun x3 c4 => bnd (f_X12_putCode N c4 (300 + nI d)) fun _ c5 => bnd (f_X12_putBits N c5 (nI far - x3) (c5.1 201 30)) fun _ c6 => some ((), c6)) c t s (bBE d 5 ++ bLE (far - dbase d) (dbits d)) := by
    intro d c s hd hb h hc hl
    obtain ⟨c4, e4, v4, f4⟩ := m_distanceOf (c := c) hd
    have dl := dbits_lt d hd
    rw [e4, bnd_some]
    refine M2.pre ?_ (f4.mono (fun o i z => by unfold PQ; omega))
    refine M2.bnd_ (MB.dist hN (mkC_fm h f4 (by decide)) (fxM_fm hc f4 (fun o i z => by omega)) (by omega) (by rw [show (300 : Int32) = nI 300 from rfl, nI_add]) (by omega)) (fun c5 r5 f5 => ?_)
    have g := mk_grow h (bBE d 5)
    rw [bBE_len] at g
    rw [subI hb, f5.1 _ _ (by unfold QF; omega), v4]
    exact M2.of (MB.bits hN r5 (by omega) rfl (by omega) (by omega) rfl)
  have k50 : ∀ d m c s, d < 30 → d < m → mkC c t s → fxM c → t.length + s.1.length + 18 ≤ 20000 → M2 (f_X12_putMatch_50 N (nI n) (nI far) m c (nI d)) c t s (bBE (dst far d) 5 ++ bLE (far - dbase (dst far d)) (dbits (dst far d))) := by
    intro d
    induction d with
    | zero =>
      intro m c s hd hm h hc hl
      obtain ⟨m, rfl⟩ : ∃ k, m = k + 1 := ⟨m - 1, by omega⟩
      obtain ⟨c4, e4, v4, f4⟩ := m_distanceOf (c := c) hd
      rw [f_X12_putMatch_50, e4, bnd_some, if_pos (nI_le (show dbase 0 ≤ far by show 1 ≤ far; exact hf) (by omega))]
      exact M2.pre (t50 0 c4 s (by decide) hf (mkC_fm h f4 (by decide)) (fxM_fm hc f4 (fun o i z => by omega)) hl) (f4.mono (fun o i z => by unfold PQ; omega))
    | succ d ih =>
      intro m c s hd hm h hc hl
      obtain ⟨m, rfl⟩ : ∃ k, m = k + 1 := ⟨m - 1, by omega⟩
      obtain ⟨c4, e4, v4, f4⟩ := m_distanceOf (c := c) hd
      have dl := dbase_lt (d + 1) hd
      have h4 := mkC_fm h f4 (by decide)
      have hc4 : fxM c4 := fxM_fm hc f4 (fun o i z => by omega)
      refine M2.pre ?_ (f4.mono (fun o i z => by unfold PQ; omega))
      rw [f_X12_putMatch_50, e4, bnd_some]
      unfold dst
      by_cases e : dbase (d + 1) ≤ far
      · rw [if_pos (nI_le e (by omega)), if_pos e]
        exact t50 (d + 1) c4 s hd e h4 hc4 hl
      · rw [if_neg (nI_ge (by omega) (by omega)), if_neg e, show nI (d + 1) + -1 = nI d from by rw [← Int32.sub_eq_add_neg]; exact nI_pred d]
        exact ih m c4 s (by omega) (by omega) h4 hc4 hl
  have t3 : ∀ d c s, d < 29 → lbase d ≤ n → mkC c t s → fxM c → t.length + s.1.length + 40 ≤ 20000 → M2 (bnd (f_X12_lengthOf c (nI d)) fun x3 c4 => bnd (f_X12_putCode N c4 (257 + nI d)) fun _ c5 => bnd (f_X12_putBits N c5 (nI n - x3) (c5.1 201 30)) fun _ c6 => f_X12_putMatch_50 N (nI n) (nI far) N c6 29) c t s (symB (257 + d) ++ (bLE (n - lbase d) (lbits d) ++ (bBE (dst far 29) 5 ++ bLE (far - dbase (dst far 29)) (dbits (dst far 29))))) := by
    intro d c s hd hb h hc hl
    obtain ⟨c4, e4, v4, f4⟩ := m_lengthOf (c := c) hd
    have dl := lbits_lt d hd
    have hc4 : fxM c4 := fxM_fm hc f4 (fun o i z => by omega)
    rw [e4, bnd_some]
    refine M2.pre ?_ (f4.mono (fun o i z => by unfold PQ; omega))
    refine M2.bnd_ (MB.symbol (v := 257 + d) hN (mkC_fm h f4 (by decide)) hc4 (by omega) (by rw [show (257 : Int32) = nI 257 from rfl, nI_add]) (by omega)) (fun c5 r5 f5 => ?_)
    have g := mk_grow h (symB (257 + d))
    have g2 := symB_len (257 + d)
    rw [subI hb, f5.1 _ _ (by unfold QF; omega), v4]
    refine M2.bnd_ (MB.bits hN r5 (by omega) rfl (by omega) (by omega) rfl) (fun c6 r6 f6 => ?_)
    have g3 := mk_grow r5 (bLE (n - lbase d) (lbits d))
    rw [bLE_len] at g3
    exact k50 29 N c6 _ (by decide) (by omega) r6 (fxM_fm (fxM_fm hc4 f5 (fun o i z => QF_n z)) f6 (fun o i z => QF_n z)) (by omega)
  have k3 : ∀ d m c s, d < 29 → d < m → mkC c t s → fxM c → t.length + s.1.length + 40 ≤ 20000 → M2 (f_X12_putMatch_3 N (nI n) (nI far) m c (nI d)) c t s (symB (257 + lst n d) ++ (bLE (n - lbase (lst n d)) (lbits (lst n d)) ++ (bBE (dst far 29) 5 ++ bLE (far - dbase (dst far 29)) (dbits (dst far 29))))) := by
    intro d
    induction d with
    | zero =>
      intro m c s hd hm h hc hl
      obtain ⟨m, rfl⟩ : ∃ k, m = k + 1 := ⟨m - 1, by omega⟩
      obtain ⟨c4, e4, v4, f4⟩ := m_lengthOf (c := c) hd
      rw [f_X12_putMatch_3, e4, bnd_some, if_pos (nI_le (show lbase 0 ≤ n by show 3 ≤ n; exact hn) (by omega))]
      exact M2.pre (t3 0 c4 s (by decide) hn (mkC_fm h f4 (by decide)) (fxM_fm hc f4 (fun o i z => by omega)) hl) (f4.mono (fun o i z => by unfold PQ; omega))
    | succ d ih =>
      intro m c s hd hm h hc hl
      obtain ⟨m, rfl⟩ : ∃ k, m = k + 1 := ⟨m - 1, by omega⟩
      obtain ⟨c4, e4, v4, f4⟩ := m_lengthOf (c := c) hd
      have dl := lbase_lt (d + 1) hd
      have h4 := mkC_fm h f4 (by decide)
      have hc4 : fxM c4 := fxM_fm hc f4 (fun o i z => by omega)
      refine M2.pre ?_ (f4.mono (fun o i z => by unfold PQ; omega))
      rw [f_X12_putMatch_3, e4, bnd_some]
      unfold lst
      by_cases e : lbase (d + 1) ≤ n
      · rw [if_pos (nI_le e (by omega)), if_pos e]
        exact t3 (d + 1) c4 s hd e h4 hc4 hl
      · rw [if_neg (nI_ge (by omega) (by omega)), if_neg e, show nI (d + 1) + -1 = nI d from by rw [← Int32.sub_eq_add_neg]; exact nI_pred d]
        exact ih m c4 s (by omega) (by omega) h4 hc4 hl
  exact k3 28 N c s (by decide) (by omega) h hc hl
noncomputable def M3 (X : Option (Unit × hS)) (c : hS) (t : List Nat) (s : Pk) (bs : List Nat) : Prop := ∃ c', X = some ((), c') ∧ mrw c' 4 203 (t ++ fin (psL s bs)) ∧ fm PQ c c'
theorem M3.bnd_ {X : Option (Unit × hS)} {K : Unit → hS → Option (Unit × hS)} {c : hS} {t : List Nat} {s : Pk} {p r : List Nat} (hX : M2 X c t s p) (hK : ∀ c1, mkC c1 t (psL s p) → fm PQ c c1 → M3 (K () c1) c1 t (psL s p) r) : M3 (bnd X K) c t s (p ++ r) := by
  obtain ⟨c1, e1, r1, f1⟩ := hX
  obtain ⟨c2, e2, r2, f2⟩ := hK c1 r1 f1
  exact ⟨c2, by rw [e1, bnd_some]; exact e2, by rw [psL_app]; exact r2, f1.tr f2⟩
theorem MB.to2 {X : Option (Unit × hS)} {c : hS} {t : List Nat} {s : Pk} {p : List Nat} (h : MB X c t s p) : M2 X c t s p := by
  obtain ⟨c2, e2, r2, f2⟩ := h
  exact ⟨c2, e2, r2, f2.mono (fun o i z => QF_PQ z)⟩
theorem M3.end_ {X : Option (Unit × hS)} {c : hS} {t : List Nat} {s : Pk} {bs : List Nat} (hX : MB X c t s bs) (hs : mkC c t s) (hl : t.length + s.1.length + bs.length + 1 ≤ 20000) : M3 (bnd X fun _ c3 => if c3.1 201 34 ≤ 0 then some ((), c3) else bnd (f_X12_put c3 (c3.1 201 33)) fun _ c4 => some ((), c4)) c t s bs := by
  obtain ⟨c3, e3, ⟨q1, q2, q3, q4⟩, f3⟩ := hX
  have g := mk_grow hs bs
  revert q1 q2 q3 q4 g
  unfold M3
  generalize psL s bs = z
  intro q1 q2 q3 q4 g
  rw [e3, bnd_some, q2, q3]
  unfold fin
  by_cases e2 : z.2.2 = 0
  · rw [e2, if_pos (show nI 0 ≤ 0 by decide), if_pos rfl]
    exact ⟨c3, rfl, q1, f3.mono (fun o i z => QF_PQ z)⟩
  · have h8 := q4.1
    rw [if_neg (nI_nle (by omega) (by omega)), if_neg e2]
    have hlt : z.2.1 < 256 := Nat.lt_of_lt_of_le q4.2 (show 2 ^ z.2.2 ≤ 2 ^ 8 from Nat.pow_le_pow_right (by decide) (by omega))
    obtain ⟨c4, e4, r4, f4⟩ := MP.putN q1 (by rw [List.length_append]; omega) rfl hlt
    rw [List.append_assoc] at r4
    exact ⟨c4, by rw [e4, bnd_some], r4, (f3.mono (fun o i z => QF_PQ z)).tr (f4.mono (fun o i z => by unfold W1 at z; unfold PQ; omega))⟩
theorem m_packF {N : Nat} {l t : List Nat} (hN : 1000000 ≤ N) : ∀ d n p c s, l.length < p + d → d < n → p ≤ l.length → mrw c 32 215 l → fxM c → mkC c t s → t.length + s.1.length + 11 * (l.length - p) + 50 ≤ 20000 → M3 (f_X12_putPacked_22 N n c (nI p)) c t s (pkF l d p) := by
  intro d
  induction d with
  | zero => intro n p c s h1 h2 h3; omega
  | succ d ih =>
    intro n p c s hpd hn hp hr hc hs hl
    obtain ⟨n, rfl⟩ : ∃ m, n = m + 1 := ⟨n - 1, by omega⟩
    have hl5 : l.length ≤ 512 := hr.1
    rw [f_X12_putPacked_22, hr.2.1]
    unfold pkF
    by_cases e : l.length ≤ p
    · rw [if_pos (nI_le e (by omega)), if_pos e]
      exact M3.end_ (MB.symbol (v := 256) hN hs hc (by omega) rfl (by decide)) hs (by have := symB_len 256; omega)
    · rw [if_neg (nI_ge (by omega) (by omega)), if_neg e]
      obtain ⟨c6, e6, d6, f6⟩ := m_match (p := p) hN hr (by omega)
      obtain ⟨w1, w2⟩ := bst_le (l := l) (p := p) (q := p) (b := (0, 0)) (Nat.le_refl _) (Nat.zero_le _) (Or.inl rfl)
      have w3 : mst l p ≤ l.length - p := Nat.min_le_right _ _
      have w4 : mst l p ≤ 258 := Nat.min_le_left _ _
      rw [e6, bnd_some]
      revert d6 w1 w2
      generalize bst l p p (0, 0) = w
      intro d6 w1 w2
      have s6 := mkC_fm hs f6 (by decide)
      have hr6 : mrw c6 32 215 l := hr.fm f6 (by omega) (fun i => by omega)
      have hc6 : fxM c6 := fxM_fm hc f6 (fun o i z => by omega)
      have lift : ∀ {X : Option (Unit × hS)} {bs : List Nat}, M3 X c6 t s bs → M3 X c t s bs := fun ⟨c', a1, a2, a3⟩ => ⟨c', a1, a2, (f6.mono (fun o i z => by unfold PQ; omega)).tr a3⟩
      have kp : ∀ {c1 c2 : hS}, fm PQ c1 c2 → mrw c1 32 215 l → mrw c2 32 215 l := fun f h => h.fm f (by unfold PQ; omega) (fun i => by unfold PQ; omega)
      by_cases e3 : w.1 < 3
      · have bb := hr.2.2.2.gt p
        rw [if_pos (show nI w.1 < 3 from nI_lt (b := 3) e3 (by decide)), if_pos e3, j_in_nI (show p < ln 215 from (by show p < 512; omega)) (by decide), cond_true, nI_clamp (by omega), hr6.2.2.1 p (by omega)]
        apply lift
        refine M3.bnd_ (MB.symbol (v := gt l p) hN s6 hc6 (by omega) rfl (by omega)).to2 (fun c9 r9 f9 => ?_)
        have g := mk_grow s6 (symB (gt l p))
        have g2 := symB_len (gt l p)
        rw [nI_1]
        exact ih n (p + 1) c9 _ (by omega) (by omega) (by omega) (kp f9 hr6) (fxM_fm hc6 f9 (fun o i z => PQ_n z)) r9 (by omega)
      · rw [if_neg (show ¬ nI w.1 < 3 from nI_nlt (b := 3) (by omega) (by omega)), if_neg e3]
        have far1 : 1 ≤ w.2 ∧ w.2 ≤ p := w2.resolve_left (by omega)
        have d7 : c6.1 201 35 = nI w.2 := d6.resolve_left (by omega)
        apply lift
        refine M3.bnd_ (m_putMatch hN s6 hc6 (by omega) (by omega) far1.1 (by omega) (by omega) rfl d7) (fun c9 r9 f9 => ?_)
        have g := mk_grow s6 (mtB w.1 w.2)
        have g2 := mtB_len w.1 w.2
        rw [nI_add]
        exact ih n (p + w.1) c9 _ (by omega) (by omega) (by omega) (kp f9 hr6) (fxM_fm hc6 f9 (fun o i z => PQ_n z)) r9 (by omega)
noncomputable def PK (o i : Nat) : Prop := PQ o i ∨ o = 212 ∨ o = 213
theorem m_putPacked {N : Nat} {c : hS} {l t : List Nat} (hN : 1000000 ≤ N) (hr : mrw c 32 215 l) (ht : mrw c 4 203 t) (hl : t.length + 11 * l.length + 60 ≤ 20000) : ∃ c', f_X12_putPacked N c = some ((), c') ∧ mrw c' 4 203 (t ++ packed l) ∧ fm PK c c' := by
  unfold f_X12_putPacked
  dsimp only [st1]
  obtain ⟨c2, e2⟩ : ∃ c2, sI (sI c 201 33 0) 201 34 0 = c2 := ⟨_, rfl⟩
  have f2 : fm (fun o i => o = 201 ∧ (i = 33 ∨ i = 34)) c c2 := by rw [← e2]; exact (fm.sI (by omega)).tr (fm.sI (by omega))
  have v33 : c2.1 201 33 = nI 0 := by rw [← e2, sI_j (by decide), sI_s]; rfl
  have v34 : c2.1 201 34 = nI 0 := by rw [← e2, sI_s]; rfl
  rw [e2]
  obtain ⟨c3, e3, a3, b3, f3⟩ := m_layFixed (c := c2) hN
  rw [e3, bnd_some]
  have f23 : fm (fun o i => (o = 201 ∧ (i = 33 ∨ i = 34)) ∨ o = 212 ∨ o = 213) c c3 := (f2.mono (fun o i z => Or.inl z)).tr (f3.mono (fun o i z => Or.inr z))
  have s3 : mkC c3 t ([], 0, 0) := ⟨by rw [List.append_nil]; exact ht.fm f23 (by omega) (fun i => by omega), (f3.1 _ _ (by omega)).trans v33, (f3.1 _ _ (by omega)).trans v34, show 0 < 8 by decide, show 0 < 2 ^ 0 by decide⟩
  have r3 : mrw c3 32 215 l := hr.fm f23 (by omega) (fun i => by omega)
  have := M3.bnd_ (K := fun _ c4 => f_X12_putPacked_22 N N c4 0) (MB.bits (x := 3) (m := 3) (v := 3) (n := 3) hN s3 (by simp; omega) rfl (by decide) (by decide) rfl).to2 (fun c4 r4 f4 => m_packF hN (l.length + 1) N 0 c4 _ (by omega) (by have := hr.1; have : ln 215 = 512 := rfl; omega) (Nat.zero_le _) (r3.fm f4 (by unfold PQ; omega) (fun i => by unfold PQ; omega)) (fxM_fm ⟨a3, b3⟩ f4 (fun o i z => PQ_n z)) r4 (by
    have g1 := mk_grow s3 (bLE 3 3)
    rw [bLE_len] at g1
    simp only [List.length_nil] at g1
    omega))
  obtain ⟨c', e', r', f'⟩ := this
  refine ⟨c', e', ?_, (f23.mono (fun o i z => by unfold PK PQ; omega)).tr (f'.mono (fun o i z => Or.inl z))⟩
  rw [show bLE 3 3 ++ pkF l (l.length + 1) 0 = pkBits l from by unfold pkBits; rw [← List.append_assoc]; rfl] at r'
  exact r'
theorem m_pack {N : Nat} {c : hS} {b t : List Nat} {ms : List Mb} (hN : 1000000 ≤ N) (h : PM c b t ms) : MN (f_X12_pack N c) c 0 (nI (packed b).length) b (packed b) ms := by
  obtain ⟨c1, e1, h1, z1, f1⟩ := m_zero h
  have hbl : b.length ≤ 512 := h.1.1
  unfold f_X12_pack
  rw [e1]
  dsimp only [st1]
  rw [h1.1.2.1]
  obtain ⟨c2, e2⟩ : ∃ c2, sI c1 201 32 (nI b.length) = c2 := ⟨_, rfl⟩
  rw [e2]
  have f2 : fm (fun o i => o = 201 ∧ i = 32) c1 c2 := by rw [← e2]; exact fm.sI ⟨rfl, rfl⟩
  have v2 : c2.1 201 32 = nI b.length := by rw [← e2, sI_s]
  have h2 := h1.mv f2 (fun o i z => by omega)
  obtain ⟨c3, e3, i3, w3, f3⟩ := cp_loop (F := f_X12_pack_15 N) (X := fun c => f_X12_pack_15 N (0 + 1) c (nI b.length)) (o := 215) (o' := 202) (a := 0) (b := 0) (len := b.length) (fun c => c.1 201 2 = nI b.length) (fun c i x q => by rw [sI_o (by decide)]; exact q) (fun n c i hi q => by
    rw [f_X12_pack_15, q, if_neg (nI_ge hi (by omega)), j_in_nI (show i < ln 202 from (by show i < 512; omega)) (by decide), cond_true, j_in_nI (show i < ln 215 from (by show i < 512; omega)) (by decide), cond_true, nI_clamp (by omega), Nat.zero_add]
    rfl) (fun n c q => by
    show _ = f_X12_pack_15 N (0 + 1) c (nI b.length)
    rw [f_X12_pack_15, f_X12_pack_15, q, if_pos (nI_le (Nat.le_refl _) (by omega)), if_pos (nI_le (Nat.le_refl _) (by omega))]) (by omega) b.length N c2 0 (by omega) (by omega) h2.1.2.1
  have f3' : fm (fun o i => o = 215) c2 c3 := f3.mono (fun o i z => z.1)
  have h3 := h2.mv f3' (fun o i z => by omega)
  have r3 : mrw c3 32 215 b := by
    have := mrw.cp (c := c2) (c' := c3) (j := 32) (o := 215) (o' := 202) (a := 0) (len := b.length) (l := b) (by omega) h2.1.2.2.1 w3 ((f3'.1 _ _ (by omega)).trans v2) (show b.length ≤ 512 by omega) h1.1.2.2.2
    simpa using this
  have e3' : f_X12_pack_15 N N c2 0 = f_X12_pack_15 N (0 + 1) c3 (nI b.length) := e3
  rw [e3', f_X12_pack_15, i3, if_pos (nI_le (Nat.le_refl _) (by omega))]
  dsimp only [st1]
  have f4 : fm (fun o i => o = 201 ∧ i = 4) c3 (sI c3 201 4 0) := fm.sI ⟨rfl, rfl⟩
  have t4 : mrw (sI c3 201 4 0) 4 203 [] := ⟨Nat.zero_le _, sI_s _ _ _ _, fun i hi => absurd hi (Nat.not_lt_zero i), fun x hx => by cases hx⟩
  have h4 := h3.tp f4 (fun o i z => by omega) t4
  obtain ⟨c5, e5, t5, f5⟩ := m_putPacked hN (r3.fm f4 (by omega) (fun i => by omega)) t4 (by simp; omega)
  rw [e5, bnd_some, t5.2.1, List.nil_append]
  rw [List.nil_append] at t5
  have nP : ∀ o i, PK o i → (o = 201 ∧ i ≠ 0 ∧ i ≠ 2 ∧ i ≠ 7) ∨ o = 203 ∨ (208 < o ∧ o < 219) := fun o i z => by unfold PK PQ at z; omega
  refine ⟨_, c5, rfl, ?_, fun _ => rfl, h4.tp f5 (fun o i z => by have := nP o i z; omega) t5, (((f1.tr (f2.mono (fun o i z => by omega))).tr (f3'.mono (fun o i z => by omega))).tr (f4.mono (fun o i z => by omega))).tr (f5.mono (fun o i z => by have := nP o i z; omega))⟩
  rw [f5.1 _ _ (fun z => by have := nP _ _ z; omega), f4.1 _ _ (by omega), f3'.1 _ _ (by omega), f2.1 _ _ (by omega)]
  exact z1
end
section
/-! PURE: the reference: kind 2 written; write -/
theorem sh8 {w : BitVec 32} {s : Nat} (hs : s ≤ 24) : (w.sshiftRight s).setWidth 8 = (w >>> s).setWidth 8 := by
  apply BitVec.eq_of_getLsbD_eq
  intro i hi
  simp only [BitVec.getLsbD_setWidth, BitVec.getLsbD_sshiftRight, BitVec.getLsbD_ushiftRight]
  have h1 : s + i < 32 := by omega
  have h4 : ¬ (32 ≤ i) := by omega
  simp [h1, hi, h4]
theorem sh24 {w : BitVec 32} : ((w.sshiftRight 16).sshiftRight 8).setWidth 8 = (w >>> 24).setWidth 8 := by
  apply BitVec.eq_of_getLsbD_eq
  intro i hi
  simp only [BitVec.getLsbD_setWidth, BitVec.getLsbD_sshiftRight, BitVec.getLsbD_ushiftRight]
  have h1 : 8 + i < 32 := by omega
  have h2 : 16 + (8 + i) < 32 := by omega
  have h4 : ¬ (32 ≤ i) := by omega
  have h5 : ¬ (32 ≤ 8 + i) := by omega
  have h6 : 16 + (8 + i) = 24 + i := by omega
  rw [← h6]
  simp [h1, h2, hi, h4, h5]
theorem b8_s {w x : Int32} {s : Nat} (h : x.toBitVec.setWidth 8 = (w.toBitVec >>> s).setWidth 8) : b8 x = u32 w / 2 ^ s % 256 := by
  rw [b8_w, h, BitVec.toNat_setWidth, BitVec.toNat_ushiftRight, Nat.shiftRight_eq_div_pow]
  rfl
theorem b8_8 (w : Int32) : b8 (j_shr w 8) = u32 w / 2 ^ 8 % 256 := b8_s (show (w.toBitVec.sshiftRight 8).setWidth 8 = _ from sh8 (by decide))
theorem b8_16 (w : Int32) : b8 (j_shr w 16) = u32 w / 2 ^ 16 % 256 := b8_s (show (w.toBitVec.sshiftRight 16).setWidth 8 = _ from sh8 (by decide))
theorem b8_24 (w : Int32) : b8 (j_shr (j_shr w 16) 8) = u32 w / 2 ^ 24 % 256 := b8_s (show ((w.toBitVec.sshiftRight 16).sshiftRight 8).setWidth 8 = _ from sh24)
theorem le_2 (v : Nat) : le v 2 = [v % 256] ++ [v / 2 ^ 8 % 256] := by simp [le, List.range_succ]
theorem le_4 (v : Nat) : le v 4 = le v 2 ++ ([v / 2 ^ 16 % 256] ++ [v / 2 ^ 24 % 256]) := by simp [le, List.range_succ]
theorem MP.two {c : hS} {t : List Nat} {x : Int32} {v : Nat} (h : mrw c 4 203 t) (hl : t.length + 2 ≤ 20000) (hv : u32 x = v) : MP (f_X12_putTwo c x) c t (le v 2) := by
  subst hv
  rw [le_2]
  exact MP.bnd_ (MP.put h (by omega) rfl) (fun c1 r1 f1 => MP.last_ (MP.put r1 (by simp; omega) (b8_8 x)))
theorem MP.four {c : hS} {t : List Nat} {x : Int32} {v : Nat} (h : mrw c 4 203 t) (hl : t.length + 4 ≤ 20000) (hv : u32 x = v) : MP (f_X12_putFour c x) c t (le v 4) := by
  subst hv
  rw [le_4]
  refine MP.bnd_ (MP.two h (by omega) rfl) (fun c1 r1 f1 => MP.last_ ?_)
  exact MP.bnd_ (MP.put r1 (by simp only [List.length_append, le_len]; omega) (b8_16 x)) (fun c2 r2 f2 => MP.last_ (MP.put r2 (by simp only [List.length_append, le_len, List.length_cons, List.length_nil]; omega) (b8_24 x)))
theorem u32_n {v : Nat} (h : v < 2 ^ 31) : u32 (nI v) = v := by
  show (nI v).toUInt32.toNat = v
  rw [nI_u]
  omega
theorem m_checkOf {N m : Nat} {c : hS} {x : Mb} (hN : 1000000 ≤ N) (h : mmb c m x) (hm : m < 34) : f_X12_checkOf N c (nI m) = some (crc x.2.1, c) := by
  have hb := h.2.1.2.2.1
  have key : ∀ d n j v, j + d = x.2.1.length → d < n → f_X12_checkOf_4 N (nI m) n c v (nI j) = some (crcL v (x.2.1.drop j) ^^^ (-1), c) := by
    intro d
    induction d with
    | zero =>
      intro n j v hj hn
      obtain ⟨n, rfl⟩ : ∃ m, n = m + 1 := ⟨n - 1, by omega⟩
      rw [f_X12_checkOf_4, j_in_nI (show m < ln 206 from hm) (by decide), cond_true, nI_clamp (by omega), h.2.1.1, if_pos (nI_le (by omega) (by omega)), List.drop_eq_nil_of_le (by omega)]
      rfl
    | succ d ih =>
      intro n j v hj hn
      obtain ⟨n, rfl⟩ : ∃ m, n = m + 1 := ⟨n - 1, by omega⟩
      rw [f_X12_checkOf_4, j_in_nI (show m < ln 206 from hm) (by decide), cond_true, nI_clamp (show m < 2 ^ 31 by omega), h.2.1.1, if_neg (nI_ge (by omega) (by omega)), mul400 m j, j_in_nI (show 400 * m + j < ln 207 from (by show 400 * m + j < 13600; omega)) (by decide), cond_true, nI_clamp (by omega), h.2.1.2.1 j (by omega), m_checkMore hN, bnd_some, nI_1, ih n (j + 1) _ (by omega) (by omega), crcL_s (l := x.2.1) (j := j) (by omega)]
  unfold f_X12_checkOf
  have := key x.2.1.length N 0 (-1) (by omega) (by omega)
  rw [List.drop_zero] at this
  exact this
theorem m_namedSize {c : hS} {m : Nat} {x : Mb} (h : mmb c m x) (hm : m < 34) : f_X12_namedSize c (nI m) = some (nI (nmS x).length, c) := by
  unfold f_X12_namedSize
  rw [j_in_nI (show m < ln 204 from hm) (by decide), cond_true, j_in_nI (show m < ln 208 from hm) (by decide), cond_true, nI_clamp (by omega), h.2.2, h.1.1, nmS_eq]
  cases x.2.2 with
  | false => rw [if_pos (show bI false = 0 from rfl), show nI x.1.length + 0 = nI (x.1.length + 0) from nI_add _ 0]; rfl
  | true => rw [if_neg (by decide), nI_1]; rfl
theorem m_fourInto {N p v : Nat} {c : hS} {t : List Nat} {x y : Int32} (hN : 1000000 ≤ N) (h : mrw c 4 203 t) (hp : p + 4 ≤ t.length) (hv : v < 2 ^ 31) (hx : x = nI p) (hy : y = nI v) : MO (f_X12_fourInto N c x y) c (setL t p (le v 4)) := by
  subst hx hy
  have ht : t.length ≤ 20000 := h.1
  have key : ∀ d m i c u, i + d = 4 → d < m → mrw c 4 203 u → u.length = t.length → MO (f_X12_fourInto_2 N (nI p) (nI v) m c (nI i)) c (setL u (p + i) ((le v 4).drop i)) := by
    intro d
    induction d with
    | zero =>
      intro m i c u hi hm hu hl
      obtain ⟨m, rfl⟩ : ∃ k, m = k + 1 := ⟨m - 1, by omega⟩
      rw [f_X12_fourInto_2, if_pos (show (4 : Int32) ≤ nI i from nI_le (a := 4) (by omega) (by omega)), List.drop_eq_nil_of_le (by rw [le_len]; omega)]
      exact ⟨c, rfl, hu, fm.rf⟩
    | succ d ih =>
      intro m i c u hi hm hu hl
      obtain ⟨m, rfl⟩ : ∃ k, m = k + 1 := ⟨m - 1, by omega⟩
      have r1 := hu.set (k := p + i) (x := v / 2 ^ (8 * i) % 256) (by decide) (by omega) (Nat.mod_lt _ (by decide))
      obtain ⟨c2, e2, r2, f2⟩ := ih m (i + 1) _ _ (by omega) (by omega) r1 (by simpa using hl)
      refine ⟨c2, ?_, ?_, (fm.sI (Or.inl rfl)).tr f2⟩
      · rw [f_X12_fourInto_2, if_neg (show ¬ (4 : Int32) ≤ nI i from nI_ge (b := 4) (by omega) (by decide)), nI_add, j_in_nI (show p + i < ln 203 from (by show p + i < 20000; omega)) (by decide), cond_true, nI_clamp (by omega), show (8 : Int32) * nI i = nI (8 * i) from nI_mul 8 i, shr_nI hv (by omega), b8_and, b8_nI, nI_1]
        exact e2
      · rw [le_get (by omega)]
        exact r2
  have := key 4 N 0 c t (by omega) (by omega) h rfl
  rwa [List.drop_zero, Nat.add_zero] at this
theorem MP.cps {X : Option (Unit × hS)} {K : Unit → hS → Option (Unit × hS)} {R : Option (Unit × hS) → Prop} {c : hS} {t p : List Nat} (hX : MP X c t p) (hK : ∀ c1, mrw c1 4 203 (t ++ p) → fm W1 c c1 → R (K () c1)) : R (bnd X K) := by
  obtain ⟨c1, e1, r1, f1⟩ := hX
  rw [e1, bnd_some]
  exact hK c1 r1 f1
/-- what a local head leaves -/
noncomputable def LF (m o i : Nat) : Prop := PK o i ∨ o = 215 ∨ (o = 201 ∧ i = 32) ∨ ((o = 216 ∨ o = 217 ∨ o = 218) ∧ i = m)
theorem m_local {N m : Nat} {c : hS} {t : List Nat} {x : Mb} {pk : Bool} (hN : 1000000 ≤ N) (h : mrw c 4 203 t) (hm : mmb c m x) (hm16 : m < 16) (hl : t.length + 4700 ≤ 20000) : ∃ c', f_X12_writeLocal N c (nI m) (bI pk) = some ((), c') ∧ mrw c' 4 203 (t ++ lo2 pk x) ∧ (c'.1 216 m = nI t.length ∧ c'.1 217 m = nI (way2 pk x) ∧ c'.1 218 m = nI (dat pk x).length) ∧ fm (LF m) c c' := by
  have hx := hm.1.2.2.1
  have hb := hm.2.1.2.2.1
  have nl := nmS_len hx
  have dl := dat_len (pk := pk) hb
  unfold f_X12_writeLocal
  rw [j_in_nI (show m < ln 216 from hm16) (by decide), cond_true, nI_clamp (by omega), h.2.1]
  dsimp only [st1]
  obtain ⟨c1, e1⟩ : ∃ c1, sI c 216 m (nI t.length) = c1 := ⟨_, rfl⟩
  rw [e1]
  have f1 : fm (fun o i => o = 216 ∧ i = m) c c1 := by rw [← e1]; exact fm.sI ⟨rfl, rfl⟩
  have v1 : c1.1 216 m = nI t.length := by rw [← e1, sI_s]
  have m1 : mmb c1 m x := hm.fm f1 (fun o i a b => by omega)
  have r1 : mrw c1 4 203 t := h.fm f1 (by omega) (fun i => by omega)
  have main : ∀ (way : Nat), way = way2 pk x → ∃ c', f_X12_writeLocal_36 N (nI m) (bI pk) c1 (nI t.length) (nI way) (nI m) = some ((), c') ∧ mrw c' 4 203 (t ++ lo2 pk x) ∧ (c'.1 216 m = nI t.length ∧ c'.1 217 m = nI (way2 pk x) ∧ c'.1 218 m = nI (dat pk x).length) ∧ fm (LF m) c1 c' := by
    intro way hway
    have w8 : way = 0 ∨ way = 8 := by rw [hway]; unfold way2; split <;> omega
    unfold f_X12_writeLocal_36
    rw [j_in_nI (show m < ln 217 from hm16) (by decide), cond_true, nI_clamp (by omega)]
    dsimp only [st1]
    obtain ⟨c2, e2⟩ : ∃ c2, sI c1 217 m (nI way) = c2 := ⟨_, rfl⟩
    rw [e2]
    have f2 : fm (fun o i => o = 217 ∧ i = m) c1 c2 := by rw [← e2]; exact fm.sI ⟨rfl, rfl⟩
    have v2 : c2.1 217 m = nI way := by rw [← e2, sI_s]
    have m2 : mmb c2 m x := m1.fm f2 (fun o i a b => by omega)
    have r2 : mrw c2 4 203 t := r1.fm f2 (by omega) (fun i => by omega)
    have nw : ∀ o i, o ≠ 203 → o ≠ 201 → ¬ W1 o i := fun o i a b => by unfold W1; omega
    have ln1 : ∀ {c : hS} {u : List Nat}, mrw c 4 203 u → u.length ≤ 20000 := fun h => h.1
    obtain ⟨c3, e3, r3, g3⟩ := MP.put (x := 80) (v := 80) r2 (by omega) rfl
    rw [e3, bnd_some]
    obtain ⟨c4, e4, r4, f4⟩ := MP.put (x := 75) (v := 75) r3 (by simp; omega) rfl
    rw [e4, bnd_some]
    obtain ⟨c5, e5, r5, f5⟩ := MP.put (x := 3) (v := 3) r4 (by simp; omega) rfl
    rw [e5, bnd_some]
    obtain ⟨c6, e6, r6, f6⟩ := MP.put (x := 4) (v := 4) r5 (by simp; omega) rfl
    rw [e6, bnd_some]
    obtain ⟨c7, e7, r7, f7⟩ := MP.two (x := 20) (v := 20) r6 (by simp; omega) rfl
    rw [e7, bnd_some]
    obtain ⟨c8, e8, r8, f8⟩ := MP.two (x := 0) (v := 0) r7 (by simp [le_len]; omega) rfl
    rw [e8, bnd_some]
    have g8 := ((((g3.tr f4).tr f5).tr f6).tr f7).tr f8
    rw [cond_true, g8.1 _ _ (nw _ _ (by decide) (by decide)), v2]
    obtain ⟨c9, e9, r9, f9⟩ := MP.two (x := nI way) (v := way) r8 (by simp [le_len]; omega) (u32_n (by omega))
    rw [e9, bnd_some]
    obtain ⟨c10, e10, r10, f10⟩ := MP.two (x := 0) (v := 0) r9 (by simp [le_len]; omega) rfl
    rw [e10, bnd_some]
    obtain ⟨c11, e11, r11, f11⟩ := MP.two (x := 33) (v := 33) r10 (by simp [le_len]; omega) rfl
    rw [e11, bnd_some]
    have g11 := ((g8.tr f9).tr f10).tr f11
    rw [m_checkOf hN (mmbW m2 g11) (by omega), bnd_some]
    obtain ⟨c13, e13, r13, f13⟩ := MP.four (x := crc x.2.1) (v := u32 (crc x.2.1)) r11 (by simp [le_len]; omega) rfl
    rw [e13, bnd_some]
    obtain ⟨c14, e14, r14, f14⟩ := MP.four (x := 0) (v := 0) r13 (by simp [le_len]; omega) rfl
    rw [e14, bnd_some]
    have g14 := (g11.tr f13).tr f14
    rw [j_in_nI (show m < ln 206 from (by show m < 34; omega)) (by decide), cond_true, (mmbW m2 g14).2.1.1]
    obtain ⟨c15, e15, r15, f15⟩ := MP.four (x := nI x.2.1.length) (v := x.2.1.length) r14 (by simp [le_len]; omega) (u32_n (by omega))
    rw [e15, bnd_some]
    rw [m_namedSize (mmbW m2 (g14.tr f15)) (by omega), bnd_some]
    obtain ⟨c18, e18, r18, f18⟩ := MP.two (x := nI (nmS x).length) (v := (nmS x).length) r15 (by simp [le_len]; omega) (u32_n (by omega))
    rw [e18, bnd_some]
    obtain ⟨c19, e19, r19, f19⟩ := MP.two (x := 0) (v := 0) r18 (by simp [le_len]; omega) rfl
    rw [e19, bnd_some]
    have g19 := ((g14.tr f15).tr f18).tr f19
    obtain ⟨c20, e20, r20, f20⟩ := MP.name1 hN r19 (mmbW m2 g19) (by omega) (by simp [le_len]; omega)
    rw [e20, bnd_some]
    have g20 := g19.tr f20
    have m20 := mmbW m2 g20
    have er : t ++ [80] ++ [75] ++ [3] ++ [4] ++ le 20 2 ++ le 0 2 ++ le way 2 ++ le 0 2 ++ le 33 2 ++ le (u32 (crc x.2.1)) 4 ++ le 0 4 ++ le x.2.1.length 4 ++ le (nmS x).length 2 ++ le 0 2 ++ nmS x = t ++ loc x way 0 := by simp only [loc, com, mk3, List.append_assoc, List.cons_append, List.nil_append]
    rw [er] at r20
    have ll := loc_len x way 0
    have lt : (t ++ loc x way 0).length = t.length + 30 + (nmS x).length := by rw [List.length_append, ll]; omega
    rw [cond_true, g20.1 _ _ (nw _ _ (by decide) (by decide)), v2]
    have wv20 : c20.1 216 m = nI t.length ∧ c20.1 217 m = nI way := ⟨by rw [g20.1 _ _ (nw _ _ (by decide) (by decide)), f2.1 _ _ (by omega)]; exact v1, by rw [g20.1 _ _ (nw _ _ (by decide) (by decide))]; exact v2⟩
    have gz : fm (LF m) c1 c20 := (f2.mono (fun o i z => by unfold LF; omega)).tr (g20.mono (fun o i z => by unfold W1 at z; unfold LF PK PQ; omega))
    -- the end: size, and its place in the head
    have fin : ∀ c' (r : List Nat), r = dat pk x → mrw c' 4 203 (t ++ loc x way 0 ++ r) → c'.1 216 m = nI t.length ∧ c'.1 217 m = nI way → fm (LF m) c1 c' → ∃ c'', f_X12_writeLocal_212 N (nI m) (bI pk) c' (nI t.length) (nI (t ++ loc x way 0).length) = some ((), c'') ∧ mrw c'' 4 203 (t ++ lo2 pk x) ∧ (c''.1 216 m = nI t.length ∧ c''.1 217 m = nI (way2 pk x) ∧ c''.1 218 m = nI (dat pk x).length) ∧ fm (LF m) c1 c'' := by
      intro c' r hr hc hw hf
      subst hr
      have l2 : (t ++ loc x way 0 ++ dat pk x).length = (t ++ loc x way 0).length + (dat pk x).length := List.length_append
      unfold f_X12_writeLocal_212
      rw [j_in_nI (show m < ln 218 from hm16) (by decide), cond_true, nI_clamp (show m < 2 ^ 31 by omega), hc.2.1, l2, subI (by omega), Nat.add_sub_cancel_left]
      dsimp only [st1]
      rw [cond_true, sI_s]
      have fa : fm (fun o i => o = 218 ∧ i = m) c' (sI c' 218 m (nI (dat pk x).length)) := fm.sI ⟨rfl, rfl⟩
      obtain ⟨c2', e2', r2', f2'⟩ := m_fourInto (p := t.length + 18) (v := (dat pk x).length) hN (hc.fm fa (by omega) (fun i => by omega)) (by rw [l2, lt]; omega) (by omega) (show nI t.length + 18 = nI (t.length + 18) from nI_add _ 18) rfl
      rw [e2', bnd_some]
      rw [List.append_assoc, loc_set] at r2'
      refine ⟨c2', rfl, by unfold lo2; rw [← hway]; exact r2', ⟨?_, ?_, ?_⟩, (hf.tr (fa.mono (fun o i z => by unfold LF; omega))).tr (f2'.mono (fun o i z => by unfold W1 at z; unfold LF PK PQ; omega))⟩
      · rw [f2'.1 _ _ (nw _ _ (by decide) (by decide)), fa.1 _ _ (by omega)]; exact hw.1
      · rw [f2'.1 _ _ (nw _ _ (by decide) (by decide)), fa.1 _ _ (by omega), ← hway]; exact hw.2
      · rw [f2'.1 _ _ (nw _ _ (by decide) (by decide)), sI_s]
    rcases w8 with w0 | w8
    · have nb : wayB2 pk x = false := by
        unfold way2 at hway
        cases z : wayB2 pk x with
        | false => rfl
        | true => rw [z, if_pos rfl] at hway; omega
      have ed : dat pk x = x.2.1 := by unfold dat; rw [nb]; rfl
      rw [if_neg (show ¬ nI way = 8 by rw [w0]; decide)]
      obtain ⟨c21, e21, r21, f21⟩ := MP.bytes hN r20 m20 (by omega) (by rw [lt]; omega)
      rw [e21, bnd_some, r20.2.1]
      exact fin c21 x.2.1 ed.symm r21 ⟨by rw [f21.1 _ _ (nw _ _ (by decide) (by decide))]; exact wv20.1, by rw [f21.1 _ _ (nw _ _ (by decide) (by decide))]; exact wv20.2⟩ (gz.tr (f21.mono (fun o i z => by unfold W1 at z; unfold LF PK PQ; omega)))
    · have nb : wayB2 pk x = true := by
        unfold way2 at hway
        cases z : wayB2 pk x with
        | true => rfl
        | false => rw [z, if_neg (by decide)] at hway; omega
      have ed : dat pk x = packed x.2.1 := by unfold dat; rw [nb]; rfl
      rw [if_pos (show nI way = 8 by rw [w8]; rfl), cond_true, m20.2.1.1, r20.2.1]
      try dsimp only [st1]
      obtain ⟨c22, e22⟩ : ∃ c22, sI c20 201 32 (nI x.2.1.length) = c22 := ⟨_, rfl⟩
      rw [e22]
      have f22 : fm (fun o i => o = 201 ∧ i = 32) c20 c22 := by rw [← e22]; exact fm.sI ⟨rfl, rfl⟩
      have v22 : c22.1 201 32 = nI x.2.1.length := by rw [← e22, sI_s]
      have m22 : mmb c22 m x := m20.fm f22 (fun o i a b => by omega)
      obtain ⟨c23, e23, i23, w23, f23⟩ := cp_loop (F := fun n c k => f_X12_writeLocal_165 N (nI m) (bI pk) n c (nI t.length) (nI (t ++ loc x way 0).length) k) (X := fun c => f_X12_writeLocal_165 N (nI m) (bI pk) (0 + 1) c (nI t.length) (nI (t ++ loc x way 0).length) (nI x.2.1.length)) (o := 215) (o' := 207) (a := 400 * m) (b := 0) (len := x.2.1.length) (fun c => c.1 201 32 = nI x.2.1.length) (fun c i x q => by rw [sI_o (by decide)]; exact q) (fun n c i hi q => by
        show f_X12_writeLocal_165 N (nI m) (bI pk) (n + 1) c (nI t.length) (nI (t ++ loc x way 0).length) (nI i) = _
        rw [f_X12_writeLocal_165, q, if_neg (nI_ge hi (by omega)), mul400 m i, j_in_nI (show 400 * m + i < ln 207 from (by show 400 * m + i < 13600; omega)) (by decide), cond_true, j_in_nI (show i < ln 215 from (by show i < 512; omega)) (by decide), cond_true, nI_clamp (by omega), nI_clamp (by omega), Nat.zero_add]
        rfl) (fun n c q => by
        show f_X12_writeLocal_165 N (nI m) (bI pk) (n + 1) c (nI t.length) (nI (t ++ loc x way 0).length) (nI x.2.1.length) = f_X12_writeLocal_165 N (nI m) (bI pk) (0 + 1) c (nI t.length) (nI (t ++ loc x way 0).length) (nI x.2.1.length)
        rw [f_X12_writeLocal_165, f_X12_writeLocal_165, q, if_pos (nI_le (Nat.le_refl _) (by omega)), if_pos (nI_le (Nat.le_refl _) (by omega))]) (by omega) x.2.1.length N c22 0 (by omega) (by omega) v22
      have f23' : fm (fun o i => o = 215) c22 c23 := f23.mono (fun o i z => z.1)
      have e23' : f_X12_writeLocal_165 N (nI m) (bI pk) N c22 (nI t.length) (nI (t ++ loc x way 0).length) 0 = f_X12_writeLocal_165 N (nI m) (bI pk) (0 + 1) c23 (nI t.length) (nI (t ++ loc x way 0).length) (nI x.2.1.length) := e23
      have r23 : mrw c23 32 215 x.2.1 := by
        refine ⟨show x.2.1.length ≤ 512 by omega, i23, fun i hi => ?_, hm.2.1.2.2.2⟩
        have := w23 i (Nat.zero_le _) hi
        rw [Nat.zero_add] at this
        rw [this]
        exact m22.2.1.2.1 i hi
      have t23 : mrw c23 4 203 (t ++ loc x way 0) := (r20.fm f22 (by omega) (fun i => by omega)).fm f23' (by omega) (fun i => by omega)
      obtain ⟨c24, e24, t24, f24⟩ := m_putPacked hN r23 t23 (by rw [lt]; omega)
      rw [e23', f_X12_writeLocal_165, i23, if_pos (nI_le (Nat.le_refl _) (by omega)), e24, bnd_some]
      have np : ∀ o i, PK o i → o ≠ 216 ∧ o ≠ 217 := fun o i z => by unfold PK PQ at z; omega
      exact fin c24 _ ed.symm t24 ⟨by rw [f24.1 _ _ (fun z => (np _ _ z).1 rfl), f23'.1 _ _ (by omega), f22.1 _ _ (by omega)]; exact wv20.1, by rw [f24.1 _ _ (fun z => (np _ _ z).2 rfl), f23'.1 _ _ (by omega), f22.1 _ _ (by omega)]; exact wv20.2⟩ (((gz.tr (f22.mono (fun o i z => by unfold LF; omega))).tr (f23'.mono (fun o i z => by unfold LF; omega))).tr (f24.mono (fun o i z => Or.inl z)))
  have lift : ∀ {X : Option (Unit × hS)}, (∃ c', X = some ((), c') ∧ mrw c' 4 203 (t ++ lo2 pk x) ∧ (c'.1 216 m = nI t.length ∧ c'.1 217 m = nI (way2 pk x) ∧ c'.1 218 m = nI (dat pk x).length) ∧ fm (LF m) c1 c') → ∃ c', X = some ((), c') ∧ mrw c' 4 203 (t ++ lo2 pk x) ∧ (c'.1 216 m = nI t.length ∧ c'.1 217 m = nI (way2 pk x) ∧ c'.1 218 m = nI (dat pk x).length) ∧ fm (LF m) c c' := fun ⟨c', a1, a2, a3, a4⟩ => ⟨c', a1, a2, a3, (f1.mono (fun o i z => by unfold LF; omega)).tr a4⟩
  cases pk with
  | false =>
    rw [if_pos (show bI false = 0 from rfl)]
    exact lift (main 0 (by unfold way2 wayB2; rfl))
  | true =>
    rw [if_neg (by decide), j_in_nI (show m < ln 206 from (by show m < 34; omega)) (by decide), cond_true, m1.2.1.1]
    by_cases e : x.2.1.length = 0
    · rw [if_pos (show nI x.2.1.length ≤ 0 by rw [e]; decide)]
      exact lift (main 0 (by unfold way2 wayB2; rw [decide_eq_false (by omega)]; rfl))
    · rw [if_neg (nI_nle (by omega) (by omega))]
      exact lift (main 8 (by unfold way2 wayB2; rw [decide_eq_true (by omega)]; rfl))
end
section
/-! PURE: the reference: kind 2 written whole; write -/
theorem LF_W {m o i : Nat} (h : W1 o i) : LF m o i := by unfold W1 at h; unfold LF PK PQ; omega
theorem m_entry {N m way size hd : Nat} {c : hS} {t : List Nat} {x : Mb} (hN : 1000000 ≤ N) (h : mrw c 4 203 t) (hm : mmb c m x) (hm16 : m < 16) (hl : t.length + 140 ≤ 20000) (h6 : c.1 216 m = nI hd) (h7 : c.1 217 m = nI way) (h8 : c.1 218 m = nI size) (b6 : hd < 2 ^ 31) (b7 : way < 2 ^ 31) (b8' : size < 2 ^ 31) : MP (f_X12_writeEntry N c (nI m)) c t (ent x way size hd) := by
  have hx := hm.1.2.2.1
  have hb := hm.2.1.2.2.1
  have nl := nmS_len hx
  have nw : ∀ o i, o ≠ 203 → o ≠ 201 → ¬ W1 o i := fun o i a b => by unfold W1; omega
  unfold f_X12_writeEntry
  show MP _ c t ([80] ++ ([75] ++ ([1] ++ ([2] ++ (le 20 2 ++ (com x way size ++ (List.replicate 12 0 ++ (le hd 4 ++ nmS x))))))))
  unfold com
  simp only [List.append_assoc]
  refine MP.bnd_ (MP.put h (by omega) rfl) (fun c3 r3 g3 => ?_)
  refine MP.bnd_ (MP.put r3 (by simp; omega) rfl) (fun c4 r4 f4 => ?_)
  refine MP.bnd_ (MP.put r4 (by simp; omega) rfl) (fun c5 r5 f5 => ?_)
  refine MP.bnd_ (MP.put r5 (by simp; omega) rfl) (fun c6 r6 f6 => ?_)
  refine MP.bnd_ (MP.two r6 (by simp; omega) rfl) (fun c7 r7 f7 => ?_)
  refine MP.bnd_ (MP.two r7 (by simp [le_len]; omega) rfl) (fun c8 r8 f8 => ?_)
  refine MP.bnd_ (MP.two r8 (by simp [le_len]; omega) rfl) (fun c9 r9 f9 => ?_)
  have g9 := (((((g3.tr f4).tr f5).tr f6).tr f7).tr f8).tr f9
  rw [j_in_nI (show m < ln 217 from hm16) (by decide), cond_true, nI_clamp (by omega), g9.1 _ _ (nw _ _ (by decide) (by decide)), h7]
  refine MP.bnd_ (MP.two r9 (by simp [le_len]; omega) (u32_n b7)) (fun c10 r10 f10 => ?_)
  refine MP.bnd_ (MP.two r10 (by simp [le_len]; omega) rfl) (fun c11 r11 f11 => ?_)
  refine MP.bnd_ (MP.two r11 (by simp [le_len]; omega) rfl) (fun c12 r12 f12 => ?_)
  have g12 := ((g9.tr f10).tr f11).tr f12
  rw [m_checkOf hN (mmbW hm g12) (by omega), bnd_some]
  refine MP.bnd_ (MP.four r12 (by simp [le_len]; omega) rfl) (fun c13 r13 f13 => ?_)
  have g13 := g12.tr f13
  rw [j_in_nI (show m < ln 218 from hm16) (by decide), cond_true, g13.1 _ _ (nw _ _ (by decide) (by decide)), h8]
  refine MP.bnd_ (MP.four r13 (by simp [le_len]; omega) (u32_n b8')) (fun c14 r14 f14 => ?_)
  have g14 := g13.tr f14
  rw [j_in_nI (show m < ln 206 from (by show m < 34; omega)) (by decide), cond_true, (mmbW hm g14).2.1.1]
  refine MP.bnd_ (MP.four r14 (by simp [le_len]; omega) (u32_n (by omega))) (fun c15 r15 f15 => ?_)
  rw [m_namedSize (mmbW hm (g14.tr f15)) (by omega), bnd_some]
  refine MP.bnd_ (MP.two r15 (by simp [le_len]; omega) (u32_n (by omega))) (fun c18 r18 f18 => ?_)
  have g18 := (g14.tr f15).tr f18
  obtain ⟨n, hn⟩ : ∃ n, N = n + 5 := ⟨N - 5, by omega⟩
  have run : MP (f_X12_writeEntry_100 N (nI m) (n + 5) c18 0) c18 (t ++ [80] ++ [75] ++ [1] ++ [2] ++ le 20 2 ++ le 20 2 ++ le 0 2 ++ le way 2 ++ le 0 2 ++ le 33 2 ++ le (u32 (crc x.2.1)) 4 ++ le size 4 ++ le x.2.1.length 4 ++ le (nmS x).length 2) (List.replicate 12 0 ++ (le hd 4 ++ nmS x)) := by
    rw [show List.replicate 12 0 ++ (le hd 4 ++ nmS x) = le 0 2 ++ (le 0 2 ++ (le 0 2 ++ (le 0 2 ++ (le 0 4 ++ (le hd 4 ++ nmS x))))) from rfl]
    rw [f_X12_writeEntry_100, if_neg (by decide)]
    refine MP.bnd_ (MP.two r18 (by simp [le_len]; omega) rfl) (fun c19 r19 f19 => ?_)
    rw [f_X12_writeEntry_100, if_neg (by decide)]
    refine MP.bnd_ (MP.two r19 (by simp [le_len]; omega) rfl) (fun c20 r20 f20 => ?_)
    rw [f_X12_writeEntry_100, if_neg (by decide)]
    refine MP.bnd_ (MP.two r20 (by simp [le_len]; omega) rfl) (fun c21 r21 f21 => ?_)
    rw [f_X12_writeEntry_100, if_neg (by decide)]
    refine MP.bnd_ (MP.two r21 (by simp [le_len]; omega) rfl) (fun c22 r22 f22 => ?_)
    rw [f_X12_writeEntry_100, if_pos (by decide)]
    refine MP.bnd_ (MP.four r22 (by simp [le_len]; omega) rfl) (fun c23 r23 f23 => ?_)
    have g23 := ((((g18.tr f19).tr f20).tr f21).tr f22).tr f23
    rw [j_in_nI (show m < ln 216 from hm16) (by decide), cond_true, nI_clamp (by omega), g23.1 _ _ (nw _ _ (by decide) (by decide)), h6]
    refine MP.bnd_ (MP.four r23 (by simp [le_len]; omega) (u32_n b6)) (fun c24 r24 f24 => ?_)
    exact MP.last_ (MP.name1 hN r24 (mmbW hm (g23.tr f24)) (by omega) (by simp [le_len]; omega))
  rw [← hn] at run
  exact run
theorem fl_take {pk : Bool} {ms : List Mb} {i : Nat} (h : i < ms.length) : ((ms.take (i + 1)).flatMap (lo2 pk)) = (ms.take i).flatMap (lo2 pk) ++ lo2 pk ms[i] := by
  rw [List.take_succ_eq_append_getElem h, List.flatMap_append]
  simp
theorem m_write2 {N : Nat} {c : hS} {ms : List Mb} {pk : Bool} (hN : 1000000 ≤ N) (h : mrw c 4 203 []) (hs : msh c 0 ms) (h7 : c.1 201 7 = nI ms.length) (h16 : ms.length ≤ 16) : ∃ c', f_X12_writeDirectory N c (bI pk) = some ((), c') ∧ mrw c' 4 203 (w2 pk ms) ∧ fm (fun o i => PK o i ∨ o = 215 ∨ (o = 201 ∧ i = 32) ∨ o = 216 ∨ o = 217 ∨ o = 218) c c' := by
  have ll : ∀ i (hi : i < ms.length), (lo2 pk ms[i]).length ≤ 925 := fun i hi => by
    have a := (hs i hi).1.2.2.1
    have b := (hs i hi).2.1.2.2.1
    have := nmS_len a
    have := dat_len (pk := pk) b
    rw [lo2_len]
    omega
  -- what entries need of the locals
  have LFn : ∀ {m o i : Nat}, LF m o i → PK o i ∨ o = 215 ∨ (o = 201 ∧ i = 32) ∨ ((o = 216 ∨ o = 217 ∨ o = 218) ∧ i = m) := fun z => z
  have PKn : ∀ {o i : Nat}, PK o i → o = 203 ∨ (o = 201 ∧ (i = 4 ∨ i = 30 ∨ i = 33 ∨ i = 34 ∨ i = 35)) ∨ o = 212 ∨ o = 213 := fun z => by unfold PK PQ at z; omega
  have ents_run : ∀ d n i c t, i + d = ms.length → d < n → msh c 0 ms → c.1 201 7 = nI ms.length → mrw c 4 203 t → t.length ≤ 925 * ms.length + 137 * i → (∀ j (hj : j < ms.length), c.1 216 j = nI ((ms.take j).flatMap (lo2 pk)).length ∧ c.1 217 j = nI (way2 pk ms[j]) ∧ c.1 218 j = nI (dat pk ms[j]).length) → (∀ j, j ≤ ms.length → ((ms.take j).flatMap (lo2 pk)).length ≤ 925 * j) → ((ms.flatMap (lo2 pk)).length + (ents pk ms 0).length = t.length + (ents pk (ms.drop i) ((ms.take i).flatMap (lo2 pk)).length).length) → MP (f_X12_writeDirectory_29 N (bI pk) n c (nI (ms.flatMap (lo2 pk)).length) (nI i)) c t (ents pk (ms.drop i) ((ms.take i).flatMap (lo2 pk)).length ++ end2 ms.length (ms.flatMap (lo2 pk)).length (ents pk ms 0).length) := by
    intro d
    induction d with
    | zero =>
      intro n i c t hi hn hs h7 h hl hv hb hsum
      obtain ⟨n, rfl⟩ : ∃ m, n = m + 1 := ⟨n - 1, by omega⟩
      have nw7 : ∀ {c1 c2 : hS}, fm W1 c1 c2 → c2.1 201 7 = c1.1 201 7 := fun f => f.1 _ _ (nW1 (by decide) (fun _ => by decide))
      have ml := hb ms.length (Nat.le_refl _)
      rw [List.take_length] at ml
      rw [List.drop_eq_nil_of_le (by omega)] at hsum ⊢
      have et : t.length = (ms.flatMap (lo2 pk)).length + (ents pk ms 0).length := by
        have : (ents pk [] ((ms.take i).flatMap (lo2 pk)).length).length = 0 := rfl
        omega
      rw [f_X12_writeDirectory_29, h7, if_pos (nI_le (by omega) (by omega))]
      show MP _ c t ([80] ++ ([75] ++ ([5] ++ ([6] ++ (le 0 2 ++ (le 0 2 ++ (le ms.length 2 ++ (le ms.length 2 ++ (le (ents pk ms 0).length 4 ++ (le (ms.flatMap (lo2 pk)).length 4 ++ le 0 2))))))))))
      refine MP.bnd_ (MP.put h (by omega) rfl) (fun c3 r3 f3 => ?_)
      refine MP.bnd_ (MP.put r3 (by simp; omega) rfl) (fun c4 r4 f4 => ?_)
      refine MP.bnd_ (MP.put r4 (by simp; omega) rfl) (fun c5 r5 f5 => ?_)
      refine MP.bnd_ (MP.put r5 (by simp; omega) rfl) (fun c6 r6 f6 => ?_)
      refine MP.bnd_ (MP.two r6 (by simp; omega) rfl) (fun c7 r7 f7 => ?_)
      refine MP.bnd_ (MP.two r7 (by simp [le_len]; omega) rfl) (fun c8 r8 f8 => ?_)
      have e8 : c8.1 201 7 = nI ms.length := by rw [nw7 f8, nw7 f7, nw7 f6, nw7 f5, nw7 f4, nw7 f3, h7]
      rw [e8]
      refine MP.bnd_ (MP.two r8 (by simp [le_len]; omega) (u32_n (by omega))) (fun c9 r9 f9 => ?_)
      rw [nw7 f9, e8]
      refine MP.bnd_ (MP.two r9 (by simp [le_len]; omega) (u32_n (by omega))) (fun c10 r10 f10 => ?_)
      refine MP.bnd_ (MP.four (v := (ents pk ms 0).length) r10 (by simp [le_len]; omega) ?_) (fun c11 r11 f11 => ?_)
      · rw [h.2.1, subI (by omega), show t.length - (ms.flatMap (lo2 pk)).length = (ents pk ms 0).length by omega]
        exact u32_n (by omega)
      refine MP.bnd_ (MP.four r11 (by simp [le_len]; omega) (u32_n (by omega))) (fun c12 r12 f12 => ?_)
      exact MP.last_ (MP.two r12 (by simp [le_len]; omega) rfl)
    | succ d ih =>
      intro n i c t hi hn hs h7 h hl hv hb hsum
      obtain ⟨n, rfl⟩ : ∃ m, n = m + 1 := ⟨n - 1, by omega⟩
      have hil : i < ms.length := by omega
      have hm := hs i hil
      rw [Nat.zero_add] at hm
      have nl := nmS_len hm.1.2.2.1
      obtain ⟨v6, v7, v8⟩ := hv i hil
      have bi := hb i (by omega)
      have dl := dat_len (pk := pk) hm.2.1.2.2.1
      have wl : way2 pk ms[i] ≤ 8 := by unfold way2; split <;> decide
      rw [f_X12_writeDirectory_29, h7, if_neg (nI_ge hil (by omega))]
      have ed : ents pk (ms.drop i) ((ms.take i).flatMap (lo2 pk)).length = ent ms[i] (way2 pk ms[i]) (dat pk ms[i]).length ((ms.take i).flatMap (lo2 pk)).length ++ ents pk (ms.drop (i + 1)) ((ms.take (i + 1)).flatMap (lo2 pk)).length := by
        rw [List.drop_eq_getElem_cons hil, fl_take hil, List.length_append]
        rfl
      rw [ed] at hsum ⊢
      rw [List.append_assoc]
      have el := ent_len ms[i] (way2 pk ms[i]) (dat pk ms[i]).length ((ms.take i).flatMap (lo2 pk)).length
      refine MP.bnd_ (m_entry hN h hm (by omega) (by omega) v6 v7 v8 (by omega) (by omega) (by omega)) (fun c12 r12 f12 => ?_)
      have nw : ∀ o i, o ≠ 203 → o ≠ 201 → ¬ W1 o i := fun o i a b => by unfold W1; omega
      rw [nI_1]
      refine ih n (i + 1) c12 _ (by omega) (by omega) (fun j hj => mmbW (hs j hj) f12) ((f12.1 _ _ (nW1 (by decide) (fun _ => by decide))).trans h7) r12 (by rw [List.length_append, el]; omega) (fun j hj => ?_) hb (by rw [List.length_append] at hsum ⊢; omega)
      rw [f12.1 _ _ (nw _ _ (by decide) (by decide)), f12.1 _ _ (nw _ _ (by decide) (by decide)), f12.1 _ _ (nw _ _ (by decide) (by decide))]
      exact hv j hj
  have hb : ∀ j, j ≤ ms.length → ((ms.take j).flatMap (lo2 pk)).length ≤ 925 * j := by
    intro j
    induction j with
    | zero => intro _; simp
    | succ j ih =>
      intro hj
      rw [fl_take (by omega), List.length_append]
      have := ih (by omega)
      have := ll j (by omega)
      omega
  have locs : ∀ d n i c, i + d = ms.length → d < n → msh c 0 ms → c.1 201 7 = nI ms.length → mrw c 4 203 ((ms.take i).flatMap (lo2 pk)) → (∀ j (hj : j < ms.length), j < i → c.1 216 j = nI ((ms.take j).flatMap (lo2 pk)).length ∧ c.1 217 j = nI (way2 pk ms[j]) ∧ c.1 218 j = nI (dat pk ms[j]).length) → ∃ c', f_X12_writeDirectory_2 N (bI pk) n c (nI i) = some ((), c') ∧ mrw c' 4 203 (w2 pk ms) ∧ fm (fun o i => PK o i ∨ o = 215 ∨ (o = 201 ∧ i = 32) ∨ o = 216 ∨ o = 217 ∨ o = 218) c c' := by
    intro d
    induction d with
    | zero =>
      intro n i c hi hn hs h7 h hv
      obtain ⟨n, rfl⟩ : ∃ m, n = m + 1 := ⟨n - 1, by omega⟩
      have ei : i = ms.length := by omega
      subst ei
      rw [List.take_length] at h
      have ml := hb ms.length (Nat.le_refl _)
      rw [List.take_length] at ml
      rw [f_X12_writeDirectory_2, h7, if_pos (nI_le (Nat.le_refl _) (by omega)), h.2.1]
      obtain ⟨c', e', r', f'⟩ := ents_run ms.length N 0 c _ (by omega) (by omega) hs h7 h (by omega) (fun j hj => hv j hj hj) hb (by simp)
      refine ⟨c', e', ?_, f'.mono (fun o i z => by unfold W1 at z; unfold PK PQ; omega)⟩
      unfold w2
      simpa using r'
    | succ d ih =>
      intro n i c hi hn hs h7 h hv
      obtain ⟨n, rfl⟩ : ∃ m, n = m + 1 := ⟨n - 1, by omega⟩
      have hil : i < ms.length := by omega
      have hm := hs i hil
      rw [Nat.zero_add] at hm
      have bi := hb i (by omega)
      obtain ⟨c1, e1, r1, v1, f1⟩ := m_local (pk := pk) hN h hm (by omega) (by omega)
      have f1' : fm (fun o j => o = 203 ∨ (o = 201 ∧ (j = 4 ∨ 30 ≤ j)) ∨ o = 212 ∨ o = 213 ∨ o = 215 ∨ ((o = 216 ∨ o = 217 ∨ o = 218) ∧ j = i)) c c1 := f1.mono (fun o j z => by
        rcases LFn z with q | q | q | q
        · have := PKn q; omega
        · omega
        · omega
        · omega)
      rw [← fl_take hil] at r1
      obtain ⟨c', e', r', f'⟩ := ih n (i + 1) c1 (by omega) (by omega) (fun j hj => (hs j hj).fm f1' (fun o k a b => by omega)) ((f1'.1 _ _ (by omega)).trans h7) r1 (fun j hj hji => by
        by_cases q : j = i
        · subst q; exact v1
        · rw [f1'.1 _ _ (by omega), f1'.1 _ _ (by omega), f1'.1 _ _ (by omega)]
          exact hv j hj (by omega))
      rw [f_X12_writeDirectory_2, h7, if_neg (nI_ge hil (by omega)), e1, bnd_some, nI_1]
      refine ⟨c', e', r', (f1.mono (fun o j z => ?_)).tr f'⟩
      rcases LFn z with q | q | q | q
      · exact Or.inl q
      · exact Or.inr (Or.inl q)
      · exact Or.inr (Or.inr (Or.inl q))
      · exact Or.inr (Or.inr (Or.inr (by omega)))
  exact locs ms.length N 0 c (by omega) (by omega) hs h7 h (fun j hj a => by omega)
theorem in_02 {w : Int32} : (decide ((0 : Int32) ≤ w) && decide (w ≤ 2)) = decide (w = 0 ∨ w = 1 ∨ w = 2) := by
  rcases i_cases w with q | ⟨k, hk, rfl⟩
  · rw [decide_eq_false (Int32.not_le.mpr q), Bool.false_and, eq_comm, decide_eq_false_iff_not]
    rintro (z | z | z) <;> (rw [z] at q; exact absurd q (by decide))
  · rw [decide_eq_true (Int32.not_lt.mp (nI_pos hk)), Bool.true_and]
    by_cases k2 : k ≤ 2
    · rw [decide_eq_true (show nI k ≤ 2 from nI_le (b := 2) k2 (by decide))]
      exact ((by decide : ∀ k, k ≤ 2 → true = decide (nI k = 0 ∨ nI k = 1 ∨ nI k = 2)) k k2)
    · rw [decide_eq_false (show ¬ nI k ≤ 2 from nI_ge (show 2 < k by omega) hk), eq_comm, decide_eq_false_iff_not]
      rintro (z | z | z)
      · have := (nI_eq hk (show 0 < 2 ^ 31 by decide)).mp z; omega
      · have := (nI_eq hk (show 1 < 2 ^ 31 by decide)).mp z; omega
      · have := (nI_eq hk (show 2 < 2 ^ 31 by decide)).mp z; omega
theorem m_write {N : Nat} {c : hS} {b t : List Nat} {ms : List Mb} {w : Int32} {pk : Bool} (hN : 1000000 ≤ N) (h : PM c b t ms) : MN (f_X12_write N c w (bI pk)) c (wrK w) (nI (wrT t ms w pk).length) b (wrT t ms w pk) ms := by
  obtain ⟨c1, e1, h1, z1, f1⟩ := m_zero h
  have h16 := h.2.2.2.1
  unfold f_X12_write wrK wrT
  rw [e1]
  dsimp only [st1]
  rw [m_in (a := 0) (b := 2) (a' := 0) (b' := 2) (by decide) (by decide), bnd_some, in_02]
  unfold f_X12_write_23
  by_cases o : w = 0 ∨ w = 1 ∨ w = 2
  · rw [decide_eq_true o, if_neg (by decide), if_pos o, m_ref0 z1, bnd_some, if_pos rfl]
    dsimp only [st1]
    have f2 : fm (fun o i => o = 201 ∧ i = 4) c1 (sI c1 201 4 0) := fm.sI ⟨rfl, rfl⟩
    have t2 : mrw (sI c1 201 4 0) 4 203 [] := ⟨Nat.zero_le _, sI_s _ _ _ _, fun i hi => absurd hi (Nat.not_lt_zero i), fun x hx => by cases hx⟩
    have h2 := h1.tp f2 (fun o i z => by omega) t2
    have z2 : (sI c1 201 4 0).1 201 0 = 0 := (f2.1 _ _ (by omega)).trans z1
    have fz : fm (fun o _ => 201 ≤ o ∧ o < 219) c (sI c1 201 4 0) := f1.tr (f2.mono (fun o i z => by omega))
    revert h2 z2 fz t2
    generalize sI c1 201 4 0 = c2
    intro t2 h2 z2 fz
    by_cases w0 : w = 0
    · rw [if_pos w0, if_pos w0]
      have key : ∀ d n i c t', i + d = ms.length → d < n → PM c b t' ms → c.1 201 0 = 0 → t'.length ≤ 1024 * i → t'.length % 512 = 0 → ∃ c', f_X12_write_43 N w (bI pk) n c (nI i) = some (nI (t' ++ ((ms.drop i).flatMap out0 ++ List.replicate 1024 0)).length, c') ∧ c'.1 201 0 = 0 ∧ PM c' b (t' ++ ((ms.drop i).flatMap out0 ++ List.replicate 1024 0)) ms ∧ fm (fun o _ => 201 ≤ o ∧ o < 219) c c' := by
        intro d
        induction d with
        | zero =>
          intro n i c t' hi hn hc hz hl hm
          obtain ⟨n, rfl⟩ : ∃ m, n = m + 1 := ⟨n - 1, by omega⟩
          obtain ⟨c3, e3, r3, f3⟩ := MP.zeros (m := 1024) (x := nI t'.length + 1024) hN hc.2.1 (by omega) (nI_add _ 1024)
          rw [f_X12_write_43, hc.2.2.1, if_pos (nI_le (by omega) (by omega)), hc.2.1.2.1, e3, bnd_some, List.drop_eq_nil_of_le (by omega), r3.2.1]
          refine ⟨c3, rfl, (f3.1 _ _ (nW1 (by decide) (fun _ => by decide))).trans hz, hc.tp f3 (fun o i z => by unfold W1 at z; omega) r3, f3.mono (fun o i z => by unfold W1 at z; omega)⟩
        | succ d ih =>
          intro n i c t' hi hn hc hz hl hm
          obtain ⟨n, rfl⟩ : ∃ m, n = m + 1 := ⟨n - 1, by omega⟩
          have hil : i < ms.length := by omega
          have hmi := hc.2.2.2.2.1 i hil
          rw [Nat.zero_add] at hmi
          have ol := out0_len hmi.1.2.2.1 hmi.2.1.2.2.1
          have om := out0_md hmi.1.2.2.1 hmi.2.1.2.2.1
          obtain ⟨c3, e3, r3, f3⟩ := m_writeBlock hN hc.2.1 hmi (by omega) (by omega) hm
          obtain ⟨c', a1, a2, a3, a4⟩ := ih n (i + 1) c3 _ (by omega) (by omega) (hc.tp f3 (fun o i z => by unfold W1 at z; omega) r3) ((f3.1 _ _ (nW1 (by decide) (fun _ => by decide))).trans hz) (by rw [List.length_append]; omega) (by rw [List.length_append]; omega)
          rw [f_X12_write_43, hc.2.2.1, if_neg (nI_ge hil (by omega)), e3, bnd_some, nI_1, a1]
          have ea : t' ++ out0 ms[i] ++ ((ms.drop (i + 1)).flatMap out0 ++ List.replicate 1024 0) = t' ++ ((ms.drop i).flatMap out0 ++ List.replicate 1024 0) := by
            rw [List.drop_eq_getElem_cons hil, List.flatMap_cons]
            simp only [List.append_assoc]
          rw [ea] at a3 ⊢
          exact ⟨c', rfl, a2, a3, (f3.mono (fun o i z => by unfold W1 at z; omega)).tr a4⟩
      obtain ⟨c', a1, a2, a3, a4⟩ := key ms.length N 0 c2 [] (by omega) (by omega) h2 z2 (by simp) rfl
      exact ⟨_, c', a1, a2, fun _ => rfl, a3, fz.tr a4⟩
    · rw [if_neg w0, if_neg w0]
      by_cases w1' : w = 1
      · rw [if_pos w1', if_pos w1']
        obtain ⟨c3, e3, r3, f3⟩ := m_write1 hN t2 h2.2.2.2.2.1 h2.2.2.1 h16
        rw [List.nil_append] at r3
        rw [e3, bnd_some, r3.2.1]
        exact ⟨_, c3, rfl, (f3.1 _ _ (nW1 (by decide) (fun _ => by decide))).trans z2, fun _ => rfl, h2.tp f3 (fun o i z => by unfold W1 at z; omega) r3, fz.tr (f3.mono (fun o i z => by unfold W1 at z; omega))⟩
      · have w2' : w = 2 := by rcases o with q | q | q; exact absurd q w0; exact absurd q w1'; exact q
        rw [if_neg w1', if_neg w1', if_pos w2']
        obtain ⟨c3, e3, r3, f3⟩ := m_write2 (pk := pk) hN t2 h2.2.2.2.2.1 h2.2.2.1 h16
        have f3' : fm (fun o i => o = 203 ∨ (o = 201 ∧ (i = 4 ∨ 30 ≤ i)) ∨ (208 < o ∧ o < 219)) c2 c3 := f3.mono (fun o i z => by unfold PK PQ at z; omega)
        rw [e3, bnd_some, r3.2.1]
        exact ⟨_, c3, rfl, (f3'.1 _ _ (by omega)).trans z2, fun _ => rfl, h2.tp f3' (fun o i z => by omega) r3, fz.tr (f3'.mono (fun o i z => by omega))⟩
  · have o0 : ¬ w = 0 := fun z => o (Or.inl z)
    have o1 : ¬ w = 1 := fun z => o (Or.inr (Or.inl z))
    have o2 : ¬ w = 2 := fun z => o (Or.inr (Or.inr z))
    rw [decide_eq_false o, if_pos (show bI false = 0 from rfl), if_neg o, if_neg o0, if_neg o1, if_neg o2, m_ref1 z1 (by decide), bnd_some, if_neg (by decide)]
    exact m_no h1 f1 (by decide) rfl
end
section
/-! PURE: the reference: bits and symbols -/
noncomputable def UB (c : hS) (t : List Nat) (b e : Nat) : Prop := mrw c 4 203 t ∧ c.1 201 25 = nI b ∧ c.1 201 26 = nI e ∧ b ≤ e ∧ e ≤ 8 * t.length ∧ c.1 201 5 = 0
theorem UB.fm' {P : Nat → Nat → Prop} {c c1 : hS} {t : List Nat} {b e : Nat} (h : UB c t b e) (hf : fm P c c1) (hP : ∀ o i, P o i → o ≠ 203 ∧ (o = 201 → i ≠ 4 ∧ i ≠ 5 ∧ i ≠ 25 ∧ i ≠ 26)) : UB c1 t b e := by
  have n : ∀ i, (i = 4 ∨ i = 5 ∨ i = 25 ∨ i = 26) → ¬ P 201 i := fun i q z => by have := (hP _ _ z).2 rfl; omega
  exact ⟨h.1.fm hf (n _ (by omega)) (fun i z => (hP _ _ z).1 rfl), (hf.1 _ _ (n _ (by omega))).trans h.2.1, (hf.1 _ _ (n _ (by omega))).trans h.2.2.1, h.2.2.2.1, h.2.2.2.2.1, (hf.1 _ _ (n _ (by omega))).trans h.2.2.2.2.2⟩
theorem UB.e {c : hS} {t : List Nat} {b e : Nat} (h : UB c t b e) : e ≤ 160000 := by
  have h1 : t.length ≤ 20000 := h.1.1
  have := h.2.2.2.2.1
  omega
theorem UB.mv {c : hS} {t : List Nat} {b e b' : Nat} (h : UB c t b e) (hb : b' ≤ e) : UB (sI c 201 25 (nI b')) t b' e := by
  have f : fm (fun o i => o = 201 ∧ i = 25) c (sI c 201 25 (nI b')) := fm.sI ⟨rfl, rfl⟩
  exact ⟨h.1.fm f (by omega) (fun i => by omega), sI_s _ _ _ _, (f.1 _ _ (by omega)).trans h.2.2.1, hb, h.2.2.2.2.1, (f.1 _ _ (by omega)).trans h.2.2.2.2.2⟩
noncomputable def F25 (o i : Nat) : Prop := o = 201 ∧ i = 25
noncomputable def F56 (o i : Nat) : Prop := o = 201 ∧ (i = 5 ∨ i = 6 ∨ i = 25)
theorem F25_56 {o i : Nat} (h : F25 o i) : F56 o i := by unfold F25 at h; unfold F56; omega
theorem m_fails {c : hS} {a p : Int32} (h : c.1 201 5 = 0) (ha : a ≠ 0) : ∃ c', f_X12_fails c a p = some (0, c') ∧ c'.1 201 5 ≠ 0 ∧ fm (fun o i => o = 201 ∧ (i = 5 ∨ i = 6)) c c' := by
  unfold f_X12_fails
  rw [if_pos h]
  dsimp only [st1]
  exact ⟨_, rfl, by rw [sI_j (by decide), sI_s]; exact ha, (fm.sI (by omega)).tr (fm.sI (by omega))⟩
theorem m_failsX {c : hS} {a p : Int32} : ∃ c', f_X12_fails c a p = some (0, c') ∧ fm (fun o i => o = 201 ∧ (i = 5 ∨ i = 6)) c c' := by
  unfold f_X12_fails
  by_cases h : c.1 201 5 = 0
  · rw [if_pos h]
    exact ⟨_, rfl, (fm.sI (by omega)).tr (fm.sI (by omega))⟩
  · rw [if_neg h]
    exact ⟨_, rfl, fm.rf⟩
theorem m_bit {c : hS} {t : List Nat} {b e : Nat} (h : UB c t b e) (hb : b < e) : f_X12_bit c = some (nI (bt8 t b), sI c 201 25 (nI (b + 1))) := by
  have he := h.e
  have h1 : t.length ≤ 20000 := h.1.1
  have h2 := h.2.2.2.2.1
  have hg := h.1.2.2.2.gt (b / 8)
  unfold f_X12_bit
  rw [h.2.1, h.2.2.1, if_pos (nI_lt hb (by omega)), show nI b / 8 = nI (b / 8) from div_nI (b := 8) (by omega) (by decide), j_in_nI (show b / 8 < ln 203 from (by show b / 8 < 20000; omega)) (by decide), cond_true, nI_clamp (by omega), h.1.2.2.1 _ (by omega), show j_rem (nI b) 8 = nI (b % 8) from j_rem_nI (b := 8) (by omega) (by decide) (by decide), shr_nI (by omega) (by omega), and1, nI_1]
  rfl
theorem m_bit_no {c : hS} {t : List Nat} {b e : Nat} (h : UB c t b e) (hb : e ≤ b) : ∃ c', f_X12_bit c = some (0, c') ∧ c'.1 201 5 ≠ 0 ∧ fm (fun o i => o = 201 ∧ (i = 5 ∨ i = 6)) c c' := by
  have he := h.e
  have := h.2.2.2.1
  unfold f_X12_bit
  rw [h.2.1, h.2.2.1, if_neg (nI_nlt hb (by omega))]
  obtain ⟨c', e1, v1, f1⟩ := m_fails (c := c) (a := 20) (p := nI e / 8) h.2.2.2.2.2 (by decide)
  rw [e1, bnd_some]
  exact ⟨c', rfl, v1, f1⟩
theorem or_bit {h b k : Nat} (hh : h < 2 ^ k) (hk : k < 32) : nI h ||| j_shl (nI b) (nI k) = nI (h + b * 2 ^ k) := by
  rw [shl_nI b hk]
  apply Int32.toBitVec_inj.1
  show BitVec.ofNat 32 h ||| BitVec.ofNat 32 (b * 2 ^ k) = BitVec.ofNat 32 (h + b * 2 ^ k)
  rw [show h + b * 2 ^ k = h ||| b * 2 ^ k from by rw [Nat.add_comm, Nat.mul_comm, Nat.two_pow_add_eq_or_of_lt hh, Nat.or_comm]]
  apply BitVec.eq_of_getLsbD_eq
  intro i hi
  simp [hi]
theorem m_bits {N : Nat} {c : hS} {t : List Nat} {b e n : Nat} {p : Int32} (hN : 1000000 ≤ N) (h : UB c t b e) (hb : b + n ≤ e) (hn : n ≤ 16) (hp : p = nI n) : ∃ c', f_X12_bits N c p = some (nI (bv t b n), c') ∧ UB c' t (b + n) e ∧ fm F25 c c' := by
  subst hp
  have key : ∀ d m k c, k + d = n → d < m → UB c t (b + k) e → ∃ c', f_X12_bits_4 N (nI n) m c (nI (bv t b k)) (nI k) = some (nI (bv t b n), c') ∧ UB c' t (b + n) e ∧ fm F25 c c' := by
    intro d
    induction d with
    | zero =>
      intro m k c hk hm h
      obtain ⟨m, rfl⟩ : ∃ j, m = j + 1 := ⟨m - 1, by omega⟩
      have : k = n := by omega
      subst this
      rw [f_X12_bits_4, if_pos (nI_le (Nat.le_refl _) (by omega))]
      exact ⟨c, rfl, h, fm.rf⟩
    | succ d ih =>
      intro m k c hk hm h
      obtain ⟨m, rfl⟩ : ∃ j, m = j + 1 := ⟨m - 1, by omega⟩
      obtain ⟨c', a1, a2, a3⟩ := ih m (k + 1) _ (by omega) (by omega) (h.mv (b' := b + (k + 1)) (by omega))
      rw [f_X12_bits_4, if_neg (nI_ge (by omega) (by omega)), if_pos h.2.2.2.2.2, m_bit h (by omega), bnd_some, or_bit (bv_lt t b k) (by omega), nI_1]
      exact ⟨c', a1, a2, (fm.sI ⟨rfl, rfl⟩).tr a3⟩
  exact key n N 0 c (by omega) (by omega) h
theorem m_bits_no {N : Nat} {c : hS} {t : List Nat} {b e n : Nat} {p : Int32} (hN : 1000000 ≤ N) (h : UB c t b e) (hb : e < b + n) (hn : n ≤ 16) (hp : p = nI n) : ∃ x c', f_X12_bits N c p = some (x, c') ∧ c'.1 201 5 ≠ 0 ∧ fm F56 c c' := by
  subst hp
  have key : ∀ d m k c (x : Int32), k + d = n → d + 1 < m → UB c t (b + k) e → ∃ x' c', f_X12_bits_4 N (nI n) m c x (nI k) = some (x', c') ∧ c'.1 201 5 ≠ 0 ∧ fm F56 c c' := by
    intro d
    induction d with
    | zero =>
      intro m k c x hk hm h
      have := h.2.2.2.1
      omega
    | succ d ih =>
      intro m k c x hk hm h
      obtain ⟨m, rfl⟩ : ∃ j, m = j + 2 := ⟨m - 2, by omega⟩
      rw [f_X12_bits_4, if_neg (nI_ge (by omega) (by omega)), if_pos h.2.2.2.2.2]
      by_cases q : b + k < e
      · rw [m_bit h q, bnd_some, nI_1]
        obtain ⟨x', c', a1, a2, a3⟩ := ih (m + 1) (k + 1) _ (x ||| j_shl (nI (bt8 t (b + k))) (nI k)) (by omega) (by omega) (h.mv (b' := b + (k + 1)) (by omega))
        exact ⟨x', c', a1, a2, (fm.sI ⟨rfl, by omega⟩).tr a3⟩
      · obtain ⟨c', a1, a2, a3⟩ := m_bit_no h (by omega)
        rw [a1, bnd_some, nI_1, f_X12_bits_4]
        by_cases w : nI n ≤ nI (k + 1)
        · rw [if_pos w]
          exact ⟨_, c', rfl, a2, a3.mono (fun o i z => by unfold F56; omega)⟩
        · rw [if_neg w, if_neg a2]
          exact ⟨_, c', rfl, a2, a3.mono (fun o i z => by unfold F56; omega)⟩
  exact key n N 0 c 0 (by omega) (by omega) h
theorem m_bits_x {N : Nat} {c : hS} {p : Int32} (hN : 1000000 ≤ N) (h : c.1 201 5 ≠ 0) : f_X12_bits N c p = some (0, c) := by
  obtain ⟨n, rfl⟩ : ∃ n, N = n + 1 := ⟨N - 1, by omega⟩
  unfold f_X12_bits
  rw [f_X12_bits_4]
  by_cases q : p ≤ 0
  · rw [if_pos q]
  · rw [if_neg q, if_neg h]
/-! codes: the longest, how full -/
theorem cnt_pos {lens : List Nat} {l : Nat} : 0 < cnt lens l ↔ ∃ i, i < lens.length ∧ gt lens i = l := by
  unfold cnt cntN idxN
  rw [List.length_pos_iff_exists_mem]
  constructor
  · rintro ⟨i, hi⟩
    rw [List.mem_filter, List.mem_range] at hi
    exact ⟨i, hi.1, of_decide_eq_true hi.2⟩
  · rintro ⟨i, h1, h2⟩
    exact ⟨i, by rw [List.mem_filter, List.mem_range]; exact ⟨h1, decide_eq_true h2⟩⟩
theorem mxN_is {lens : List Nat} {v : Nat} (h1 : ∀ i, i < lens.length → gt lens i ≤ v) (h2 : v = 0 ∨ ∃ i, i < lens.length ∧ gt lens i = v) : ∀ L, v ≤ L → mxN lens L = v
  | 0, h => by show 0 = v; omega
  | L + 1, h => by
    unfold mxN
    by_cases q : v = L + 1
    · rcases h2 with z | z
      · omega
      · rw [if_pos (cnt_pos.mpr (by rw [← q]; exact z)), q]
    · rw [if_neg (fun z => by obtain ⟨i, a, b⟩ := cnt_pos.mp z; have := h1 i a; omega)]
      exact mxN_is h1 h2 L (by omega)
theorem mxN_top {lens : List Nat} : ∀ L k, mxN lens L < k → k ≤ L → cnt lens k = 0
  | 0, k, h, hk => by have : mxN lens 0 = 0 := rfl; omega
  | L + 1, k, h, hk => by
    unfold mxN at h
    by_cases q : 0 < cnt lens (L + 1)
    · rw [if_pos q] at h; omega
    · rw [if_neg q] at h
      by_cases w : k = L + 1
      · rw [w]; omega
      · exact mxN_top L k h (by omega)
theorem ful_top {lens : List Nat} {l : Nat} (h : mxN lens 15 ≤ l) : ∀ d, l + d ≤ 15 → ful lens (l + d) = ful lens l
  | 0, _ => rfl
  | d + 1, hd => by
    have h0 := mxN_top (lens := lens) 15 (l + d + 1) (by omega) (by omega)
    show ful lens (l + d) + cnt lens (l + d + 1) * 2 ^ (15 - (l + d + 1)) = _
    rw [h0, Nat.zero_mul, Nat.add_zero]
    exact ful_top h d (by omega)
theorem ful_fc {lens : List Nat} : ∀ l, l + 1 ≤ 15 → ful lens (l + 1) = (fc lens (l + 1) + cnt lens (l + 1)) * 2 ^ (15 - (l + 1))
  | 0, _ => by
    show ful lens 0 + cnt lens 1 * 2 ^ (15 - 1) = (0 + cnt lens 1) * 2 ^ (15 - 1)
    rw [Nat.zero_add]
    exact Nat.zero_add _
  | l + 1, h => by
    have ih := ful_fc (lens := lens) l (by omega)
    show ful lens (l + 1) + cnt lens (l + 1 + 1) * 2 ^ (15 - (l + 1 + 1)) = _
    have hp : 2 ^ (15 - (l + 1)) = 2 * 2 ^ (15 - (l + 1 + 1)) := by rw [← Nat.pow_succ']; congr 1; omega
    have fcs := fc_s (lens := lens) (l := l + 1) (by omega)
    rw [ih, fcs, Nat.add_mul (2 * (fc lens (l + 1) + cnt lens (l + 1))), hp, Nat.mul_comm 2 (fc lens (l + 1) + cnt lens (l + 1)), Nat.mul_assoc]
theorem m_symbol {N base : Nat} {c : hS} {t lens : List Nat} {b e : Nat} {p1 p2 : Int32} (hN : 1000000 ≤ N) (h : UB c t b e) (hc : mcd c base lens) (hl : lens.length ≤ 320) (h1 : p1 = nI base) (h2 : p2 = nI lens.length) : ∃ x c', f_X12_symbol N c p1 p2 = some (x, c') ∧ (match dec t e lens b with
    | some q => x = nI q.1 ∧ UB c' t q.2 e ∧ fm F25 c c'
    | none => ((x = -1 ∧ c'.1 201 5 ≠ 0) ∨ (x = -2 ∧ c'.1 201 5 = 0 ∧ ful lens 15 ≠ 32768)) ∧ fm F56 c c') := by
  subst h1 h2
  have hb := hc.1.1
  -- the search
  have srch : ∀ d m l k i c v3 (k48 : hS → Int32 → Int32 → Int32 → Option (Int32 × hS)), i + d = lens.length → d < m → 1 ≤ l → l < 16 → k < 2 ^ 20 → mcd c base lens → cntN lens l i ≤ k → f_X12_symbol_83 N (nI base) (nI lens.length) k48 m c v3 (nI (fc lens l + k)) (nI l) (nI (base + i)) = if k < cnt lens l then some (nI (sy lens l k), c) else k48 c v3 (nI (fc lens l + k)) (nI l + 1) := by
    intro d
    induction d with
    | zero =>
      intro m l k i c v3 k48 hi hm hl1 hl2 hk hc hcn
      obtain ⟨m, rfl⟩ : ∃ j, m = j + 1 := ⟨m - 1, by omega⟩
      have : i = lens.length := by omega
      subst this
      rw [f_X12_symbol_83, nI_add, if_pos (nI_le (Nat.le_refl _) (by omega)), if_neg (by unfold cnt; omega)]
    | succ d ih =>
      intro m l k i c v3 k48 hi hm hl1 hl2 hk hc hcn
      obtain ⟨m, rfl⟩ : ∃ j, m = j + 1 := ⟨m - 1, by omega⟩
      have hil : i < lens.length := by omega
      obtain ⟨v1, v2⟩ := hc.1.2 i hil
      have cs := cntN_s lens l i
      have fl := fc_lt (l := l) hl hl2
      have cm := cntN_le lens l i
      rw [f_X12_symbol_83, nI_add, if_neg (nI_ge (by omega) (by omega)), j_in_nI (show base + i < ln 212 from (by show base + i < 360; omega)) (by decide), cond_true, nI_clamp (by omega), v1, nI_1]
      by_cases q : gt lens i = l
      · rw [if_pos q] at cs
        rw [if_pos (by rw [q]), j_in_nI (show base + i < ln 213 from (by show base + i < 360; omega)) (by decide), cond_true, hc.2 i hil (by omega)]
        unfold cod
        rw [q]
        by_cases w : cntN lens l i = k
        · have in_ : k < cnt lens l := by
            have := cntN_mono lens l (show i + 1 ≤ lens.length by omega)
            unfold cnt
            omega
          rw [if_pos (by rw [w]), if_pos in_, subI (by omega), Nat.add_sub_cancel_left, ← w, sy_at hil q]
        · rw [if_neg (fun z => w (by have := (nI_eq (by omega) (by omega)).mp z; omega))]
          exact ih m l k (i + 1) c v3 k48 (by omega) (by omega) hl1 hl2 hk hc (by omega)
      · rw [if_neg q, Nat.add_zero] at cs
        rw [if_neg (fun z => q ((nI_eq (by omega) (by omega)).mp z))]
        exact ih m l k (i + 1) c v3 k48 (by omega) (by omega) hl1 hl2 hk hc (by omega)
  -- by lengths
  have lns : ∀ r m l code b c, l + r = 16 → 1 ≤ l → r < m → (l ≤ mxN lens 15 ∨ l = 1) → fc lens l ≤ 2 * code → code < 2 ^ (l - 1) → mcd c base lens → UB c t b e → ∃ x c', f_X12_symbol_48 N (nI base) (nI lens.length) m c (nI (mxN lens 15)) (nI code) (nI l) = some (x, c') ∧ (match dcd t e lens r l code (fc lens l) b with
      | some q => x = nI q.1 ∧ UB c' t q.2 e ∧ fm F25 c c'
      | none => ((x = -1 ∧ c'.1 201 5 ≠ 0) ∨ (x = -2 ∧ c'.1 201 5 = 0 ∧ ful lens 15 ≠ 32768)) ∧ fm F56 c c') := by
    have mx15 : mxN lens 15 ≤ 15 := by
      have : ∀ L, mxN lens L ≤ L := fun L => by
        induction L with
        | zero => exact Nat.le_refl _
        | succ L ih => unfold mxN; split <;> omega
      exact this 15
    intro r
    induction r with
    | zero =>
      intro m l code b c hr h1 hm hcond
      omega
    | succ r ih =>
      intro m l code b c hr h1 hm hcond hfc hcode hc hu
      obtain ⟨m, rfl⟩ : ∃ j, m = j + 1 := ⟨m - 1, by omega⟩
      have hp2 : 2 ^ (l - 1) ≤ 2 ^ 14 := Nat.pow_le_pow_right (by decide) (by omega)
      have e60 : f_X12_symbol_48 N (nI base) (nI lens.length) (m + 1) c (nI (mxN lens 15)) (nI code) (nI l) = f_X12_symbol_60 N (nI base) (nI lens.length) (f_X12_symbol_48 N (nI base) (nI lens.length) m) c (nI (mxN lens 15)) (nI code) (nI l) := by
        rw [f_X12_symbol_48]
        by_cases q : l ≤ mxN lens 15
        · rw [if_pos (nI_le q (by omega))]
        · have l1 : l = 1 := by omega
          rw [if_neg (nI_ge (by omega) (by omega)), if_pos (show nI l = 1 by rw [l1]; rfl)]
      rw [e60]
      unfold f_X12_symbol_60 dcd
      by_cases q : e ≤ b
      · obtain ⟨c', a1, a2, a3⟩ := m_bit_no hu q
        rw [if_pos q, a1, bnd_some, if_neg a2]
        exact ⟨-1, c', rfl, Or.inl ⟨rfl, a2⟩, a3.mono (fun o i z => by unfold F56; omega)⟩
      · have f1 : fm F25 c (sI c 201 25 (nI (b + 1))) := fm.sI ⟨rfl, rfl⟩
        have u1 := hu.mv (b' := b + 1) (by omega)
        have c1 : mcd (sI c 201 25 (nI (b + 1))) base lens := mcd_fm hc f1 (fun o i z => by unfold F25 at z; omega)
        have hbit := bt8_lt t b
        have fl := fc_lt (l := l) hl (by omega)
        rw [if_neg q, m_bit hu (by omega), bnd_some, if_pos u1.2.2.2.2.2, Int32.or_comm, show j_shl (nI code) 1 = j_shl (nI code) (nI 1) from rfl, or_bit (h := bt8 t b) (b := code) (k := 1) (by omega) (by decide), show bt8 t b + code * 2 ^ 1 = fc lens l + (2 * code + bt8 t b - fc lens l) by omega]
        have es := srch lens.length N l (2 * code + bt8 t b - fc lens l) 0 (sI c 201 25 (nI (b + 1))) (nI (mxN lens 15)) (f_X12_symbol_48 N (nI base) (nI lens.length) m) (by omega) (by omega) h1 (by omega) (by omega) c1 (by show 0 ≤ _; exact Nat.zero_le _)
        have es' : f_X12_symbol_83 N (nI base) (nI lens.length) (f_X12_symbol_48 N (nI base) (nI lens.length) m) N (sI c 201 25 (nI (b + 1))) (nI (mxN lens 15)) (nI (fc lens l + (2 * code + bt8 t b - fc lens l))) (nI l) (nI base) = _ := es
        rw [es']
        by_cases w : 2 * code + bt8 t b < fc lens l + cnt lens l
        · rw [if_pos (by omega), if_pos w]
          exact ⟨_, _, rfl, rfl, u1, f1⟩
        · rw [if_neg (by omega), if_neg w, nI_1, show fc lens l + (2 * code + bt8 t b - fc lens l) = 2 * code + bt8 t b by omega]
          have pw : 2 ^ l = 2 * 2 ^ (l - 1) := by rw [← Nat.pow_succ']; congr 1; omega
          by_cases z : mxN lens 15 ≤ l
          · rw [if_pos z]
            obtain ⟨m, rfl⟩ : ∃ j, m = j + 1 := ⟨m - 1, by omega⟩
            rw [f_X12_symbol_48, if_neg (nI_ge (by omega) (by omega)), if_neg (show ¬ nI (l + 1) = 1 from fun y => by have := (nI_eq (b := 1) (by omega) (by decide)).mp y; omega)]
            refine ⟨-2, _, rfl, Or.inr ⟨rfl, u1.2.2.2.2.2, fun y => ?_⟩, f1.mono (fun o i z => F25_56 z)⟩
            have t1 := ful_top z (15 - l) (by omega)
            rw [show l + (15 - l) = 15 by omega] at t1
            have t2 := ful_fc (lens := lens) (l - 1) (by omega)
            rw [show l - 1 + 1 = l by omega] at t2
            have t3 : (fc lens l + cnt lens l) * 2 ^ (15 - l) < 2 ^ l * 2 ^ (15 - l) := Nat.mul_lt_mul_of_pos_right (by omega) (Nat.pow_pos (by decide))
            rw [← Nat.pow_add, show l + (15 - l) = 15 by omega] at t3
            rw [t1, t2] at y
            rw [y] at t3
            exact absurd t3 (by decide)
          · rw [if_neg z]
            have := ih m (l + 1) (2 * code + bt8 t b) (b + 1) _ (by omega) (by omega) (by omega) (Or.inl (by omega)) (by rw [fc_s h1]; omega) (by rw [Nat.add_sub_cancel, pw]; omega) c1 u1
            rw [fc_s h1] at this
            obtain ⟨x, c', a1, a2⟩ := this
            refine ⟨x, c', a1, ?_⟩
            revert a2
            cases dcd t e lens r (l + 1) (2 * code + bt8 t b) (2 * (fc lens l + cnt lens l)) (b + 1) with
            | none => exact fun a2 => ⟨a2.1, (f1.mono (fun o i z => F25_56 z)).tr a2.2⟩
            | some q => exact fun a2 => ⟨a2.1, a2.2.1, f1.tr a2.2.2⟩
  -- the longest
  have lon : ∀ d m i v, i + d = lens.length → d < m → v < 16 → (∀ k, k < i → gt lens k ≤ v) → (v = 0 ∨ ∃ k, k < lens.length ∧ gt lens k = v) → f_X12_symbol_5 N (nI base) (nI lens.length) m c (nI v) (nI (base + i)) = f_X12_symbol_48 N (nI base) (nI lens.length) N c (nI (mxN lens 15)) 0 1 := by
    intro d
    induction d with
    | zero =>
      intro m i v hi hm hv g1 g2
      obtain ⟨m, rfl⟩ : ∃ j, m = j + 1 := ⟨m - 1, by omega⟩
      have : i = lens.length := by omega
      subst this
      rw [f_X12_symbol_5, nI_add, if_pos (nI_le (Nat.le_refl _) (by omega)), mxN_is g1 g2 15 (by omega)]
    | succ d ih =>
      intro m i v hi hm hv g1 g2
      obtain ⟨m, rfl⟩ : ∃ j, m = j + 1 := ⟨m - 1, by omega⟩
      have hil : i < lens.length := by omega
      obtain ⟨v1, v2⟩ := hc.1.2 i hil
      rw [f_X12_symbol_5, nI_add, if_neg (nI_ge (by omega) (by omega)), j_in_nI (show base + i < ln 212 from (by show base + i < 360; omega)) (by decide), cond_true, cond_true, nI_clamp (by omega), v1, nI_1]
      by_cases q : gt lens i ≤ v
      · rw [if_pos (nI_le q (by omega))]
        exact ih m (i + 1) v (by omega) (by omega) hv (fun k hk => by
          by_cases w : k = i
          · rw [w]; exact q
          · exact g1 k (by omega)) g2
      · rw [if_neg (nI_ge (by omega) (by omega))]
        exact ih m (i + 1) (gt lens i) (by omega) (by omega) v2 (fun k hk => by
          by_cases w : k = i
          · rw [w]; exact Nat.le_refl _
          · have := g1 k (by omega); omega) (Or.inr ⟨i, hil, rfl⟩)
  unfold f_X12_symbol dec
  have e0 := lon lens.length N 0 0 (by omega) (by omega) (by decide) (fun k hk => by omega) (Or.inl rfl)
  have e0' : f_X12_symbol_5 N (nI base) (nI lens.length) N c 0 (nI base) = _ := e0
  rw [e0']
  exact lns 15 N 1 0 b c (by omega) (by omega) (by omega) (Or.inr rfl) (Nat.zero_le _) (by decide) hc h
end
section
/-! PURE: the reference: rows of lengths -/
theorem idx_pad {l : List Nat} {k m : Nat} (hm : 1 ≤ m) : ∀ j, j ≤ k → idxN (l ++ List.replicate k 0) m (l.length + j) = idxN l m l.length
  | 0, _ => by
    unfold idxN
    rw [Nat.add_zero]
    apply List.filter_congr
    intro x hx
    rw [List.mem_range] at hx
    rw [gt_app_l hx]
  | j + 1, hj => by
    rw [← Nat.add_assoc, idxN_s, idx_pad hm j (by omega), gt_app_r (by omega), Nat.add_sub_cancel_left, gt_rep, if_neg (by split <;> omega), List.append_nil]
theorem cnt_pad {l : List Nat} {k m : Nat} (hm : 1 ≤ m) : cnt (l ++ List.replicate k 0) m = cnt l m := by
  unfold cnt cntN
  rw [List.length_append, List.length_replicate, idx_pad hm k (Nat.le_refl _)]
theorem sy_pad {l : List Nat} {k m i : Nat} (hm : 1 ≤ m) : sy (l ++ List.replicate k 0) m i = sy l m i := by
  unfold sy
  rw [List.length_append, List.length_replicate, idx_pad hm k (Nat.le_refl _)]
theorem mxN_pad {l : List Nat} {k : Nat} : ∀ L, mxN (l ++ List.replicate k 0) L = mxN l L
  | 0 => rfl
  | L + 1 => by
    unfold mxN
    rw [cnt_pad (by omega), mxN_pad L]
theorem ful_pad {l : List Nat} {k : Nat} : ∀ L, ful (l ++ List.replicate k 0) L = ful l L
  | 0 => rfl
  | L + 1 => by
    unfold ful
    rw [cnt_pad (by omega), ful_pad L]
theorem off_pad {l : List Nat} {k : Nat} : ∀ L, off (l ++ List.replicate k 0) (L + 1) = off l (L + 1)
  | 0 => rfl
  | L + 1 => by
    rw [off_s (lens := l ++ List.replicate k 0) (l := L + 1) (by omega), off_s (lens := l) (l := L + 1) (by omega), cnt_pad (by omega), off_pad L]
theorem dcd_pad {t l : List Nat} {e k : Nat} : ∀ r m code first b, 1 ≤ m → dcd t e (l ++ List.replicate k 0) r m code first b = dcd t e l r m code first b
  | 0, _, _, _, _, _ => rfl
  | r + 1, m, code, first, b, hm => by
    unfold dcd
    rw [cnt_pad hm, sy_pad hm, mxN_pad, dcd_pad r (m + 1) _ _ _ (by omega)]
theorem dec_pad {t l : List Nat} {e k b : Nat} : dec t e (l ++ List.replicate k 0) b = dec t e l b := dcd_pad 15 1 0 0 b (by omega)
/-- how full with the first i lengths -/
noncomputable def FN (lens : List Nat) (i : Nat) : Nat → Nat
  | 0 => 0
  | l + 1 => FN lens i l + cntN lens (l + 1) i * 2 ^ (15 - (l + 1))
theorem FN_ful (lens : List Nat) : ∀ L, FN lens lens.length L = ful lens L
  | 0 => rfl
  | L + 1 => by unfold FN ful; rw [FN_ful lens L]; rfl
theorem FN_0 (lens : List Nat) : ∀ L, FN lens 0 L = 0
  | 0 => rfl
  | L + 1 => by unfold FN; rw [FN_0 lens L]; show 0 + 0 * _ = 0; rw [Nat.zero_mul]
theorem FN_s (lens : List Nat) (i : Nat) : ∀ L, FN lens (i + 1) L = FN lens i L + (if 0 < gt lens i ∧ gt lens i ≤ L then 2 ^ (15 - gt lens i) else 0)
  | 0 => by rw [if_neg (by omega)]; rfl
  | L + 1 => by
    unfold FN
    rw [FN_s lens i L, cntN_s]
    by_cases q : gt lens i = L + 1
    · rw [if_pos q, if_neg (by omega), if_pos (by omega), q, Nat.add_mul, Nat.one_mul]
      omega
    · rw [if_neg q, Nat.add_zero]
      by_cases w : 0 < gt lens i ∧ gt lens i ≤ L
      · rw [if_pos w, if_pos (by omega)]; omega
      · rw [if_neg w, if_neg (by omega)]; omega
theorem FN_le {lens : List Nat} : ∀ i, FN lens i 15 ≤ i * 2 ^ 14
  | 0 => by rw [FN_0]; exact Nat.zero_le _
  | i + 1 => by
    rw [FN_s]
    have := FN_le (lens := lens) i
    have h2 : (if 0 < gt lens i ∧ gt lens i ≤ 15 then 2 ^ (15 - gt lens i) else 0) ≤ 2 ^ 14 := by
      split
      · exact Nat.pow_le_pow_right (by decide) (by omega)
      · exact Nat.zero_le _
    rw [Nat.add_mul, Nat.one_mul]
    omega
theorem m_fullness {N base : Nat} {c : hS} {lens : List Nat} {p1 p2 : Int32} (hN : 1000000 ≤ N) (h : mln c base lens) (h1 : p1 = nI base) (h2 : p2 = nI lens.length) : f_X12_fullness N c p1 p2 = some (nI (ful lens 15), c) := by
  subst h1 h2
  have hb := h.1
  have key : ∀ d m i, i + d = lens.length → d < m → f_X12_fullness_5 N (nI base) (nI lens.length) m c (nI (FN lens i 15)) (nI (base + i)) = some (nI (ful lens 15), c) := by
    intro d
    induction d with
    | zero =>
      intro m i hi hm
      obtain ⟨m, rfl⟩ : ∃ j, m = j + 1 := ⟨m - 1, by omega⟩
      have : i = lens.length := by omega
      subst this
      rw [f_X12_fullness_5, nI_add, if_pos (nI_le (Nat.le_refl _) (by omega)), FN_ful]
    | succ d ih =>
      intro m i hi hm
      obtain ⟨m, rfl⟩ : ∃ j, m = j + 1 := ⟨m - 1, by omega⟩
      obtain ⟨v1, v2⟩ := h.2 i (by omega)
      have fs := FN_s lens i 15
      rw [f_X12_fullness_5, nI_add, if_neg (nI_ge (by omega) (by omega)), j_in_nI (show base + i < ln 212 from (by show base + i < 360; omega)) (by decide), cond_true, cond_true, nI_clamp (by omega), v1, nI_1]
      by_cases q : gt lens i = 0
      · rw [if_neg (by omega)] at fs
        rw [if_pos (show nI (gt lens i) ≤ 0 by rw [q]; decide), show nI (FN lens i 15) + 0 = nI (FN lens i 15 + 0) from nI_add _ 0, ← fs]
        exact ih m (i + 1) (by omega) (by omega)
      · rw [if_pos (by omega)] at fs
        have e : (32768 : Nat) / 2 ^ gt lens i = 2 ^ (15 - gt lens i) := (by decide : ∀ g, g < 16 → (32768 : Nat) / 2 ^ g = 2 ^ (15 - g)) _ v2
        rw [if_neg (nI_nle (by omega) (by omega)), show (32768 : Int32) = nI 32768 from rfl, shr_nI (by decide) (by omega), e, nI_add, ← fs]
        exact ih m (i + 1) (by omega) (by omega)
  unfold f_X12_fullness
  have := key lens.length N 0 (by omega) (by omega)
  rw [FN_0] at this
  exact this
/-- the reference's row of lengths as they come -/
noncomputable def mrow (c : hS) (row : List Nat) : Prop := (∀ i, i < row.length → c.1 214 i = nI (gt row i) ∧ gt row i < 16) ∧ row.length ≤ 316
theorem mrow_fm {P : Nat → Nat → Prop} {c c1 : hS} {row : List Nat} (h : mrow c row) (hf : fm P c c1) (hP : ∀ i, ¬ P 214 i) : mrow c1 row := ⟨fun i hi => ⟨(hf.1 _ _ (hP i)).trans (h.1 i hi).1, (h.1 i hi).2⟩, h.2⟩
theorem mrow_add {c : hS} {row : List Nat} {x : Nat} (h : mrow c row) (hx : x < 16) (hl : row.length < 316) : mrow (sI c 214 row.length (nI x)) (row ++ [x]) := by
  refine ⟨fun i hi => ?_, by simp; omega⟩
  simp only [List.length_append, List.length_cons, List.length_nil] at hi
  by_cases q : i = row.length
  · rw [q, sI_s, gt_app_r (Nat.le_refl _), Nat.sub_self]
    exact ⟨rfl, hx⟩
  · rw [sI_j q, gt_app_l (by omega)]
    exact h.1 i (by omega)
noncomputable def RF (o i : Nat) : Prop := F56 o i ∨ o = 214
theorem b_fail {c : hS} {a p : Int32} {P : Nat → Nat → Prop} (hP : ∀ i, (i = 5 ∨ i = 6) → P 201 i) : ∃ c', (bnd (f_X12_fails c a p) fun x3 c4 => bif j_b x3 then some (x3, c4) else none) = some (0, c') ∧ fm P c c' := by
  obtain ⟨c', e1, f1⟩ := m_failsX (c := c) (a := a) (p := p)
  rw [e1, bnd_some]
  exact ⟨c', rfl, f1.mono (fun o i z => by obtain ⟨rfl, z⟩ := z; exact hP i z)⟩
theorem m_readRow {N : Nat} {c : hS} {t cl : List Nat} {b e all : Nat} {p1 p2 : Int32} (hN : 1000000 ≤ N) (h : UB c t b e) (hc : mcd c 340 cl) (hcl : cl.length = 19) (hful : ful cl 15 = 32768) (hall : all ≤ 316) (h1 : p1 = nI all) : ∃ c', f_X12_readRow N c p1 p2 = some (bI (rws t e cl all 320 b []).isSome, c') ∧ fm RF c c' ∧ ∀ row b', rws t e cl all 320 b [] = some (row, b') → UB c' t b' e ∧ mrow c' row := by
  subst h1
  -- fill
  have fill : ∀ d m j n v c (row : List Nat) (k2 : hS → Int32 → Option (Int32 × hS)), j + d = n → d < m → n < 2 ^ 31 → row.length + d ≤ 316 → v < 16 → mrow c row → ∃ c', f_X12_readRow_161 N (nI all) p2 k2 m c (nI row.length) (nI n) (nI v) (nI j) = k2 c' (nI (row.length + d)) ∧ mrow c' (row ++ List.replicate d v) ∧ fm (fun o i => o = 214) c c' := by
    intro d
    induction d with
    | zero =>
      intro m j n v c row k2 hj hm hn hl hv hr
      obtain ⟨m, rfl⟩ : ∃ j, m = j + 1 := ⟨m - 1, by omega⟩
      rw [f_X12_readRow_161, if_pos (nI_le (by omega) (by omega))]
      exact ⟨c, rfl, by simpa using hr, fm.rf⟩
    | succ d ih =>
      intro m j n v c row k2 hj hm hn hl hv hr
      obtain ⟨m, rfl⟩ : ∃ j, m = j + 1 := ⟨m - 1, by omega⟩
      obtain ⟨c', a1, a2, a3⟩ := ih m (j + 1) n v _ _ k2 (by omega) (by omega) hn (by simp; omega) hv (mrow_add hr hv (by omega))
      rw [f_X12_readRow_161, if_neg (nI_ge (by omega) (by omega)), j_in_nI (show row.length < ln 214 from (by show row.length < 330; omega)) (by decide), cond_true, nI_clamp (by omega), nI_1, nI_1]
      have el : (row ++ [v]).length = row.length + 1 := by simp
      rw [el] at a1
      refine ⟨c', ?_, ?_, (fm.sI (P := fun o i => o = 214) rfl).tr a3⟩
      · rw [show row.length + (d + 1) = row.length + 1 + d by omega]
        exact a1
      · rw [List.replicate_succ]
        simpa using a2
  have key : ∀ f n b c row, all < row.length + f → f < n → row.length ≤ all → UB c t b e → mrow c row → mcd c 340 cl → ∃ c', f_X12_readRow_2 N (nI all) p2 n c (nI row.length) = some (bI (rws t e cl all f b row).isSome, c') ∧ fm RF c c' ∧ ∀ row' b', rws t e cl all f b row = some (row', b') → UB c' t b' e ∧ mrow c' row' := by
    intro f
    induction f with
    | zero => intro n b c row h1 _ h2; omega
    | succ f ih =>
      intro n b c row hf hn hrl hu hr hc
      obtain ⟨n, rfl⟩ : ∃ m, n = m + 1 := ⟨n - 1, by omega⟩
      rw [f_X12_readRow_2]
      unfold rws
      by_cases q1 : all ≤ row.length
      · rw [if_pos (nI_le q1 (by omega)), if_pos q1]
        exact ⟨c, rfl, fm.rf, fun row' b' z => by cases z; exact ⟨hu, hr⟩⟩
      · rw [if_neg (nI_ge (by omega) (by omega)), if_neg q1]
        obtain ⟨x, c2, e2, g2⟩ := m_symbol (p1 := 340) (p2 := 19) hN hu hc (by omega) rfl (by rw [hcl]; rfl)
        rw [e2, bnd_some]
        cases hd : dec t e cl b with
        | none =>
          rw [hd] at g2
          rcases g2.1 with ⟨_, z⟩ | ⟨_, _, z⟩
          · rw [if_neg z]
            exact ⟨c2, rfl, g2.2.mono (fun o i z => Or.inl z), fun _ _ z => by cases z⟩
          · exact absurd hful z
        | some p =>
          obtain ⟨s, b1⟩ := p
          rw [hd] at g2
          obtain ⟨ex, u2, f2⟩ := g2
          have ex : x = nI s := ex
          have u2 : UB c2 t b1 e := u2
          have dl := dec_lt hd
          have s19 : s < 19 := by omega
          have r2 : mrow c2 row := mrow_fm hr f2 (fun i => by unfold F25; omega)
          have hc2 : mcd c2 340 cl := mcd_fm hc f2 (fun o i z => by unfold F25 at z; omega)
          have fz : fm RF c c2 := f2.mono (fun o i z => Or.inl (F25_56 z))
          rw [ex, if_pos u2.2.2.2.2.2]
          dsimp only
          by_cases s16 : s < 16
          · have er : rep t e all row s b1 = some (row ++ [s], b1) := by
              unfold rep repB repL repV
              rw [if_neg (by omega), if_pos s16, if_pos s16, if_pos s16, if_pos (by omega)]
              show (if row.length + (1 + 0) ≤ all then some (row ++ List.replicate (1 + 0) s, b1 + 0) else none) = _
              rw [if_pos (by omega)]
              rfl
            have fs : fm RF c2 (sI c2 214 row.length (nI s)) := fm.sI (Or.inr rfl)
            have fs' : fm (fun o i => o = 214) c2 (sI c2 214 row.length (nI s)) := fm.sI rfl
            have el : (row ++ [s]).length = row.length + 1 := by simp
            obtain ⟨c', a1, a2, a3⟩ := ih n b1 _ (row ++ [s]) (by omega) (by omega) (by omega) (u2.fm' fs' (fun o i z => ⟨by omega, by omega⟩)) (mrow_add r2 s16 (by omega)) (mcd_fm hc2 fs' (fun o i z => by omega))
            rw [if_neg (show ¬ (16 : Int32) ≤ nI s from nI_ge (b := 16) s16 (by decide)), j_in_nI (show row.length < ln 214 from (by show row.length < 330; omega)) (by decide), cond_true, nI_clamp (by omega), nI_1, er]
            dsimp only [st1]
            rw [el] at a1
            exact ⟨c', a1, (fz.tr fs).tr a2, a3⟩
          · rw [if_pos (show (16 : Int32) ≤ nI s from nI_le (a := 16) (by omega) (by omega))]
            -- behind the test of 16 with none before
            have go : ¬ (s = 16 ∧ row.length = 0) → ∃ c', f_X12_readRow_67 N (nI all) p2 (f_X12_readRow_2 N (nI all) p2 n) c2 (nI row.length) (nI s) = some (bI (match rep t e all row s b1 with | none => none | some q => rws t e cl all f q.2 q.1).isSome, c') ∧ fm RF c2 c' ∧ ∀ row' b', (match rep t e all row s b1 with | none => none | some q => rws t e cl all f q.2 q.1) = some (row', b') → UB c' t b' e ∧ mrow c' row' := by
              intro hne
              -- with the number of bits
              have w110 : ∀ (k L : Nat) (p L' : Int32), repB s = k → repL s = L → p = nI k → L' = nI L → k ≤ 16 → L < 100 → ∃ c', (bnd (f_X12_bits N c2 p) fun x5 c6 => f_X12_readRow_110 N (nI all) p2 (f_X12_readRow_2 N (nI all) p2 n) c6 (nI row.length) (nI s) (L' + x5)) = some (bI (match rep t e all row s b1 with | none => none | some q => rws t e cl all f q.2 q.1).isSome, c') ∧ fm RF c2 c' ∧ ∀ row' b', (match rep t e all row s b1 with | none => none | some q => rws t e cl all f q.2 q.1) = some (row', b') → UB c' t b' e ∧ mrow c' row' := by
                intro k L p L' hk hL hp hL' hk16 hL100
                subst hp hL'
                unfold rep
                rw [if_neg hne, hk, hL]
                by_cases q2 : b1 + k ≤ e
                · obtain ⟨c6, e6, u6, f6⟩ := m_bits hN u2 q2 hk16 rfl
                  have bl := bv_lt t b1 k
                  have bl2 : 2 ^ k ≤ 2 ^ 16 := Nat.pow_le_pow_right (by decide) hk16
                  have r6 : mrow c6 row := mrow_fm r2 f6 (fun i => by unfold F25; omega)
                  have hc6 : mcd c6 340 cl := mcd_fm hc2 f6 (fun o i z => by unfold F25 at z; omega)
                  have fz6 : fm RF c2 c6 := f6.mono (fun o i z => Or.inl (F25_56 z))
                  rw [if_pos q2, e6, bnd_some, nI_add]
                  unfold f_X12_readRow_110
                  rw [if_pos u6.2.2.2.2.2, nI_add]
                  obtain ⟨n', en⟩ : ∃ n', n' = L + bv t b1 k := ⟨_, rfl⟩
                  rw [← en]
                  have hL1 : 1 ≤ L := by rw [← hL]; unfold repL; split <;> (try split) <;> omega
                  by_cases q3 : row.length + n' ≤ all
                  · rw [if_pos (nI_le q3 (by omega)), if_pos q3]
                    dsimp only
                    have run : ∀ v, v < 16 → repV row s = v → ∃ c', f_X12_readRow_161 N (nI all) p2 (f_X12_readRow_2 N (nI all) p2 n) N c6 (nI row.length) (nI n') (nI v) 0 = some (bI (rws t e cl all f (b1 + k) (row ++ List.replicate n' (repV row s))).isSome, c') ∧ fm RF c2 c' ∧ ∀ row' b', rws t e cl all f (b1 + k) (row ++ List.replicate n' (repV row s)) = some (row', b') → UB c' t b' e ∧ mrow c' row' := by
                      intro v hv erv
                      obtain ⟨c7, a1, a2, a3⟩ := fill n' N 0 n' v c6 row (f_X12_readRow_2 N (nI all) p2 n) (by omega) (by omega) (by omega) (by omega) hv r6
                      have a1' : f_X12_readRow_161 N (nI all) p2 (f_X12_readRow_2 N (nI all) p2 n) N c6 (nI row.length) (nI n') (nI v) 0 = _ := a1
                      have el : (row ++ List.replicate n' v).length = row.length + n' := by simp
                      obtain ⟨c8, d1, d2, d3⟩ := ih n (b1 + k) c7 (row ++ List.replicate n' v) (by omega) (by omega) (by omega) (u6.fm' a3 (fun o i z => ⟨by omega, by omega⟩)) a2 (mcd_fm hc6 a3 (fun o i z => by omega))
                      rw [a1', erv]
                      rw [el] at d1
                      exact ⟨c8, d1, (fz6.tr (a3.mono (fun o i z => Or.inr z))).tr d2, d3⟩
                    by_cases q4 : s = 16
                    · have rl : row.length ≠ 0 := fun z => hne ⟨q4, z⟩
                      have gv := r6.1 (row.length - 1) (by omega)
                      rw [if_pos (show nI s = 16 by rw [q4]; rfl), show nI row.length - 1 = nI (row.length - 1) from subI (b := 1) (by omega), j_in_nI (show row.length - 1 < ln 214 from (by show row.length - 1 < 330; omega)) (by decide), cond_true, nI_clamp (by omega), gv.1]
                      exact run _ gv.2 (by unfold repV; rw [if_neg s16, if_pos q4])
                    · rw [if_neg (show ¬ nI s = 16 from fun z => q4 ((nI_eq (b := 16) (by omega) (by decide)).mp z))]
                      exact run 0 (by decide) (by unfold repV; rw [if_neg s16, if_neg q4])
                  · rw [if_neg (nI_ge (by omega) (by omega)), if_neg q3]
                    obtain ⟨c7, a1, a2⟩ := b_fail (c := c6) (a := 24) (p := p2) (P := RF) (fun i z => Or.inl ⟨rfl, by omega⟩)
                    exact ⟨c7, a1, fz6.tr a2, fun _ _ z => by cases z⟩
                · obtain ⟨x6, c6, e6, v6, f6⟩ := m_bits_no hN u2 (by omega) hk16 (rfl : nI k = nI k)
                  rw [if_neg q2, e6, bnd_some]
                  unfold f_X12_readRow_110
                  rw [if_neg v6]
                  exact ⟨c6, rfl, f6.mono (fun o i z => Or.inl z), fun _ _ z => by cases z⟩
              unfold f_X12_readRow_67
              by_cases q4 : s = 16
              · rw [if_pos (show nI s = 16 by rw [q4]; rfl)]
                exact w110 2 3 2 3 (by unfold repB; rw [if_neg s16, if_pos q4]) (by unfold repL; rw [if_neg s16, if_neg (by omega)]) rfl rfl (by decide) (by decide)
              · rw [if_neg (show ¬ nI s = 16 from fun z => q4 ((nI_eq (b := 16) (by omega) (by decide)).mp z))]
                by_cases q5 : s = 17
                · rw [if_pos (show nI s = 17 by rw [q5]; rfl)]
                  exact w110 3 3 3 3 (by unfold repB; rw [if_neg s16, if_neg q4, if_pos q5]) (by unfold repL; rw [if_neg s16, if_neg (by omega)]) rfl rfl (by decide) (by decide)
                · rw [if_neg (show ¬ nI s = 17 from fun z => q5 ((nI_eq (b := 17) (by omega) (by decide)).mp z))]
                  exact w110 7 11 7 11 (by unfold repB; rw [if_neg s16, if_neg q4, if_neg q5]) (by unfold repL; rw [if_neg s16, if_pos (by omega)]) rfl rfl (by decide) (by decide)
            have lift : (∃ c', f_X12_readRow_67 N (nI all) p2 (f_X12_readRow_2 N (nI all) p2 n) c2 (nI row.length) (nI s) = some (bI (match rep t e all row s b1 with | none => none | some q => rws t e cl all f q.2 q.1).isSome, c') ∧ fm RF c2 c' ∧ ∀ row' b', (match rep t e all row s b1 with | none => none | some q => rws t e cl all f q.2 q.1) = some (row', b') → UB c' t b' e ∧ mrow c' row') → ∃ c', f_X12_readRow_67 N (nI all) p2 (f_X12_readRow_2 N (nI all) p2 n) c2 (nI row.length) (nI s) = some (bI (match rep t e all row s b1 with | none => none | some q => rws t e cl all f q.2 q.1).isSome, c') ∧ fm RF c c' ∧ ∀ row' b', (match rep t e all row s b1 with | none => none | some q => rws t e cl all f q.2 q.1) = some (row', b') → UB c' t b' e ∧ mrow c' row' := fun ⟨c', a1, a2, a3⟩ => ⟨c', a1, fz.tr a2, a3⟩
            by_cases q4 : s = 16
            · rw [if_pos (show nI s = 16 by rw [q4]; rfl)]
              by_cases q5 : row.length = 0
              · have er : rep t e all row s b1 = none := by unfold rep; rw [if_pos ⟨q4, q5⟩]
                rw [if_pos (show nI row.length = 0 by rw [q5]; rfl), er]
                obtain ⟨c7, a1, a2⟩ := b_fail (c := c2) (a := 24) (p := p2) (P := RF) (fun i z => Or.inl ⟨rfl, by omega⟩)
                exact ⟨c7, a1, fz.tr a2, fun _ _ z => by cases z⟩
              · rw [if_neg (nI_ne0 (by omega) (by omega))]
                exact lift (go (fun z => q5 z.2))
            · rw [if_neg (show ¬ nI s = 16 from fun z => q4 ((nI_eq (b := 16) (by omega) (by decide)).mp z))]
              exact lift (go (fun z => q4 z.1))
  exact key 320 N b c [] (by simp; omega) (by omega) (by simp) h ⟨fun i hi => by simp at hi, by simp⟩ hc
end
section
/-! PURE: the reference: the codes that a block tells -/
noncomputable def TN (lens : List Nat) (i : Nat) : Nat → Nat
  | 0 => 0
  | l + 1 => TN lens i l + cntN lens (l + 1) i
theorem TN_off (lens : List Nat) : ∀ L, TN lens lens.length L = off lens (L + 1)
  | 0 => rfl
  | L + 1 => by unfold TN; rw [TN_off lens L, off_s (lens := lens) (l := L + 1) (by omega)]; rfl
theorem TN_0 (lens : List Nat) : ∀ L, TN lens 0 L = 0
  | 0 => rfl
  | L + 1 => by unfold TN; rw [TN_0 lens L]; rfl
theorem TN_s (lens : List Nat) (i : Nat) : ∀ L, TN lens (i + 1) L = TN lens i L + (if 0 < gt lens i ∧ gt lens i ≤ L then 1 else 0)
  | 0 => by rw [if_neg (by omega)]; rfl
  | L + 1 => by
    unfold TN
    rw [TN_s lens i L, cntN_s]
    by_cases q : gt lens i = L + 1
    · rw [if_pos q, if_neg (by omega), if_pos (by omega)]
      omega
    · rw [if_neg q, Nat.add_zero]
      by_cases w : 0 < gt lens i ∧ gt lens i ≤ L
      · rw [if_pos w, if_pos (by omega)]; omega
      · rw [if_neg w, if_neg (by omega)]; omega
theorem mxN_cnt {lens : List Nat} : ∀ L, 0 < mxN lens L → 0 < cnt lens (mxN lens L) ∧ mxN lens L ≤ L
  | 0, h => absurd h (Nat.lt_irrefl 0)
  | L + 1, h => by
    unfold mxN at h ⊢
    by_cases q : 0 < cnt lens (L + 1)
    · rw [if_pos q]; exact ⟨q, Nat.le_refl _⟩
    · rw [if_neg q] at h ⊢
      have := mxN_cnt L h
      exact ⟨this.1, by omega⟩
theorem off_two {lens : List Nat} {a b : Nat} (ha : 1 ≤ a) (hab : a < b) (hb : b ≤ 15) : cnt lens a + cnt lens b ≤ off lens 16 := by
  have h1 := off_s (lens := lens) (l := a) ha
  have h2 := off_mono (lens := lens) (a := a + 1) (b := b) (by omega) (by omega)
  have h3 := off_s (lens := lens) (l := b) (by omega)
  have h4 := off_mono (lens := lens) (a := b + 1) (b := 16) (by omega) (by omega)
  omega
theorem off_one' {lens : List Nat} {a : Nat} (ha : 1 ≤ a) (hb : a ≤ 15) : cnt lens a ≤ off lens 16 := by
  have h1 := off_s (lens := lens) (l := a) ha
  have h4 := off_mono (lens := lens) (a := a + 1) (b := 16) (by omega) (by omega)
  omega
theorem one_is {lens : List Nat} (h : off lens 16 = 1) : mxN lens 15 = 1 ↔ cnt lens 1 = 1 := by
  constructor
  · intro z
    have := (mxN_cnt (lens := lens) 15 (by omega)).1
    rw [z] at this
    have := off_one' (lens := lens) (a := 1) (by omega) (by omega)
    omega
  · intro z
    by_cases q : mxN lens 15 < 1
    · have := mxN_top (lens := lens) 15 1 q (by omega); omega
    · have a := mxN_cnt (lens := lens) 15 (by omega)
      by_cases w : mxN lens 15 = 1
      · exact w
      · have := off_two (lens := lens) (a := 1) (b := mxN lens 15) (by omega) (by omega) a.2; omega
noncomputable def DF (o i : Nat) : Prop := F56 o i ∨ o = 212 ∨ o = 213 ∨ o = 214
theorem ord_at {c : hS} : ∀ i, i < 19 → f_X12_order c (nI i) = some (nI (gt ordL i), c) := by
  intro i hi
  have : i = 0 ∨ i = 1 ∨ i = 2 ∨ i = 3 ∨ i = 4 ∨ i = 5 ∨ i = 6 ∨ i = 7 ∨ i = 8 ∨ i = 9 ∨ i = 10 ∨ i = 11 ∨ i = 12 ∨ i = 13 ∨ i = 14 ∨ i = 15 ∨ i = 16 ∨ i = 17 ∨ i = 18 := by omega
  rcases this with rfl | rfl | rfl | rfl | rfl | rfl | rfl | rfl | rfl | rfl | rfl | rfl | rfl | rfl | rfl | rfl | rfl | rfl | rfl <;> rfl
theorem ord_in (i : Nat) (hi : i < 19) : j_in (340 + nI (gt ordL i)) (ln 212) = true ∧ ((340 : Int32) + nI (gt ordL i)).toNatClampNeg = 340 + gt ordL i := by
  have h := ordL_lt i hi
  rw [show (340 : Int32) + nI (gt ordL i) = nI (340 + gt ordL i) from nI_add 340 _]
  exact ⟨j_in_nI (show 340 + gt ordL i < ln 212 from (by show 340 + gt ordL i < 360; omega)) (by decide), nI_clamp (by omega)⟩
theorem m_rc73x {N : Nat} {p1 : Int32} (hN : 1000000 ≤ N) : ∀ d m i c v2 v3 v4, i + d = 19 → d < m → c.1 201 5 ≠ 0 → ∃ c', f_X12_readCodes_73 N p1 m c v2 v3 v4 (nI i) = some (0, c') ∧ fm (fun o i => o = 212) c c' := by
  intro d
  induction d with
  | zero =>
    intro m i c v2 v3 v4 hi hm hf
    obtain ⟨m, rfl⟩ : ∃ j, m = j + 1 := ⟨m - 1, by omega⟩
    rw [f_X12_readCodes_73, if_pos (show (19 : Int32) ≤ nI i from nI_le (a := 19) (by omega) (by omega)), if_neg hf]
    exact ⟨c, rfl, fm.rf⟩
  | succ d ih =>
    intro m i c v2 v3 v4 hi hm hf
    obtain ⟨m, rfl⟩ : ∃ j, m = j + 1 := ⟨m - 1, by omega⟩
    obtain ⟨o1, o2⟩ := ord_in i (by omega)
    have nx : ∃ c', f_X12_readCodes_73 N p1 m (sI c 212 (340 + gt ordL i) 0) v2 v3 v4 (nI (i + 1)) = some (0, c') ∧ fm (fun o i => o = 212) c c' := by
      obtain ⟨c', a1, a2⟩ := ih m (i + 1) (sI c 212 (340 + gt ordL i) 0) v2 v3 v4 (by omega) (by omega) (by rw [sI_o (by decide)]; exact hf)
      exact ⟨c', a1, (fm.sI (P := fun o i => o = 212) rfl).tr a2⟩
    rw [f_X12_readCodes_73, if_neg (show ¬ (19 : Int32) ≤ nI i from nI_ge (b := 19) (by omega) (by decide)), ord_at i (by omega), bnd_some, o1, cond_true, o2, nI_1]
    by_cases q : v4 ≤ nI i
    · rw [if_pos q]; exact nx
    · rw [if_neg q, m_bits_x hN hf, bnd_some, cond_true]; exact nx
theorem m_rc61x {N : Nat} {c : hS} {p1 v2 v3 : Int32} (hN : 1000000 ≤ N) (hf : c.1 201 5 ≠ 0) : ∃ c', f_X12_readCodes_61 N p1 c v2 v3 = some (0, c') ∧ fm (fun o i => o = 212) c c' := by
  unfold f_X12_readCodes_61
  rw [m_bits_x hN hf, bnd_some]
  exact m_rc73x hN 19 N 0 c v2 v3 _ (by omega) (by omega) hf
theorem m_rc32x {N : Nat} {c : hS} {p1 v2 : Int32} (hN : 1000000 ≤ N) (hf : c.1 201 5 ≠ 0) : ∃ c', f_X12_readCodes_32 N p1 c v2 = some (0, c') ∧ fm (fun o i => o = 212) c c' := by
  unfold f_X12_readCodes_32
  rw [m_bits_x hN hf, bnd_some, if_neg hf]
  exact m_rc61x hN hf
theorem ord_inj : ∀ i, i < 19 → ∀ j, j < 19 → gt ordL i = gt ordL j → i = j := by decide
theorem ord_sur : ∀ k, k < 19 → ∃ j, j < 19 ∧ gt ordL j = k := by decide
theorem clF_at (t : List Nat) (b : Nat) : ∀ n, n ≤ 19 → ∀ j, j < 19 → gt (clF t b n) (gt ordL j) = if j < n then bv t (b + 3 * j) 3 else 0
  | 0, _, j, hj => by
    show gt (List.replicate 19 0) (gt ordL j) = _
    rw [gt_rep, if_neg (show ¬ j < 0 by omega)]
    split <;> rfl
  | n + 1, hn, j, hj => by
    show gt ((clF t b n).set (gt ordL n) (bv t (b + 3 * n) 3)) (gt ordL j) = _
    rw [gt_set (by rw [clF_len]; exact ordL_lt n (by omega)), clF_at t b n (by omega) j hj]
    by_cases q : j = n
    · subst q; rw [if_pos rfl, if_pos (by omega)]
    · rw [if_neg (fun z => q (ord_inj j hj n (by omega) z))]
      by_cases w : j < n
      · rw [if_pos w, if_pos (by omega)]
      · rw [if_neg w, if_neg (by omega)]
/-- the end of reading codes -/
theorem m_rc350 {N : Nat} {c : hS} {p1 : Int32} {lS lD : List Nat} {far : Bool} (hN : 1000000 ≤ N) (h5 : c.1 201 5 = 0) (hS : mln c 0 lS) (hD : mln c 300 lD) (l1 : lS.length = 288) (l2 : lD.length = 32) : ∃ c', f_X12_readCodes_350 N p1 c (bI far) = some (bI (decide (gt lS 256 ≠ 0) && (decide (ful lS 15 = 32768) && far)), c') ∧ fm (fun o i => (o = 201 ∧ (i = 5 ∨ i = 6)) ∨ o = 213) c c' ∧ ((decide (gt lS 256 ≠ 0) && (decide (ful lS 15 = 32768) && far)) = true → mcd c' 0 lS ∧ mcd c' 300 lD ∧ fm (fun o i => o = 213) c c') := by
  obtain ⟨v1, v2⟩ := hS.2 256 (by omega)
  rw [Nat.zero_add] at v1
  unfold f_X12_readCodes_350
  rw [show j_in 256 (ln 212) = true from by decide, cond_true, show (256 : Int32).toNatClampNeg = 256 from by decide, v1]
  have bad : ∀ c1 a, fm (fun o i => o = 213) c c1 → ∃ c', (bnd (f_X12_fails c1 a p1) fun x3 c4 => bif j_b x3 then some (x3, c4) else none) = some (0, c') ∧ fm (fun o i => (o = 201 ∧ (i = 5 ∨ i = 6)) ∨ o = 213) c c' := by
    intro c1 a f
    obtain ⟨c', e1, f1⟩ := b_fail (c := c1) (a := a) (p := p1) (P := fun o i => (o = 201 ∧ (i = 5 ∨ i = 6)) ∨ o = 213) (fun i z => Or.inl ⟨rfl, z⟩)
    exact ⟨c', e1, (f.mono (fun o i z => Or.inr z)).tr f1⟩
  by_cases q : gt lS 256 = 0
  · rw [if_pos (show nI (gt lS 256) = 0 by rw [q]; rfl), decide_eq_false (fun z => z q), Bool.false_and]
    obtain ⟨c', e1, f1⟩ := bad c 24 fm.rf
    exact ⟨c', e1, f1, fun z => by cases z⟩
  · have fb := FN_le (lens := lS) lS.length
    rw [FN_ful, l1] at fb
    rw [if_neg (nI_ne0 (by omega) (by omega)), decide_eq_true q, Bool.true_and, m_fullness (p1 := 0) (p2 := 288) hN hS rfl (by rw [l1]; rfl), bnd_some]
    by_cases q2 : ful lS 15 = 32768
    · rw [if_pos (show nI (ful lS 15) = 32768 by rw [q2]; rfl), decide_eq_true q2, Bool.true_and]
      cases far with
      | false =>
        rw [if_pos (show bI false = 0 from rfl)]
        obtain ⟨c', e1, f1⟩ := bad c 24 fm.rf
        exact ⟨c', e1, f1, fun z => by cases z⟩
      | true =>
        rw [if_neg (by decide)]
        obtain ⟨c1, a1, a2, a3⟩ := m_layCodes (p1 := 0) (p2 := 288) hN hS rfl (by rw [l1]; rfl)
        have hD1 : mln c1 300 lD := ⟨hD.1, fun i hi => ⟨(a3.1 _ _ (by omega)).trans (hD.2 i hi).1, (hD.2 i hi).2⟩⟩
        obtain ⟨c2, b1, b2, b3⟩ := m_layCodes (p1 := 300) (p2 := 32) hN hD1 rfl (by rw [l2]; rfl)
        rw [a1, bnd_some, b1, bnd_some]
        have f12 : fm (fun o i => o = 213) c c2 := (a3.mono (fun o i z => z.1)).tr (b3.mono (fun o i z => z.1))
        exact ⟨c2, rfl, f12.mono (fun o i z => Or.inr z), fun _ => ⟨⟨⟨a2.1.1, fun i hi => ⟨(b3.1 _ _ (by omega)).trans (a2.1.2 i hi).1, (a2.1.2 i hi).2⟩⟩, fun i hi h0 => (b3.1 _ _ (by omega)).trans (a2.2 i hi h0)⟩, b2, f12⟩⟩
    · rw [if_neg (show ¬ nI (ful lS 15) = 32768 from fun z => q2 ((nI_eq (b := 32768) (by omega) (by decide)).mp z)), decide_eq_false q2, Bool.false_and]
      obtain ⟨c', e1, f1⟩ := bad c 24 fm.rf
      exact ⟨c', e1, f1, fun z => by cases z⟩
theorem m_rc174 {N H K : Nat} {c : hS} {p1 : Int32} {row : List Nat} (hN : 1000000 ≤ N) (h5 : c.1 201 5 = 0) (hr : mrow c row) (hl : row.length = H + K) (hH : H ≤ 286) (hH1 : 257 ≤ H) (hK : K ≤ 30) : ∃ c', f_X12_readCodes_174 N p1 N c (nI H) (nI K) 0 = some (bI (okR H row), c') ∧ fm (fun o i => (o = 201 ∧ (i = 5 ∨ i = 6)) ∨ o = 212 ∨ o = 213) c c' ∧ (okR H row = true → mcd c' 0 (row.take H ++ List.replicate (288 - H) 0) ∧ mcd c' 300 (row.drop H ++ List.replicate (32 - K) 0) ∧ fm (fun o i => o = 212 ∨ o = 213) c c') := by
  obtain ⟨lS, eS⟩ : ∃ lS, lS = row.take H ++ List.replicate (288 - H) 0 := ⟨_, rfl⟩
  obtain ⟨lD, eD⟩ : ∃ lD, lD = row.drop H ++ List.replicate (32 - K) 0 := ⟨_, rfl⟩
  have tl : (row.take H).length = H := by rw [List.length_take]; omega
  have dl : (row.drop H).length = K := by rw [List.length_drop]; omega
  have l1 : lS.length = 288 := by rw [eS, List.length_append, tl, List.length_replicate]; omega
  have l2 : lD.length = 32 := by rw [eD, List.length_append, dl, List.length_replicate]; omega
  have gS : ∀ i, gt lS i = if i < H then gt row i else 0 := fun i => by
    rw [eS]
    by_cases q : i < H
    · rw [if_pos q, gt_app_l (by omega), gt_take q]
    · rw [if_neg q, gt_app_r (by omega), gt_rep]; split <;> rfl
  have gD : ∀ i, gt lD i = if i < K then gt row (H + i) else 0 := fun i => by
    rw [eD]
    by_cases q : i < K
    · rw [if_pos q, gt_app_l (by omega), gt_drop]
    · rw [if_neg q, gt_app_r (by omega), gt_rep]; split <;> rfl
  have g16 : ∀ k, gt row k < 16 := fun k => by
    by_cases q : k < row.length
    · exact (hr.1 k q).2
    · rw [gt_ge (by omega)]; decide
  -- the symbols' lengths
  have k174 : ∀ d m i c, i + d = 288 → d < m → mrow c row → (∀ k, k < i → c.1 212 k = nI (gt lS k)) → ∃ c', f_X12_readCodes_174 N p1 m c (nI H) (nI K) (nI i) = f_X12_readCodes_221 N p1 N c' (nI H) (nI K) 0 0 0 ∧ (∀ k, k < 288 → c'.1 212 k = nI (gt lS k)) ∧ fm (fun o i => o = 212) c c' := by
    intro d
    induction d with
    | zero =>
      intro m i c hi hm hr hk
      obtain ⟨m, rfl⟩ : ∃ j, m = j + 1 := ⟨m - 1, by omega⟩
      rw [f_X12_readCodes_174, if_pos (show (288 : Int32) ≤ nI i from nI_le (a := 288) (by omega) (by omega))]
      exact ⟨c, rfl, fun k a => hk k (by omega), fm.rf⟩
    | succ d ih =>
      intro m i c hi hm hr hk
      obtain ⟨m, rfl⟩ : ∃ j, m = j + 1 := ⟨m - 1, by omega⟩
      have f1 : fm (fun o i => o = 212) c (sI c 212 i (nI (gt lS i))) := fm.sI rfl
      obtain ⟨c', a1, a2, a3⟩ := ih m (i + 1) (sI c 212 i (nI (gt lS i))) (by omega) (by omega) (mrow_fm hr f1 (fun i => by omega)) (fun k hk' => by
        by_cases e : k = i
        · rw [e, sI_s]
        · rw [sI_j e]; exact hk k (by omega))
      refine ⟨c', ?_, a2, f1.tr a3⟩
      rw [← a1, f_X12_readCodes_174, if_neg (show ¬ (288 : Int32) ≤ nI i from nI_ge (b := 288) (by omega) (by decide)), j_in_nI (show i < ln 212 from (by show i < 360; omega)) (by decide), cond_true, cond_true, nI_clamp (by omega), nI_1]
      have gi := gS i
      by_cases q : i < H
      · rw [if_pos q] at gi
        rw [if_neg (nI_ge q (by omega)), j_in_nI (show i < ln 214 from (by show i < 330; omega)) (by decide), cond_true, (hr.1 i (by omega)).1, gi]
        rfl
      · rw [if_neg q] at gi
        rw [if_pos (nI_le (by omega) (by omega)), gi]
        rfl
  -- the distances'
  have k221 : ∀ d m i c, i + d = 32 → d < m → mrow c row → (∀ k, k < i → c.1 212 (300 + k) = nI (gt lD k)) → ∃ c', f_X12_readCodes_221 N p1 m c (nI H) (nI K) (nI (TN lD i 15)) (nI (cntN lD 1 i)) (nI i) = f_X12_readCodes_221 N p1 (0 + 1) c' (nI H) (nI K) (nI (off lD 16)) (nI (cnt lD 1)) (nI 32) ∧ (∀ k, k < 32 → c'.1 212 (300 + k) = nI (gt lD k)) ∧ fm (fun o i => o = 212 ∧ 300 ≤ i) c c' := by
    intro d
    induction d with
    | zero =>
      intro m i c hi hm hr hk
      obtain ⟨m, rfl⟩ : ∃ j, m = j + 1 := ⟨m - 1, by omega⟩
      have : i = 32 := by omega
      subst this
      have et := TN_off lD 15
      rw [l2] at et
      have ec : cntN lD 1 32 = cnt lD 1 := by unfold cnt; rw [l2]
      refine ⟨c, ?_, fun k a => hk k (by omega), fm.rf⟩
      rw [et, ec, f_X12_readCodes_221, f_X12_readCodes_221, if_pos (by decide), if_pos (by decide)]
    | succ d ih =>
      intro m i c hi hm hr hk
      obtain ⟨m, rfl⟩ : ∃ j, m = j + 1 := ⟨m - 1, by omega⟩
      have f1 : fm (fun o i => o = 212 ∧ 300 ≤ i) c (sI c 212 (300 + i) (nI (gt lD i))) := fm.sI (by omega)
      obtain ⟨c', a1, a2, a3⟩ := ih m (i + 1) (sI c 212 (300 + i) (nI (gt lD i))) (by omega) (by omega) (mrow_fm hr f1 (fun i => by omega)) (fun k hk' => by
        by_cases e : k = i
        · rw [e, sI_s]
        · rw [sI_j (by omega)]; exact hk k (by omega))
      refine ⟨c', ?_, a2, f1.tr a3⟩
      have gi := gD i
      have gl : gt lD i < 16 := by rw [gi]; split; exact g16 _; decide
      have e300 : (300 : Int32) + nI i = nI (300 + i) := nI_add 300 i
      have jn := j_in_nI (show 300 + i < ln 212 from (by show 300 + i < 360; omega)) (by decide : ln 212 < 2 ^ 31)
      have nc := nI_clamp (show 300 + i < 2 ^ 31 by omega)
      have ts := TN_s lD i 15
      have cs := cntN_s lD 1 i
      have e257 : f_X12_readCodes_257 N p1 (f_X12_readCodes_221 N p1 m) c (nI H) (nI K) (nI (TN lD i 15)) (nI (cntN lD 1 i)) (nI i) (nI (gt lD i)) (300 + nI i) = f_X12_readCodes_221 N p1 m (sI c 212 (300 + i) (nI (gt lD i))) (nI H) (nI K) (nI (TN lD (i + 1) 15)) (nI (cntN lD 1 (i + 1))) (nI (i + 1)) := by
        unfold f_X12_readCodes_257
        rw [e300, jn, cond_true, nc]
        dsimp only [st1]
        rw [cond_true, sI_s]
        have e279 : ∀ (w0 : Int32) (k : Nat), w0 = nI k → TN lD (i + 1) 15 = TN lD i 15 + k → f_X12_readCodes_279 N p1 (f_X12_readCodes_221 N p1 m) (sI c 212 (300 + i) (nI (gt lD i))) (nI H) (nI K) (nI (cntN lD 1 i)) (nI i) w0 (nI (TN lD i 15)) = f_X12_readCodes_221 N p1 m (sI c 212 (300 + i) (nI (gt lD i))) (nI H) (nI K) (nI (TN lD (i + 1) 15)) (nI (cntN lD 1 (i + 1))) (nI (i + 1)) := by
          intro w0 k hw hk'
          unfold f_X12_readCodes_279
          rw [e300, jn, cond_true, nc, sI_s, hw, nI_add, ← hk', nI_1, nI_1]
          by_cases z : gt lD i = 1
          · rw [if_pos z] at cs
            rw [if_pos (show nI (gt lD i) = 1 by rw [z]; rfl), cs]
          · rw [if_neg z] at cs
            rw [if_neg (show ¬ nI (gt lD i) = 1 from fun y => z ((nI_eq (b := 1) (by omega) (by decide)).mp y)), cs, show nI (cntN lD 1 i) + 0 = nI (cntN lD 1 i + 0) from nI_add _ 0]
        by_cases z : gt lD i = 0
        · rw [if_neg (by omega)] at ts
          rw [if_pos (show nI (gt lD i) ≤ 0 by rw [z]; decide)]
          exact e279 0 0 rfl ts
        · rw [if_pos (by omega)] at ts
          rw [if_neg (nI_nle (by omega) (by omega))]
          exact e279 1 1 rfl ts
      rw [← a1, ← e257, f_X12_readCodes_221, if_neg (show ¬ (32 : Int32) ≤ nI i from nI_ge (b := 32) (by omega) (by decide))]
      by_cases q : i < K
      · rw [if_pos q] at gi
        rw [if_neg (nI_ge q (by omega)), nI_add, j_in_nI (show H + i < ln 214 from (by show H + i < 330; omega)) (by decide), cond_true, nI_clamp (by omega), (hr.1 (H + i) (by omega)).1, gi]
      · rw [if_neg q] at gi
        rw [if_pos (nI_le (by omega) (by omega)), gi]
        rfl
  obtain ⟨c1, a1, a2, a3⟩ := k174 288 N 0 c (by omega) (by omega) hr (fun k hk => by omega)
  have a1' : f_X12_readCodes_174 N p1 N c (nI H) (nI K) 0 = _ := a1
  have b0 := k221 32 N 0 c1 (by omega) (by omega) (mrow_fm hr a3 (fun i => by omega)) (fun k hk => by omega)
  rw [TN_0] at b0
  obtain ⟨c2, b1, b2, b3⟩ := b0
  have b1' : f_X12_readCodes_221 N p1 N c1 (nI H) (nI K) 0 0 0 = _ := b1
  have f12 : fm (fun o i => o = 212) c c2 := a3.tr (b3.mono (fun o i z => z.1))
  have mS : mln c2 0 lS := ⟨by rw [l1]; decide, fun i hi => by
    rw [l1] at hi
    rw [Nat.zero_add, b3.1 _ _ (by omega)]
    exact ⟨a2 i hi, by rw [gS]; split; exact g16 _; decide⟩⟩
  have mD : mln c2 300 lD := ⟨by rw [l2]; decide, fun i hi => by
    rw [l2] at hi
    exact ⟨b2 i hi, by rw [gD]; split; exact g16 _; decide⟩⟩
  have h52 : c2.1 201 5 = 0 := (f12.1 _ _ (by omega)).trans h5
  have eok : okR H row = (decide (gt lS 256 ≠ 0) && (decide (ful lS 15 = 32768) && dsB lD)) := by
    unfold okR dsB
    rw [gS, if_pos (by omega), eS, ful_pad, eD, ful_pad, off_pad (L := 15), mxN_pad]
  rw [a1', b1', f_X12_readCodes_221, if_pos (by decide), m_fullness (p1 := 300) (p2 := 32) hN mD rfl (by rw [l2]; rfl), bnd_some]
  have fb := FN_le (lens := lD) lD.length
  rw [FN_ful, l2] at fb
  have o16 : off lD 16 ≤ lD.length := off_le lD 15
  have c1l := cnt_le lD 1
  have fin : ∀ far, dsB lD = far → ∃ c', f_X12_readCodes_350 N p1 c2 (bI far) = some (bI (okR H row), c') ∧ fm (fun o i => (o = 201 ∧ (i = 5 ∨ i = 6)) ∨ o = 212 ∨ o = 213) c c' ∧ (okR H row = true → mcd c' 0 lS ∧ mcd c' 300 lD ∧ fm (fun o i => o = 212 ∨ o = 213) c c') := by
    intro far hfar
    obtain ⟨c3, d1, d2, d3⟩ := m_rc350 (p1 := p1) (far := far) hN h52 mS mD l1 l2
    rw [← hfar, ← eok] at d1 d3
    rw [← hfar]
    refine ⟨c3, d1, (f12.mono (fun o i z => by omega)).tr (d2.mono (fun o i z => by omega)), fun z => ?_⟩
    obtain ⟨x1, x2, x3⟩ := d3 z
    exact ⟨x1, x2, (f12.mono (fun o i z => by omega)).tr (x3.mono (fun o i z => by omega))⟩
  rw [← eS, ← eD]
  unfold f_X12_readCodes_345 f_X12_readCodes_349
  by_cases q : ful lD 15 = 32768
  · rw [if_pos (show nI (ful lD 15) = 32768 by rw [q]; rfl)]
    exact fin true (by unfold dsB; rw [decide_eq_true q]; rfl)
  · rw [if_neg (show ¬ nI (ful lD 15) = 32768 from fun z => q ((nI_eq (b := 32768) (by omega) (by decide)).mp z))]
    by_cases q0 : off lD 16 = 0
    · rw [if_pos (show nI (off lD 16) = 0 by rw [q0]; rfl)]
      exact fin true (by unfold dsB; rw [decide_eq_false q, decide_eq_true q0]; rfl)
    · rw [if_neg (nI_ne0 (by omega) (by omega))]
      by_cases q1 : off lD 16 = 1
      · rw [if_pos (show nI (off lD 16) = 1 by rw [q1]; rfl)]
        have o1 := one_is q1
        by_cases qc : cnt lD 1 = 1
        · rw [if_pos (show nI (cnt lD 1) = 1 by rw [qc]; rfl)]
          exact fin true (by unfold dsB; rw [decide_eq_true q1, decide_eq_true (o1.mpr qc)]; simp)
        · rw [if_neg (show ¬ nI (cnt lD 1) = 1 from fun z => qc ((nI_eq (b := 1) (by omega) (by decide)).mp z))]
          exact fin false (by unfold dsB; rw [decide_eq_false q, decide_eq_false q0, decide_eq_false (fun z => qc (o1.mp z))]; simp)
      · rw [if_neg (show ¬ nI (off lD 16) = 1 from fun z => q1 ((nI_eq (b := 1) (by omega) (by decide)).mp z))]
        exact fin false (by unfold dsB; rw [decide_eq_false q, decide_eq_false q0, decide_eq_false q1]; rfl)
end
