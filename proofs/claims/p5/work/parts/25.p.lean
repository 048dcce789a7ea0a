/-! PURE: the reference: rows packed -/
noncomputable def M2 (X : Option (Unit × hS)) (c : hS) (t : List Nat) (s : Pk) (bs : List Nat) : Prop := ∃ c', X = some ((), c') ∧ mkC c' t (psL s bs) ∧ fm PQ c c'
theorem M2.bnd_ {X : Option (Unit × hS)} {K : Unit → hS → Option (Unit × hS)} {c : hS} {t : List Nat} {s : Pk} {p r : List Nat} (hX : MB X c t s p) (hK : ∀ c1, mkC c1 t (psL s p) → fm QF c c1 → M2 (K () c1) c1 t (psL s p) r) : M2 (bnd X K) c t s (p ++ r) := by
  obtain ⟨c1, e1, r1, f1⟩ := hX
  obtain ⟨c2, e2, r2, f2⟩ := hK c1 r1 f1
  exact ⟨c2, by rw [e1, bnd_some]; exact e2, by rw [psL_app]; exact r2, (f1.mono (fun o i z => QF_PQ z)).tr f2⟩
theorem M2.pre {X : Option (Unit × hS)} {c c1 : hS} {t : List Nat} {s : Pk} {p : List Nat} (h : M2 X c1 t s p) (hf : fm PQ c c1) : M2 X c t s p := by
  obtain ⟨c2, e2, r2, f2⟩ := h
  exact ⟨c2, e2, r2, hf.tr f2⟩
theorem M2.of {X : Option (Unit × hS)} {c : hS} {t : List Nat} {s : Pk} {p : List Nat} (h : MB X c t s p) : M2 (bnd X fun _ c6 => some ((), c6)) c t s p := by
  obtain ⟨c2, e2, r2, f2⟩ := h
  exact ⟨c2, by rw [e2, bnd_some], r2, f2.mono (fun o i z => QF_PQ z)⟩
theorem mkC_fm {c c1 : hS} {t : List Nat} {s : Pk} (h : mkC c t s) {i : Nat} (hf : fm (fun o j => o = 201 ∧ j = i) c c1) (hi : i ≠ 4 ∧ i ≠ 33 ∧ i ≠ 34) : mkC c1 t s := ⟨h.1.fm hf (by omega) (fun i => by omega), (hf.1 _ _ (by omega)).trans h.2.1, (hf.1 _ _ (by omega)).trans h.2.2.1, h.2.2.2⟩
theorem m_putMatch {N n far : Nat} {c : hS} {t : List Nat} {s : Pk} {x y : Int32} (hN : 1000000 ≤ N) (h : mkC c t s) (hc : fxM c) (hn : 3 ≤ n) (hn2 : n ≤ 258) (hf : 1 ≤ far) (hf2 : far ≤ 512) (hl : t.length + s.1.length + 40 ≤ 20000) (hx : x = nI n) (hy : y = nI far) : M2 (f_X12_putMatch N c x y) c t s (mtB n far) := by
  subst hx hy
  have t50 : ∀ d c s, d < 30 → dbase d ≤ far → mkC c t s → fxM c → t.length + s.1.length + 18 ≤ 20000 → M2 (bnd (f_X12_distanceOf c (nI d)) fun x3 c4 => bnd (f_X12_putCode N c4 (300 + nI d)) fun _ c5 => bnd (f_X12_putBits N c5 (nI far - x3) (c5.1 201 30)) fun _ c6 => some ((), c6)) c t s (bBE d 5 ++ bLE (far - dbase d) (dbits d)) := by
    intro d c s hd hb h hc hl
    obtain ⟨c4, e4, v4, f4⟩ := m_distanceOf (c := c) hd
    have dl := dbits_lt d hd
    rw [e4, bnd_some]
    refine M2.pre ?_ (f4.mono (fun o i z => by unfold PQ; omega))
    refine M2.bnd_ (MB.dist hN (mkC_fm h f4 (by decide)) (fxM_fm hc f4 (fun o i z => by omega)) (by omega) (by rw [show (300 : Int32) = nI 300 from rfl, nI_add]) (by omega)) (fun c5 r5 f5 => ?_)
    have g := mk_grow h (bBE d 5)
    rw [bBE_len] at g
    rw [subI hb, f5.1 _ _ (by unfold QF; omega), v4]
    exact M2.of (MB.bits hN r5 (by omega) rfl (by omega) (by omega) rfl)
  have k50 : ∀ d m c s, d < 30 → d < m → mkC c t s → fxM c → t.length + s.1.length + 18 ≤ 20000 → M2 (f_X12_putMatch_50 N (nI n) (nI far) m c (nI d)) c t s (bBE (dst far d) 5 ++ bLE (far - dbase (dst far d)) (dbits (dst far d))) := by
    intro d
    induction d with
    | zero =>
      intro m c s hd hm h hc hl
      obtain ⟨m, rfl⟩ : ∃ k, m = k + 1 := ⟨m - 1, by omega⟩
      obtain ⟨c4, e4, v4, f4⟩ := m_distanceOf (c := c) hd
      rw [f_X12_putMatch_50, e4, bnd_some, if_pos (nI_le (show dbase 0 ≤ far by show 1 ≤ far; exact hf) (by omega))]
      exact M2.pre (t50 0 c4 s (by decide) hf (mkC_fm h f4 (by decide)) (fxM_fm hc f4 (fun o i z => by omega)) hl) (f4.mono (fun o i z => by unfold PQ; omega))
    | succ d ih =>
      intro m c s hd hm h hc hl
      obtain ⟨m, rfl⟩ : ∃ k, m = k + 1 := ⟨m - 1, by omega⟩
      obtain ⟨c4, e4, v4, f4⟩ := m_distanceOf (c := c) hd
      have dl := dbase_lt (d + 1) hd
      have h4 := mkC_fm h f4 (by decide)
      have hc4 : fxM c4 := fxM_fm hc f4 (fun o i z => by omega)
      refine M2.pre ?_ (f4.mono (fun o i z => by unfold PQ; omega))
      rw [f_X12_putMatch_50, e4, bnd_some]
      unfold dst
      by_cases e : dbase (d + 1) ≤ far
      · rw [if_pos (nI_le e (by omega)), if_pos e]
        exact t50 (d + 1) c4 s hd e h4 hc4 hl
      · rw [if_neg (nI_ge (by omega) (by omega)), if_neg e, show nI (d + 1) + -1 = nI d from by rw [← Int32.sub_eq_add_neg]; exact nI_pred d]
        exact ih m c4 s (by omega) (by omega) h4 hc4 hl
  have t3 : ∀ d c s, d < 29 → lbase d ≤ n → mkC c t s → fxM c → t.length + s.1.length + 40 ≤ 20000 → M2 (bnd (f_X12_lengthOf c (nI d)) fun x3 c4 => bnd (f_X12_putCode N c4 (257 + nI d)) fun _ c5 => bnd (f_X12_putBits N c5 (nI n - x3) (c5.1 201 30)) fun _ c6 => f_X12_putMatch_50 N (nI n) (nI far) N c6 29) c t s (symB (257 + d) ++ (bLE (n - lbase d) (lbits d) ++ (bBE (dst far 29) 5 ++ bLE (far - dbase (dst far 29)) (dbits (dst far 29))))) := by
    intro d c s hd hb h hc hl
    obtain ⟨c4, e4, v4, f4⟩ := m_lengthOf (c := c) hd
    have dl := lbits_lt d hd
    have hc4 : fxM c4 := fxM_fm hc f4 (fun o i z => by omega)
    rw [e4, bnd_some]
    refine M2.pre ?_ (f4.mono (fun o i z => by unfold PQ; omega))
    refine M2.bnd_ (MB.symbol (v := 257 + d) hN (mkC_fm h f4 (by decide)) hc4 (by omega) (by rw [show (257 : Int32) = nI 257 from rfl, nI_add]) (by omega)) (fun c5 r5 f5 => ?_)
    have g := mk_grow h (symB (257 + d))
    have g2 := symB_len (257 + d)
    rw [subI hb, f5.1 _ _ (by unfold QF; omega), v4]
    refine M2.bnd_ (MB.bits hN r5 (by omega) rfl (by omega) (by omega) rfl) (fun c6 r6 f6 => ?_)
    have g3 := mk_grow r5 (bLE (n - lbase d) (lbits d))
    rw [bLE_len] at g3
    exact k50 29 N c6 _ (by decide) (by omega) r6 (fxM_fm (fxM_fm hc4 f5 (fun o i z => QF_n z)) f6 (fun o i z => QF_n z)) (by omega)
  have k3 : ∀ d m c s, d < 29 → d < m → mkC c t s → fxM c → t.length + s.1.length + 40 ≤ 20000 → M2 (f_X12_putMatch_3 N (nI n) (nI far) m c (nI d)) c t s (symB (257 + lst n d) ++ (bLE (n - lbase (lst n d)) (lbits (lst n d)) ++ (bBE (dst far 29) 5 ++ bLE (far - dbase (dst far 29)) (dbits (dst far 29))))) := by
    intro d
    induction d with
    | zero =>
      intro m c s hd hm h hc hl
      obtain ⟨m, rfl⟩ : ∃ k, m = k + 1 := ⟨m - 1, by omega⟩
      obtain ⟨c4, e4, v4, f4⟩ := m_lengthOf (c := c) hd
      rw [f_X12_putMatch_3, e4, bnd_some, if_pos (nI_le (show lbase 0 ≤ n by show 3 ≤ n; exact hn) (by omega))]
      exact M2.pre (t3 0 c4 s (by decide) hn (mkC_fm h f4 (by decide)) (fxM_fm hc f4 (fun o i z => by omega)) hl) (f4.mono (fun o i z => by unfold PQ; omega))
    | succ d ih =>
      intro m c s hd hm h hc hl
      obtain ⟨m, rfl⟩ : ∃ k, m = k + 1 := ⟨m - 1, by omega⟩
      obtain ⟨c4, e4, v4, f4⟩ := m_lengthOf (c := c) hd
      have dl := lbase_lt (d + 1) hd
      have h4 := mkC_fm h f4 (by decide)
      have hc4 : fxM c4 := fxM_fm hc f4 (fun o i z => by omega)
      refine M2.pre ?_ (f4.mono (fun o i z => by unfold PQ; omega))
      rw [f_X12_putMatch_3, e4, bnd_some]
      unfold lst
      by_cases e : lbase (d + 1) ≤ n
      · rw [if_pos (nI_le e (by omega)), if_pos e]
        exact t3 (d + 1) c4 s hd e h4 hc4 hl
      · rw [if_neg (nI_ge (by omega) (by omega)), if_neg e, show nI (d + 1) + -1 = nI d from by rw [← Int32.sub_eq_add_neg]; exact nI_pred d]
        exact ih m c4 s (by omega) (by omega) h4 hc4 hl
  exact k3 28 N c s (by decide) (by omega) h hc hl
noncomputable def M3 (X : Option (Unit × hS)) (c : hS) (t : List Nat) (s : Pk) (bs : List Nat) : Prop := ∃ c', X = some ((), c') ∧ mrw c' 4 203 (t ++ fin (psL s bs)) ∧ fm PQ c c'
theorem M3.bnd_ {X : Option (Unit × hS)} {K : Unit → hS → Option (Unit × hS)} {c : hS} {t : List Nat} {s : Pk} {p r : List Nat} (hX : M2 X c t s p) (hK : ∀ c1, mkC c1 t (psL s p) → fm PQ c c1 → M3 (K () c1) c1 t (psL s p) r) : M3 (bnd X K) c t s (p ++ r) := by
  obtain ⟨c1, e1, r1, f1⟩ := hX
  obtain ⟨c2, e2, r2, f2⟩ := hK c1 r1 f1
  exact ⟨c2, by rw [e1, bnd_some]; exact e2, by rw [psL_app]; exact r2, f1.tr f2⟩
theorem MB.to2 {X : Option (Unit × hS)} {c : hS} {t : List Nat} {s : Pk} {p : List Nat} (h : MB X c t s p) : M2 X c t s p := by
  obtain ⟨c2, e2, r2, f2⟩ := h
  exact ⟨c2, e2, r2, f2.mono (fun o i z => QF_PQ z)⟩
theorem M3.end_ {X : Option (Unit × hS)} {c : hS} {t : List Nat} {s : Pk} {bs : List Nat} (hX : MB X c t s bs) (hs : mkC c t s) (hl : t.length + s.1.length + bs.length + 1 ≤ 20000) : M3 (bnd X fun _ c3 => if c3.1 201 34 ≤ 0 then some ((), c3) else bnd (f_X12_put c3 (c3.1 201 33)) fun _ c4 => some ((), c4)) c t s bs := by
  obtain ⟨c3, e3, ⟨q1, q2, q3, q4⟩, f3⟩ := hX
  have g := mk_grow hs bs
  revert q1 q2 q3 q4 g
  unfold M3
  generalize psL s bs = z
  intro q1 q2 q3 q4 g
  rw [e3, bnd_some, q2, q3]
  unfold fin
  by_cases e2 : z.2.2 = 0
  · rw [e2, if_pos (show nI 0 ≤ 0 by decide), if_pos rfl]
    exact ⟨c3, rfl, q1, f3.mono (fun o i z => QF_PQ z)⟩
  · have h8 := q4.1
    rw [if_neg (nI_nle (by omega) (by omega)), if_neg e2]
    have hlt : z.2.1 < 256 := Nat.lt_of_lt_of_le q4.2 (show 2 ^ z.2.2 ≤ 2 ^ 8 from Nat.pow_le_pow_right (by decide) (by omega))
    obtain ⟨c4, e4, r4, f4⟩ := MP.putN q1 (by rw [List.length_append]; omega) rfl hlt
    rw [List.append_assoc] at r4
    exact ⟨c4, by rw [e4, bnd_some], r4, (f3.mono (fun o i z => QF_PQ z)).tr (f4.mono (fun o i z => by unfold W1 at z; unfold PQ; omega))⟩
theorem m_packF {N : Nat} {l t : List Nat} (hN : 1000000 ≤ N) : ∀ d n p c s, l.length < p + d → d < n → p ≤ l.length → mrw c 32 215 l → fxM c → mkC c t s → t.length + s.1.length + 11 * (l.length - p) + 50 ≤ 20000 → M3 (f_X12_putPacked_22 N n c (nI p)) c t s (pkF l d p) := by
  intro d
  induction d with
  | zero => intro n p c s h1 h2 h3; omega
  | succ d ih =>
    intro n p c s hpd hn hp hr hc hs hl
    obtain ⟨n, rfl⟩ : ∃ m, n = m + 1 := ⟨n - 1, by omega⟩
    have hl5 : l.length ≤ 512 := hr.1
    rw [f_X12_putPacked_22, hr.2.1]
    unfold pkF
    by_cases e : l.length ≤ p
    · rw [if_pos (nI_le e (by omega)), if_pos e]
      exact M3.end_ (MB.symbol (v := 256) hN hs hc (by omega) rfl (by decide)) hs (by have := symB_len 256; omega)
    · rw [if_neg (nI_ge (by omega) (by omega)), if_neg e]
      obtain ⟨c6, e6, d6, f6⟩ := m_match (p := p) hN hr (by omega)
      obtain ⟨w1, w2⟩ := bst_le (l := l) (p := p) (q := p) (b := (0, 0)) (Nat.le_refl _) (Nat.zero_le _) (Or.inl rfl)
      have w3 : mst l p ≤ l.length - p := Nat.min_le_right _ _
      have w4 : mst l p ≤ 258 := Nat.min_le_left _ _
      rw [e6, bnd_some]
      revert d6 w1 w2
      generalize bst l p p (0, 0) = w
      intro d6 w1 w2
      have s6 := mkC_fm hs f6 (by decide)
      have hr6 : mrw c6 32 215 l := hr.fm f6 (by omega) (fun i => by omega)
      have hc6 : fxM c6 := fxM_fm hc f6 (fun o i z => by omega)
      have lift : ∀ {X : Option (Unit × hS)} {bs : List Nat}, M3 X c6 t s bs → M3 X c t s bs := fun ⟨c', a1, a2, a3⟩ => ⟨c', a1, a2, (f6.mono (fun o i z => by unfold PQ; omega)).tr a3⟩
      have kp : ∀ {c1 c2 : hS}, fm PQ c1 c2 → mrw c1 32 215 l → mrw c2 32 215 l := fun f h => h.fm f (by unfold PQ; omega) (fun i => by unfold PQ; omega)
      by_cases e3 : w.1 < 3
      · have bb := hr.2.2.2.gt p
        rw [if_pos (show nI w.1 < 3 from nI_lt (b := 3) e3 (by decide)), if_pos e3, j_in_nI (show p < ln 215 from (by show p < 512; omega)) (by decide), cond_true, nI_clamp (by omega), hr6.2.2.1 p (by omega)]
        apply lift
        refine M3.bnd_ (MB.symbol (v := gt l p) hN s6 hc6 (by omega) rfl (by omega)).to2 (fun c9 r9 f9 => ?_)
        have g := mk_grow s6 (symB (gt l p))
        have g2 := symB_len (gt l p)
        rw [nI_1]
        exact ih n (p + 1) c9 _ (by omega) (by omega) (by omega) (kp f9 hr6) (fxM_fm hc6 f9 (fun o i z => PQ_n z)) r9 (by omega)
      · rw [if_neg (show ¬ nI w.1 < 3 from nI_nlt (b := 3) (by omega) (by omega)), if_neg e3]
        have far1 : 1 ≤ w.2 ∧ w.2 ≤ p := w2.resolve_left (by omega)
        have d7 : c6.1 201 35 = nI w.2 := d6.resolve_left (by omega)
        apply lift
        refine M3.bnd_ (m_putMatch hN s6 hc6 (by omega) (by omega) far1.1 (by omega) (by omega) rfl d7) (fun c9 r9 f9 => ?_)
        have g := mk_grow s6 (mtB w.1 w.2)
        have g2 := mtB_len w.1 w.2
        rw [nI_add]
        exact ih n (p + w.1) c9 _ (by omega) (by omega) (by omega) (kp f9 hr6) (fxM_fm hc6 f9 (fun o i z => PQ_n z)) r9 (by omega)
noncomputable def PK (o i : Nat) : Prop := PQ o i ∨ o = 212 ∨ o = 213
theorem m_putPacked {N : Nat} {c : hS} {l t : List Nat} (hN : 1000000 ≤ N) (hr : mrw c 32 215 l) (ht : mrw c 4 203 t) (hl : t.length + 11 * l.length + 60 ≤ 20000) : ∃ c', f_X12_putPacked N c = some ((), c') ∧ mrw c' 4 203 (t ++ packed l) ∧ fm PK c c' := by
  unfold f_X12_putPacked
  dsimp only [st1]
  obtain ⟨c2, e2⟩ : ∃ c2, sI (sI c 201 33 0) 201 34 0 = c2 := ⟨_, rfl⟩
  have f2 : fm (fun o i => o = 201 ∧ (i = 33 ∨ i = 34)) c c2 := by rw [← e2]; exact (fm.sI (by omega)).tr (fm.sI (by omega))
  have v33 : c2.1 201 33 = nI 0 := by rw [← e2, sI_j (by decide), sI_s]; rfl
  have v34 : c2.1 201 34 = nI 0 := by rw [← e2, sI_s]; rfl
  rw [e2]
  obtain ⟨c3, e3, a3, b3, f3⟩ := m_layFixed (c := c2) hN
  rw [e3, bnd_some]
  have f23 : fm (fun o i => (o = 201 ∧ (i = 33 ∨ i = 34)) ∨ o = 212 ∨ o = 213) c c3 := (f2.mono (fun o i z => Or.inl z)).tr (f3.mono (fun o i z => Or.inr z))
  have s3 : mkC c3 t ([], 0, 0) := ⟨by rw [List.append_nil]; exact ht.fm f23 (by omega) (fun i => by omega), (f3.1 _ _ (by omega)).trans v33, (f3.1 _ _ (by omega)).trans v34, show 0 < 8 by decide, show 0 < 2 ^ 0 by decide⟩
  have r3 : mrw c3 32 215 l := hr.fm f23 (by omega) (fun i => by omega)
  have := M3.bnd_ (K := fun _ c4 => f_X12_putPacked_22 N N c4 0) (MB.bits (x := 3) (m := 3) (v := 3) (n := 3) hN s3 (by simp; omega) rfl (by decide) (by decide) rfl).to2 (fun c4 r4 f4 => m_packF hN (l.length + 1) N 0 c4 _ (by omega) (by have := hr.1; have : ln 215 = 512 := rfl; omega) (Nat.zero_le _) (r3.fm f4 (by unfold PQ; omega) (fun i => by unfold PQ; omega)) (fxM_fm ⟨a3, b3⟩ f4 (fun o i z => PQ_n z)) r4 (by
    have g1 := mk_grow s3 (bLE 3 3)
    rw [bLE_len] at g1
    simp only [List.length_nil] at g1
    omega))
  obtain ⟨c', e', r', f'⟩ := this
  refine ⟨c', e', ?_, (f23.mono (fun o i z => by unfold PK PQ; omega)).tr (f'.mono (fun o i z => Or.inl z))⟩
  rw [show bLE 3 3 ++ pkF l (l.length + 1) 0 = pkBits l from by unfold pkBits; rw [← List.append_assoc]; rfl] at r'
  exact r'
theorem m_pack {N : Nat} {c : hS} {b t : List Nat} {ms : List Mb} (hN : 1000000 ≤ N) (h : PM c b t ms) : MN (f_X12_pack N c) c 0 (nI (packed b).length) b (packed b) ms := by
  obtain ⟨c1, e1, h1, z1, f1⟩ := m_zero h
  have hbl : b.length ≤ 512 := h.1.1
  unfold f_X12_pack
  rw [e1]
  dsimp only [st1]
  rw [h1.1.2.1]
  obtain ⟨c2, e2⟩ : ∃ c2, sI c1 201 32 (nI b.length) = c2 := ⟨_, rfl⟩
  rw [e2]
  have f2 : fm (fun o i => o = 201 ∧ i = 32) c1 c2 := by rw [← e2]; exact fm.sI ⟨rfl, rfl⟩
  have v2 : c2.1 201 32 = nI b.length := by rw [← e2, sI_s]
  have h2 := h1.mv f2 (fun o i z => by omega)
  obtain ⟨c3, e3, i3, w3, f3⟩ := cp_loop (F := f_X12_pack_15 N) (X := fun c => f_X12_pack_15 N (0 + 1) c (nI b.length)) (o := 215) (o' := 202) (a := 0) (b := 0) (len := b.length) (fun c => c.1 201 2 = nI b.length) (fun c i x q => by rw [sI_o (by decide)]; exact q) (fun n c i hi q => by
    rw [f_X12_pack_15, q, if_neg (nI_ge hi (by omega)), j_in_nI (show i < ln 202 from (by show i < 512; omega)) (by decide), cond_true, j_in_nI (show i < ln 215 from (by show i < 512; omega)) (by decide), cond_true, nI_clamp (by omega), Nat.zero_add]
    rfl) (fun n c q => by
    show _ = f_X12_pack_15 N (0 + 1) c (nI b.length)
    rw [f_X12_pack_15, f_X12_pack_15, q, if_pos (nI_le (Nat.le_refl _) (by omega)), if_pos (nI_le (Nat.le_refl _) (by omega))]) (by omega) b.length N c2 0 (by omega) (by omega) h2.1.2.1
  have f3' : fm (fun o i => o = 215) c2 c3 := f3.mono (fun o i z => z.1)
  have h3 := h2.mv f3' (fun o i z => by omega)
  have r3 : mrw c3 32 215 b := by
    have := mrw.cp (c := c2) (c' := c3) (j := 32) (o := 215) (o' := 202) (a := 0) (len := b.length) (l := b) (by omega) h2.1.2.2.1 w3 ((f3'.1 _ _ (by omega)).trans v2) (show b.length ≤ 512 by omega) h1.1.2.2.2
    simpa using this
  have e3' : f_X12_pack_15 N N c2 0 = f_X12_pack_15 N (0 + 1) c3 (nI b.length) := e3
  rw [e3', f_X12_pack_15, i3, if_pos (nI_le (Nat.le_refl _) (by omega))]
  dsimp only [st1]
  have f4 : fm (fun o i => o = 201 ∧ i = 4) c3 (sI c3 201 4 0) := fm.sI ⟨rfl, rfl⟩
  have t4 : mrw (sI c3 201 4 0) 4 203 [] := ⟨Nat.zero_le _, sI_s _ _ _ _, fun i hi => absurd hi (Nat.not_lt_zero i), fun x hx => by cases hx⟩
  have h4 := h3.tp f4 (fun o i z => by omega) t4
  obtain ⟨c5, e5, t5, f5⟩ := m_putPacked hN (r3.fm f4 (by omega) (fun i => by omega)) t4 (by simp; omega)
  rw [e5, bnd_some, t5.2.1, List.nil_append]
  rw [List.nil_append] at t5
  have nP : ∀ o i, PK o i → (o = 201 ∧ i ≠ 0 ∧ i ≠ 2 ∧ i ≠ 7) ∨ o = 203 ∨ (208 < o ∧ o < 219) := fun o i z => by unfold PK PQ at z; omega
  refine ⟨_, c5, rfl, ?_, fun _ => rfl, h4.tp f5 (fun o i z => by have := nP o i z; omega) t5, (((f1.tr (f2.mono (fun o i z => by omega))).tr (f3'.mono (fun o i z => by omega))).tr (f4.mono (fun o i z => by omega))).tr (f5.mono (fun o i z => by have := nP o i z; omega))⟩
  rw [f5.1 _ _ (fun z => by have := nP _ _ z; omega), f4.1 _ _ (by omega), f3'.1 _ _ (by omega), f2.1 _ _ (by omega)]
  exact z1
