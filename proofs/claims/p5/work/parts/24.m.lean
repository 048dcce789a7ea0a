/-! PURE: the class packs a row -/
noncomputable def mtB (n far : Nat) : List Nat := symB (257 + lst n 28) ++ (bLE (n - lbase (lst n 28)) (lbits (lst n 28)) ++ (bBE (dst far 29) 5 ++ bLE (far - dbase (dst far 29)) (dbits (dst far 29))))
noncomputable def pkF (l : List Nat) : Nat → Nat → List Nat
  | 0, _ => []
  | n + 1, p => if l.length ≤ p then symB 256 else if (bst l p p (0, 0)).1 < 3 then symB (gt l p) ++ pkF l n (p + 1) else mtB (bst l p p (0, 0)).1 (bst l p p (0, 0)).2 ++ pkF l n (p + (bst l p p (0, 0)).1)
noncomputable def pkBits (l : List Nat) : List Nat := bLE 1 1 ++ (bLE 1 2 ++ pkF l (l.length + 1) 0)
noncomputable def fin (s : Pk) : List Nat := if s.2.2 = 0 then s.1 else s.1 ++ [s.2.1]
noncomputable def packed (l : List Nat) : List Nat := fin (psL ([], 0, 0) (pkBits l))
theorem symB_len (s : Nat) : (symB s).length ≤ 9 := by
  unfold symB
  rw [bBE_len]
  exact fxL_le s
theorem symB_bit (s : Nat) : bitL (symB s) := bBE_bit _ _
theorem mtB_len (n far : Nat) : (mtB n far).length ≤ 32 := by
  unfold mtB
  have h1 := symB_len (257 + lst n 28)
  have h2 := lbits_lt (lst n 28) (by have := lst_le n 28; omega)
  have h3 := dbits_lt (dst far 29) (by have := dst_le far 29; omega)
  simp only [List.length_append, bLE_len, bBE_len]
  omega
theorem pkF_len (l : List Nat) : ∀ n p, p ≤ l.length → (pkF l n p).length ≤ 11 * (l.length - p) + 9
  | 0, p, _ => by simp [pkF]
  | n + 1, p, hp => by
    unfold pkF
    split
    · have := symB_len 256; omega
    · split
      · have h1 := symB_len (gt l p)
        have h2 := pkF_len l n (p + 1) (by omega)
        rw [List.length_append]
        omega
      · rename_i e1 e2
        have h1 := mtB_len (bst l p p (0, 0)).1 (bst l p p (0, 0)).2
        have h3 := (bst_le (l := l) (p := p) (q := p) (b := (0, 0)) (Nat.le_refl _) (Nat.zero_le _) (Or.inl rfl)).1
        have h4 : mst l p ≤ l.length - p := Nat.min_le_right _ _
        have h2 := pkF_len l n (p + (bst l p p (0, 0)).1) (by omega)
        rw [List.length_append]
        omega
theorem fin_len {s : Pk} (h : s.2.2 < 8) : 8 * (fin s).length ≤ 8 * s.1.length + s.2.2 + 7 := by
  unfold fin
  split
  · omega
  · simp; omega
theorem packed_len (l : List Nat) : (packed l).length ≤ 2 * l.length + 4 := by
  have h1 := psL_len (s := (([], 0, 0) : Pk)) (bs := pkBits l) (show 0 < 8 by decide)
  have h2 := fin_len h1.2
  have h3 := pkF_len l (l.length + 1) 0 (Nat.zero_le _)
  have h4 : (pkBits l).length = 3 + (pkF l (l.length + 1) 0).length := by
    unfold pkBits
    simp only [List.length_append, bLE_len]
    omega
  unfold packed
  simp only [List.length_nil] at h1
  omega
/-- a run that pushes these bits, and ends -/
noncomputable def PE (X : Option (Unit × hS)) (c : hS) (t : List Nat) (s : Pk) (bs : List Nat) : Prop := ∃ c', X = some ((), c') ∧ row c' 3 (t ++ fin (psL s bs)) ∧ fr Spk c c'
theorem PE.bnd_ {X : Option (Unit × hS)} {K : Unit → hS → Option (Unit × hS)} {c : hS} {t : List Nat} {s : Pk} {p r : List Nat} (hX : PB X c t s p) (hK : ∀ c1, pkC c1 t (psL s p) → fr Spk c c1 → c1.1 10 3 = c.1 10 3 → PE (K () c1) c1 t (psL s p) r) : PE (bnd X K) c t s (p ++ r) := by
  obtain ⟨c1, e1, r1, f1, d1⟩ := hX
  obtain ⟨c2, e2, r2, f2⟩ := hK c1 r1 f1 d1
  refine ⟨c2, ?_, by rw [psL_app]; exact r2, f1.tr f2⟩
  rw [e1, bnd_some]
  exact e2
theorem pk_grow {c : hS} {t : List Nat} {s : Pk} (h : pkC c t s) (bs : List Nat) : (psL s bs).1.length ≤ s.1.length + bs.length := by
  have h1 := psL_len (s := s) (bs := bs) h.2.2.2.1
  have h2 := h.2.2.2.1
  omega
theorem PE.end_ {X : Option (Unit × hS)} {c : hS} {t : List Nat} {s : Pk} {bs : List Nat} (hX : PB X c t s bs) (hs : pkC c t s) (hl : t.length + s.1.length + bs.length + 1 ≤ 20000) : PE (bnd X fun _ c3 => if c3.1 10 2 ≤ 0 then some ((), c3) else bnd (f_X2_add c3 3 (c3.1 10 1)) fun _ c4 => some ((), c4)) c t s bs := by
  obtain ⟨c3, e3, ⟨q1, q2, q3, q4⟩, f3, _⟩ := hX
  have g := pk_grow hs bs
  revert q1 q2 q3 q4 g
  unfold PE
  generalize psL s bs = z
  intro q1 q2 q3 q4 g
  rw [e3, bnd_some, q2, q3]
  unfold fin
  by_cases e2 : z.2.2 = 0
  · rw [e2, if_pos (show nI 0 ≤ 0 by decide), if_pos rfl]
    exact ⟨c3, rfl, q1, f3⟩
  · have h8 := q4.1
    rw [if_neg (nI_nle (by omega) (by omega)), if_neg e2]
    have hlt : z.2.1 < 256 := Nat.lt_of_lt_of_le q4.2 (show 2 ^ z.2.2 ≤ 2 ^ 8 from Nat.pow_le_pow_right (by decide) (by omega))
    obtain ⟨c4, e4, r4, f4⟩ := f_add (nI z.2.1) q1 (by rw [ln4, List.length_append]; omega)
    rw [b8_nI' hlt, List.append_assoc] at r4
    exact ⟨c4, by rw [e4, bnd_some], r4, f3.tr (f4.mono (fun o ho => by simp at ho ⊢; omega))⟩
theorem f_packF {N : Nat} {b : Nat} {l t : List Nat} (hN : 1000000 ≤ N) (hb : b ∉ Spk) (hb' : b + 1 ∉ Spk) : ∀ d n p c s, l.length < p + d → d < n → p ≤ l.length → row c b l → pkC c t s → t.length + s.1.length + 11 * (l.length - p) + 50 ≤ 20000 → PE (f_X8_addPacked_24 N b n c (nI p)) c t s (pkF l d p) := by
  have hb1 : b ≠ 10 := fun e => hb (by rw [e]; simp)
  have hb2 : b + 1 ≠ 10 := fun e => hb' (by rw [e]; simp)
  intro d
  induction d with
  | zero => intro n p c s h1 h2 h3; omega
  | succ d ih =>
    intro n p c s hpd hn hp hr hs hl
    obtain ⟨n, rfl⟩ : ∃ m, n = m + 1 := ⟨n - 1, by omega⟩
    have l1 := hr.lt
    rw [f_X8_addPacked_24, f_size hr, bnd_some]
    unfold pkF
    by_cases e : l.length ≤ p
    · rw [if_pos (nI_le e (by omega)), if_pos e]
      exact PE.end_ (PB.symbol (v := 256) hN hs (by omega) rfl (by decide)) hs (by have := symB_len 256; omega)
    · rw [if_neg (nI_ge (by omega) l1), if_neg e]
      obtain ⟨c6, e6, d6, g6⟩ := f_longestBefore (p := p) hN hr (by omega) hb1 hb2
      obtain ⟨w1, w2⟩ := bst_le (l := l) (p := p) (q := p) (b := (0, 0)) (Nat.le_refl _) (Nat.zero_le _) (Or.inl rfl)
      have w3 : mst l p ≤ l.length - p := Nat.min_le_right _ _
      have w4 : mst l p ≤ 258 := Nat.min_le_left _ _
      rw [e6, bnd_some]
      revert d6 w1 w2
      generalize bst l p p (0, 0) = w
      intro d6 w1 w2
      have f6 : fr [10] c c6 := by
        rcases g6 with q | ⟨z, q⟩
        · rw [q]; exact fr.rf
        · rw [q]; exact fr.sI (by simp)
      have s6 : pkC c6 t s := by
        refine ⟨hs.1.fr f6 (by decide) (by decide), ?_, ?_, hs.2.2.2⟩
        · rcases g6 with q | ⟨z, q⟩
          · rw [q]; exact hs.2.1
          · rw [q, sI_j (by decide)]; exact hs.2.1
        · rcases g6 with q | ⟨z, q⟩
          · rw [q]; exact hs.2.2.1
          · rw [q, sI_j (by decide)]; exact hs.2.2.1
      have hr6 := hr.fr f6 (by simpa using hb1) (by simpa using hb2)
      have lift : ∀ {X : Option (Unit × hS)} {bs : List Nat}, PE X c6 t s bs → PE X c t s bs := fun ⟨c', a1, a2, a3⟩ => ⟨c', a1, a2, (f6.mono (fun o ho => by simp at ho ⊢; omega)).tr a3⟩
      by_cases e3 : w.1 < 3
      · rw [if_pos (show nI w.1 < 3 from nI_lt (b := 3) e3 (by decide)), if_pos e3, f_get hr6 (by omega), bnd_some]
        have bb := hr.2.2.2.gt p
        apply lift
        refine PE.bnd_ (PB.symbol (v := gt l p) hN s6 (by omega) rfl (by omega)) (fun c9 r9 f9 _ => ?_)
        have g := pk_grow s6 (symB (gt l p))
        have g2 := symB_len (gt l p)
        rw [nI_1]
        exact ih n (p + 1) c9 _ (by omega) (by omega) (by omega) (hr6.fr f9 hb hb') r9 (by omega)
      · rw [if_neg (show ¬ nI w.1 < 3 from nI_nlt (b := 3) (by omega) (by omega)), if_neg e3, f_lengthStep hN (by omega), bnd_some]
        have far1 : 1 ≤ w.2 ∧ w.2 ≤ p := w2.resolve_left (by omega)
        have d7 : c6.1 10 3 = nI w.2 := d6.resolve_left (by omega)
        have ls := lst_le w.1 28
        have lb := lst_base (n := w.1) (by omega) 28
        have ds := dst_le w.2 29
        have db := dst_base far1.1 29
        have lbt := lbits_lt (lst w.1 28) (by omega)
        have dbt := dbits_lt (dst w.2 29) (by omega)
        have p2 : p < 20000 := by have := hr.1; have := ln_le (b + 1); omega
        unfold mtB
        rw [List.append_assoc, List.append_assoc, List.append_assoc]
        apply lift
        rw [show (257 : Int32) = nI 257 from rfl, nI_add]
        refine PE.bnd_ (PB.symbol (v := 257 + lst w.1 28) hN s6 (by omega) rfl (by omega)) (fun c12 r12 f12 d12 => ?_)
        have g1 := pk_grow s6 (symB (257 + lst w.1 28))
        have g2 := symB_len (257 + lst w.1 28)
        rw [f_lengthBase (by omega), bnd_some, f_lengthBits (by omega), bnd_some, subI lb]
        refine PE.bnd_ (PB.bits (v := w.1 - lbase (lst w.1 28)) (n := lbits (lst w.1 28)) hN r12 (by omega) rfl (by omega) (by omega) rfl) (fun c17 r17 f17 d17 => ?_)
        have g3 := pk_grow r12 (bLE (w.1 - lbase (lst w.1 28)) (lbits (lst w.1 28)))
        rw [bLE_len] at g3
        rw [f_distanceSymbol (n := w.2) hN (by omega) (by rw [d17, d12, d7]), bnd_some]
        refine PE.bnd_ (PB.code (v := dst w.2 29) (n := 5) (m := 5) hN r17 (by omega) rfl (by omega) (by decide) rfl) (fun c20 r20 f20 d20 => ?_)
        have g4 := pk_grow r17 (bBE (dst w.2 29) 5)
        rw [bBE_len] at g4
        rw [f_distanceBase (by omega), bnd_some, f_distanceBits (by omega), bnd_some, d20, d17, d12, d7, subI db]
        refine PE.bnd_ (PB.bits (v := w.2 - dbase (dst w.2 29)) (n := dbits (dst w.2 29)) hN r20 (by omega) rfl (by omega) (by omega) rfl) (fun c25 r25 f25 d25 => ?_)
        have g5 := pk_grow r20 (bLE (w.2 - dbase (dst w.2 29)) (dbits (dst w.2 29)))
        rw [bLE_len] at g5
        rw [nI_add]
        have ff := (((f12.tr f17).tr f20).tr f25)
        exact ih n (p + w.1) c25 _ (by omega) (by omega) (by omega) (hr6.fr ff hb hb') r25 (by omega)
theorem f_addPacked {N : Nat} {c : hS} {b : Nat} {l t : List Nat} (hN : 1000000 ≤ N) (hb : b ∉ Spk) (hb' : b + 1 ∉ Spk) (hr : row c b l) (ht : row c 3 t) (hll : l.length ≤ 512) (hl : t.length + 11 * l.length + 60 ≤ 20000) : ∃ c', f_X8_addPacked N c b = some ((), c') ∧ row c' 3 (t ++ packed l) ∧ fr Spk c c' := by
  have hb1 : b ≠ 10 := fun e => hb (by rw [e]; simp)
  have hb2 : b + 1 ≠ 10 := fun e => hb' (by rw [e]; simp)
  have f2 : fr [10] c (sI (sI c 10 1 0) 10 2 0) := (fr.sI (by simp)).tr (fr.sI (by simp))
  have s2 : pkC (sI (sI c 10 1 0) 10 2 0) t ([], 0, 0) := by
    refine ⟨?_, ?_, ?_, show 0 < 8 by decide, show 0 < 2 ^ 0 by decide⟩
    · rw [List.append_nil]; exact ht.fr f2 (by decide) (by decide)
    · rw [sI_j (by decide), sI_s]; rfl
    · rw [sI_s]; rfl
  have r2 := hr.fr f2 (by simpa using hb1) (by simpa using hb2)
  have := PE.bnd_ (K := fun _ c3 => bnd (f_X8_addBits N c3 1 2) fun _ c4 => f_X8_addPacked_24 N b N c4 0) (PB.bits (v := 1) (n := 1) hN s2 (by simp; omega) rfl (by decide) (by decide) rfl) (fun c3 r3 f3 _ => PE.bnd_ (K := fun _ c4 => f_X8_addPacked_24 N b N c4 0) (PB.bits (v := 1) (n := 2) hN r3 (by have := pk_grow s2 (bLE 1 1); rw [bLE_len] at this; simp at this; omega) rfl (by decide) (by decide) rfl) (fun c4 r4 f4 _ => f_packF hN hb hb' (l.length + 1) N 0 c4 _ (by omega) (by omega) (by omega) ((r2.fr f3 hb hb').fr f4 hb hb') r4 (by
    have g1 := pk_grow s2 (bLE 1 1)
    have g2 := pk_grow r3 (bLE 1 2)
    rw [bLE_len] at g1 g2
    simp only [List.length_nil] at g1
    omega)))
  obtain ⟨c', e', r', f'⟩ := this
  refine ⟨c', ?_, r', (f2.mono (fun o ho => by simp at ho ⊢; omega)).tr f'⟩
  unfold f_X8_addPacked
  exact e'
