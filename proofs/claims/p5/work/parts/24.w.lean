/-! PURE: packed bytes are opened -/
theorem nm1' {n : Nat} (h : n < 2 ^ 31) : ¬ nI n = -1 := fun z => by
  have := nI_pos h
  rw [z] at this
  exact this (by decide)
/-- the class's unpacker at bit b of e, with these bytes of so many at most -/
noncomputable def UO (c : hS) (t : List Nat) (b e most : Nat) (out : List Nat) : Prop := unB c t b e ∧ row c 7 out ∧ c.1 11 11 = nI most ∧ most ≤ 512 ∧ out.length ≤ most
theorem UO.mv {c : hS} {t : List Nat} {b e most b' : Nat} {out : List Nat} (h : UO c t b e most out) (hb : b' ≤ e) : UO (sI c 11 9 (nI b')) t b' e most out := ⟨h.1.mv hb, h.2.1.fr (S := [11]) (fr.sI (by simp)) (by decide) (by decide), by rw [sI_j (by decide)]; exact h.2.2.1, h.2.2.2⟩
theorem UO.add {c : hS} {t : List Nat} {b e most x : Nat} {out : List Nat} (h : UO c t b e most out) (hl : out.length < most) (hx : x < 256) : ∃ c', f_X2_add c 7 (nI x) = some ((), c') ∧ UO c' t b e most (out ++ [x]) ∧ fr [7, 8] c c' := by
  obtain ⟨c', e1, r1, f1⟩ := f_add (nI x) h.2.1 (show out.length < 512 by have := h.2.2.2.1; omega)
  rw [b8_nI' hx] at r1
  exact ⟨c', e1, ⟨h.1.fr f1 (by decide) (by decide) (by decide), r1, (f1.i (by decide) 11).trans h.2.2.1, h.2.2.2.1, by simp; omega⟩, f1⟩
noncomputable abbrev So4 : List Nat := [7, 8, 9, 11]
theorem So9 {c c' : hS} (h : fr [9] c c') : fr So4 c c' := h.mono (fun o ho => by simp at ho ⊢; omega)
theorem So78 {c c' : hS} (h : fr [7, 8] c c') : fr So4 c c' := h.mono (fun o ho => by simp at ho ⊢; omega)
theorem So11 {c : hS} {j : Nat} {x : Int32} : fr So4 c (sI c 11 j x) := fr.sI (by simp)
/-- what a run of the unpacker says -/
noncomputable def UR (X : Option (Int32 × hS)) (c : hS) (S : List Nat) (t : List Nat) (e most : Nat) (r : Option (List Nat × Nat)) : Prop := ∃ c', X = some (bI r.isSome, c') ∧ fr S c c' ∧ ∀ out b, r = some (out, b) → UO c' t b e most out
theorem UR.no {X : Option (Int32 × hS)} {c c1 : hS} {S t : List Nat} {e most : Nat} {r : Option (List Nat × Nat)} (hr : r = none) (hX : ∃ c', X = some (0, c') ∧ fr S c1 c') (hf : fr S c c1) : UR X c S t e most r := by
  obtain ⟨c', e1, f1⟩ := hX
  subst hr
  exact ⟨c', e1, hf.tr f1, fun _ _ z => by cases z⟩
theorem UR.yes {c c1 : hS} {S t : List Nat} {e most b : Nat} {out : List Nat} (h : UO c1 t b e most out) (hf : fr S c c1) : UR (some (1, c1)) c S t e most (some (out, b)) := ⟨c1, rfl, hf, fun _ _ z => by cases z; exact h⟩
theorem tellX (c1 : hS) (a p : Int32) : ∃ c', (bnd (f_X6_tell c1 a p) fun x c2 => bif j_b x then some (x, c2) else none) = some (0, c') ∧ fr So4 c1 c' := by
  obtain ⟨c', a1, a2, _⟩ := RB.tellb (c := c1) (a := a) (p := p)
  exact ⟨c', a1, So9 a2⟩
/-! sort 0 -/
noncomputable def stoB (t : List Nat) (b n : Nat) : List Nat := (List.range n).map fun i => bv t (b + 8 * i) 8
noncomputable def stoF (t : List Nat) (e most b : Nat) (out : List Nat) : Option (List Nat × Nat) := if (b + 7) / 8 * 8 + 32 ≤ e then (if bv t ((b + 7) / 8 * 8 + 16) 16 = 65535 - bv t ((b + 7) / 8 * 8) 16 then (if (b + 7) / 8 * 8 + 32 + 8 * bv t ((b + 7) / 8 * 8) 16 ≤ e ∧ out.length + bv t ((b + 7) / 8 * 8) 16 ≤ most then some (out ++ stoB t ((b + 7) / 8 * 8 + 32) (bv t ((b + 7) / 8 * 8) 16), (b + 7) / 8 * 8 + 32 + 8 * bv t ((b + 7) / 8 * 8) 16) else none) else none) else none
theorem andm8 (a : Nat) (ha : a < 2 ^ 31) : nI a &&& (-8) = nI (a / 8 * 8) := by
  have h1 := Nat.div_add_mod a 8
  have e : nI a = nI (a / 8 * 8) + nI (a % 8) := by rw [nI_add]; congr 1; omega
  apply b_ext
  intro i hi
  rw [b_and]
  have m8 : ∀ i, i < 32 → bt (-8) i = decide (3 ≤ i) := by decide +kernel
  rw [m8 i hi]
  have g1 : bt (nI a) i = a.testBit i := by
    show (BitVec.ofNat 32 a).getLsbD i = _
    rw [BitVec.getLsbD_ofNat, decide_eq_true hi, Bool.true_and]
  have g2 : bt (nI (a / 8 * 8)) i = (a / 8 * 8).testBit i := by
    show (BitVec.ofNat 32 (a / 8 * 8)).getLsbD i = _
    rw [BitVec.getLsbD_ofNat, decide_eq_true hi, Bool.true_and]
  rw [g1, g2, show a / 8 * 8 = (a >>> 3) <<< 3 by rw [Nat.shiftRight_eq_div_pow, Nat.shiftLeft_eq], Nat.testBit_shiftLeft, Nat.testBit_shiftRight]
  by_cases q : 3 ≤ i
  · rw [decide_eq_true q, Bool.and_true, Bool.true_and, show 3 + (i - 3) = i by omega]
  · rw [decide_eq_false q, Bool.and_false, Bool.false_and]
theorem f_isStored {N : Nat} {c : hS} {t out : List Nat} {b e most : Nat} (hN : 1000000 ≤ N) (h : UO c t b e most out) (he8 : e % 8 = 0) : UR (f_X10_isStored N c) c So4 t e most (stoF t e most b out) := by
  have he := h.1.e
  have hbe := h.1.2.2.2.1
  have h512 := h.2.2.2.1
  unfold f_X10_isStored stoF
  rw [h.1.2.1, show nI b + 7 = nI (b + 7) from nI_add b 7, andm8 _ (by omega)]
  dsimp only [st1]
  generalize hb0 : (b + 7) / 8 * 8 = b0
  have hb0e : b0 ≤ e := by omega
  have h0 := h.mv (b' := b0) hb0e
  have f0 : fr So4 c (sI c 11 9 (nI b0)) := So11
  revert h0 f0
  generalize sI c 11 9 (nI b0) = c1
  intro h0 f0
  by_cases q1 : b0 + 32 ≤ e
  · have v1 := bv_lt t b0 16
    have v2 := bv_lt t (b0 + 16) 16
    rw [show (16 : Int32) = nI 16 from rfl, f_takeBits hN h0.1 (show b0 + 16 ≤ e by omega) (by decide), bnd_some, f_takeBits hN (h0.mv (b' := b0 + 16) (by omega)).1 (show b0 + 16 + 16 ≤ e by omega) (by decide), bnd_some, sI_sI, if_neg (nm1' (by omega)), if_neg (nm1' (by omega)), if_pos q1, show (65535 : Int32) = nI 65535 from rfl, subI (by omega)]
    have h2 := h0.mv (b' := b0 + 16 + 16) (by omega)
    have f2 : fr So4 c (sI c1 11 9 (nI (b0 + 16 + 16))) := f0.tr So11
    rw [show b0 + 16 + 16 = b0 + 32 by omega] at h2 f2 ⊢
    revert h2 f2
    generalize sI c1 11 9 (nI (b0 + 32)) = c2
    intro h2 f2
    by_cases q2 : bv t (b0 + 16) 16 = 65535 - bv t b0 16
    · rw [if_pos (by rw [q2]), if_pos q2]
      generalize hnn : bv t b0 16 = nn
      rw [hnn] at v1
      have key : ∀ d n i c u, i + d = nn → d < n → UO c t (b0 + 32 + 8 * i) e most u → UR (f_X10_isStored_64 N n c (nI nn) (nI i)) c So4 t e most (if b0 + 32 + 8 * nn ≤ e ∧ u.length + d ≤ most then some (u ++ (List.range' i d).map (fun i => bv t (b0 + 32 + 8 * i) 8), b0 + 32 + 8 * nn) else none) := by
        intro d
        induction d with
        | zero =>
          intro n i c u hi hn hu
          obtain ⟨n, rfl⟩ : ∃ m, n = m + 1 := ⟨n - 1, by omega⟩
          have : i = nn := by omega
          subst this
          rw [f_X10_isStored_64, if_pos (nI_le (Nat.le_refl _) (by omega))]
          by_cases q : b0 + 32 + 8 * i ≤ e ∧ u.length + 0 ≤ most
          · rw [if_pos q]
            have := UR.yes (S := So4) hu (fr.rf (c := c))
            simpa using this
          · exfalso
            apply q
            have e1 := hu.1.2.2.2.1
            exact ⟨e1, hu.2.2.2.2⟩
        | succ d ih =>
          intro n i c u hi hn hu
          obtain ⟨n, rfl⟩ : ∃ m, n = m + 1 := ⟨n - 1, by omega⟩
          rw [f_X10_isStored_64, if_neg (nI_ge (by omega) (by omega))]
          by_cases q4 : b0 + 32 + 8 * i + 8 ≤ e
          · have v8 := bv_lt t (b0 + 32 + 8 * i) 8
            have h3 := hu.mv (b' := b0 + 32 + 8 * i + 8) q4
            rw [show (8 : Int32) = nI 8 from rfl, f_takeBits hN hu.1 q4 (by decide), bnd_some, if_neg (nm1' (by omega)), f_size h3.2.1, bnd_some, h3.2.2.1]
            have ml := h3.2.2.2
            by_cases q5 : u.length < most
            · rw [if_pos (nI_lt q5 (by omega))]
              obtain ⟨c5, e5, h5, f5⟩ := h3.add q5 v8
              rw [e5, bnd_some, nI_1]
              rw [show b0 + 32 + 8 * i + 8 = b0 + 32 + 8 * (i + 1) by omega] at h5
              obtain ⟨c6, w1, w2, w3⟩ := ih n (i + 1) c5 _ (by omega) (by omega) h5
              refine ⟨c6, ?_, (So11.tr (So78 f5)).tr w2, ?_⟩
              · rw [w1]
                congr 3
                rw [List.length_append, List.length_singleton, show u.length + 1 + d = u.length + (d + 1) by omega, List.range'_succ, List.map_cons, List.append_assoc]
                rfl
              · intro out' b' z
                apply w3
                rw [← z, List.length_append, List.length_singleton, show u.length + 1 + d = u.length + (d + 1) by omega, List.range'_succ, List.map_cons, List.append_assoc]
                rfl
            · rw [if_neg (nI_nlt (by omega) (by omega)), if_neg (by omega)]
              exact UR.no rfl (tellX _ _ _) So11
          · obtain ⟨c', a1, a2⟩ := f_takeBits_no (N := N) (n := 8) hu.1 (by omega) (by decide)
            rw [show (8 : Int32) = nI 8 from rfl, a1, bnd_some, if_pos rfl, if_neg (by omega)]
            exact UR.no rfl ⟨c', rfl, So9 a2⟩ fr.rf
      obtain ⟨c9, w1, w2, w3⟩ := key nn N 0 c2 out (by omega) (by omega) (by simpa using h2)
      have er : (List.range' 0 nn).map (fun i => bv t (b0 + 32 + 8 * i) 8) = stoB t (b0 + 32) nn := by unfold stoB; rw [List.range_eq_range']
      rw [er] at w1 w3
      exact ⟨c9, w1, f2.tr w2, w3⟩
    · rw [if_neg (fun z => q2 ((nI_eq (by omega) (by omega)).mp z)), if_neg q2]
      exact UR.no rfl (tellX _ _ _) f2
  · rw [if_neg q1]
    -- one of the two numbers lacks
    by_cases q3 : b0 + 16 ≤ e
    · have v1 := bv_lt t b0 16
      obtain ⟨c5, a1, a2⟩ := f_takeBits_no (N := N) (n := 16) (h0.mv (b' := b0 + 16) q3).1 (by omega) (by decide)
      rw [show (16 : Int32) = nI 16 from rfl, f_takeBits hN h0.1 q3 (by decide), bnd_some, a1, bnd_some, if_neg (nm1' (by omega)), if_pos rfl]
      exact UR.no rfl ⟨c5, rfl, So9 a2⟩ (f0.tr So11)
    · obtain ⟨c3, a1, a2⟩ := f_takeBits_no (N := N) (n := 16) h0.1 (by omega) (by decide)
      obtain ⟨c5, a3, a4⟩ := f_takeBits_no (N := N) (n := 16) (h0.1.fr a2 (by decide) (by decide) (by decide)) (by omega) (by decide)
      rw [show (16 : Int32) = nI 16 from rfl, a1, bnd_some, a3, bnd_some, if_pos rfl]
      exact UR.no rfl ⟨c5, rfl, So9 a4⟩ (f0.tr (So9 a2))
/-! a length and its distance -/
noncomputable def cpy (d : Nat) : Nat → List Nat → List Nat
  | 0, out => out
  | n + 1, out => cpy d n (out ++ [gt out (out.length - d)])
theorem cpy_len (d : Nat) : ∀ n out, (cpy d n out).length = out.length + n
  | 0, out => rfl
  | n + 1, out => by unfold cpy; rw [cpy_len]; simp; omega
noncomputable def copF (t : List Nat) (e : Nat) (lD : List Nat) (most : Nat) (out : List Nat) (s b : Nat) : Option (List Nat × Nat) := if b + lbits s ≤ e then (match dec t e lD (b + lbits s) with
    | none => none
    | some p => if p.1 ≤ 29 then (if p.2 + dbits p.1 ≤ e then (if dbase p.1 + bv t p.2 (dbits p.1) ≤ out.length ∧ out.length + (lbase s + bv t b (lbits s)) ≤ most then some (cpy (dbase p.1 + bv t p.2 (dbits p.1)) (lbase s + bv t b (lbits s)) out, p.2 + dbits p.1) else none) else none) else none) else none
theorem f_isCopied {N : Nat} {c : hS} {t out lD : List Nat} {b e most s d : Nat} {p : Int32} (hN : 1000000 ≤ N) (h : UO c t b e most out) (hs : s < 29) (hd : isCd d) (hc : cdC c d lD) (hl : lD.length ≤ 320) : UR (f_X10_isCopied N c (nI s) d p) c So4 t e most (copF t e lD most out s b) := by
  have he := h.1.e
  have hd11 : 11 < d := by rcases hd with rfl | rfl | rfl | rfl | rfl <;> decide
  have lb := lbits_lt s hs
  have lba := lbase_lt s hs
  have v1 := bv_lt t b (lbits s)
  have v1' : 2 ^ lbits s ≤ 2 ^ 5 := Nat.pow_le_pow_right (by decide) lb
  unfold f_X10_isCopied copF
  rw [f_lengthBits hs, bnd_some]
  by_cases q1 : b + lbits s ≤ e
  · rw [f_takeBits hN h.1 q1 (by omega), bnd_some, if_neg (nm1' (by omega)), if_pos q1]
    have h1 := h.mv (b' := b + lbits s) q1
    have f1 : fr So4 c (sI c 11 9 (nI (b + lbits s))) := So11
    have hc1 := hc.fr f1 (by simp only [List.mem_cons, List.not_mem_nil, or_false]; omega) (by simp only [List.mem_cons, List.not_mem_nil, or_false]; omega) (by simp only [List.mem_cons, List.not_mem_nil, or_false]; omega)
    obtain ⟨c6, e6, f6, g6⟩ := f_takeSymbol (p := p) hN h1.1 hd hc1 hl
    have f6' : fr So4 c c6 := f1.tr (f6.mono (fun o ho => by simp at ho ⊢; omega))
    rw [e6, bnd_some]
    cases hdc : dec t e lD (b + lbits s) with
    | none =>
      rw [show sym1 none = -1 from rfl, if_pos rfl]
      exact UR.no rfl ⟨c6, rfl, fr.rf⟩ f6'
    | some q =>
      obtain ⟨s2, b1⟩ := q
      have dl := dec_lt hdc
      have ec := g6 s2 b1 hdc
      subst ec
      rw [show sym1 (some (s2, b1)) = nI s2 from rfl, if_neg (nm1' (by omega))]
      have h2 := h1.mv (b' := b1) dl.2.2
      dsimp only
      by_cases q2 : s2 ≤ 29
      · have db := dbits_lt s2 (by omega)
        have dba := dbase_lt s2 (by omega)
        have v2 := bv_lt t b1 (dbits s2)
        have v2' : 2 ^ dbits s2 ≤ 2 ^ 13 := Nat.pow_le_pow_right (by decide) db
        rw [if_pos (show nI s2 ≤ 29 from nI_le (b := 29) q2 (by decide)), if_pos q2, f_distanceBits (by omega), bnd_some]
        by_cases q3 : b1 + dbits s2 ≤ e
        · rw [f_takeBits hN h2.1 q3 (by omega), bnd_some, if_neg (nm1' (by omega)), if_pos q3, f_lengthBase hs, bnd_some, f_distanceBase (by omega), bnd_some]
          have h3 := h2.mv (b' := b1 + dbits s2) q3
          rw [sI_sI, sI_sI] at h3 ⊢
          have f3 : fr So4 c (sI c 11 9 (nI (b1 + dbits s2))) := So11
          revert h3 f3
          generalize sI c 11 9 (nI (b1 + dbits s2)) = c3
          intro h3 f3
          generalize hdist : dbase s2 + bv t b1 (dbits s2) = dist
          generalize hlen : lbase s + bv t b (lbits s) = len
          rw [f_size h3.2.1, bnd_some, nI_add, nI_add, hdist, hlen]
          have ml := h3.2.2.2
          by_cases q4 : dist ≤ out.length
          · rw [if_pos (nI_le q4 (by omega)), f_size h3.2.1, bnd_some, nI_add, h3.2.2.1]
            by_cases q5 : out.length + len ≤ most
            · rw [if_pos (nI_le q5 (by omega)), if_pos ⟨q4, q5⟩]
              have dpos : 1 ≤ dist := by
                have := (by decide +kernel : ∀ s, s < 30 → 1 ≤ dbase s) s2 (by omega)
                omega
              have key : ∀ r n i c u, i + r = len → r < n → UO c t (b1 + dbits s2) e most u → dist ≤ u.length → u.length + r ≤ most → UR (f_X10_isCopied_144 N (nI s) d p n c (nI len) (nI dist) (nI i)) c So4 t e most (some (cpy dist r u, b1 + dbits s2)) := by
                intro r
                induction r with
                | zero =>
                  intro n i c u hi hn hu hdu hul
                  obtain ⟨n, rfl⟩ : ∃ m, n = m + 1 := ⟨n - 1, by omega⟩
                  rw [f_X10_isCopied_144, if_pos (nI_le (by omega) (by omega))]
                  exact UR.yes hu fr.rf
                | succ r ih =>
                  intro n i c u hi hn hu hdu hul
                  obtain ⟨n, rfl⟩ : ∃ m, n = m + 1 := ⟨n - 1, by omega⟩
                  have bb := hu.2.1.2.2.2.gt (u.length - dist)
                  rw [f_X10_isCopied_144, if_neg (nI_ge (by omega) (by omega)), f_size hu.2.1, bnd_some, subI hdu, f_get hu.2.1 (by omega), bnd_some]
                  obtain ⟨c5, e5, h5, f5⟩ := hu.add (x := gt u (u.length - dist)) (by omega) bb
                  rw [e5, bnd_some, nI_1]
                  obtain ⟨c6, w1, w2, w3⟩ := ih n (i + 1) c5 _ (by omega) (by omega) h5 (by simp; omega) (by simp; omega)
                  exact ⟨c6, w1, (So78 f5).tr w2, w3⟩
              obtain ⟨c9, w1, w2, w3⟩ := key len N 0 c3 out (by omega) (by omega) h3 q4 q5
              exact ⟨c9, w1, f3.tr w2, w3⟩
            · rw [if_neg (nI_ge (by omega) (by omega)), if_neg (fun z => q5 z.2)]
              exact UR.no rfl (tellX _ _ _) f3
          · rw [if_neg (nI_ge (by omega) (by omega)), if_neg (fun z => q4 z.1)]
            exact UR.no rfl (tellX _ _ _) f3
        · obtain ⟨c', a1, a2⟩ := f_takeBits_no (N := N) (n := dbits s2) h2.1 (by omega) (by omega)
          rw [a1, bnd_some, if_pos rfl, if_neg q3]
          exact UR.no rfl ⟨c', rfl, So9 a2⟩ f6'
      · rw [if_neg (show ¬ nI s2 ≤ 29 from nI_ge (a := 29) (by omega) (by omega)), if_neg q2]
        exact UR.no rfl (tellX _ _ _) f6'
  · obtain ⟨c', a1, a2⟩ := f_takeBits_no (N := N) (n := lbits s) h.1 (by omega) (by omega)
    rw [a1, bnd_some, if_pos rfl, if_neg q1]
    exact UR.no rfl ⟨c', rfl, So9 a2⟩ fr.rf
/-! symbols up to the end of a block -/
noncomputable def stp (s : Nat) : Nat := s - 257
/-- what a symbol is: the end, a byte, a length, none -/
noncomputable def kd (s : Nat) : Nat := if s = 256 then 0 else if s ≤ 285 then (if s ≤ 256 then 1 else 2) else 3
noncomputable def symG (t : List Nat) (e : Nat) (lS : List Nat) (most : Nat) (cop : List Nat → Nat → Nat → Option (List Nat × Nat)) : Nat → Nat → List Nat → Option (List Nat × Nat)
  | 0, _, _ => none
  | f + 1, b, out => match dec t e lS b with
    | none => none
    | some p => if kd p.1 = 0 then some (out, p.2) else if kd p.1 = 1 then (if out.length < most then symG t e lS most cop f p.2 (out ++ [p.1]) else none) else if kd p.1 = 2 then (match cop out (stp p.1) p.2 with
      | none => none
      | some q => symG t e lS most cop f q.2 q.1) else none
noncomputable def symF (t : List Nat) (e : Nat) (lS lD : List Nat) (most f b : Nat) (out : List Nat) : Option (List Nat × Nat) := symG t e lS most (copF t e lD most) f b out
theorem symF_no {t : List Nat} {e : Nat} {lS lD : List Nat} {most f b : Nat} {out : List Nat} (h : dec t e lS b = none) : symF t e lS lD most (f + 1) b out = none := by
  unfold symF
  rw [symG, h]
theorem symF_so {t : List Nat} {e : Nat} {lS lD : List Nat} {most f b s b1 : Nat} {out : List Nat} (h : dec t e lS b = some (s, b1)) : symF t e lS lD most (f + 1) b out = if kd s = 0 then some (out, b1) else if kd s = 1 then (if out.length < most then symF t e lS lD most f b1 (out ++ [s]) else none) else if kd s = 2 then (match copF t e lD most out (stp s) b1 with
      | none => none
      | some q => symF t e lS lD most f q.2 q.1) else none := by
  unfold symF
  rw [symG, h]
theorem kd0 {s : Nat} (h : s = 256) : kd s = 0 := by unfold kd; rw [if_pos h]
theorem kd1 {s : Nat} (h1 : ¬ s = 256) (h2 : s ≤ 285) (h3 : s ≤ 256) : kd s = 1 := by unfold kd; rw [if_neg h1, if_pos h2, if_pos h3]
theorem kd2 {s : Nat} (h1 : ¬ s = 256) (h2 : s ≤ 285) (h3 : ¬ s ≤ 256) : kd s = 2 := by unfold kd; rw [if_neg h1, if_pos h2, if_neg h3]
theorem kd3 {s : Nat} (h1 : ¬ s = 256) (h2 : ¬ s ≤ 285) : kd s = 3 := by unfold kd; rw [if_neg h1, if_neg h2]
theorem copF_lt {t : List Nat} {e : Nat} {lD : List Nat} {most : Nat} {out out' : List Nat} {s b b' : Nat} (h : copF t e lD most out s b = some (out', b')) : b < b' ∧ b' ≤ e := by
  unfold copF at h
  split at h
  · split at h
    · cases h
    · rename_i p hp
      have := dec_lt (s := p.1) (b' := p.2) hp
      split at h
      · split at h
        · split at h
          · cases h
            omega
          · cases h
        · cases h
      · cases h
  · cases h
theorem n160 : nI 160000 = 160000 := by decide
theorem lt160 {k : Nat} (hk : k ≤ 160000) : ¬ (160000 : Int32) < nI k := by
  rw [← n160]
  exact nI_nlt hk (by omega)
theorem f_areSymbols {N : Nat} {c : hS} {t out lS lD : List Nat} {b e most d1 d2 : Nat} (hN : 1000000 ≤ N) (h : UO c t b e most out) (hd1 : isCd d1) (hd2 : isCd d2) (h1 : cdC c d1 lS) (h2 : cdC c d2 lD) (l1 : lS.length ≤ 320) (l2 : lD.length ≤ 320) : UR (f_X10_areSymbols N c d1 d2) c So4 t e most (symF t e lS lD most (e - b + 1) b out) := by
  have he := h.1.e
  have n1 : 11 < d1 := by rcases hd1 with rfl | rfl | rfl | rfl | rfl <;> decide
  have n2 : 11 < d2 := by rcases hd2 with rfl | rfl | rfl | rfl | rfl <;> decide
  have cf : ∀ {a b : hS} {d : Nat} {l : List Nat}, 11 < d → cdC a d l → fr So4 a b → cdC b d l := fun hd hc hf => hc.fr hf (by simp only [List.mem_cons, List.not_mem_nil, or_false]; omega) (by simp only [List.mem_cons, List.not_mem_nil, or_false]; omega) (by simp only [List.mem_cons, List.not_mem_nil, or_false]; omega)
  have key : ∀ f n k b c out, e < b + f → f < n → k ≤ b → UO c t b e most out → cdC c d1 lS → cdC c d2 lD → UR (f_X10_areSymbols_2 N d1 d2 n c (nI k)) c So4 t e most (symF t e lS lD most f b out) := by
    intro f
    induction f with
    | zero => intro n k b c out h1 _ _ h2; have := h2.1.2.2.2.1; omega
    | succ f ih =>
      intro n k b c out hf hn hk h h1 h2
      have hbe := h.1.2.2.2.1
      obtain ⟨n, rfl⟩ : ∃ m, n = m + 1 := ⟨n - 1, by omega⟩
      rw [f_X10_areSymbols_2, if_neg (lt160 (by omega))]
      obtain ⟨c2, e2, f2, g2⟩ := f_takeSymbol (p := j_shr (c.1 11 9) 3) hN h.1 hd1 h1 l1
      have f2' : fr So4 c c2 := f2.mono (fun o ho => by simp at ho ⊢; omega)
      rw [e2, bnd_some]
      cases hdc : dec t e lS b with
      | none =>
        rw [symF_no hdc, show sym1 none = -1 from rfl, if_pos rfl]
        exact UR.no rfl ⟨c2, rfl, fr.rf⟩ f2'
      | some q =>
        obtain ⟨s, b1⟩ := q
        have dl := dec_lt hdc
        have ec := g2 s b1 hdc
        subst ec
        have h3 := h.mv (b' := b1) dl.2.2
        have ml := h3.2.2.2
        rw [symF_so hdc, show sym1 (some (s, b1)) = nI s from rfl, if_neg (nm1' (by omega))]
        by_cases q1 : s = 256
        · rw [if_pos (show nI s = 256 by rw [q1]; rfl), if_pos (kd0 q1)]
          exact UR.yes h3 f2'
        · rw [if_neg (show ¬ nI s = 256 from fun z => q1 ((nI_eq (by omega) (show 256 < 2 ^ 31 by decide)).mp z))]
          by_cases q2 : s ≤ 285
          · rw [if_pos (show nI s ≤ 285 from nI_le (b := 285) q2 (by decide))]
            by_cases q3 : s ≤ 256
            · rw [if_pos (show nI s ≤ 256 from nI_le (b := 256) q3 (by decide)), kd1 q1 q2 q3, if_neg (by decide), if_pos rfl, f_size h3.2.1, bnd_some, h3.2.2.1]
              by_cases q4 : out.length < most
              · rw [if_pos (nI_lt q4 (by omega)), if_pos q4]
                obtain ⟨c5, e5, h5, f5⟩ := h3.add (x := s) q4 (by omega)
                rw [e5, bnd_some, nI_1]
                have f5' := f2'.tr (So78 f5)
                obtain ⟨c6, w1, w2, w3⟩ := ih n (k + 1) b1 c5 _ (by omega) (by omega) (by omega) h5 (cf n1 h1 f5') (cf n2 h2 f5')
                exact ⟨c6, w1, f5'.tr w2, w3⟩
              · rw [if_neg (nI_nlt (by omega) (by omega)), if_neg q4]
                exact UR.no rfl (tellX _ _ _) f2'
            · rw [if_neg (show ¬ nI s ≤ 256 from nI_ge (a := 256) (by omega) (by omega)), kd2 q1 q2 q3, if_neg (by decide), if_neg (by decide), if_pos rfl, show nI s - 256 - 1 = nI (stp s) by rw [show (256 : Int32) = nI 256 from rfl, subI (by omega), show nI (s - 256) - 1 = nI (s - 256 - 1) from subI (b := 1) (by omega), show s - 256 - 1 = stp s by unfold stp; omega]]
              obtain ⟨c9, w1, w2, w3⟩ := f_isCopied (s := stp s) (p := j_shr (c.1 11 9) 3) hN h3 (by unfold stp; omega) hd2 (cf n2 h2 f2') l2
              rw [w1, bnd_some]
              cases hcp : copF t e lD most out (stp s) b1 with
              | none =>
                rw [if_pos (show bI (none : Option (List Nat × Nat)).isSome = 0 from rfl)]
                exact UR.no rfl ⟨c9, rfl, fr.rf⟩ (f2'.tr w2)
              | some q =>
                obtain ⟨out', b2⟩ := q
                have cl := copF_lt hcp
                rw [if_neg (show ¬ bI (some (out', b2)).isSome = 0 from (by decide : ¬ bI true = 0)), nI_1]
                have f9 := f2'.tr w2
                obtain ⟨c6, y1, y2, y3⟩ := ih n (k + 1) b2 c9 out' (by omega) (by omega) (by omega) (w3 out' b2 hcp) (cf n1 h1 f9) (cf n2 h2 f9)
                exact ⟨c6, y1, f9.tr y2, y3⟩
          · rw [if_neg (show ¬ nI s ≤ 285 from nI_ge (a := 285) (by omega) (by omega)), kd3 q1 q2, if_neg (by decide), if_neg (by decide), if_neg (by decide)]
            exact UR.no rfl (tellX _ _ _) f2'
  have := key (e - b + 1) N 0 b c out (by omega) (by omega) (by omega) h h1 h2
  exact this
