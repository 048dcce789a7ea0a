/-! PURE: codes that a block tells -/
noncomputable def ordL : List Nat := [16, 17, 18, 0, 8, 7, 9, 6, 10, 5, 11, 4, 12, 3, 13, 2, 14, 1, 15]
noncomputable def clF (t : List Nat) (b : Nat) : Nat → List Nat
  | 0 => List.replicate 19 0
  | i + 1 => (clF t b i).set (gt ordL i) (bv t (b + 3 * i) 3)
theorem clF_len (t : List Nat) (b : Nat) : ∀ i, (clF t b i).length = 19
  | 0 => by simp [clF]
  | i + 1 => by unfold clF; rw [List.length_set, clF_len t b i]
theorem gt_set {l : List Nat} {i k v : Nat} (hi : i < l.length) : gt (l.set i v) k = if k = i then v else gt l k := by
  by_cases e : k = i
  · subst e
    rw [if_pos rfl, gt_lt (by simpa using hi)]
    simp
  · rw [if_neg e]
    by_cases h : k < l.length
    · rw [gt_lt (by simpa using h), gt_lt h, List.getElem_set_ne (Ne.symm e)]
    · rw [gt_ge (by simpa using Nat.le_of_not_lt h), gt_ge (Nat.le_of_not_lt h)]
theorem gt_rep {n v k : Nat} : gt (List.replicate n v) k = if k < n then v else 0 := by
  by_cases h : k < n
  · rw [if_pos h, gt_lt (by simpa using h)]; simp
  · rw [if_neg h, gt_ge (by simpa using Nat.le_of_not_lt h)]
theorem ordL_lt : ∀ i, i < 19 → gt ordL i < 19 := by decide
theorem clF_lt (t : List Nat) (b : Nat) : ∀ i k, i ≤ 19 → gt (clF t b i) k < 16
  | 0, k, _ => by unfold clF; rw [gt_rep]; split <;> decide
  | i + 1, k, hi => by
    unfold clF
    rw [gt_set (by rw [clF_len]; exact ordL_lt i (by omega))]
    have h1 := bv_lt t (b + 3 * i) 3
    split
    · omega
    · exact clF_lt t b i k (by omega)
noncomputable def hH (t : List Nat) (b : Nat) : Nat := 257 + bv t b 5
noncomputable def hK (t : List Nat) (b : Nat) : Nat := 1 + bv t (b + 5) 5
noncomputable def hn (t : List Nat) (b : Nat) : Nat := 4 + bv t (b + 10) 4
noncomputable def hcB (t : List Nat) (e b : Nat) : Bool := if b + 5 ≤ e then if hH t b ≤ 286 then if b + 10 ≤ e then if hK t b ≤ 30 then if b + 14 ≤ e then if b + 14 + 3 * hn t b ≤ e then decide (ful (clF t (b + 14) (hn t b)) 15 = 32768) else false else false else false else false else false else false
noncomputable def Sun : List Nat := [9, 11, 20, 21, 22, 23, 24, 25, 26, 27, 28, 29, 30, 31, 32]
theorem Sun_of {S : List Nat} {c c' : hS} (h : fr S c c') (hS : ∀ o, o ∈ S → o ∈ Sun) : fr Sun c c' := h.mono hS
theorem sa0_at : ∀ i, i < 19 → sa0.getD i 0 = nI (gt ordL i) := by decide
theorem fr11 {c : hS} {j : Nat} {x : Int32} : fr Sun c (sI c 11 j x) := fr.sI (by decide)
theorem f_areLengthCodes {N : Nat} {c : hS} {t : List Nat} {b e : Nat} (hN : 1000000 ≤ N) (h : unB c t b e) : ∃ c', f_X10_areLengthCodes N c = some (bI (hcB t e b), c') ∧ fr Sun c c' ∧ (∀ k, k ≠ 9 → k ≠ 13 → k ≠ 14 → c'.1 11 k = c.1 11 k) ∧ (hcB t e b = true → c'.1 11 13 = nI (hH t b) ∧ c'.1 11 14 = nI (hH t b + hK t b) ∧ cdC c' 28 (clF t (b + 14) (hn t b)) ∧ unB c' t (b + 14 + 3 * hn t b) e ∧ hH t b ≤ 286 ∧ hK t b ≤ 30) := by
  have he := h.e
  have hn19 : hn t b ≤ 19 := by have := bv_lt t (b + 10) 4; unfold hn; omega
  -- a fault
  have no9 : ∀ {X : Option (Int32 × hS)} {c1 : hS} {bb : Bool}, bb = false → (∃ c', X = some (0, c') ∧ fr [9] c1 c') → fr Sun c c1 → (∀ k, k ≠ 9 → k ≠ 13 → k ≠ 14 → c1.1 11 k = c.1 11 k) → ∃ c', X = some (bI bb, c') ∧ fr Sun c c' ∧ (∀ k, k ≠ 9 → k ≠ 13 → k ≠ 14 → c'.1 11 k = c.1 11 k) ∧ (bb = true → c'.1 11 13 = nI (hH t b) ∧ c'.1 11 14 = nI (hH t b + hK t b) ∧ cdC c' 28 (clF t (b + 14) (hn t b)) ∧ unB c' t (b + 14 + 3 * hn t b) e ∧ hH t b ≤ 286 ∧ hK t b ≤ 30) := by
    intro X c1 bb hb ⟨c', e1, f1⟩ f0 s0
    subst hb
    exact ⟨c', e1, f0.tr (Sun_of f1 (by decide)), fun k a1 a2 a3 => (f1.i (by decide) k).trans (s0 k a1 a2 a3), fun z => by cases z⟩
  have tl : ∀ (c1 : hS) (a p : Int32), ∃ c', (bnd (f_X6_tell c1 a p) fun x c2 => bif j_b x then some (x, c2) else none) = some (0, c') ∧ fr [9] c1 c' := by
    intro c1 a p
    obtain ⟨c', a1, a2, _⟩ := RB.tellb (c := c1) (a := a) (p := p)
    exact ⟨c', a1, a2⟩
  unfold f_X10_areLengthCodes hcB
  by_cases q1 : b + 5 ≤ e
  · have v5 := bv_lt t b 5
    rw [show (5 : Int32) = nI 5 from rfl, f_takeBits hN h q1 (by decide), bnd_some, if_neg (show ¬ nI (bv t b 5) = -1 from fun z => by have := nI_pos (n := bv t b 5) (by omega); rw [z] at this; exact this (by decide)), if_pos q1]
    dsimp only [st1]
    rw [sI_s, show nI (bv t b 5) + 257 = nI (hH t b) by rw [show (257 : Int32) = nI 257 from rfl, nI_add, Nat.add_comm]; rfl]
    have u3 : unB (sI (sI c 11 9 (nI (b + 5))) 11 13 (nI (hH t b))) t (b + 5) e := by
      have u := h.mv (b' := b + 5) q1
      exact ⟨u.1.fr (S := [11]) (fr.sI (by simp)) (by decide) (by decide), by rw [sI_j (by decide)]; exact u.2.1, by rw [sI_j (by decide)]; exact u.2.2.1, u.2.2.2.1, u.2.2.2.2⟩
    have f3 : fr Sun c (sI (sI c 11 9 (nI (b + 5))) 11 13 (nI (hH t b))) := fr11.tr fr11
    have s3 : ∀ k, k ≠ 9 → k ≠ 13 → k ≠ 14 → (sI (sI c 11 9 (nI (b + 5))) 11 13 (nI (hH t b))).1 11 k = c.1 11 k := fun k a1 a2 a3 => by rw [sI_j a2, sI_j a1]
    have h13 : (sI (sI c 11 9 (nI (b + 5))) 11 13 (nI (hH t b))).1 11 13 = nI (hH t b) := sI_s _ _ _ _
    have hHl : hH t b < 300 := by unfold hH; omega
    revert u3 f3 s3 h13
    generalize sI (sI c 11 9 (nI (b + 5))) 11 13 (nI (hH t b)) = c3
    intro u3 f3 s3 h13
    by_cases q2 : hH t b ≤ 286
    · rw [if_pos (show nI (hH t b) ≤ 286 from nI_le (b := 286) q2 (by decide)), if_pos q2]
      by_cases q3 : b + 10 ≤ e
      · have v6 := bv_lt t (b + 5) 5
        rw [f_takeBits (n := 5) hN u3 (by omega) (by decide), bnd_some, if_neg (show ¬ nI (bv t (b + 5) 5) = -1 from fun z => by have := nI_pos (n := bv t (b + 5) 5) (by omega); rw [z] at this; exact this (by decide)), if_pos q3, show nI (bv t (b + 5) 5) + 1 = nI (hK t b) by rw [nI_1, Nat.add_comm]; rfl]
        have hKl : hK t b < 40 := by unfold hK; omega
        by_cases q4 : hK t b ≤ 30
        · rw [if_pos (show nI (hK t b) ≤ 30 from nI_le (b := 30) q4 (by decide)), if_pos q4]
          try dsimp only [st1]
          rw [sI_j (show (13 : Nat) ≠ 9 by decide), h13, nI_add, nI_1, show hH t b + bv t (b + 5) 5 + 1 = hH t b + hK t b by unfold hK; omega]
          have u6 : unB (sI (sI c3 11 9 (nI (b + 5 + 5))) 11 14 (nI (hH t b + hK t b))) t (b + 10) e := by
            have u := u3.mv (b' := b + 10) q3
            exact ⟨u.1.fr (S := [11]) (fr.sI (by simp)) (by decide) (by decide), by rw [sI_j (by decide)]; exact u.2.1, by rw [sI_j (by decide)]; exact u.2.2.1, u.2.2.2.1, u.2.2.2.2⟩
          have f6 : fr Sun c (sI (sI c3 11 9 (nI (b + 5 + 5))) 11 14 (nI (hH t b + hK t b))) := f3.tr (fr11.tr fr11)
          have s6 : ∀ k, k ≠ 9 → k ≠ 13 → k ≠ 14 → (sI (sI c3 11 9 (nI (b + 5 + 5))) 11 14 (nI (hH t b + hK t b))).1 11 k = c.1 11 k := fun k a1 a2 a3 => by rw [sI_j a3, sI_j a1]; exact s3 k a1 a2 a3
          have h136 : (sI (sI c3 11 9 (nI (b + 5 + 5))) 11 14 (nI (hH t b + hK t b))).1 11 13 = nI (hH t b) := by rw [sI_j (by decide), sI_j (by decide)]; exact h13
          have h146 : (sI (sI c3 11 9 (nI (b + 5 + 5))) 11 14 (nI (hH t b + hK t b))).1 11 14 = nI (hH t b + hK t b) := sI_s _ _ _ _
          revert u6 f6 s6 h136 h146
          generalize sI (sI c3 11 9 (nI (b + 5 + 5))) 11 14 (nI (hH t b + hK t b)) = c6
          intro u6 f6 s6 h136 h146
          by_cases q5 : b + 14 ≤ e
          · have v7 := bv_lt t (b + 10) 4
            rw [show (4 : Int32) = nI 4 from rfl, f_takeBits (n := 4) hN u6 (by omega) (by decide), bnd_some, if_neg (show ¬ nI (bv t (b + 10) 4) = -1 from fun z => by have := nI_pos (n := bv t (b + 10) 4) (by omega); rw [z] at this; exact this (by decide)), if_pos q5]
            have u8 := u6.mv (b' := b + 10 + 4) (by omega)
            obtain ⟨c9, e9, f9, g9⟩ := f_fillLengths (c := sI c6 11 9 (nI (b + 10 + 4))) (a := 0) (b := 19) (v := 0) hN (by omega) (by omega)
            rw [show Int32.ofNat sa0.length = nI 19 from rfl, show (0 : Int32) = nI 0 from rfl, e9, bnd_some]
            have u9 := u8.fr f9 (by decide) (by decide) (by decide)
            have f9' : fr Sun c c9 := (f6.tr fr11).tr (Sun_of f9 (by decide))
            have s9 : ∀ k, k ≠ 9 → k ≠ 13 → k ≠ 14 → c9.1 11 k = c.1 11 k := fun k a1 a2 a3 => by rw [f9.i (by decide), sI_j a1]; exact s6 k a1 a2 a3
            have h139 : c9.1 11 13 = nI (hH t b) := by rw [f9.i (by decide), sI_j (by decide)]; exact h136
            have h149 : c9.1 11 14 = nI (hH t b + hK t b) := by rw [f9.i (by decide), sI_j (by decide)]; exact h146
            -- the last row
            have end177 : ∀ c1, unB c1 t (b + 14 + 3 * hn t b) e → b + 14 + 3 * hn t b ≤ e → fr Sun c c1 → (∀ k, k ≠ 9 → k ≠ 13 → k ≠ 14 → c1.1 11 k = c.1 11 k) → c1.1 11 13 = nI (hH t b) → c1.1 11 14 = nI (hH t b + hK t b) → (∀ k, k < 19 → c1.1 32 k = nI (gt (clF t (b + 14) (hn t b)) k)) → ∃ c', f_X10_areLengthCodes_177 N c1 = some (bI (decide (ful (clF t (b + 14) (hn t b)) 15 = 32768)), c') ∧ fr Sun c c' ∧ (∀ k, k ≠ 9 → k ≠ 13 → k ≠ 14 → c'.1 11 k = c.1 11 k) ∧ (decide (ful (clF t (b + 14) (hn t b)) 15 = 32768) = true → c'.1 11 13 = nI (hH t b) ∧ c'.1 11 14 = nI (hH t b + hK t b) ∧ cdC c' 28 (clF t (b + 14) (hn t b)) ∧ unB c' t (b + 14 + 3 * hn t b) e ∧ hH t b ≤ 286 ∧ hK t b ≤ 30) := by
              intro c1 u1 hbe f1 s1 a13 a14 ar
              have cl := clF_len t (b + 14) (hn t b)
              obtain ⟨c2, e2, d2, f2⟩ := f_order (d := 28) (a := 0) (lens := clF t (b + 14) (hn t b)) hN (Or.inr (Or.inr (Or.inr (Or.inr rfl)))) ⟨by omega, fun i hi => ⟨by rw [Nat.zero_add]; exact ar i (by omega), clF_lt _ _ _ _ hn19⟩⟩ (by rw [cl]; decide)
              rw [cl] at e2
              unfold f_X10_areLengthCodes_177
              rw [show (0 : Int32) = nI 0 from rfl, show Int32.ofNat sa0.length = nI 19 from rfl, e2, bnd_some, f_areComplete hN (Or.inr (Or.inr (Or.inr (Or.inr rfl)))) d2 (by omega), bnd_some]
              have f2' : fr Sun c c2 := f1.tr (Sun_of f2 (by decide))
              have s2 : ∀ k, k ≠ 9 → k ≠ 13 → k ≠ 14 → c2.1 11 k = c.1 11 k := fun k a1 a2 a3 => (f2.i (by decide) k).trans (s1 k a1 a2 a3)
              by_cases q : ful (clF t (b + 14) (hn t b)) 15 = 32768
              · rw [decide_eq_true q, if_neg (by decide)]
                exact ⟨c2, rfl, f2', s2, fun _ => ⟨(f2.i (by decide) 13).trans a13, (f2.i (by decide) 14).trans a14, d2, u1.fr f2 (by decide) (by decide) (by decide), q2, q4⟩⟩
              · rw [decide_eq_false q, if_pos (show bI false = nI 0 from rfl)]
                obtain ⟨c', a1, a2, _⟩ := RB.last_ (RB.tell (c := c2) (a := 24) (p := c2.1 11 12))
                exact no9 rfl ⟨c', a1, a2⟩ f2' s2
            have lp : ∀ d n i c1, i + d = hn t b → d < n → unB c1 t (b + 14 + 3 * i) e → fr Sun c c1 → (∀ k, k ≠ 9 → k ≠ 13 → k ≠ 14 → c1.1 11 k = c.1 11 k) → c1.1 11 13 = nI (hH t b) → c1.1 11 14 = nI (hH t b + hK t b) → (∀ k, k < 19 → c1.1 32 k = nI (gt (clF t (b + 14) i) k)) → ∃ c', f_X10_areLengthCodes_119 N n c1 (nI (bv t (b + 10) 4)) (nI i) = some (bI (if b + 14 + 3 * hn t b ≤ e then decide (ful (clF t (b + 14) (hn t b)) 15 = 32768) else false), c') ∧ fr Sun c c' ∧ (∀ k, k ≠ 9 → k ≠ 13 → k ≠ 14 → c'.1 11 k = c.1 11 k) ∧ ((if b + 14 + 3 * hn t b ≤ e then decide (ful (clF t (b + 14) (hn t b)) 15 = 32768) else false) = true → c'.1 11 13 = nI (hH t b) ∧ c'.1 11 14 = nI (hH t b + hK t b) ∧ cdC c' 28 (clF t (b + 14) (hn t b)) ∧ unB c' t (b + 14 + 3 * hn t b) e ∧ hH t b ≤ 286 ∧ hK t b ≤ 30) := by
              intro d
              induction d with
              | zero =>
                intro n i c1 hi hnn u1 f1 s1 a13 a14 ar
                obtain ⟨n, rfl⟩ : ∃ m, n = m + 1 := ⟨n - 1, by omega⟩
                have : i = hn t b := by omega
                subst this
                rw [f_X10_areLengthCodes_119, show nI (bv t (b + 10) 4) + 4 = nI (hn t b) by rw [show (4 : Int32) = nI 4 from rfl, nI_add, Nat.add_comm]; rfl, if_pos (nI_le (Nat.le_refl _) (by omega)), if_pos u1.2.2.2.1]
                exact end177 c1 u1 u1.2.2.2.1 f1 s1 a13 a14 ar
              | succ d ih =>
                intro n i c1 hi hnn u1 f1 s1 a13 a14 ar
                obtain ⟨n, rfl⟩ : ∃ m, n = m + 1 := ⟨n - 1, by omega⟩
                rw [f_X10_areLengthCodes_119, show nI (bv t (b + 10) 4) + 4 = nI (hn t b) by rw [show (4 : Int32) = nI 4 from rfl, nI_add, Nat.add_comm]; rfl, if_neg (nI_ge (by omega) (by omega)), show Int32.ofNat sa0.length = nI 19 from rfl, if_neg (nI_ge (by omega) (by decide))]
                by_cases q : b + 14 + 3 * i + 3 ≤ e
                · have v3 := bv_lt t (b + 14 + 3 * i) 3
                  have ol := ordL_lt i (by omega)
                  rw [show (3 : Int32) = nI 3 from rfl, f_takeBits (n := 3) hN u1 q (by decide), bnd_some, if_neg (show ¬ nI (bv t (b + 14 + 3 * i) 3) = -1 from fun z => by have := nI_pos (n := bv t (b + 14 + 3 * i) 3) (by omega); rw [z] at this; exact this (by decide)), j_in_nI (show i < sa0.length from (by show i < 19; omega)) (by decide), cond_true, cond_true, nI_clamp (by omega), sa0_at i (by omega), nI_1]
                  have u2 := u1.mv (b' := b + 14 + 3 * i + 3) q
                  obtain ⟨c3, e3, f3, g3⟩ := f_fillLengths (c := sI c1 11 9 (nI (b + 14 + 3 * i + 3))) (a := gt ordL i) (b := gt ordL i + 1) (v := bv t (b + 14 + 3 * i) 3) hN (by omega) (by omega)
                  rw [e3, bnd_some, nI_1]
                  refine ih n (i + 1) c3 (by omega) (by omega) (u2.fr f3 (by decide) (by decide) (by decide)) ((f1.tr fr11).tr (Sun_of f3 (by decide))) (fun k a1 a2 a3 => by rw [f3.i (by decide), sI_j a1]; exact s1 k a1 a2 a3) (by rw [f3.i (by decide), sI_j (by decide)]; exact a13) (by rw [f3.i (by decide), sI_j (by decide)]; exact a14) (fun k hk => ?_)
                  rw [g3 k]
                  unfold clF
                  rw [gt_set (by rw [clF_len]; exact ol)]
                  by_cases z : k = gt ordL i
                  · rw [if_pos (by omega), if_pos z]
                  · rw [if_neg (by omega), if_neg z, sI_o (by decide)]
                    exact ar k hk
                · obtain ⟨c', a1, a2⟩ := f_takeBits_no (N := N) (n := 3) u1 (by omega) (by decide)
                  rw [show (3 : Int32) = nI 3 from rfl, a1, bnd_some, if_pos rfl, if_neg (by omega)]
                  exact no9 rfl ⟨c', rfl, a2⟩ f1 s1
            refine lp (hn t b) N 0 c9 (by omega) (by omega) u9 f9' s9 h139 h149 (fun k hk => ?_)
            rw [g9 k, if_pos (by omega)]
            unfold clF
            rw [gt_rep, if_pos hk]
          · obtain ⟨c', a1, a2⟩ := f_takeBits_no (N := N) (n := 4) u6 (by omega) (by decide)
            rw [show (4 : Int32) = nI 4 from rfl, a1, bnd_some, if_pos rfl, if_neg q5]
            exact no9 rfl ⟨c', rfl, a2⟩ f6 s6
        · rw [if_neg (show ¬ nI (hK t b) ≤ 30 from nI_ge (a := 30) (by omega) (by omega)), if_neg q4]
          exact no9 rfl (tl _ _ _) (f3.tr fr11) (fun k a1 a2 a3 => by rw [sI_j a1]; exact s3 k a1 a2 a3)
      · obtain ⟨c', a1, a2⟩ := f_takeBits_no (N := N) (n := 5) u3 (by omega) (by decide)
        rw [a1, bnd_some, if_pos rfl, if_neg q3]
        exact no9 rfl ⟨c', rfl, a2⟩ f3 s3
    · rw [if_neg (show ¬ nI (hH t b) ≤ 286 from nI_ge (a := 286) (by omega) (by omega)), if_neg q2]
      exact no9 rfl (tl _ _ _) f3 s3
  · obtain ⟨c', a1, a2⟩ := f_takeBits_no (N := N) (n := 5) h (by omega) (by decide)
    rw [show (5 : Int32) = nI 5 from rfl, a1, bnd_some, if_pos rfl, if_neg q1]
    exact no9 rfl ⟨c', rfl, a2⟩ fr.rf (fun _ _ _ _ => rfl)
