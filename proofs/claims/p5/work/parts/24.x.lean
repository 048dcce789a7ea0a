/-! PURE: blocks -/
noncomputable def fxS : List Nat := (List.range 288).map fxL
noncomputable def fxD : List Nat := List.replicate 32 5
theorem fxS_len : fxS.length = 288 := by unfold fxS; simp
theorem fxD_len : fxD.length = 32 := by unfold fxD; simp
noncomputable def dynB (t : List Nat) (e b : Nat) : Option (List Nat × List Nat × Nat) := if hcB t e b = true then (match dyR t e (clF t (b + 14) (hn t b)) (hH t b) (hH t b + hK t b) 320 (b + 14 + 3 * hn t b) [] with
  | none => none
  | some q => some (q.1.take (hH t b), q.1.drop (hH t b), q.2)) else none
noncomputable def sorF (t : List Nat) (e most k b : Nat) (out : List Nat) : Option (List Nat × Nat) := if k = 0 then stoF t e most b out else if k = 1 then symF t e fxS fxD most (e - b + 1) b out else if k = 2 then (match dynB t e b with
  | none => none
  | some q => symF t e q.1 q.2.1 most (e - q.2.2 + 1) q.2.2 out) else none
noncomputable def opG (lst : Nat → Bool) (blk : Nat → List Nat → Option (List Nat × Nat)) (fin : Nat → Bool) : Nat → Nat → List Nat → Option (List Nat)
  | 0, _, _ => none
  | f + 1, b, out => match blk b out with
    | none => none
    | some q => if lst b = true then (if fin q.2 = true then some q.1 else none) else opG lst blk fin f q.2 q.1
noncomputable def blkF (t : List Nat) (e most b : Nat) (out : List Nat) : Option (List Nat × Nat) := if b + 3 ≤ e then sorF t e most (bv t (b + 1) 2) (b + 3) out else none
noncomputable def opF (t : List Nat) (behind most f b : Nat) (out : List Nat) : Option (List Nat) := opG (fun b => decide (bt8 t b = 1)) (blkF t (8 * behind) most) (fun b => decide ((b + 7) / 8 = behind)) f b out
noncomputable def opn (t : List Nat) (a behind most : Nat) : Option (List Nat) := opF t behind most (8 * behind - 8 * a + 1) (8 * a) []
noncomputable abbrev Sop : List Nat := [7, 8, 9, 11, 20, 21, 22, 23, 24, 25, 26, 27, 28, 29, 30, 31, 32]
theorem Sop4 {c c' : hS} (h : fr So4 c c') : fr Sop c c' := h.mono (by decide)
theorem SopU {c c' : hS} (h : fr Sun c c') : fr Sop c c' := h.mono (by decide)
theorem Sop11 {c : hS} {j : Nat} {x : Int32} : fr Sop c (sI c 11 j x) := fr.sI (by decide)
theorem symG_lt {t : List Nat} {e : Nat} {lS : List Nat} {most : Nat} {cop : List Nat → Nat → Nat → Option (List Nat × Nat)} (hc : ∀ o s b o' b', cop o s b = some (o', b') → b < b' ∧ b' ≤ e) : ∀ {f b : Nat} {out out' : List Nat} {b' : Nat}, symG t e lS most cop f b out = some (out', b') → b < b' ∧ b' ≤ e
  | 0, b, out, out', b', h => by simp [symG] at h
  | f + 1, b, out, out', b', h => by
    unfold symG at h
    split at h
    · cases h
    · rename_i p hp
      have dl := dec_lt (s := p.1) (b' := p.2) hp
      split at h
      · cases h
        exact dl.2
      · split at h
        · split at h
          · have := symG_lt hc h
            omega
          · cases h
        · split at h
          · split at h
            · cases h
            · rename_i q hq
              have a1 := hc _ _ _ q.1 q.2 hq
              have := symG_lt hc h
              omega
          · cases h
theorem symF_lt {t : List Nat} {e : Nat} {lS lD : List Nat} {most f b : Nat} {out out' : List Nat} {b' : Nat} (h : symF t e lS lD most f b out = some (out', b')) : b < b' ∧ b' ≤ e := symG_lt (fun _ _ _ _ _ q => copF_lt q) h
theorem rws_lt {t : List Nat} {e : Nat} {cl : List Nat} {all : Nat} : ∀ {f b : Nat} {row row' : List Nat} {b' : Nat}, b ≤ e → rws t e cl all f b row = some (row', b') → b ≤ b' ∧ b' ≤ e
  | 0, b, row, row', b', _, h => by simp [rws] at h
  | f + 1, b, row, row', b', hb, h => by
    unfold rws at h
    split at h
    · cases h
      exact ⟨Nat.le_refl _, hb⟩
    · split at h
      · cases h
      · rename_i p hp
        have dl := dec_lt (s := p.1) (b' := p.2) hp
        split at h
        · cases h
        · rename_i q hq
          obtain ⟨q1, q2⟩ := q
          obtain ⟨r, r1, r2, r3, r4, r5⟩ := rep_ext hq
          have := rws_lt r5 h
          omega
theorem dynB_lt {t : List Nat} {e b : Nat} {q : List Nat × List Nat × Nat} (h : dynB t e b = some q) : b ≤ q.2.2 ∧ q.2.2 ≤ e ∧ q.1.length ≤ 286 ∧ q.2.1.length ≤ 30 := by
  unfold dynB at h
  split at h
  · rename_i hh
    unfold hcB at hh
    split at hh
    · split at hh
      · split at hh
        · split at hh
          · split at hh
            · split at hh
              · rename_i a1 a2 a3 a4 a5 a6
                split at h
                · cases h
                · rename_i r hr
                  cases h
                  unfold dyR at hr
                  split at hr
                  · cases hr
                  · rename_i z hz
                    obtain ⟨z1, z2⟩ := z
                    split at hr
                    · cases hr
                      have w1 := rws_lt a6 hz
                      obtain ⟨_, _, w2⟩ := rws_ext (by simp) hz
                      refine ⟨by dsimp only; omega, w1.2, ?_, ?_⟩
                      · dsimp only; rw [List.length_take]; omega
                      · dsimp only; rw [List.length_drop]; omega
                    · cases hr
              · cases hh
            · cases hh
          · cases hh
        · cases hh
      · cases hh
    · cases hh
  · cases h
theorem stoF_lt {t : List Nat} {e most b : Nat} {out out' : List Nat} {b' : Nat} (h : stoF t e most b out = some (out', b')) : b ≤ b' ∧ b' ≤ e := by
  unfold stoF at h
  split at h
  · split at h
    · split at h
      · rename_i q1 q2 q3
        cases h
        omega
      · cases h
    · cases h
  · cases h
theorem blkF_lt {t : List Nat} {e most b : Nat} {out out' : List Nat} {b' : Nat} (h : blkF t e most b out = some (out', b')) : b < b' ∧ b' ≤ e := by
  unfold blkF at h
  split at h
  · unfold sorF at h
    split at h
    · have := stoF_lt h; omega
    · split at h
      · have := symF_lt h; omega
      · split at h
        · split at h
          · cases h
          · rename_i q hq
            have a1 := dynB_lt hq
            have a2 := symF_lt h
            omega
        · cases h
  · cases h
/-- codes that stand from the beginning -/
noncomputable def fxd (c : hS) : Prop := cdC c 12 fxS ∧ cdC c 16 fxD
theorem fxd.fr {S : List Nat} {c c1 : hS} (h : fxd c) (hf : fr S c c1) (h0 : ∀ o, o ∈ S → o < 12 ∨ 19 < o) : fxd c1 := by
  have n : ∀ o, 12 ≤ o → o ≤ 19 → o ∉ S := fun o a b q => by have := h0 o q; omega
  exact ⟨h.1.fr hf (n _ (by decide) (by decide)) (n _ (by decide) (by decide)) (n _ (by decide) (by decide)), h.2.fr hf (n _ (by decide) (by decide)) (n _ (by decide) (by decide)) (n _ (by decide) (by decide))⟩
theorem Sop_fx : ∀ o, o ∈ Sop → o < 12 ∨ 19 < o := by decide
theorem f_open {N : Nat} {c : hS} {t : List Nat} {a behind most : Nat} (hN : 1000000 ≤ N) (h : row c 3 t) (hl : 0 ≤ c.1 7 1) (hfx : fxd c) (hab : a ≤ behind) (hbt : behind ≤ t.length) (hm : most ≤ 512) : ∃ c', f_X10_open N c (nI a) (nI behind) (nI most) = some (bI (opn t a behind most).isSome, c') ∧ fr Sop c c' ∧ ∀ out, opn t a behind most = some out → row c' 7 out := by
  have htl : t.length ≤ 20000 := h.1
  -- the end
  have e198 : ∀ c1 b out, UO c1 t b (8 * behind) most out → ∃ c', f_X10_open_198 N (nI a) (nI behind) (nI most) c1 = some (bI (if (b + 7) / 8 = behind then some out else none).isSome, c') ∧ fr Sop c1 c' ∧ ∀ o, (if (b + 7) / 8 = behind then some out else none) = some o → row c' 7 o := by
    intro c1 b out hu
    have hbe := hu.1.2.2.2.1
    unfold f_X10_open_198
    rw [hu.1.2.1, show nI b + 7 = nI (b + 7) from nI_add b 7, sh3 (by omega)]
    by_cases q : (b + 7) / 8 = behind
    · rw [if_pos (by rw [q]), if_pos q]
      exact ⟨c1, rfl, fr.rf, fun o z => by cases z; exact hu.2.1⟩
    · rw [if_neg (fun z => q ((nI_eq (by omega) (by omega)).mp z)), if_neg q]
      obtain ⟨c', a1, a2, _⟩ := RB.last_ (RB.tell (c := c1) (a := 27) (p := nI ((b + 7) / 8)))
      exact ⟨c', a1, Sop4 (So9 a2), fun _ z => by cases z⟩
  -- what is behind a block's sort
  have key : ∀ f n k b c1 out, 8 * behind < b + f → f + 1 < n → k ≤ b → UO c1 t b (8 * behind) most out → fxd c1 → ∃ c', f_X10_open_35 N (nI a) (nI behind) (nI most) n c1 0 (nI k) = some (bI (opF t behind most f b out).isSome, c') ∧ fr Sop c1 c' ∧ ∀ o, opF t behind most f b out = some o → row c' 7 o := by
    intro f
    induction f with
    | zero => intro n k b c1 out h1 _ _ hu; have := hu.1.2.2.2.1; omega
    | succ f ih =>
      intro n k b c1 out hf hnn hk hu hfx
      have hbe := hu.1.2.2.2.1
      obtain ⟨n, rfl⟩ : ∃ m, n = m + 1 := ⟨n - 1, by omega⟩
      -- one more turn, or the end
      have nxt : ∀ c2 out' b', bt8 t b < 2 → b < b' → UO c2 t b' (8 * behind) most out' → fxd c2 → ∃ c', f_X10_open_179 N (nI a) (nI behind) (nI most) (f_X10_open_35 N (nI a) (nI behind) (nI most) n) c2 (nI k) (nI (bt8 t b)) = some (bI (if bt8 t b = 1 then (if (b' + 7) / 8 = behind then some out' else none) else opF t behind most f b' out').isSome, c') ∧ fr Sop c2 c' ∧ ∀ o, (if bt8 t b = 1 then (if (b' + 7) / 8 = behind then some out' else none) else opF t behind most f b' out') = some o → row c' 7 o := by
        intro c2 out' b' hb2 hbb hu2 hfx2
        have hbe2 := hu2.1.2.2.2.1
        unfold f_X10_open_179
        rw [nI_1]
        by_cases q : bt8 t b = 1
        · rw [if_pos (show nI (bt8 t b) = 1 by rw [q]; rfl), if_pos q]
          obtain ⟨n, rfl⟩ : ∃ m, n = m + 1 := ⟨n - 1, by omega⟩
          rw [f_X10_open_35, if_neg (lt160 (by omega)), if_neg (show ¬ (1 : Int32) = 0 by decide)]
          exact e198 c2 b' out' hu2
        · have q0 : bt8 t b = 0 := by omega
          rw [q0, if_neg (show ¬ nI 0 = 1 by decide), if_neg (show ¬ (0 : Nat) = 1 by decide)]
          exact ih n (k + 1) b' c2 out' (by omega) (by omega) (by omega) hu2 hfx2
      have eop : opF t behind most (f + 1) b out = (match blkF t (8 * behind) most b out with | none => none | some q => if bt8 t b = 1 then (if (q.2 + 7) / 8 = behind then some q.1 else none) else opF t behind most f q.2 q.1) := by
        unfold opF
        rw [opG]
        simp only [decide_eq_true_eq]
      have no : ∀ {X : Option (Int32 × hS)} {c2 : hS}, blkF t (8 * behind) most b out = none → (∃ c', X = some (0, c') ∧ fr Sop c2 c') → fr Sop c1 c2 → ∃ c', X = some (bI (opF t behind most (f + 1) b out).isSome, c') ∧ fr Sop c1 c' ∧ ∀ o, opF t behind most (f + 1) b out = some o → row c' 7 o := by
        intro X c2 hbl ⟨c', e1, f1⟩ f0
        rw [eop, hbl]
        exact ⟨c', e1, f0.tr f1, fun _ z => by cases z⟩
      -- a block that went well, or not
      have blk : ∀ {A : Option (Int32 × hS)} {c2 : hS} {B : hS → Option (Int32 × hS)} {r : Option (List Nat × Nat)}, blkF t (8 * behind) most b out = r → UR A c2 Sop t (8 * behind) most r → fr Sop c1 c2 → fxd c2 → (∀ c3, B c3 = f_X10_open_179 N (nI a) (nI behind) (nI most) (f_X10_open_35 N (nI a) (nI behind) (nI most) n) c3 (nI k) (nI (bt8 t b))) → ∃ c', (bnd A fun x c3 => if x = 0 then some (0, c3) else B c3) = some (bI (opF t behind most (f + 1) b out).isSome, c') ∧ fr Sop c1 c' ∧ ∀ o, opF t behind most (f + 1) b out = some o → row c' 7 o := by
        intro A c2 B r hbl ⟨c3, a1, a2, a3⟩ f2 hfx2 hB
        cases r with
        | none =>
          refine no hbl ⟨c3, ?_, a2⟩ f2
          rw [a1, bnd_some, if_pos (show bI (none : Option (List Nat × Nat)).isSome = 0 from rfl)]
        | some q =>
          obtain ⟨o1, b1⟩ := q
          have bl := blkF_lt hbl
          obtain ⟨c4, w1, w2, w3⟩ := nxt c3 o1 b1 (bt8_lt t b) bl.1 (a3 o1 b1 rfl) (hfx2.fr a2 Sop_fx)
          rw [eop, hbl]
          refine ⟨c4, ?_, (f2.tr a2).tr w2, w3⟩
          rw [a1, bnd_some, if_neg (show ¬ bI (some (o1, b1)).isSome = 0 from (by decide : ¬ bI true = 0)), hB]
          exact w1
      rw [f_X10_open_35, if_neg (lt160 (by omega)), if_pos rfl]
      dsimp only [st1]
      have hu1 : UO (sI c1 11 12 (j_shr (c1.1 11 9) 3)) t b (8 * behind) most out := ⟨⟨hu.1.1.fr (S := [11]) (fr.sI (by simp)) (by decide) (by decide), by rw [sI_j (by decide)]; exact hu.1.2.1, by rw [sI_j (by decide)]; exact hu.1.2.2.1, hu.1.2.2.2⟩, hu.2.1.fr (S := [11]) (fr.sI (by simp)) (by decide) (by decide), by rw [sI_j (by decide)]; exact hu.2.2.1, hu.2.2.2⟩
      have f01 : fr Sop c1 (sI c1 11 12 (j_shr (c1.1 11 9) 3)) := Sop11
      revert hu1 f01
      generalize sI c1 11 12 (j_shr (c1.1 11 9) 3) = c2
      intro hu1 f01
      by_cases q3 : b + 3 ≤ 8 * behind
      · have v2 := bv_lt t (b + 1) 2
        have eb1 : bv t b 1 = bt8 t b := by simp [bv]
        have t1 : f_X10_takeBits N c2 1 = _ := f_takeBits (n := 1) hN hu1.1 (by omega) (by decide)
        have t2 : f_X10_takeBits N (sI c2 11 9 (nI (b + 1))) 2 = _ := f_takeBits (n := 2) hN (hu1.mv (b' := b + 1) (by omega)).1 (by omega) (by decide)
        rw [t1, bnd_some, t2, bnd_some, sI_sI, if_neg (nm1' (by have := bv_lt t b 1; omega)), if_neg (nm1' (by omega)), eb1]
        have hu3 := hu1.mv (b' := b + 1 + 2) (by omega)
        have f3 : fr Sop c1 (sI c2 11 9 (nI (b + 1 + 2))) := f01.tr Sop11
        rw [show b + 1 + 2 = b + 3 by omega] at hu3 f3 ⊢
        revert hu3 f3
        generalize sI c2 11 9 (nI (b + 3)) = c3
        intro hu3 f3
        have hfx3 := hfx.fr f3 Sop_fx
        have ebl : blkF t (8 * behind) most b out = sorF t (8 * behind) most (bv t (b + 1) 2) (b + 3) out := by unfold blkF; rw [if_pos q3]
        have u142 : ∀ c4 (s : Nat), s ≠ 2 → s < 4 → f_X10_open_142 N (nI a) (nI behind) (nI most) (f_X10_open_35 N (nI a) (nI behind) (nI most) n) c4 (nI k) (nI (bt8 t b)) (nI s) = f_X10_open_179 N (nI a) (nI behind) (nI most) (f_X10_open_35 N (nI a) (nI behind) (nI most) n) c4 (nI k) (nI (bt8 t b)) := by
          intro c4 s h2 h4
          unfold f_X10_open_142
          rw [if_neg (show ¬ nI s = 2 from fun z => h2 ((nI_eq (by omega) (show 2 < 2 ^ 31 by decide)).mp z))]
        generalize hs : bv t (b + 1) 2 = s at *
        match s, v2 with
        | 0, _ =>
          rw [if_neg (show ¬ nI 0 = 3 by decide), if_pos nI_0]
          refine blk (r := sorF t (8 * behind) most 0 (b + 3) out) ebl ?_ f3 hfx3 (fun c4 => ?_)
          · obtain ⟨c5, w1, w2, w3⟩ := f_isStored hN hu3 (by omega)
            exact ⟨c5, w1, Sop4 w2, w3⟩
          · unfold f_X10_open_119
            rw [if_neg (show ¬ nI 0 = 1 by decide)]
            exact u142 c4 0 (by decide) (by decide)
        | 1, _ =>
          rw [if_neg (show ¬ nI 1 = 3 by decide), if_neg (show ¬ nI 1 = 0 by decide)]
          unfold f_X10_open_119
          rw [if_pos (show nI 1 = 1 from rfl)]
          refine blk (r := sorF t (8 * behind) most 1 (b + 3) out) ebl ?_ f3 hfx3 (fun c4 => u142 c4 1 (by decide) (by decide))
          obtain ⟨c5, w1, w2, w3⟩ := f_areSymbols hN hu3 (Or.inl rfl) (Or.inr (Or.inl rfl)) hfx3.1 hfx3.2 (by rw [fxS_len]; decide) (by rw [fxD_len]; decide)
          exact ⟨c5, w1, Sop4 w2, w3⟩
        | 2, _ =>
          rw [if_neg (show ¬ nI 2 = 3 by decide), if_neg (show ¬ nI 2 = 0 by decide)]
          unfold f_X10_open_119
          rw [if_neg (show ¬ nI 2 = 1 by decide)]
          unfold f_X10_open_142
          rw [if_pos (show nI 2 = 2 from rfl)]
          have esor : sorF t (8 * behind) most 2 (b + 3) out = (match dynB t (8 * behind) (b + 3) with | none => none | some q => symF t (8 * behind) q.1 q.2.1 most (8 * behind - q.2.2 + 1) q.2.2 out) := rfl
          obtain ⟨c4, a1, a2, a3, a4⟩ := f_areLengthCodes hN hu3.1
          rw [a1, bnd_some]
          cases hhc : hcB t (8 * behind) (b + 3) with
          | false =>
            rw [if_pos (show bI false = 0 from rfl)]
            refine no (by rw [ebl, esor]; unfold dynB; rw [hhc]; rfl) ⟨c4, rfl, SopU a2⟩ f3
          | true =>
            obtain ⟨y1, y2, y3, y4, y5, y6⟩ := a4 hhc
            rw [if_neg (by decide)]
            obtain ⟨c5, g1, g2, g3⟩ := f_areLengths hN y4 y1 y2 y3 (clF_len _ _ _) (by unfold hH; omega) y5 (by unfold hK; omega) y6
            rw [g1, bnd_some]
            cases hdy : dyR t (8 * behind) (clF t (b + 3 + 14) (hn t (b + 3))) (hH t (b + 3)) (hH t (b + 3) + hK t (b + 3)) 320 (b + 3 + 14 + 3 * hn t (b + 3)) [] with
            | none =>
              rw [if_pos (show bI (none : Option (List Nat × Nat)).isSome = 0 from rfl)]
              refine no (by rw [ebl, esor]; unfold dynB; rw [if_pos hhc, hdy]) ⟨c5, rfl, SopU g2⟩ (f3.tr (SopU a2))
            | some q =>
              obtain ⟨row', b1⟩ := q
              obtain ⟨x1, x2, x3, x4, x5⟩ := g3 row' b1 hdy
              have edy : dynB t (8 * behind) (b + 3) = some (row'.take (hH t (b + 3)), row'.drop (hH t (b + 3)), b1) := by unfold dynB; rw [if_pos hhc, hdy]
              have dl := dynB_lt edy
              rw [if_neg (show ¬ bI (some (row', b1)).isSome = 0 from (by decide : ¬ bI true = 0))]
              have f5 : fr Sop c1 c5 := (f3.tr (SopU a2)).tr (SopU g2)
              have f35 : fr Sun c3 c5 := a2.tr g2
              have hu5 : UO c5 t b1 (8 * behind) most out := ⟨x3, hu3.2.1.fr f35 (by decide) (by decide), by rw [x5 11 (by decide) (by decide), a3 11 (by decide) (by decide) (by decide)]; exact hu3.2.2.1, hu3.2.2.2⟩
              refine blk (r := symF t (8 * behind) (row'.take (hH t (b + 3))) (row'.drop (hH t (b + 3))) most (8 * behind - b1 + 1) b1 out) (by rw [ebl, esor, edy]) ?_ f5 (hfx.fr f5 Sop_fx) (fun _ => rfl)
              obtain ⟨c6, w1, w2, w3⟩ := f_areSymbols hN hu5 (Or.inr (Or.inr (Or.inl rfl))) (Or.inr (Or.inr (Or.inr (Or.inl rfl)))) x1 x2 (by have := dl.2.2.1; dsimp only at this; omega) (by have := dl.2.2.2; dsimp only at this; omega)
              exact ⟨c6, w1, Sop4 w2, w3⟩
        | 3, _ =>
          rw [if_pos (show nI 3 = 3 from rfl)]
          obtain ⟨c', a1, a2⟩ := tellX c3 21 (c3.1 11 12)
          refine no (by rw [ebl]; rfl) ⟨c', a1, Sop4 a2⟩ f3
      · -- a bit lacks
        have ebl : blkF t (8 * behind) most b out = none := by unfold blkF; rw [if_neg q3]
        by_cases q4 : b + 1 ≤ 8 * behind
        · obtain ⟨c5, a1, a2⟩ := f_takeBits_no (N := N) (n := 2) (hu1.mv (b' := b + 1) q4).1 (by omega) (by decide)
          have t1 : f_X10_takeBits N c2 1 = _ := f_takeBits (n := 1) hN hu1.1 q4 (by decide)
          have t2 : f_X10_takeBits N (sI c2 11 9 (nI (b + 1))) 2 = _ := a1
          rw [t1, bnd_some, t2, bnd_some, if_neg (nm1' (by have := bv_lt t b 1; omega)), if_pos rfl]
          exact no ebl ⟨c5, rfl, Sop4 (So9 a2)⟩ (f01.tr Sop11)
        · obtain ⟨c4, a1, a2⟩ := f_takeBits_no (N := N) (n := 1) hu1.1 (by omega) (by decide)
          obtain ⟨c5, a3, a4⟩ := f_takeBits_no (N := N) (n := 2) (hu1.1.fr a2 (by decide) (by decide) (by decide)) (by omega) (by decide)
          have t1 : f_X10_takeBits N c2 1 = _ := a1
          have t2 : f_X10_takeBits N c4 2 = _ := a3
          rw [t1, bnd_some, t2, bnd_some, if_pos rfl]
          exact no ebl ⟨c5, rfl, Sop4 (So9 a4)⟩ (f01.tr (Sop4 (So9 a2)))
  unfold f_X10_open
  dsimp only [st1]
  rw [show (8 : Int32) * nI a = nI (8 * a) from nI_mul 8 a, show (8 : Int32) * nI behind = nI (8 * behind) from nI_mul 8 behind]
  have f3 : fr [11] c (sI (sI (sI c 11 9 (nI (8 * a))) 11 10 (nI (8 * behind))) 11 11 (nI most)) := ((fr.sI (by simp)).tr (fr.sI (by simp))).tr (fr.sI (by simp))
  have g9 : (sI (sI (sI c 11 9 (nI (8 * a))) 11 10 (nI (8 * behind))) 11 11 (nI most)).1 11 9 = nI (8 * a) := by rw [sI_j (by decide), sI_j (by decide), sI_s]
  have g10 : (sI (sI (sI c 11 9 (nI (8 * a))) 11 10 (nI (8 * behind))) 11 11 (nI most)).1 11 10 = nI (8 * behind) := by rw [sI_j (by decide), sI_s]
  have g11 : (sI (sI (sI c 11 9 (nI (8 * a))) 11 10 (nI (8 * behind))) 11 11 (nI most)).1 11 11 = nI most := sI_s _ _ _ _
  revert f3 g9 g10 g11
  generalize sI (sI (sI c 11 9 (nI (8 * a))) 11 10 (nI (8 * behind))) 11 11 (nI most) = c3
  intro f3 g9 g10 g11
  obtain ⟨c4, e4, r4, f4⟩ := f_cutN (f3.2.2 hl)
  rw [e4, bnd_some]
  have fall : fr Sop c c4 := (f3.mono (by decide)).tr (f4.mono (by decide))
  have hu : UO c4 t (8 * a) (8 * behind) most [] := ⟨⟨(h.fr f3 (by decide) (by decide)).fr f4 (by decide) (by decide), (f4.i (by decide) 9).trans g9, (f4.i (by decide) 10).trans g10, by omega, by omega⟩, r4, (f4.i (by decide) 11).trans g11, hm, by simp⟩
  obtain ⟨c5, w1, w2, w3⟩ := key (8 * behind - 8 * a + 1) N 0 (8 * a) c4 [] (by omega) (by omega) (by omega) hu (hfx.fr fall Sop_fx)
  exact ⟨c5, w1, fall.tr w2, w3⟩
