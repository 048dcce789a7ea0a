/-! PURE: codes for lengths -/
/-- the symbols below i whose length is l -/
noncomputable def idxN (lens : List Nat) (l i : Nat) : List Nat := (List.range i).filter fun k => decide (gt lens k = l)
noncomputable def cntN (lens : List Nat) (l i : Nat) : Nat := (idxN lens l i).length
noncomputable def cnt (lens : List Nat) (l : Nat) : Nat := cntN lens l lens.length
noncomputable def sy (lens : List Nat) (l k : Nat) : Nat := gt (idxN lens l lens.length) k
/-- codes of lengths below l -/
noncomputable def off (lens : List Nat) : Nat → Nat
  | 0 => 0
  | 1 => 0
  | l + 2 => off lens (l + 1) + cnt lens (l + 1)
noncomputable def mxN (lens : List Nat) : Nat → Nat
  | 0 => 0
  | l + 1 => if 0 < cnt lens (l + 1) then l + 1 else mxN lens l
theorem idxN_s (lens : List Nat) (l i : Nat) : idxN lens l (i + 1) = idxN lens l i ++ (if gt lens i = l then [i] else []) := by
  unfold idxN
  rw [List.range_succ, List.filter_append]
  congr 1
  by_cases e : gt lens i = l
  · rw [if_pos e, List.filter_cons_of_pos (by simpa using e)]; rfl
  · rw [if_neg e, List.filter_cons_of_neg (by simpa using e)]; rfl
theorem cntN_s (lens : List Nat) (l i : Nat) : cntN lens l (i + 1) = cntN lens l i + (if gt lens i = l then 1 else 0) := by
  unfold cntN
  rw [idxN_s, List.length_append]
  split <;> rfl
theorem cntN_le (lens : List Nat) (l i : Nat) : cntN lens l i ≤ i := by
  unfold cntN idxN
  exact Nat.le_trans (List.length_filter_le _ _) (by simp)
theorem cntN_mono (lens : List Nat) (l : Nat) {i j : Nat} (h : i ≤ j) : cntN lens l i ≤ cntN lens l j := by
  induction h with
  | refl => exact Nat.le_refl _
  | step _ ih => rw [cntN_s]; omega
theorem sy_at {lens : List Nat} {l i : Nat} (hi : i < lens.length) (h : gt lens i = l) : sy lens l (cntN lens l i) = i := by
  have key : ∀ d, i + 1 + d ≤ lens.length → gt (idxN lens l (i + 1 + d)) (cntN lens l i) = i := by
    intro d
    induction d with
    | zero =>
      intro _
      unfold cntN
      rw [Nat.add_zero, idxN_s, if_pos h, gt_app_r (Nat.le_refl _), Nat.sub_self]
      rfl
    | succ d ih =>
      intro hd
      rw [show i + 1 + (d + 1) = i + 1 + d + 1 by omega, idxN_s]
      have h1 := ih (by omega)
      have h2 : cntN lens l i < (idxN lens l (i + 1 + d)).length := by
        have a1 := cntN_s lens l i
        rw [if_pos h] at a1
        have a2 := cntN_mono lens l (show i + 1 ≤ i + 1 + d by omega)
        have a3 : (idxN lens l (i + 1 + d)).length = cntN lens l (i + 1 + d) := rfl
        omega
      rw [gt_app_l h2]
      exact h1
  have := key (lens.length - (i + 1)) (by omega)
  unfold sy
  rwa [show i + 1 + (lens.length - (i + 1)) = lens.length by omega] at this
theorem off_s {lens : List Nat} {l : Nat} (h : 1 ≤ l) : off lens (l + 1) = off lens l + cnt lens l := by
  obtain ⟨k, rfl⟩ : ∃ k, l = k + 1 := ⟨l - 1, by omega⟩
  rfl
/-- all lengths of 1 .. l together -/
theorem off_le (lens : List Nat) : ∀ l, off lens (l + 1) ≤ lens.length := by
  have key : ∀ i l, (List.range l).foldr (fun k a => cntN lens (k + 1) i + a) 0 ≤ i := by
    intro i
    induction i with
    | zero =>
      intro l
      have : ∀ L : List Nat, L.foldr (fun k a => cntN lens (k + 1) 0 + a) 0 = 0 := by
        intro L
        induction L with
        | nil => rfl
        | cons x r ih => rw [List.foldr_cons, ih]; rfl
      rw [this]
      exact Nat.le_refl _
    | succ i ih =>
      intro l
      have st : ∀ L : List Nat, L.Nodup → L.foldr (fun k a => cntN lens (k + 1) (i + 1) + a) 0 ≤ L.foldr (fun k a => cntN lens (k + 1) i + a) 0 + (if gt lens i - 1 ∈ L then 1 else 0) := by
        intro L
        induction L with
        | nil => intro _; simp
        | cons x r ih2 =>
          intro hn
          rw [List.foldr_cons, List.foldr_cons, cntN_s]
          have hn2 := List.nodup_cons.mp hn
          have h3 := ih2 hn2.2
          by_cases e : gt lens i = x + 1
          · rw [if_pos e]
            have : gt lens i - 1 = x := by omega
            rw [this] at h3 ⊢
            rw [if_neg hn2.1] at h3
            rw [if_pos List.mem_cons_self]
            omega
          · rw [if_neg e]
            have : (if gt lens i - 1 ∈ r then 1 else 0) ≤ (if gt lens i - 1 ∈ x :: r then 1 else 0) := by
              by_cases q : gt lens i - 1 ∈ r
              · rw [if_pos q, if_pos (List.mem_cons_of_mem _ q)]; exact Nat.le_refl _
              · rw [if_neg q]; exact Nat.zero_le _
            omega
      have h1 := st (List.range l) List.nodup_range
      have h2 := ih l
      split at h1 <;> omega
  have eq : ∀ l, off lens (l + 1) = (List.range l).foldr (fun k a => cnt lens (k + 1) + a) 0 := by
    intro l
    induction l with
    | zero => rfl
    | succ l ih =>
      rw [off_s (by omega), ih, List.range_succ]
      have : ∀ (L : List Nat) (b : Nat), (L ++ [b]).foldr (fun k a => cnt lens (k + 1) + a) 0 = L.foldr (fun k a => cnt lens (k + 1) + a) 0 + cnt lens (b + 1) := by
        intro L b
        induction L with
        | nil => simp
        | cons x r ih2 => rw [List.cons_append, List.foldr_cons, List.foldr_cons, ih2]; omega
      rw [this]
  intro l
  rw [eq]
  exact key lens.length l
theorem off_mono {lens : List Nat} {a b : Nat} (h : a ≤ b) (ha : 1 ≤ a) : off lens a ≤ off lens b := by
  induction h with
  | refl => exact Nat.le_refl _
  | @step m hm ih =>
    have : 1 ≤ m := Nat.le_trans ha hm
    rw [Nat.succ_eq_add_one, off_s this]; omega
/-- the object d holds the codes for these lengths -/
noncomputable def cdC (c : hS) (d : Nat) (lens : List Nat) : Prop := lens.length ≤ ln (d + 3) ∧ (∀ l, 1 ≤ l → l < 16 → c.1 (d + 1) l = nI (cnt lens l)) ∧ c.1 d 3 = nI (off lens 16) ∧ c.1 d 4 = nI (mxN lens 15) ∧ (∀ l k, 1 ≤ l → l < 16 → k < cnt lens l → c.1 (d + 3) (off lens l + k) = nI (sy lens l k))
theorem cdC.fr {S : List Nat} {c c1 : hS} {d : Nat} {lens : List Nat} (h : cdC c d lens) (hf : fr S c c1) (h0 : d ∉ S) (h1 : d + 1 ∉ S) (h3 : d + 3 ∉ S) : cdC c1 d lens := ⟨h.1, fun l a b => (hf.i h1 l).trans (h.2.1 l a b), (hf.i h0 3).trans h.2.2.1, (hf.i h0 4).trans h.2.2.2.1, fun l k a b e => (hf.i h3 _).trans (h.2.2.2.2 l k a b e)⟩
/-- lengths in the class's row, from a place on -/
noncomputable def lnR (c : hS) (a : Nat) (lens : List Nat) : Prop := a + lens.length ≤ 320 ∧ ∀ i, i < lens.length → c.1 32 (a + i) = nI (gt lens i) ∧ gt lens i < 16
noncomputable def isCd (d : Nat) : Prop := d = 12 ∨ d = 16 ∨ d = 20 ∨ d = 24 ∨ d = 28
theorem isCd.l1 {d : Nat} (h : isCd d) : ln (d + 1) = 16 := by rcases h with rfl | rfl | rfl | rfl | rfl <;> rfl
theorem isCd.l2 {d : Nat} (h : isCd d) : ln (d + 2) = 16 := by rcases h with rfl | rfl | rfl | rfl | rfl <;> rfl
theorem f_order {N : Nat} {c : hS} {d a : Nat} {lens : List Nat} (hN : 1000000 ≤ N) (hd : isCd d) (hl : lnR c a lens) (hc : lens.length ≤ ln (d + 3)) : ∃ c', f_X3_order N c d (nI a) (nI lens.length) = some ((), c') ∧ cdC c' d lens ∧ fr [d, d + 1, d + 2, d + 3] c c' := by
  have hd11 : 11 < d := by rcases hd with rfl | rfl | rfl | rfl | rfl <;> decide
  have l1 := hd.l1
  have l2 := hd.l2
  have h31 := ln_lt (d + 3)
  have hlen := hl.1
  have hd32 : d + 3 < 32 := by rcases hd with rfl | rfl | rfl | rfl | rfl <;> decide
  have lnR' : ∀ {c' : hS}, fr [d, d + 1, d + 2, d + 3] c c' → ∀ i, i < lens.length → c'.1 32 (a + i) = nI (gt lens i) := fun hf i hi => (hf.i (by simp only [List.mem_cons, List.not_mem_nil, or_false]; omega) _).trans (hl.2 i hi).1
  -- the amounts are cleared
  have clr : ∀ e n k c0, k + e = 16 → e < n → fr [d, d + 1, d + 2, d + 3] c c0 → (∀ l, l < k → c0.1 (d + 1) l = 0) → ∃ c1, f_X3_order_3 N d (nI a) (nI lens.length) n c0 (nI k) = f_X3_order_54 N d (nI a) (nI lens.length) N c1 (nI (a + lens.length)) (nI a) ∧ fr [d, d + 1, d + 2, d + 3] c c1 ∧ ∀ l, l < 16 → c1.1 (d + 1) l = 0 := by
    intro e
    induction e with
    | zero =>
      intro n k c0 hk hn hf h0
      obtain ⟨n, rfl⟩ : ∃ m, n = m + 1 := ⟨n - 1, by omega⟩
      have : k = 16 := by omega
      subst this
      refine ⟨c0, ?_, hf, h0⟩
      have m1 : j_min (nI a + nI lens.length) (nI a + Int32.ofNat (ln (d + 3))) = nI (a + lens.length) := by
        unfold j_min
        rw [ofNat_nI, nI_add, nI_add, if_neg (nI_nlt (by omega) (by have := ln_le (d + 3); omega))]
      have m2 : j_min (nI (a + lens.length)) (Int32.ofNat (ln 32)) = nI (a + lens.length) := by
        unfold j_min
        rw [show Int32.ofNat (ln 32) = nI 320 from rfl, if_neg (nI_nlt (by omega) (by decide))]
      have m3 : j_max (nI a) 0 = nI a := by
        unfold j_max
        rw [if_neg (nI_pos (by omega))]
      rw [f_X3_order_3, ofNat_nI, l1, if_pos (nI_le (Nat.le_refl _) (by decide)), m1, m2, m3]
    | succ e ih =>
      intro n k c0 hk hn hf h0
      obtain ⟨n, rfl⟩ : ∃ m, n = m + 1 := ⟨n - 1, by omega⟩
      rw [f_X3_order_3, ofNat_nI, l1, if_neg (nI_ge (by omega) (by decide)), j_in_nI (by omega) (by decide), cond_true, nI_clamp (by omega), nI_1]
      dsimp only [st1]
      refine ih n (k + 1) _ (by omega) (by omega) (hf.tr (fr.sI (by simp))) (fun l hlk => ?_)
      by_cases q : l = k
      · subst q; exact sI_s _ _ _ _
      · rw [sI_j q]; exact h0 l (by omega)
  -- they are counted
  have cou : ∀ e n i c0, i + e = lens.length → e < n → fr [d, d + 1, d + 2, d + 3] c c0 → (∀ l, 1 ≤ l → l < 16 → c0.1 (d + 1) l = nI (cntN lens l i)) → ∃ c1, f_X3_order_54 N d (nI a) (nI lens.length) n c0 (nI (a + lens.length)) (nI (a + i)) = bnd (f_X3_placeLengths N c1 d) (fun _ c2 => f_X3_order_110 N d (nI a) (nI lens.length) N c2 (nI (a + lens.length)) (nI a)) ∧ fr [d, d + 1, d + 2, d + 3] c c1 ∧ ∀ l, 1 ≤ l → l < 16 → c1.1 (d + 1) l = nI (cnt lens l) := by
    intro e
    induction e with
    | zero =>
      intro n i c0 hi hn hf h0
      obtain ⟨n, rfl⟩ : ∃ m, n = m + 1 := ⟨n - 1, by omega⟩
      have : i = lens.length := by omega
      subst this
      refine ⟨c0, ?_, hf, h0⟩
      rw [f_X3_order_54, if_pos (nI_le (Nat.le_refl _) (by omega)), show j_max (nI a) 0 = nI a by unfold j_max; rw [if_neg (nI_pos (by omega))]]
    | succ e ih =>
      intro n i c0 hi hn hf h0
      obtain ⟨n, rfl⟩ : ∃ m, n = m + 1 := ⟨n - 1, by omega⟩
      have g16 := (hl.2 i (by omega)).2
      have e32 : c0.1 32 (nI (a + i)).toNatClampNeg = nI (gt lens i) := by rw [nI_clamp (by omega)]; exact lnR' hf i (by omega)
      rw [f_X3_order_54, if_neg (nI_ge (by omega) (by omega)), j_in_nI (show a + i < ln 32 from (by show a + i < 320; omega)) (by decide), cond_true, e32, nI_1]
      by_cases q : gt lens i = 0
      · rw [q, if_pos (show nI 0 ≤ 0 by decide)]
        refine ih n (i + 1) c0 (by omega) (by omega) hf (fun l h1 h2 => ?_)
        rw [cntN_s, if_neg (by omega)]
        exact h0 l h1 h2
      · rw [if_neg (nI_nle (by omega) (by omega)), ofNat_nI, l1, if_neg (nI_ge g16 (by decide)), j_in_nI g16 (by decide), cond_true, cond_true, nI_clamp (show gt lens i < 2 ^ 31 by omega), h0 _ (by omega) g16, nI_1]
        dsimp only [st1]
        refine ih n (i + 1) _ (by omega) (by omega) (hf.tr (fr.sI (by simp))) (fun l h1 h2 => ?_)
        rw [cntN_s]
        by_cases q2 : l = gt lens i
        · subst q2
          rw [sI_s, if_pos rfl]
        · rw [sI_j q2, if_neg (fun z => q2 z.symm)]
          exact h0 l h1 h2
  -- places of lengths
  have pla : ∀ e n k c0, k + e = 16 → 1 ≤ k → e < n → fr [d, d + 1, d + 2, d + 3] c c0 → (∀ l, 1 ≤ l → l < 16 → c0.1 (d + 1) l = nI (cnt lens l)) → (∀ l, 1 ≤ l → l < k → c0.1 (d + 2) l = nI (off lens l)) → c0.1 d 3 = nI (off lens k) → c0.1 d 4 = nI (mxN lens (k - 1)) → ∃ c1, f_X3_placeLengths_12 N d n c0 (nI k) = some ((), c1) ∧ fr [d, d + 1, d + 2, d + 3] c c1 ∧ (∀ l, 1 ≤ l → l < 16 → c1.1 (d + 1) l = nI (cnt lens l)) ∧ (∀ l, 1 ≤ l → l < 16 → c1.1 (d + 2) l = nI (off lens l)) ∧ c1.1 d 3 = nI (off lens 16) ∧ c1.1 d 4 = nI (mxN lens 15) := by
    intro e
    induction e with
    | zero =>
      intro n k c0 hk hk1 hn hf h1 h2 h3 h4
      obtain ⟨n, rfl⟩ : ∃ m, n = m + 1 := ⟨n - 1, by omega⟩
      have : k = 16 := by omega
      subst this
      rw [f_X3_placeLengths_12, ofNat_nI, l1, if_pos (nI_le (Nat.le_refl _) (by decide))]
      exact ⟨c0, rfl, hf, h1, h2, h3, h4⟩
    | succ e ih =>
      intro n k c0 hk hk1 hn hf h1 h2 h3 h4
      obtain ⟨n, rfl⟩ : ∃ m, n = m + 1 := ⟨n - 1, by omega⟩
      have hcn : cnt lens k ≤ 320 := by have := cntN_le lens k lens.length; unfold cnt; omega
      rw [f_X3_placeLengths_12, ofNat_nI, l1, if_neg (nI_ge (by omega) (by decide)), ofNat_nI, l2, if_neg (nI_ge (by omega) (by decide)), j_in_nI (by omega) (by decide), cond_true, nI_clamp (by omega), nI_1]
      dsimp only [st1]
      have a1 : (sI c0 (d + 2) k (c0.1 d 3)).1 d 3 = nI (off lens k) := by rw [sI_o (by omega)]; exact h3
      have a2 : (sI c0 (d + 2) k (c0.1 d 3)).1 (d + 1) k = nI (cnt lens k) := by rw [sI_o (by omega)]; exact h1 k hk1 (by omega)
      rw [cond_true, a1, a2, nI_add, ← off_s hk1]
      have a3 : (sI (sI c0 (d + 2) k (c0.1 d 3)) d 3 (nI (off lens (k + 1)))).1 (d + 1) k = nI (cnt lens k) := by rw [sI_o (by omega), sI_o (by omega)]; exact h1 k hk1 (by omega)
      rw [cond_true, a3]
      have f2 : fr [d, d + 1, d + 2, d + 3] c (sI (sI c0 (d + 2) k (c0.1 d 3)) d 3 (nI (off lens (k + 1)))) := hf.tr ((fr.sI (by simp)).tr (fr.sI (by simp)))
      have b1 : ∀ l, 1 ≤ l → l < 16 → (sI (sI c0 (d + 2) k (c0.1 d 3)) d 3 (nI (off lens (k + 1)))).1 (d + 1) l = nI (cnt lens l) := fun l q1 q2 => by rw [sI_o (by omega), sI_o (by omega)]; exact h1 l q1 q2
      have b2 : ∀ l, 1 ≤ l → l < k + 1 → (sI (sI c0 (d + 2) k (c0.1 d 3)) d 3 (nI (off lens (k + 1)))).1 (d + 2) l = nI (off lens l) := by
        intro l q1 q2
        rw [sI_o (by omega)]
        by_cases q : l = k
        · subst q; rw [sI_s, h3]
        · rw [sI_j q]; exact h2 l q1 (by omega)
      have b3 : (sI (sI c0 (d + 2) k (c0.1 d 3)) d 3 (nI (off lens (k + 1)))).1 d 3 = nI (off lens (k + 1)) := sI_s _ _ _ _
      have b4 : (sI (sI c0 (d + 2) k (c0.1 d 3)) d 3 (nI (off lens (k + 1)))).1 d 4 = nI (mxN lens (k - 1)) := by rw [sI_j (by decide), sI_o (by omega)]; exact h4
      obtain ⟨k', rfl⟩ : ∃ k', k = k' + 1 := ⟨k - 1, by omega⟩
      by_cases q : 0 < cnt lens (k' + 1)
      · rw [if_neg (nI_nle q (by omega))]
        refine ih n (k' + 1 + 1) _ (by omega) (by omega) (by omega) (f2.tr (fr.sI (by simp))) (fun l q1 q2 => by rw [sI_o (by omega)]; exact b1 l q1 q2) (fun l q1 q2 => by rw [sI_o (by omega)]; exact b2 l q1 q2) (by rw [sI_j (by decide)]; exact b3) ?_
        rw [sI_s, Nat.add_sub_cancel]
        unfold mxN
        rw [if_pos q]
      · have q0 : cnt lens (k' + 1) = 0 := by omega
        rw [q0, if_pos (show nI 0 ≤ 0 by decide)]
        refine ih n (k' + 1 + 1) _ (by omega) (by omega) (by omega) f2 b1 b2 b3 ?_
        rw [b4, Nat.add_sub_cancel, Nat.add_sub_cancel]
        conv => rhs; unfold mxN
        rw [if_neg q]
  -- symbols in their places
  have sym : ∀ e n i c0, i + e = lens.length → e < n → fr [d, d + 1, d + 2, d + 3] c c0 → (∀ l, 1 ≤ l → l < 16 → c0.1 (d + 1) l = nI (cnt lens l)) → (∀ l, 1 ≤ l → l < 16 → c0.1 (d + 2) l = nI (off lens l + cntN lens l i)) → c0.1 d 3 = nI (off lens 16) → c0.1 d 4 = nI (mxN lens 15) → (∀ l k, 1 ≤ l → l < 16 → k < cntN lens l i → c0.1 (d + 3) (off lens l + k) = nI (sy lens l k)) → ∃ c1, f_X3_order_110 N d (nI a) (nI lens.length) n c0 (nI (a + lens.length)) (nI (a + i)) = some ((), c1) ∧ cdC c1 d lens ∧ fr [d, d + 1, d + 2, d + 3] c c1 := by
    intro e
    induction e with
    | zero =>
      intro n i c0 hi hn hf h1 h2 h3 h4 h5
      obtain ⟨n, rfl⟩ : ∃ m, n = m + 1 := ⟨n - 1, by omega⟩
      have : i = lens.length := by omega
      subst this
      rw [f_X3_order_110, if_pos (nI_le (Nat.le_refl _) (by omega))]
      exact ⟨c0, rfl, ⟨hc, h1, h3, h4, h5⟩, hf⟩
    | succ e ih =>
      intro n i c0 hi hn hf h1 h2 h3 h4 h5
      obtain ⟨n, rfl⟩ : ∃ m, n = m + 1 := ⟨n - 1, by omega⟩
      have g16 := (hl.2 i (by omega)).2
      have e32 : c0.1 32 (nI (a + i)).toNatClampNeg = nI (gt lens i) := by rw [nI_clamp (by omega)]; exact lnR' hf i (by omega)
      rw [f_X3_order_110, if_neg (nI_ge (by omega) (by omega)), j_in_nI (show a + i < ln 32 from (by show a + i < 320; omega)) (by decide), cond_true, e32, nI_1, show nI (a + i) - nI a = nI i by rw [subI (by omega)]; congr 1; omega]
      unfold f_X3_placeSymbol
      by_cases q : gt lens i = 0
      · rw [q, if_pos (show nI 0 ≤ 0 by decide), bnd_some]
        refine ih n (i + 1) c0 (by omega) (by omega) hf h1 (fun l p1 p2 => ?_) h3 h4 (fun l k p1 p2 p3 => ?_)
        · rw [cntN_s, if_neg (by omega)]; exact h2 l p1 p2
        · rw [cntN_s, if_neg (by omega)] at p3; exact h5 l k p1 p2 p3
      · have hlt : cntN lens (gt lens i) i < cnt lens (gt lens i) := by
          have a1 := cntN_s lens (gt lens i) i
          rw [if_pos rfl] at a1
          have a2 := cntN_mono lens (gt lens i) (show i + 1 ≤ lens.length by omega)
          unfold cnt
          omega
        have hoff : off lens (gt lens i) + cnt lens (gt lens i) ≤ lens.length := by
          rw [← off_s (by omega)]
          exact off_le lens _
        have hpl : off lens (gt lens i) + cntN lens (gt lens i) i < ln (d + 3) := by omega
        rw [if_neg (nI_nle (by omega) (by omega)), ofNat_nI, l2, if_neg (nI_ge g16 (by decide)), j_in_nI g16 (by decide), cond_true, nI_clamp (show gt lens i < 2 ^ 31 by omega), h2 _ (by omega) g16, if_neg (nI_pos (by omega)), ofNat_nI, if_neg (nI_ge hpl h31), j_in_nI hpl h31, cond_true, nI_clamp (by omega)]
        dsimp only [st1]
        unfold f_X3_placeSymbol_40
        rw [l2, j_in_nI g16 (by decide), cond_true, cond_true, nI_clamp (show gt lens i < 2 ^ 31 by omega)]
        dsimp only [st1]
        rw [sI_o (show d + 2 ≠ d + 3 by omega), h2 _ (by omega) g16, nI_1, bnd_some]
        refine ih n (i + 1) _ (by omega) (by omega) (hf.tr ((fr.sI (by simp)).tr (fr.sI (by simp)))) (fun l p1 p2 => by rw [sI_o (by omega), sI_o (by omega)]; exact h1 l p1 p2) (fun l p1 p2 => ?_) (by rw [sI_o (by omega), sI_o (by omega)]; exact h3) (by rw [sI_o (by omega), sI_o (by omega)]; exact h4) (fun l k p1 p2 p3 => ?_)
        · rw [cntN_s]
          by_cases q2 : l = gt lens i
          · subst q2
            rw [sI_s, if_pos rfl]
            rfl
          · rw [sI_j q2, sI_o (by omega), if_neg (fun z => q2 z.symm)]
            exact h2 l p1 p2
        · rw [sI_o (show d + 3 ≠ d + 2 by omega)]
          rw [cntN_s] at p3
          by_cases q2 : l = gt lens i
          · subst q2
            rw [if_pos rfl] at p3
            by_cases q3 : k = cntN lens (gt lens i) i
            · subst q3
              rw [sI_s, sy_at (by omega) rfl]
            · rw [sI_j (by omega)]
              exact h5 _ k p1 p2 (by omega)
          · rw [if_neg (fun z => q2 z.symm), Nat.add_zero] at p3
            have hk2 : k < cnt lens l := Nat.lt_of_lt_of_le p3 (cntN_mono lens l (by omega))
            have hne : off lens l + k ≠ off lens (gt lens i) + cntN lens (gt lens i) i := by
              rcases Nat.lt_or_ge l (gt lens i) with z | z
              · have := off_mono (lens := lens) (show l + 1 ≤ gt lens i by omega) (by omega)
                rw [off_s p1] at this
                omega
              · have := off_mono (lens := lens) (show gt lens i + 1 ≤ l by omega) (by omega)
                rw [off_s (by omega)] at this
                omega
            rw [sI_j hne]
            exact h5 l k p1 p2 p3
  unfold f_X3_order
  obtain ⟨c1, e1, f1, z1⟩ := clr 16 N 0 c (by omega) (by omega) fr.rf (fun l h => by omega)
  rw [show (0 : Int32) = nI 0 from rfl, e1]
  obtain ⟨c2, e2, f2, z2⟩ := cou lens.length N 0 c1 (by omega) (by omega) f1 (fun l _ h => by rw [z1 l h]; rfl)
  rw [Nat.add_zero] at e2
  rw [e2]
  unfold f_X3_placeLengths
  dsimp only [st1]
  obtain ⟨c3, e3, f3, y1, y2, y3, y4⟩ := pla 15 N 1 (sI (sI c2 d 3 0) d 4 0) (by omega) (by omega) (by omega) (f2.tr ((fr.sI (by simp)).tr (fr.sI (by simp)))) (fun l p1 p2 => by rw [sI_o (by omega), sI_o (by omega)]; exact z2 l p1 p2) (fun l p1 p2 => by omega) (by rw [sI_j (by decide), sI_s]; rfl) (by rw [sI_s]; rfl)
  rw [show (1 : Int32) = nI 1 from rfl, e3, bnd_some]
  obtain ⟨c4, e4, x1, x2⟩ := sym lens.length N 0 c3 (by omega) (by omega) f3 y1 (fun l p1 p2 => by rw [y2 l p1 p2]; rfl) y3 y4 (fun l k p1 p2 p3 => by
    have : cntN lens l 0 = 0 := rfl
    omega)
  exact ⟨c4, e4, x1, x2⟩
/-- how full codes are -/
noncomputable def ful (lens : List Nat) : Nat → Nat
  | 0 => 0
  | l + 1 => ful lens l + cnt lens (l + 1) * 2 ^ (15 - (l + 1))
theorem f_areComplete {N : Nat} {c : hS} {d : Nat} {lens : List Nat} (hN : 1000000 ≤ N) (hd : isCd d) (h : cdC c d lens) (hl : lens.length ≤ 320) : f_X3_areComplete N c d = some (bI (decide (ful lens 15 = 32768)), c) := by
  have l1 := hd.l1
  have bnd : ∀ k, ful lens k ≤ 320 * 32768 * k := by
    intro k
    induction k with
    | zero => exact Nat.le_refl _
    | succ k ih =>
      unfold ful
      have h1 : cnt lens (k + 1) ≤ 320 := by have := cntN_le lens (k + 1) lens.length; unfold cnt; omega
      have h2 : 2 ^ (15 - (k + 1)) ≤ 32768 := by rw [show 32768 = 2 ^ 15 from rfl]; exact Nat.pow_le_pow_right (by decide) (by omega)
      have h3 := Nat.mul_le_mul h1 h2
      omega
  have key : ∀ e n k, k + e = 16 → 1 ≤ k → e < n → f_X3_areComplete_4 N d n c (nI (ful lens (k - 1))) (nI k) = some (bI (decide (ful lens 15 = 32768)), c) := by
    intro e
    induction e with
    | zero =>
      intro n k hk hk1 hn
      obtain ⟨n, rfl⟩ : ∃ m, n = m + 1 := ⟨n - 1, by omega⟩
      have : k = 16 := by omega
      subst this
      have b15 := bnd 15
      rw [f_X3_areComplete_4, ofNat_nI, l1, if_pos (nI_le (Nat.le_refl _) (by decide)), show 16 - 1 = 15 from rfl]
      by_cases q : ful lens 15 = 32768
      · rw [q, if_pos (show nI 32768 = 32768 from rfl)]; rfl
      · rw [if_neg (show ¬ nI (ful lens 15) = 32768 from fun z => q ((nI_eq (by omega) (show 32768 < 2 ^ 31 by decide)).mp z)), decide_eq_false q]; rfl
    | succ e ih =>
      intro n k hk hk1 hn
      obtain ⟨n, rfl⟩ : ∃ m, n = m + 1 := ⟨n - 1, by omega⟩
      rw [f_X3_areComplete_4, ofNat_nI, l1, if_neg (nI_ge (by omega) (by decide)), j_in_nI (by omega) (by decide), cond_true, nI_clamp (by omega), h.2.1 k hk1 (by omega), show (15 : Int32) = nI 15 from rfl, subI (by omega), shl_nI _ (by omega), nI_add, nI_1]
      have := ih n (k + 1) (by omega) (by omega) (by omega)
      rw [Nat.add_sub_cancel] at this
      obtain ⟨k', rfl⟩ : ∃ k', k = k' + 1 := ⟨k - 1, by omega⟩
      rw [Nat.add_sub_cancel]
      exact this
  unfold f_X3_areComplete
  exact key 15 N 1 (by omega) (by omega) (by omega)
theorem f_noneOrOne {c : hS} {d : Nat} {lens : List Nat} (h : cdC c d lens) (hl : lens.length ≤ 320) : f_X3_areNoneOrOneBit c d = some (bI (decide (off lens 16 = 0) || (decide (off lens 16 = 1) && decide (mxN lens 15 = 1))), c) := by
  have h1 : off lens 16 ≤ lens.length := off_le lens 15
  have h2 : ∀ k, mxN lens k ≤ k := by
    intro k
    induction k with
    | zero => exact Nat.le_refl _
    | succ k ih =>
      unfold mxN
      split
      · exact Nat.le_refl _
      · omega
  have h3 := h2 15
  unfold f_X3_areNoneOrOneBit
  rw [h.2.2.1, h.2.2.2.1]
  by_cases q1 : off lens 16 = 0
  · rw [q1, if_pos nI_0]; rfl
  · rw [if_neg (nI_ne0 (by omega) (by omega)), decide_eq_false q1, Bool.false_or]
    by_cases q2 : off lens 16 = 1
    · rw [q2, if_pos (show nI 1 = 1 from rfl), decide_eq_true (rfl : (1 : Nat) = 1), Bool.true_and]
      by_cases q3 : mxN lens 15 = 1
      · rw [q3, if_pos (show nI 1 = 1 from rfl)]; rfl
      · rw [if_neg (show ¬ nI (mxN lens 15) = 1 from fun z => q3 ((nI_eq (by omega) (show 1 < 2 ^ 31 by decide)).mp z)), decide_eq_false q3]; rfl
    · rw [if_neg (show ¬ nI (off lens 16) = 1 from fun z => q2 ((nI_eq (by omega) (show 1 < 2 ^ 31 by decide)).mp z)), decide_eq_false q2]; rfl
