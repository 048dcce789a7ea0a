/-! PURE: bits and symbols are taken -/
noncomputable def bt8 (t : List Nat) (k : Nat) : Nat := gt t (k / 8) / 2 ^ (k % 8) % 2
noncomputable def bv (t : List Nat) (b : Nat) : Nat → Nat
  | 0 => 0
  | n + 1 => bv t b n + bt8 t (b + n) * 2 ^ n
theorem bt8_lt (t : List Nat) (k : Nat) : bt8 t k < 2 := Nat.mod_lt _ (by decide)
theorem bv_lt (t : List Nat) (b : Nat) : ∀ n, bv t b n < 2 ^ n
  | 0 => by simp [bv]
  | n + 1 => by
    have h1 := bv_lt t b n
    have h2 := bt8_lt t (b + n)
    have h3 : bt8 t (b + n) * 2 ^ n ≤ 1 * 2 ^ n := Nat.mul_le_mul_right _ (by omega)
    unfold bv
    rw [Nat.pow_succ]
    omega
theorem sI_id {c : hS} {o j : Nat} {x : Int32} (h : c.1 o j = x) : sI c o j x = c := by
  obtain ⟨a, b, d⟩ := c
  unfold sI
  congr 1
  funext p q
  by_cases e : p = o ∧ q = j
  · rw [if_pos e, e.1, e.2]; exact h.symm
  · rw [if_neg e]
theorem sI_sI (c : hS) (o j : Nat) (x y : Int32) : sI (sI c o j x) o j y = sI c o j y := by
  unfold sI
  congr 1
  funext p q
  by_cases e : p = o ∧ q = j
  · rw [if_pos e, if_pos e]
  · rw [if_neg e, if_neg e]
    dsimp only
    rw [if_neg e]
/-- the class's unpacker stands at bit b of e -/
noncomputable def unB (c : hS) (t : List Nat) (b e : Nat) : Prop := row c 3 t ∧ c.1 11 9 = nI b ∧ c.1 11 10 = nI e ∧ b ≤ e ∧ e ≤ 8 * t.length
theorem unB.mv {c : hS} {t : List Nat} {b e b' : Nat} (h : unB c t b e) (hb : b' ≤ e) : unB (sI c 11 9 (nI b')) t b' e := ⟨h.1.fr (S := [11]) (fr.sI (by simp)) (by decide) (by decide), sI_s _ _ _ _, by rw [sI_j (by decide)]; exact h.2.2.1, hb, h.2.2.2.2⟩
theorem unB.fr {S : List Nat} {c c1 : hS} {t : List Nat} {b e : Nat} (h : unB c t b e) (hf : fr S c c1) (h3 : 3 ∉ S) (h4 : 4 ∉ S) (h9 : 11 ∉ S) : unB c1 t b e := ⟨h.1.fr hf h3 h4, (hf.i h9 9).trans h.2.1, (hf.i h9 10).trans h.2.2.1, h.2.2.2.1, h.2.2.2.2⟩
theorem unB.e {c : hS} {t : List Nat} {b e : Nat} (h : unB c t b e) : e ≤ 160000 := by
  have h1 : t.length ≤ 20000 := h.1.1
  have := h.2.2.2.2
  omega
theorem bit_eq {t : List Nat} {b : Nat} (ht : byt t) (hb : b < 2 ^ 31) : (j_shr (nI (gt t (b / 8))) (nI b &&& 7)) &&& 1 = nI (bt8 t b) := by
  have h1 := ht.gt (b / 8)
  rw [and7, shr_nI (by omega) (by have := Nat.mod_lt b (show 0 < 8 by decide); omega), and1]
  rfl
theorem sh3 {b : Nat} (hb : b < 2 ^ 31) : j_shr (nI b) 3 = nI (b / 8) := by
  rw [show (3 : Int32) = nI 3 from rfl, shr_nI hb (by decide)]
theorem f_takeBits {N : Nat} {c : hS} {t : List Nat} {b e n : Nat} (hN : 1000000 ≤ N) (h : unB c t b e) (hb : b + n ≤ e) (hn : n ≤ 16) : f_X10_takeBits N c (nI n) = some (nI (bv t b n), sI c 11 9 (nI (b + n))) := by
  have he := h.e
  have key : ∀ d n' i, i + d = n → d < n' → f_X10_takeBits_35 N (nI n) n' (sI c 11 9 (nI (b + i))) (nI (bv t b i)) (nI i) = some (nI (bv t b n), sI c 11 9 (nI (b + n))) := by
    intro d
    induction d with
    | zero =>
      intro n' i hi hn'
      obtain ⟨n', rfl⟩ : ∃ m, n' = m + 1 := ⟨n' - 1, by omega⟩
      have : i = n := by omega
      subst this
      rw [f_X10_takeBits_35, if_pos (nI_le (Nat.le_refl _) (by omega))]
    | succ d ih =>
      intro n' i hi hn'
      obtain ⟨n', rfl⟩ : ∃ m, n' = m + 1 := ⟨n' - 1, by omega⟩
      have u := h.mv (b' := b + i) (by omega)
      have hv := bv_lt t b i
      rw [f_X10_takeBits_35, if_neg (nI_ge (by omega) (by omega)), sI_s, sh3 (by omega), f_get u.1 (by omega), bnd_some, sI_s, bit_eq h.1.2.2.2 (by omega)]
      dsimp only [st1]
      rw [sI_sI, nI_1, nI_1, shl_nI _ (by omega), nx_or, Nat.or_comm, or_add hv, Nat.add_comm (bt8 t (b + i) * 2 ^ i)]
      exact ih n' (i + 1) (by omega) (by omega)
  unfold f_X10_takeBits
  rw [h.2.1, h.2.2.1, subI h.2.2.2.1, if_pos (nI_le (by omega) (by omega))]
  have := key n N 0 (by omega) (by omega)
  rwa [Nat.add_zero, sI_id h.2.1] at this
theorem f_takeBits_no {N : Nat} {c : hS} {t : List Nat} {b e n : Nat} (h : unB c t b e) (hb : e < b + n) (hn : n < 2 ^ 31) : ∃ c', f_X10_takeBits N c (nI n) = some (-1, c') ∧ fr [9] c c' := by
  have he := h.e
  unfold f_X10_takeBits
  have := h.2.2.2.1
  rw [h.2.1, h.2.2.1, subI this, if_neg (nI_ge (by omega) hn)]
  exact ⟨_, rfl, (fr.sI (by simp)).tr (fr.sI (by simp))⟩
/-! a symbol -/
noncomputable def dcd (t : List Nat) (e : Nat) (lens : List Nat) : Nat → Nat → Nat → Nat → Nat → Option (Nat × Nat)
  | 0, _, _, _, _ => none
  | r + 1, l, code, first, b => if e ≤ b then none else if 2 * code + bt8 t b < first + cnt lens l then some (sy lens l (2 * code + bt8 t b - first), b + 1) else if mxN lens 15 ≤ l then none else dcd t e lens r (l + 1) (2 * code + bt8 t b) (2 * (first + cnt lens l)) (b + 1)
noncomputable def dec (t : List Nat) (e : Nat) (lens : List Nat) (b : Nat) : Option (Nat × Nat) := dcd t e lens 15 1 0 0 b
theorem sy_lt {lens : List Nat} {l k : Nat} (h : k < cnt lens l) : sy lens l k < lens.length := by
  unfold sy
  have hk : k < (idxN lens l lens.length).length := h
  rw [gt_lt hk]
  have := List.getElem_mem hk
  unfold idxN at this
  exact List.mem_range.mp (List.mem_filter.mp this).1
theorem dcd_lt {t : List Nat} {e : Nat} {lens : List Nat} : ∀ {r l code first b s b' : Nat}, first ≤ 2 * code → dcd t e lens r l code first b = some (s, b') → s < lens.length ∧ b < b' ∧ b' ≤ e
  | 0, l, code, first, b, s, b', _, h => by simp [dcd] at h
  | r + 1, l, code, first, b, s, b', hf, h => by
    unfold dcd at h
    split at h
    · cases h
    · split at h
      · rename_i q1 q2
        cases h
        exact ⟨sy_lt (by omega), by omega, by omega⟩
      · split at h
        · cases h
        · rename_i q1 q2 q3
          have := dcd_lt (by omega) h
          exact ⟨this.1, by omega, this.2.2⟩
theorem dec_lt {t : List Nat} {e : Nat} {lens : List Nat} {b s b' : Nat} (h : dec t e lens b = some (s, b')) : s < lens.length ∧ b < b' ∧ b' ≤ e := dcd_lt (Nat.zero_le _) h
noncomputable def sym1 (r : Option (Nat × Nat)) : Int32 := match r with
  | some p => nI p.1
  | none => -1
theorem f_takeSymbol {N : Nat} {c : hS} {t : List Nat} {b e d : Nat} {lens : List Nat} {p : Int32} (hN : 1000000 ≤ N) (h : unB c t b e) (hd : isCd d) (hc : cdC c d lens) (hl : lens.length ≤ 320) : ∃ c', f_X10_takeSymbol N c d p = some (sym1 (dec t e lens b), c') ∧ fr [9, 11] c c' ∧ (∀ s b', dec t e lens b = some (s, b') → c' = sI c 11 9 (nI b')) := by
  have he := h.e
  have l1 := hd.l1
  have hd11 : 11 < d := by rcases hd with rfl | rfl | rfl | rfl | rfl <;> decide
  have h31 := ln_lt (d + 3)
  have o16 : off lens 16 ≤ lens.length := off_le lens 15
  have t148 : ∀ c1, fr [9, 11] c c1 → ∃ c', f_X10_takeSymbol_148 N d p c1 = some (-1, c') ∧ fr [9, 11] c c' := by
    intro c1 f1
    refine ⟨_, rfl, f1.tr (((fr.sI (by simp)).tr (fr.sI (by simp))).mono (S := [9]) (fun o ho => by simp at ho ⊢; omega))⟩
  have mx : ∀ k, mxN lens k ≤ k := by
    intro k
    induction k with
    | zero => exact Nat.le_refl _
    | succ k ih =>
      unfold mxN
      split
      · exact Nat.le_refl _
      · omega
  have mx15 := mx 15
  have key : ∀ r n l code first b, l + r = 16 → 1 ≤ l → r < n → b ≤ e → first ≤ 2 * code → code < 2 ^ (l - 1) → ∃ c', f_X10_takeSymbol_11 N d p n (sI c 11 9 (nI b)) (nI code) (nI first) (nI (off lens l)) (nI l) = some (sym1 (dcd t e lens r l code first b), c') ∧ fr [9, 11] c c' ∧ (∀ s b', dcd t e lens r l code first b = some (s, b') → c' = sI c 11 9 (nI b')) := by
    intro r
    induction r with
    | zero =>
      intro n l code first b hlr hl1 hn hb hf hcd
      obtain ⟨n, rfl⟩ : ∃ m, n = m + 1 := ⟨n - 1, by omega⟩
      have : l = 16 := by omega
      subst this
      rw [f_X10_takeSymbol_11, if_pos (by decide)]
      obtain ⟨c', a1, a2⟩ := t148 (sI c 11 9 (nI b)) (fr.sI (by simp))
      exact ⟨c', a1, a2, fun s b' q => by simp [dcd] at q⟩
    | succ r ih =>
      intro n l code first b hlr hl1 hn hb hf hcd
      obtain ⟨n, rfl⟩ : ∃ m, n = m + 1 := ⟨n - 1, by omega⟩
      have u := h.mv (b' := b) hb
      have hp : 2 ^ (l - 1) ≤ 2 ^ 14 := Nat.pow_le_pow_right (by decide) (by omega)
      have hb2 := bt8_lt t b
      have hcn : cnt lens l ≤ 320 := by have := cntN_le lens l lens.length; unfold cnt; omega
      rw [f_X10_takeSymbol_11, if_neg (show ¬ (15 : Int32) < nI l from nI_nlt (a := 15) (by omega) (by decide)), sI_s, u.2.2.1]
      unfold dcd
      by_cases e1 : e ≤ b
      · rw [if_neg (nI_nlt e1 (by omega)), if_pos e1]
        refine ⟨_, rfl, ?_, fun s b' q => by cases q⟩
        exact (fr.sI (by simp)).tr ((fr.sI (by simp)).tr (fr.sI (by simp)))
      · rw [if_pos (nI_lt (by omega) (by omega)), if_neg e1, sh3 (by omega), f_get u.1 (by omega), bnd_some, sI_s, bit_eq h.1.2.2.2 (by omega)]
        dsimp only [st1]
        have hcode : (j_shl (nI code) 1) ||| nI (bt8 t b) = nI (2 * code + bt8 t b) := by
          rw [show (1 : Int32) = nI 1 from rfl, shl_nI code (by decide), nx_or, or_add (k := 1) (by omega)]
          congr 1
          omega
        rw [sI_sI, nI_1, hcode, subI (show first ≤ 2 * code + bt8 t b by omega)]
        have f1 : fr [9, 11] c (sI c 11 9 (nI (b + 1))) := fr.sI (by simp)
        have hc1 := hc.fr f1 (by simp only [List.mem_cons, List.not_mem_nil, or_false]; omega) (by simp only [List.mem_cons, List.not_mem_nil, or_false]; omega) (by simp only [List.mem_cons, List.not_mem_nil, or_false]; omega)
        have am : f_X3_amount (sI c 11 9 (nI (b + 1))) d (nI l) = some (nI (cnt lens l), sI c 11 9 (nI (b + 1))) := by
          unfold f_X3_amount
          rw [if_neg (nI_nle (by omega) (by omega)), ofNat_nI, l1, if_neg (nI_ge (by omega) (by decide)), j_in_nI (by omega) (by decide), cond_true, nI_clamp (by omega), hc1.2.1 l hl1 (by omega)]
        rw [am, bnd_some]
        by_cases e2 : 2 * code + bt8 t b < first + cnt lens l
        · rw [if_neg (nI_ge (show 2 * code + bt8 t b - first < cnt lens l by omega) (by omega)), if_pos e2]
          have hk : 2 * code + bt8 t b - first < cnt lens l := by omega
          have ho : off lens l + (2 * code + bt8 t b - first) < off lens 16 := by
            have := off_mono (lens := lens) (show l + 1 ≤ 16 by omega) (by omega)
            rw [off_s hl1] at this
            omega
          have hol : off lens l ≤ off lens 16 := off_mono (by omega) hl1
          have sm : f_X3_symbol (sI c 11 9 (nI (b + 1))) d (nI (off lens l) + nI (2 * code + bt8 t b) - nI first) = some (nI (sy lens l (2 * code + bt8 t b - first)), sI c 11 9 (nI (b + 1))) := by
            have hln : lens.length ≤ ln (d + 3) := hc.1
            unfold f_X3_symbol
            rw [nI_add, subI (by omega), show off lens l + (2 * code + bt8 t b) - first = off lens l + (2 * code + bt8 t b - first) by omega, if_neg (nI_pos (by omega)), hc1.2.2.1, if_neg (nI_ge ho (by omega)), ofNat_nI, if_neg (nI_ge (by omega) h31), j_in_nI (by omega) h31, cond_true, nI_clamp (by omega), hc1.2.2.2.2 l _ hl1 (by omega) hk]
          rw [sm, bnd_some]
          exact ⟨_, rfl, f1, fun s b' q => by cases q; rfl⟩
        · rw [if_pos (nI_le (show cnt lens l ≤ 2 * code + bt8 t b - first by omega) (by omega)), if_neg e2]
          have lg : f_X3_longest (sI c 11 9 (nI (b + 1))) d = some (nI (mxN lens 15), sI c 11 9 (nI (b + 1))) := by
            unfold f_X3_longest
            rw [hc1.2.2.2.1]
          rw [lg, bnd_some]
          by_cases e3 : mxN lens 15 ≤ l
          · rw [if_neg (nI_nlt e3 (by omega)), if_pos e3]
            obtain ⟨c', a1, a2⟩ := t148 _ f1
            exact ⟨c', a1, a2, fun s b' q => by cases q⟩
          · rw [if_pos (nI_lt (by omega) (by omega)), if_neg e3, nI_add, nI_add, ← off_s hl1, show (1 : Int32) = nI 1 from rfl, shl_nI _ (by decide), nI_add, show (first + cnt lens l) * 2 ^ 1 = 2 * (first + cnt lens l) by omega]
            refine ih n (l + 1) _ _ (b + 1) (by omega) (by omega) (by omega) (by omega) (by omega) ?_
            rw [show l + 1 - 1 = l - 1 + 1 by omega, Nat.pow_succ]
            omega
  have := key 15 N 1 0 0 b (by decide) (by decide) (by omega) h.2.2.2.1 (Nat.zero_le _) (by decide)
  rw [sI_id h.2.1] at this
  exact this
/-! lengths are laid -/
theorem f_fillLengths {N : Nat} {c : hS} {a b v : Nat} (hN : 1000000 ≤ N) (hab : a ≤ b) (hb : b ≤ 320) : ∃ c', f_X10_fillLengths N c (nI a) (nI b) (nI v) = some ((), c') ∧ fr [32] c c' ∧ ∀ i, c'.1 32 i = if a ≤ i ∧ i < b then nI v else c.1 32 i := by
  have key : ∀ d n k c0, k + d = b → d < n → a ≤ k → fr [32] c c0 → (∀ i, c0.1 32 i = if a ≤ i ∧ i < k then nI v else c.1 32 i) → ∃ c', f_X10_fillLengths_3 N (nI a) (nI b) (nI v) n c0 (nI k) = some ((), c') ∧ fr [32] c c' ∧ ∀ i, c'.1 32 i = if a ≤ i ∧ i < b then nI v else c.1 32 i := by
    intro d
    induction d with
    | zero =>
      intro n k c0 hk hn hak hf h0
      obtain ⟨n, rfl⟩ : ∃ m, n = m + 1 := ⟨n - 1, by omega⟩
      have : k = b := by omega
      subst this
      rw [f_X10_fillLengths_3, if_pos (nI_le (Nat.le_refl _) (by omega))]
      exact ⟨c0, rfl, hf, h0⟩
    | succ d ih =>
      intro n k c0 hk hn hak hf h0
      obtain ⟨n, rfl⟩ : ∃ m, n = m + 1 := ⟨n - 1, by omega⟩
      rw [f_X10_fillLengths_3, if_neg (nI_ge (by omega) (by omega)), if_neg (nI_pos (by omega)), show Int32.ofNat (ln 32) = nI 320 from rfl, if_neg (nI_ge (by omega) (by decide)), j_in_nI (show k < ln 32 from (by show k < 320; omega)) (by decide), cond_true, nI_clamp (by omega), nI_1]
      dsimp only [st1]
      refine ih n (k + 1) _ (by omega) (by omega) (by omega) (hf.tr (fr.sI (by simp))) (fun i => ?_)
      by_cases q : i = k
      · subst q
        rw [sI_s, if_pos (by omega)]
      · rw [sI_j q, h0 i]
        by_cases q2 : a ≤ i ∧ i < k
        · rw [if_pos q2, if_pos (by omega)]
        · rw [if_neg q2, if_neg (by omega)]
  refine key (b - a) N a c (by omega) (by omega) (Nat.le_refl _) fr.rf (fun i => ?_)
  rw [if_neg (by omega)]
