section
/-! PURE: bits and symbols are taken -/
noncomputable def bt8 (t : List Nat) (k : Nat) : Nat := gt t (k / 8) / 2 ^ (k % 8) % 2
noncomputable def bv (t : List Nat) (b : Nat) : Nat → Nat
  | 0 => 0
  | n + 1 => bv t b n + bt8 t (b + n) * 2 ^ n
theorem bt8_lt (t : List Nat) (k : Nat) : bt8 t k < 2 := Nat.mod_lt _ (by decide)
theorem bv_lt (t : List Nat) (b : Nat) : ∀ n, bv t b n < 2 ^ n
  | 0 => by simp [bv]
  | n + 1 => by
    have h1 := bv_lt t b n
    have h2 := bt8_lt t (b + n)
    have h3 : bt8 t (b + n) * 2 ^ n ≤ 1 * 2 ^ n := Nat.mul_le_mul_right _ (by omega)
    unfold bv
    rw [Nat.pow_succ]
    omega
theorem sI_id {c : hS} {o j : Nat} {x : Int32} (h : c.1 o j = x) : sI c o j x = c := by
  obtain ⟨a, b, d⟩ := c
  unfold sI
  congr 1
  funext p q
  by_cases e : p = o ∧ q = j
  · rw [if_pos e, e.1, e.2]; exact h.symm
  · rw [if_neg e]
theorem sI_sI (c : hS) (o j : Nat) (x y : Int32) : sI (sI c o j x) o j y = sI c o j y := by
  unfold sI
  congr 1
  funext p q
  by_cases e : p = o ∧ q = j
  · rw [if_pos e, if_pos e]
  · rw [if_neg e, if_neg e]
    dsimp only
    rw [if_neg e]
/-- the class's unpacker stands at bit b of e -/
noncomputable def unB (c : hS) (t : List Nat) (b e : Nat) : Prop := row c 3 t ∧ c.1 11 9 = nI b ∧ c.1 11 10 = nI e ∧ b ≤ e ∧ e ≤ 8 * t.length
theorem unB.mv {c : hS} {t : List Nat} {b e b' : Nat} (h : unB c t b e) (hb : b' ≤ e) : unB (sI c 11 9 (nI b')) t b' e := ⟨h.1.fr (S := [11]) (fr.sI (by simp)) (by decide) (by decide), sI_s _ _ _ _, by rw [sI_j (by decide)]; exact h.2.2.1, hb, h.2.2.2.2⟩
theorem unB.fr {S : List Nat} {c c1 : hS} {t : List Nat} {b e : Nat} (h : unB c t b e) (hf : fr S c c1) (h3 : 3 ∉ S) (h4 : 4 ∉ S) (h9 : 11 ∉ S) : unB c1 t b e := ⟨h.1.fr hf h3 h4, (hf.i h9 9).trans h.2.1, (hf.i h9 10).trans h.2.2.1, h.2.2.2.1, h.2.2.2.2⟩
theorem unB.e {c : hS} {t : List Nat} {b e : Nat} (h : unB c t b e) : e ≤ 160000 := by
  have h1 : t.length ≤ 20000 := h.1.1
  have := h.2.2.2.2
  omega
theorem bit_eq {t : List Nat} {b : Nat} (ht : byt t) (hb : b < 2 ^ 31) : (j_shr (nI (gt t (b / 8))) (nI b &&& 7)) &&& 1 = nI (bt8 t b) := by
  have h1 := ht.gt (b / 8)
  rw [and7, shr_nI (by omega) (by have := Nat.mod_lt b (show 0 < 8 by decide); omega), and1]
  rfl
theorem sh3 {b : Nat} (hb : b < 2 ^ 31) : j_shr (nI b) 3 = nI (b / 8) := by
  rw [show (3 : Int32) = nI 3 from rfl, shr_nI hb (by decide)]
theorem f_takeBits {N : Nat} {c : hS} {t : List Nat} {b e n : Nat} (hN : 1000000 ≤ N) (h : unB c t b e) (hb : b + n ≤ e) (hn : n ≤ 16) : f_X10_takeBits N c (nI n) = some (nI (bv t b n), sI c 11 9 (nI (b + n))) := by
  have he := h.e
  have key : ∀ d n' i, i + d = n → d < n' → f_X10_takeBits_35 N (nI n) n' (sI c 11 9 (nI (b + i))) (nI (bv t b i)) (nI i) = some (nI (bv t b n), sI c 11 9 (nI (b + n))) := by
    intro d
    induction d with
    | zero =>
      intro n' i hi hn'
      obtain ⟨n', rfl⟩ : ∃ m, n' = m + 1 := ⟨n' - 1, by omega⟩
      have : i = n := by omega
      subst this
      rw [f_X10_takeBits_35, if_pos (nI_le (Nat.le_refl _) (by omega))]
    | succ d ih =>
      intro n' i hi hn'
      obtain ⟨n', rfl⟩ : ∃ m, n' = m + 1 := ⟨n' - 1, by omega⟩
      have u := h.mv (b' := b + i) (by omega)
      have hv := bv_lt t b i
      rw [f_X10_takeBits_35, if_neg (nI_ge (by omega) (by omega)), sI_s, sh3 (by omega), f_get u.1 (by omega), bnd_some, sI_s, bit_eq h.1.2.2.2 (by omega)]
      dsimp only [st1]
      rw [sI_sI, nI_1, nI_1, shl_nI _ (by omega), nx_or, Nat.or_comm, or_add hv, Nat.add_comm (bt8 t (b + i) * 2 ^ i)]
      exact ih n' (i + 1) (by omega) (by omega)
  unfold f_X10_takeBits
  rw [h.2.1, h.2.2.1, subI h.2.2.2.1, if_pos (nI_le (by omega) (by omega))]
  have := key n N 0 (by omega) (by omega)
  rwa [Nat.add_zero, sI_id h.2.1] at this
theorem f_takeBits_no {N : Nat} {c : hS} {t : List Nat} {b e n : Nat} (h : unB c t b e) (hb : e < b + n) (hn : n < 2 ^ 31) : ∃ c', f_X10_takeBits N c (nI n) = some (-1, c') ∧ fr [9] c c' := by
  have he := h.e
  unfold f_X10_takeBits
  have := h.2.2.2.1
  rw [h.2.1, h.2.2.1, subI this, if_neg (nI_ge (by omega) hn)]
  exact ⟨_, rfl, (fr.sI (by simp)).tr (fr.sI (by simp))⟩
/-! a symbol -/
noncomputable def dcd (t : List Nat) (e : Nat) (lens : List Nat) : Nat → Nat → Nat → Nat → Nat → Option (Nat × Nat)
  | 0, _, _, _, _ => none
  | r + 1, l, code, first, b => if e ≤ b then none else if 2 * code + bt8 t b < first + cnt lens l then some (sy lens l (2 * code + bt8 t b - first), b + 1) else if mxN lens 15 ≤ l then none else dcd t e lens r (l + 1) (2 * code + bt8 t b) (2 * (first + cnt lens l)) (b + 1)
noncomputable def dec (t : List Nat) (e : Nat) (lens : List Nat) (b : Nat) : Option (Nat × Nat) := dcd t e lens 15 1 0 0 b
theorem sy_lt {lens : List Nat} {l k : Nat} (h : k < cnt lens l) : sy lens l k < lens.length := by
  unfold sy
  have hk : k < (idxN lens l lens.length).length := h
  rw [gt_lt hk]
  have := List.getElem_mem hk
  unfold idxN at this
  exact List.mem_range.mp (List.mem_filter.mp this).1
theorem dcd_lt {t : List Nat} {e : Nat} {lens : List Nat} : ∀ {r l code first b s b' : Nat}, first ≤ 2 * code → dcd t e lens r l code first b = some (s, b') → s < lens.length ∧ b < b' ∧ b' ≤ e
  | 0, l, code, first, b, s, b', _, h => by simp [dcd] at h
  | r + 1, l, code, first, b, s, b', hf, h => by
    unfold dcd at h
    split at h
    · cases h
    · split at h
      · rename_i q1 q2
        cases h
        exact ⟨sy_lt (by omega), by omega, by omega⟩
      · split at h
        · cases h
        · rename_i q1 q2 q3
          have := dcd_lt (by omega) h
          exact ⟨this.1, by omega, this.2.2⟩
theorem dec_lt {t : List Nat} {e : Nat} {lens : List Nat} {b s b' : Nat} (h : dec t e lens b = some (s, b')) : s < lens.length ∧ b < b' ∧ b' ≤ e := dcd_lt (Nat.zero_le _) h
noncomputable def sym1 (r : Option (Nat × Nat)) : Int32 := match r with
  | some p => nI p.1
  | none => -1
theorem f_takeSymbol {N : Nat} {c : hS} {t : List Nat} {b e d : Nat} {lens : List Nat} {p : Int32} (hN : 1000000 ≤ N) (h : unB c t b e) (hd : isCd d) (hc : cdC c d lens) (hl : lens.length ≤ 320) : ∃ c', f_X10_takeSymbol N c d p = some (sym1 (dec t e lens b), c') ∧ fr [9, 11] c c' ∧ (∀ s b', dec t e lens b = some (s, b') → c' = sI c 11 9 (nI b')) := by
  have he := h.e
  have l1 := hd.l1
  have hd11 : 11 < d := by rcases hd with rfl | rfl | rfl | rfl | rfl <;> decide
  have h31 := ln_lt (d + 3)
  have o16 : off lens 16 ≤ lens.length := off_le lens 15
  have t148 : ∀ c1, fr [9, 11] c c1 → ∃ c', f_X10_takeSymbol_148 N d p c1 = some (-1, c') ∧ fr [9, 11] c c' := by
    intro c1 f1
    refine ⟨_, rfl, f1.tr (((fr.sI (by simp)).tr (fr.sI (by simp))).mono (S := [9]) (fun o ho => by simp at ho ⊢; omega))⟩
  have mx : ∀ k, mxN lens k ≤ k := by
    intro k
    induction k with
    | zero => exact Nat.le_refl _
    | succ k ih =>
      unfold mxN
      split
      · exact Nat.le_refl _
      · omega
  have mx15 := mx 15
  have key : ∀ r n l code first b, l + r = 16 → 1 ≤ l → r < n → b ≤ e → first ≤ 2 * code → code < 2 ^ (l - 1) → ∃ c', f_X10_takeSymbol_11 N d p n (sI c 11 9 (nI b)) (nI code) (nI first) (nI (off lens l)) (nI l) = some (sym1 (dcd t e lens r l code first b), c') ∧ fr [9, 11] c c' ∧ (∀ s b', dcd t e lens r l code first b = some (s, b') → c' = sI c 11 9 (nI b')) := by
    intro r
    induction r with
    | zero =>
      intro n l code first b hlr hl1 hn hb hf hcd
      obtain ⟨n, rfl⟩ : ∃ m, n = m + 1 := ⟨n - 1, by omega⟩
      have : l = 16 := by omega
      subst this
      rw [f_X10_takeSymbol_11, if_pos (by decide)]
      obtain ⟨c', a1, a2⟩ := t148 (sI c 11 9 (nI b)) (fr.sI (by simp))
      exact ⟨c', a1, a2, fun s b' q => by simp [dcd] at q⟩
    | succ r ih =>
      intro n l code first b hlr hl1 hn hb hf hcd
      obtain ⟨n, rfl⟩ : ∃ m, n = m + 1 := ⟨n - 1, by omega⟩
      have u := h.mv (b' := b) hb
      have hp : 2 ^ (l - 1) ≤ 2 ^ 14 := Nat.pow_le_pow_right (by decide) (by omega)
      have hb2 := bt8_lt t b
      have hcn : cnt lens l ≤ 320 := by have := cntN_le lens l lens.length; unfold cnt; omega
      rw [f_X10_takeSymbol_11, if_neg (show ¬ (15 : Int32) < nI l from nI_nlt (a := 15) (by omega) (by decide)), sI_s, u.2.2.1]
      unfold dcd
      by_cases e1 : e ≤ b
      · rw [if_neg (nI_nlt e1 (by omega)), if_pos e1]
        refine ⟨_, rfl, ?_, fun s b' q => by cases q⟩
        exact (fr.sI (by simp)).tr ((fr.sI (by simp)).tr (fr.sI (by simp)))
      · rw [if_pos (nI_lt (by omega) (by omega)), if_neg e1, sh3 (by omega), f_get u.1 (by omega), bnd_some, sI_s, bit_eq h.1.2.2.2 (by omega)]
        dsimp only [st1]
        have hcode : (j_shl (nI code) 1) ||| nI (bt8 t b) = nI (2 * code + bt8 t b) := by
          rw [show (1 : Int32) = nI 1 from rfl, shl_nI code (by decide), nx_or, or_add (k := 1) (by omega)]
          congr 1
          omega
        rw [sI_sI, nI_1, hcode, subI (show first ≤ 2 * code + bt8 t b by omega)]
        have f1 : fr [9, 11] c (sI c 11 9 (nI (b + 1))) := fr.sI (by simp)
        have hc1 := hc.fr f1 (by simp only [List.mem_cons, List.not_mem_nil, or_false]; omega) (by simp only [List.mem_cons, List.not_mem_nil, or_false]; omega) (by simp only [List.mem_cons, List.not_mem_nil, or_false]; omega)
        have am : f_X3_amount (sI c 11 9 (nI (b + 1))) d (nI l) = some (nI (cnt lens l), sI c 11 9 (nI (b + 1))) := by
          unfold f_X3_amount
          rw [if_neg (nI_nle (by omega) (by omega)), ofNat_nI, l1, if_neg (nI_ge (by omega) (by decide)), j_in_nI (by omega) (by decide), cond_true, nI_clamp (by omega), hc1.2.1 l hl1 (by omega)]
        rw [am, bnd_some]
        by_cases e2 : 2 * code + bt8 t b < first + cnt lens l
        · rw [if_neg (nI_ge (show 2 * code + bt8 t b - first < cnt lens l by omega) (by omega)), if_pos e2]
          have hk : 2 * code + bt8 t b - first < cnt lens l := by omega
          have ho : off lens l + (2 * code + bt8 t b - first) < off lens 16 := by
            have := off_mono (lens := lens) (show l + 1 ≤ 16 by omega) (by omega)
            rw [off_s hl1] at this
            omega
          have hol : off lens l ≤ off lens 16 := off_mono (by omega) hl1
          have sm : f_X3_symbol (sI c 11 9 (nI (b + 1))) d (nI (off lens l) + nI (2 * code + bt8 t b) - nI first) = some (nI (sy lens l (2 * code + bt8 t b - first)), sI c 11 9 (nI (b + 1))) := by
            have hln : lens.length ≤ ln (d + 3) := hc.1
            unfold f_X3_symbol
            rw [nI_add, subI (by omega), show off lens l + (2 * code + bt8 t b) - first = off lens l + (2 * code + bt8 t b - first) by omega, if_neg (nI_pos (by omega)), hc1.2.2.1, if_neg (nI_ge ho (by omega)), ofNat_nI, if_neg (nI_ge (by omega) h31), j_in_nI (by omega) h31, cond_true, nI_clamp (by omega), hc1.2.2.2.2 l _ hl1 (by omega) hk]
          rw [sm, bnd_some]
          exact ⟨_, rfl, f1, fun s b' q => by cases q; rfl⟩
        · rw [if_pos (nI_le (show cnt lens l ≤ 2 * code + bt8 t b - first by omega) (by omega)), if_neg e2]
          have lg : f_X3_longest (sI c 11 9 (nI (b + 1))) d = some (nI (mxN lens 15), sI c 11 9 (nI (b + 1))) := by
            unfold f_X3_longest
            rw [hc1.2.2.2.1]
          rw [lg, bnd_some]
          by_cases e3 : mxN lens 15 ≤ l
          · rw [if_neg (nI_nlt e3 (by omega)), if_pos e3]
            obtain ⟨c', a1, a2⟩ := t148 _ f1
            exact ⟨c', a1, a2, fun s b' q => by cases q⟩
          · rw [if_pos (nI_lt (by omega) (by omega)), if_neg e3, nI_add, nI_add, ← off_s hl1, show (1 : Int32) = nI 1 from rfl, shl_nI _ (by decide), nI_add, show (first + cnt lens l) * 2 ^ 1 = 2 * (first + cnt lens l) by omega]
            refine ih n (l + 1) _ _ (b + 1) (by omega) (by omega) (by omega) (by omega) (by omega) ?_
            rw [show l + 1 - 1 = l - 1 + 1 by omega, Nat.pow_succ]
            omega
  have := key 15 N 1 0 0 b (by decide) (by decide) (by omega) h.2.2.2.1 (Nat.zero_le _) (by decide)
  rw [sI_id h.2.1] at this
  exact this
/-! lengths are laid -/
theorem f_fillLengths {N : Nat} {c : hS} {a b v : Nat} (hN : 1000000 ≤ N) (hab : a ≤ b) (hb : b ≤ 320) : ∃ c', f_X10_fillLengths N c (nI a) (nI b) (nI v) = some ((), c') ∧ fr [32] c c' ∧ ∀ i, c'.1 32 i = if a ≤ i ∧ i < b then nI v else c.1 32 i := by
  have key : ∀ d n k c0, k + d = b → d < n → a ≤ k → fr [32] c c0 → (∀ i, c0.1 32 i = if a ≤ i ∧ i < k then nI v else c.1 32 i) → ∃ c', f_X10_fillLengths_3 N (nI a) (nI b) (nI v) n c0 (nI k) = some ((), c') ∧ fr [32] c c' ∧ ∀ i, c'.1 32 i = if a ≤ i ∧ i < b then nI v else c.1 32 i := by
    intro d
    induction d with
    | zero =>
      intro n k c0 hk hn hak hf h0
      obtain ⟨n, rfl⟩ : ∃ m, n = m + 1 := ⟨n - 1, by omega⟩
      have : k = b := by omega
      subst this
      rw [f_X10_fillLengths_3, if_pos (nI_le (Nat.le_refl _) (by omega))]
      exact ⟨c0, rfl, hf, h0⟩
    | succ d ih =>
      intro n k c0 hk hn hak hf h0
      obtain ⟨n, rfl⟩ : ∃ m, n = m + 1 := ⟨n - 1, by omega⟩
      rw [f_X10_fillLengths_3, if_neg (nI_ge (by omega) (by omega)), if_neg (nI_pos (by omega)), show Int32.ofNat (ln 32) = nI 320 from rfl, if_neg (nI_ge (by omega) (by decide)), j_in_nI (show k < ln 32 from (by show k < 320; omega)) (by decide), cond_true, nI_clamp (by omega), nI_1]
      dsimp only [st1]
      refine ih n (k + 1) _ (by omega) (by omega) (by omega) (hf.tr (fr.sI (by simp))) (fun i => ?_)
      by_cases q : i = k
      · subst q
        rw [sI_s, if_pos (by omega)]
      · rw [sI_j q, h0 i]
        by_cases q2 : a ≤ i ∧ i < k
        · rw [if_pos q2, if_pos (by omega)]
        · rw [if_neg q2, if_neg (by omega)]
  refine key (b - a) N a c (by omega) (by omega) (Nat.le_refl _) fr.rf (fun i => ?_)
  rw [if_neg (by omega)]
end
section
/-! PURE: codes that a block tells -/
noncomputable def ordL : List Nat := [16, 17, 18, 0, 8, 7, 9, 6, 10, 5, 11, 4, 12, 3, 13, 2, 14, 1, 15]
noncomputable def clF (t : List Nat) (b : Nat) : Nat → List Nat
  | 0 => List.replicate 19 0
  | i + 1 => (clF t b i).set (gt ordL i) (bv t (b + 3 * i) 3)
theorem clF_len (t : List Nat) (b : Nat) : ∀ i, (clF t b i).length = 19
  | 0 => by simp [clF]
  | i + 1 => by unfold clF; rw [List.length_set, clF_len t b i]
theorem gt_set {l : List Nat} {i k v : Nat} (hi : i < l.length) : gt (l.set i v) k = if k = i then v else gt l k := by
  by_cases e : k = i
  · subst e
    rw [if_pos rfl, gt_lt (by simpa using hi)]
    simp
  · rw [if_neg e]
    by_cases h : k < l.length
    · rw [gt_lt (by simpa using h), gt_lt h, List.getElem_set_ne (Ne.symm e)]
    · rw [gt_ge (by simpa using Nat.le_of_not_lt h), gt_ge (Nat.le_of_not_lt h)]
theorem gt_rep {n v k : Nat} : gt (List.replicate n v) k = if k < n then v else 0 := by
  by_cases h : k < n
  · rw [if_pos h, gt_lt (by simpa using h)]; simp
  · rw [if_neg h, gt_ge (by simpa using Nat.le_of_not_lt h)]
theorem ordL_lt : ∀ i, i < 19 → gt ordL i < 19 := by decide
theorem clF_lt (t : List Nat) (b : Nat) : ∀ i k, i ≤ 19 → gt (clF t b i) k < 16
  | 0, k, _ => by unfold clF; rw [gt_rep]; split <;> decide
  | i + 1, k, hi => by
    unfold clF
    rw [gt_set (by rw [clF_len]; exact ordL_lt i (by omega))]
    have h1 := bv_lt t (b + 3 * i) 3
    split
    · omega
    · exact clF_lt t b i k (by omega)
noncomputable def hH (t : List Nat) (b : Nat) : Nat := 257 + bv t b 5
noncomputable def hK (t : List Nat) (b : Nat) : Nat := 1 + bv t (b + 5) 5
noncomputable def hn (t : List Nat) (b : Nat) : Nat := 4 + bv t (b + 10) 4
noncomputable def hcB (t : List Nat) (e b : Nat) : Bool := if b + 5 ≤ e then if hH t b ≤ 286 then if b + 10 ≤ e then if hK t b ≤ 30 then if b + 14 ≤ e then if b + 14 + 3 * hn t b ≤ e then decide (ful (clF t (b + 14) (hn t b)) 15 = 32768) else false else false else false else false else false else false
noncomputable def Sun : List Nat := [9, 11, 20, 21, 22, 23, 24, 25, 26, 27, 28, 29, 30, 31, 32]
theorem Sun_of {S : List Nat} {c c' : hS} (h : fr S c c') (hS : ∀ o, o ∈ S → o ∈ Sun) : fr Sun c c' := h.mono hS
theorem sa0_at : ∀ i, i < 19 → sa0.getD i 0 = nI (gt ordL i) := by decide
theorem fr11 {c : hS} {j : Nat} {x : Int32} : fr Sun c (sI c 11 j x) := fr.sI (by decide)
theorem f_areLengthCodes {N : Nat} {c : hS} {t : List Nat} {b e : Nat} (hN : 1000000 ≤ N) (h : unB c t b e) : ∃ c', f_X10_areLengthCodes N c = some (bI (hcB t e b), c') ∧ fr Sun c c' ∧ (∀ k, k ≠ 9 → k ≠ 13 → k ≠ 14 → c'.1 11 k = c.1 11 k) ∧ (hcB t e b = true → c'.1 11 13 = nI (hH t b) ∧ c'.1 11 14 = nI (hH t b + hK t b) ∧ cdC c' 28 (clF t (b + 14) (hn t b)) ∧ unB c' t (b + 14 + 3 * hn t b) e ∧ hH t b ≤ 286 ∧ hK t b ≤ 30) := by
  have he := h.e
  have hn19 : hn t b ≤ 19 := by have := bv_lt t (b + 10) 4; unfold hn; omega
  -- a fault
  have no9 : ∀ {X : Option (Int32 × hS)} {c1 : hS} {bb : Bool}, bb = false → (∃ c', X = some (0, c') ∧ fr [9] c1 c') → fr Sun c c1 → (∀ k, k ≠ 9 → k ≠ 13 → k ≠ 14 → c1.1 11 k = c.1 11 k) → ∃ c', X = some (bI bb, c') ∧ fr Sun c c' ∧ (∀ k, k ≠ 9 → k ≠ 13 → k ≠ 14 → c'.1 11 k = c.1 11 k) ∧ (bb = true → c'.1 11 13 = nI (hH t b) ∧ c'.1 11 14 = nI (hH t b + hK t b) ∧ cdC c' 28 (clF t (b + 14) (hn t b)) ∧ unB c' t (b + 14 + 3 * hn t b) e ∧ hH t b ≤ 286 ∧ hK t b ≤ 30) := by
    intro X c1 bb hb ⟨c', e1, f1⟩ f0 s0
    subst hb
    exact ⟨c', e1, f0.tr (Sun_of f1 (by decide)), fun k a1 a2 a3 => (f1.i (by decide) k).trans (s0 k a1 a2 a3), fun z => by cases z⟩
  have tl : ∀ (c1 : hS) (a p : Int32), ∃ c', (bnd (f_X6_tell c1 a p) fun x c2 => bif j_b x then some (x, c2) else none) = some (0, c') ∧ fr [9] c1 c' := by
    intro c1 a p
    obtain ⟨c', a1, a2, _⟩ := RB.tellb (c := c1) (a := a) (p := p)
    exact ⟨c', a1, a2⟩
  unfold f_X10_areLengthCodes hcB
  by_cases q1 : b + 5 ≤ e
  · have v5 := bv_lt t b 5
    rw [show (5 : Int32) = nI 5 from rfl, f_takeBits hN h q1 (by decide), bnd_some, if_neg (show ¬ nI (bv t b 5) = -1 from fun z => by have := nI_pos (n := bv t b 5) (by omega); rw [z] at this; exact this (by decide)), if_pos q1]
    dsimp only [st1]
    rw [sI_s, show nI (bv t b 5) + 257 = nI (hH t b) by rw [show (257 : Int32) = nI 257 from rfl, nI_add, Nat.add_comm]; rfl]
    have u3 : unB (sI (sI c 11 9 (nI (b + 5))) 11 13 (nI (hH t b))) t (b + 5) e := by
      have u := h.mv (b' := b + 5) q1
      exact ⟨u.1.fr (S := [11]) (fr.sI (by simp)) (by decide) (by decide), by rw [sI_j (by decide)]; exact u.2.1, by rw [sI_j (by decide)]; exact u.2.2.1, u.2.2.2.1, u.2.2.2.2⟩
    have f3 : fr Sun c (sI (sI c 11 9 (nI (b + 5))) 11 13 (nI (hH t b))) := fr11.tr fr11
    have s3 : ∀ k, k ≠ 9 → k ≠ 13 → k ≠ 14 → (sI (sI c 11 9 (nI (b + 5))) 11 13 (nI (hH t b))).1 11 k = c.1 11 k := fun k a1 a2 a3 => by rw [sI_j a2, sI_j a1]
    have h13 : (sI (sI c 11 9 (nI (b + 5))) 11 13 (nI (hH t b))).1 11 13 = nI (hH t b) := sI_s _ _ _ _
    have hHl : hH t b < 300 := by unfold hH; omega
    revert u3 f3 s3 h13
    generalize sI (sI c 11 9 (nI (b + 5))) 11 13 (nI (hH t b)) = c3
    intro u3 f3 s3 h13
    by_cases q2 : hH t b ≤ 286
    · rw [if_pos (show nI (hH t b) ≤ 286 from nI_le (b := 286) q2 (by decide)), if_pos q2]
      by_cases q3 : b + 10 ≤ e
      · have v6 := bv_lt t (b + 5) 5
        rw [f_takeBits (n := 5) hN u3 (by omega) (by decide), bnd_some, if_neg (show ¬ nI (bv t (b + 5) 5) = -1 from fun z => by have := nI_pos (n := bv t (b + 5) 5) (by omega); rw [z] at this; exact this (by decide)), if_pos q3, show nI (bv t (b + 5) 5) + 1 = nI (hK t b) by rw [nI_1, Nat.add_comm]; rfl]
        have hKl : hK t b < 40 := by unfold hK; omega
        by_cases q4 : hK t b ≤ 30
        · rw [if_pos (show nI (hK t b) ≤ 30 from nI_le (b := 30) q4 (by decide)), if_pos q4]
          try dsimp only [st1]
          rw [sI_j (show (13 : Nat) ≠ 9 by decide), h13, nI_add, nI_1, show hH t b + bv t (b + 5) 5 + 1 = hH t b + hK t b by unfold hK; omega]
          have u6 : unB (sI (sI c3 11 9 (nI (b + 5 + 5))) 11 14 (nI (hH t b + hK t b))) t (b + 10) e := by
            have u := u3.mv (b' := b + 10) q3
            exact ⟨u.1.fr (S := [11]) (fr.sI (by simp)) (by decide) (by decide), by rw [sI_j (by decide)]; exact u.2.1, by rw [sI_j (by decide)]; exact u.2.2.1, u.2.2.2.1, u.2.2.2.2⟩
          have f6 : fr Sun c (sI (sI c3 11 9 (nI (b + 5 + 5))) 11 14 (nI (hH t b + hK t b))) := f3.tr (fr11.tr fr11)
          have s6 : ∀ k, k ≠ 9 → k ≠ 13 → k ≠ 14 → (sI (sI c3 11 9 (nI (b + 5 + 5))) 11 14 (nI (hH t b + hK t b))).1 11 k = c.1 11 k := fun k a1 a2 a3 => by rw [sI_j a3, sI_j a1]; exact s3 k a1 a2 a3
          have h136 : (sI (sI c3 11 9 (nI (b + 5 + 5))) 11 14 (nI (hH t b + hK t b))).1 11 13 = nI (hH t b) := by rw [sI_j (by decide), sI_j (by decide)]; exact h13
          have h146 : (sI (sI c3 11 9 (nI (b + 5 + 5))) 11 14 (nI (hH t b + hK t b))).1 11 14 = nI (hH t b + hK t b) := sI_s _ _ _ _
          revert u6 f6 s6 h136 h146
          generalize sI (sI c3 11 9 (nI (b + 5 + 5))) 11 14 (nI (hH t b + hK t b)) = c6
          intro u6 f6 s6 h136 h146
          by_cases q5 : b + 14 ≤ e
          · have v7 := bv_lt t (b + 10) 4
            rw [show (4 : Int32) = nI 4 from rfl, f_takeBits (n := 4) hN u6 (by omega) (by decide), bnd_some, if_neg (show ¬ nI (bv t (b + 10) 4) = -1 from fun z => by have := nI_pos (n := bv t (b + 10) 4) (by omega); rw [z] at this; exact this (by decide)), if_pos q5]
            have u8 := u6.mv (b' := b + 10 + 4) (by omega)
            obtain ⟨c9, e9, f9, g9⟩ := f_fillLengths (c := sI c6 11 9 (nI (b + 10 + 4))) (a := 0) (b := 19) (v := 0) hN (by omega) (by omega)
            rw [show Int32.ofNat sa0.length = nI 19 from rfl, show (0 : Int32) = nI 0 from rfl, e9, bnd_some]
            have u9 := u8.fr f9 (by decide) (by decide) (by decide)
            have f9' : fr Sun c c9 := (f6.tr fr11).tr (Sun_of f9 (by decide))
            have s9 : ∀ k, k ≠ 9 → k ≠ 13 → k ≠ 14 → c9.1 11 k = c.1 11 k := fun k a1 a2 a3 => by rw [f9.i (by decide), sI_j a1]; exact s6 k a1 a2 a3
            have h139 : c9.1 11 13 = nI (hH t b) := by rw [f9.i (by decide), sI_j (by decide)]; exact h136
            have h149 : c9.1 11 14 = nI (hH t b + hK t b) := by rw [f9.i (by decide), sI_j (by decide)]; exact h146
            -- the last row
            have end177 : ∀ c1, unB c1 t (b + 14 + 3 * hn t b) e → b + 14 + 3 * hn t b ≤ e → fr Sun c c1 → (∀ k, k ≠ 9 → k ≠ 13 → k ≠ 14 → c1.1 11 k = c.1 11 k) → c1.1 11 13 = nI (hH t b) → c1.1 11 14 = nI (hH t b + hK t b) → (∀ k, k < 19 → c1.1 32 k = nI (gt (clF t (b + 14) (hn t b)) k)) → ∃ c', f_X10_areLengthCodes_177 N c1 = some (bI (decide (ful (clF t (b + 14) (hn t b)) 15 = 32768)), c') ∧ fr Sun c c' ∧ (∀ k, k ≠ 9 → k ≠ 13 → k ≠ 14 → c'.1 11 k = c.1 11 k) ∧ (decide (ful (clF t (b + 14) (hn t b)) 15 = 32768) = true → c'.1 11 13 = nI (hH t b) ∧ c'.1 11 14 = nI (hH t b + hK t b) ∧ cdC c' 28 (clF t (b + 14) (hn t b)) ∧ unB c' t (b + 14 + 3 * hn t b) e ∧ hH t b ≤ 286 ∧ hK t b ≤ 30) := by
              intro c1 u1 hbe f1 s1 a13 a14 ar
              have cl := clF_len t (b + 14) (hn t b)
              obtain ⟨c2, e2, d2, f2⟩ := f_order (d := 28) (a := 0) (lens := clF t (b + 14) (hn t b)) hN (Or.inr (Or.inr (Or.inr (Or.inr rfl)))) ⟨by omega, fun i hi => ⟨by rw [Nat.zero_add]; exact ar i (by omega), clF_lt _ _ _ _ hn19⟩⟩ (by rw [cl]; decide)
              rw [cl] at e2
              unfold f_X10_areLengthCodes_177
              rw [show (0 : Int32) = nI 0 from rfl, show Int32.ofNat sa0.length = nI 19 from rfl, e2, bnd_some, f_areComplete hN (Or.inr (Or.inr (Or.inr (Or.inr rfl)))) d2 (by omega), bnd_some]
              have f2' : fr Sun c c2 := f1.tr (Sun_of f2 (by decide))
              have s2 : ∀ k, k ≠ 9 → k ≠ 13 → k ≠ 14 → c2.1 11 k = c.1 11 k := fun k a1 a2 a3 => (f2.i (by decide) k).trans (s1 k a1 a2 a3)
              by_cases q : ful (clF t (b + 14) (hn t b)) 15 = 32768
              · rw [decide_eq_true q, if_neg (by decide)]
                exact ⟨c2, rfl, f2', s2, fun _ => ⟨(f2.i (by decide) 13).trans a13, (f2.i (by decide) 14).trans a14, d2, u1.fr f2 (by decide) (by decide) (by decide), q2, q4⟩⟩
              · rw [decide_eq_false q, if_pos (show bI false = nI 0 from rfl)]
                obtain ⟨c', a1, a2, _⟩ := RB.last_ (RB.tell (c := c2) (a := 24) (p := c2.1 11 12))
                exact no9 rfl ⟨c', a1, a2⟩ f2' s2
            have lp : ∀ d n i c1, i + d = hn t b → d < n → unB c1 t (b + 14 + 3 * i) e → fr Sun c c1 → (∀ k, k ≠ 9 → k ≠ 13 → k ≠ 14 → c1.1 11 k = c.1 11 k) → c1.1 11 13 = nI (hH t b) → c1.1 11 14 = nI (hH t b + hK t b) → (∀ k, k < 19 → c1.1 32 k = nI (gt (clF t (b + 14) i) k)) → ∃ c', f_X10_areLengthCodes_119 N n c1 (nI (bv t (b + 10) 4)) (nI i) = some (bI (if b + 14 + 3 * hn t b ≤ e then decide (ful (clF t (b + 14) (hn t b)) 15 = 32768) else false), c') ∧ fr Sun c c' ∧ (∀ k, k ≠ 9 → k ≠ 13 → k ≠ 14 → c'.1 11 k = c.1 11 k) ∧ ((if b + 14 + 3 * hn t b ≤ e then decide (ful (clF t (b + 14) (hn t b)) 15 = 32768) else false) = true → c'.1 11 13 = nI (hH t b) ∧ c'.1 11 14 = nI (hH t b + hK t b) ∧ cdC c' 28 (clF t (b + 14) (hn t b)) ∧ unB c' t (b + 14 + 3 * hn t b) e ∧ hH t b ≤ 286 ∧ hK t b ≤ 30) := by
              intro d
              induction d with
              | zero =>
                intro n i c1 hi hnn u1 f1 s1 a13 a14 ar
                obtain ⟨n, rfl⟩ : ∃ m, n = m + 1 := ⟨n - 1, by omega⟩
                have : i = hn t b := by omega
                subst this
                rw [f_X10_areLengthCodes_119, show nI (bv t (b + 10) 4) + 4 = nI (hn t b) by rw [show (4 : Int32) = nI 4 from rfl, nI_add, Nat.add_comm]; rfl, if_pos (nI_le (Nat.le_refl _) (by omega)), if_pos u1.2.2.2.1]
                exact end177 c1 u1 u1.2.2.2.1 f1 s1 a13 a14 ar
              | succ d ih =>
                intro n i c1 hi hnn u1 f1 s1 a13 a14 ar
                obtain ⟨n, rfl⟩ : ∃ m, n = m + 1 := ⟨n - 1, by omega⟩
                rw [f_X10_areLengthCodes_119, show nI (bv t (b + 10) 4) + 4 = nI (hn t b) by rw [show (4 : Int32) = nI 4 from rfl, nI_add, Nat.add_comm]; rfl, if_neg (nI_ge (by omega) (by omega)), show Int32.ofNat sa0.length = nI 19 from rfl, if_neg (nI_ge (by omega) (by decide))]
                by_cases q : b + 14 + 3 * i + 3 ≤ e
                · have v3 := bv_lt t (b + 14 + 3 * i) 3
                  have ol := ordL_lt i (by omega)
                  rw [show (3 : Int32) = nI 3 from rfl, f_takeBits (n := 3) hN u1 q (by decide), bnd_some, if_neg (show ¬ nI (bv t (b + 14 + 3 * i) 3) = -1 from fun z => by have := nI_pos (n := bv t (b + 14 + 3 * i) 3) (by omega); rw [z] at this; exact this (by decide)), j_in_nI (show i < sa0.length from (by show i < 19; omega)) (by decide), cond_true, cond_true, nI_clamp (by omega), sa0_at i (by omega), nI_1]
                  have u2 := u1.mv (b' := b + 14 + 3 * i + 3) q
                  obtain ⟨c3, e3, f3, g3⟩ := f_fillLengths (c := sI c1 11 9 (nI (b + 14 + 3 * i + 3))) (a := gt ordL i) (b := gt ordL i + 1) (v := bv t (b + 14 + 3 * i) 3) hN (by omega) (by omega)
                  rw [e3, bnd_some, nI_1]
                  refine ih n (i + 1) c3 (by omega) (by omega) (u2.fr f3 (by decide) (by decide) (by decide)) ((f1.tr fr11).tr (Sun_of f3 (by decide))) (fun k a1 a2 a3 => by rw [f3.i (by decide), sI_j a1]; exact s1 k a1 a2 a3) (by rw [f3.i (by decide), sI_j (by decide)]; exact a13) (by rw [f3.i (by decide), sI_j (by decide)]; exact a14) (fun k hk => ?_)
                  rw [g3 k]
                  unfold clF
                  rw [gt_set (by rw [clF_len]; exact ol)]
                  by_cases z : k = gt ordL i
                  · rw [if_pos (by omega), if_pos z]
                  · rw [if_neg (by omega), if_neg z, sI_o (by decide)]
                    exact ar k hk
                · obtain ⟨c', a1, a2⟩ := f_takeBits_no (N := N) (n := 3) u1 (by omega) (by decide)
                  rw [show (3 : Int32) = nI 3 from rfl, a1, bnd_some, if_pos rfl, if_neg (by omega)]
                  exact no9 rfl ⟨c', rfl, a2⟩ f1 s1
            refine lp (hn t b) N 0 c9 (by omega) (by omega) u9 f9' s9 h139 h149 (fun k hk => ?_)
            rw [g9 k, if_pos (by omega)]
            unfold clF
            rw [gt_rep, if_pos hk]
          · obtain ⟨c', a1, a2⟩ := f_takeBits_no (N := N) (n := 4) u6 (by omega) (by decide)
            rw [show (4 : Int32) = nI 4 from rfl, a1, bnd_some, if_pos rfl, if_neg q5]
            exact no9 rfl ⟨c', rfl, a2⟩ f6 s6
        · rw [if_neg (show ¬ nI (hK t b) ≤ 30 from nI_ge (a := 30) (by omega) (by omega)), if_neg q4]
          exact no9 rfl (tl _ _ _) (f3.tr fr11) (fun k a1 a2 a3 => by rw [sI_j a1]; exact s3 k a1 a2 a3)
      · obtain ⟨c', a1, a2⟩ := f_takeBits_no (N := N) (n := 5) u3 (by omega) (by decide)
        rw [a1, bnd_some, if_pos rfl, if_neg q3]
        exact no9 rfl ⟨c', rfl, a2⟩ f3 s3
    · rw [if_neg (show ¬ nI (hH t b) ≤ 286 from nI_ge (a := 286) (by omega) (by omega)), if_neg q2]
      exact no9 rfl (tl _ _ _) f3 s3
  · obtain ⟨c', a1, a2⟩ := f_takeBits_no (N := N) (n := 5) h (by omega) (by decide)
    rw [show (5 : Int32) = nI 5 from rfl, a1, bnd_some, if_pos rfl, if_neg q1]
    exact no9 rfl ⟨c', rfl, a2⟩ fr.rf (fun _ _ _ _ => rfl)
end
section
/-! PURE: the lengths that a block tells -/
noncomputable def repB (s : Nat) : Nat := if s < 16 then 0 else if s = 16 then 2 else if s = 17 then 3 else 7
noncomputable def repL (s : Nat) : Nat := if s < 16 then 1 else if s = 18 then 11 else 3
noncomputable def repV (row : List Nat) (s : Nat) : Nat := if s < 16 then s else if s = 16 then gt row (row.length - 1) else 0
noncomputable def rep (t : List Nat) (e all : Nat) (row : List Nat) (s b : Nat) : Option (List Nat × Nat) := if s = 16 ∧ row.length = 0 then none else if b + repB s ≤ e then (if row.length + (repL s + bv t b (repB s)) ≤ all then some (row ++ List.replicate (repL s + bv t b (repB s)) (repV row s), b + repB s) else none) else none
noncomputable def rws (t : List Nat) (e : Nat) (cl : List Nat) (all : Nat) : Nat → Nat → List Nat → Option (List Nat × Nat)
  | 0, _, _ => none
  | f + 1, b, row => if all ≤ row.length then some (row, b) else match dec t e cl b with
    | none => none
    | some p => match rep t e all row p.1 p.2 with
      | none => none
      | some q => rws t e cl all f q.2 q.1
theorem rep_ext {t : List Nat} {e all : Nat} {row row' : List Nat} {s b b' : Nat} (h : rep t e all row s b = some (row', b')) : ∃ r, row' = row ++ r ∧ 1 ≤ r.length ∧ row'.length ≤ all ∧ b ≤ b' ∧ b' ≤ e := by
  unfold rep at h
  split at h
  · cases h
  · split at h
    · split at h
      · rename_i q1 q2 q3
        cases h
        refine ⟨_, rfl, ?_, by simp only [List.length_append, List.length_replicate]; omega, by omega, q2⟩
        rw [List.length_replicate]
        unfold repL
        split
        · omega
        · split <;> omega
      · cases h
    · cases h
theorem rws_ext {t : List Nat} {e : Nat} {cl : List Nat} {all : Nat} : ∀ {f b : Nat} {row row' : List Nat} {b' : Nat}, row.length ≤ all → rws t e cl all f b row = some (row', b') → ∃ r, row' = row ++ r ∧ row'.length = all
  | 0, b, row, row', b', _, h => by simp [rws] at h
  | f + 1, b, row, row', b', hl, h => by
    unfold rws at h
    split at h
    · cases h
      exact ⟨[], by simp, by omega⟩
    · split at h
      · cases h
      · rename_i p hp
        split at h
        · cases h
        · rename_i q hq
          obtain ⟨q1, q2⟩ := q
          obtain ⟨r, r1, r2, r3, r4⟩ := rep_ext hq
          obtain ⟨r', w1, w2⟩ := rws_ext r3 h
          exact ⟨r ++ r', by rw [w1, r1, List.append_assoc], w2⟩
noncomputable def arR (c : hS) (row : List Nat) : Prop := (∀ i, i < row.length → c.1 32 i = nI (gt row i) ∧ gt row i < 16) ∧ c.1 11 15 = nI row.length ∧ row.length ≤ 316
theorem f_isRepeated {N : Nat} {c : hS} {t row : List Nat} {b e all s : Nat} (hN : 1000000 ≤ N) (h : unB c t b e) (ha : arR c row) (h14 : c.1 11 14 = nI all) (hall : all ≤ 316) (hs : s < 19) : ∃ c', f_X10_isRepeated N c (nI s) = some (bI (rep t e all row s b).isSome, c') ∧ fr [9, 11, 32] c c' ∧ (∀ k, k ≠ 9 → k ≠ 15 → c'.1 11 k = c.1 11 k) ∧ (∀ row' b', rep t e all row s b = some (row', b') → arR c' row' ∧ unB c' t b' e) := by
  have he := h.e
  have hrl := ha.2.2
  have no9 : ∀ {X : Option (Int32 × hS)} {c1 : hS} {r : Option (List Nat × Nat)}, r = none → (∃ c', X = some (0, c') ∧ fr [9] c1 c') → fr [9, 11, 32] c c1 → (∀ k, k ≠ 9 → k ≠ 15 → c1.1 11 k = c.1 11 k) → ∃ c', X = some (bI r.isSome, c') ∧ fr [9, 11, 32] c c' ∧ (∀ k, k ≠ 9 → k ≠ 15 → c'.1 11 k = c.1 11 k) ∧ (∀ row' b', r = some (row', b') → arR c' row' ∧ unB c' t b' e) := by
    intro X c1 r hr ⟨c', e1, f1⟩ f0 s0
    subst hr
    exact ⟨c', e1, f0.tr (f1.mono (fun o ho => by simp at ho ⊢; omega)), fun k a1 a2 => (f1.i (by decide) k).trans (s0 k a1 a2), fun _ _ z => by cases z⟩
  have tl : ∀ (c1 : hS) (a p : Int32), ∃ c', (bnd (f_X6_tell c1 a p) fun x c2 => bif j_b x then some (x, c2) else none) = some (0, c') ∧ fr [9] c1 c' := by
    intro c1 a p
    obtain ⟨c', a1, a2, _⟩ := RB.tellb (c := c1) (a := a) (p := p)
    exact ⟨c', a1, a2⟩
  have s113 : ∀ v k le : Nat, v < 16 → k ≤ 7 → le ≤ 11 → ∃ c', f_X10_isRepeated_113 N (nI s) c (nI v) (nI k) (nI le) = some (bI (if b + k ≤ e then (if row.length + (le + bv t b k) ≤ all then some (row ++ List.replicate (le + bv t b k) v, b + k) else none) else none).isSome, c') ∧ fr [9, 11, 32] c c' ∧ (∀ k, k ≠ 9 → k ≠ 15 → c'.1 11 k = c.1 11 k) ∧ (∀ row' b', (if b + k ≤ e then (if row.length + (le + bv t b k) ≤ all then some (row ++ List.replicate (le + bv t b k) v, b + k) else none) else none) = some (row', b') → arR c' row' ∧ unB c' t b' e) := by
    intro v k le hv hk hle
    have v1 := bv_lt t b k
    have v2 : 2 ^ k ≤ 2 ^ 7 := Nat.pow_le_pow_right (by decide) hk
    unfold f_X10_isRepeated_113
    by_cases q1 : b + k ≤ e
    · rw [f_takeBits hN h q1 (by omega), bnd_some, if_neg (show ¬ nI (bv t b k) = -1 from fun z => by have := nI_pos (n := bv t b k) (by omega); rw [z] at this; exact this (by decide)), if_pos q1, sI_j (show (15 : Nat) ≠ 9 by decide), sI_j (show (14 : Nat) ≠ 9 by decide), ha.2.1, h14, nI_add, nI_add, Nat.add_assoc]
      by_cases q2 : row.length + (le + bv t b k) ≤ all
      · rw [if_pos (nI_le q2 (by omega)), if_pos q2]
        obtain ⟨c3, e3, f3, g3⟩ := f_fillLengths (c := sI c 11 9 (nI (b + k))) (a := row.length) (b := row.length + (le + bv t b k)) (v := v) hN (by omega) (by omega)
        rw [e3, bnd_some]
        dsimp only [st1]
        refine ⟨_, rfl, ?_, fun k a1 a2 => ?_, fun row' b' z => ?_⟩
        · exact (fr.sI (by simp)).tr ((f3.mono (fun o ho => by simp at ho ⊢; omega)).tr (fr.sI (by simp)))
        · rw [sI_j a2, f3.i (by decide), sI_j a1]
        · cases z
          refine ⟨⟨fun i hi => ?_, ?_, by simp only [List.length_append, List.length_replicate]; omega⟩, ?_⟩
          · rw [sI_o (by decide), g3 i]
            simp only [List.length_append, List.length_replicate] at hi
            by_cases w : i < row.length
            · rw [if_neg (by omega), sI_o (by decide), gt_app_l w]
              exact ha.1 i w
            · rw [if_pos (by omega), gt_app_r (by omega), gt_rep, if_pos (by omega)]
              exact ⟨rfl, hv⟩
          · rw [sI_s, List.length_append, List.length_replicate]
          · have u := (h.mv (b' := b + k) q1).fr f3 (by decide) (by decide) (by decide)
            exact ⟨u.1.fr (S := [11]) (fr.sI (by simp)) (by decide) (by decide), by rw [sI_j (by decide)]; exact u.2.1, by rw [sI_j (by decide)]; exact u.2.2.1, u.2.2.2.1, u.2.2.2.2⟩
      · rw [if_neg (nI_ge (by omega) (by omega)), if_neg q2]
        exact no9 rfl (tl _ _ _) (fr.sI (by simp)) (fun k a1 a2 => by rw [sI_j a1])
    · obtain ⟨c', a1, a2⟩ := f_takeBits_no (N := N) (n := k) h (by omega) (by omega)
      rw [a1, bnd_some, if_pos rfl, if_neg q1]
      exact no9 rfl ⟨c', rfl, a2⟩ fr.rf (fun _ _ _ => rfl)
  unfold f_X10_isRepeated rep
  by_cases c16 : s = 16
  · subst c16
    rw [if_pos (show nI 16 = 16 from rfl), ha.2.1]
    by_cases q0 : row.length = 0
    · rw [q0, if_pos nI_0, if_pos ⟨rfl, rfl⟩]
      exact no9 rfl (tl _ _ _) fr.rf (fun _ _ _ => rfl)
    · rw [if_neg (nI_ne0 (by omega) (by omega)), if_neg (fun z => q0 z.2)]
      unfold f_X10_isRepeated_27
      have gl := ha.1 (row.length - 1) (by omega)
      rw [if_pos (by decide), if_pos (show nI 16 = 16 from rfl), ha.2.1, show nI row.length - 1 = nI (row.length - 1) from subI (b := 1) (by omega)]
      unfold f_X10_lengthAt
      rw [if_neg (nI_pos (by omega)), show Int32.ofNat (ln 32) = nI 320 from rfl, if_neg (nI_ge (by omega) (by decide)), j_in_nI (show row.length - 1 < ln 32 from (by show row.length - 1 < 320; omega)) (by decide), cond_true, nI_clamp (by omega), gl.1, bnd_some]
      unfold f_X10_isRepeated_57
      rw [if_pos (by decide), if_pos (show nI 16 = 16 from rfl)]
      unfold f_X10_isRepeated_90
      rw [if_pos (by decide), if_neg (show ¬ nI 16 = 18 by decide)]
      exact s113 _ 2 3 gl.2 (by decide) (by decide)
  · rw [if_neg (show ¬ nI s = 16 from fun z => c16 ((nI_eq (by omega) (show 16 < 2 ^ 31 by decide)).mp z)), if_neg (fun z => c16 z.1)]
    unfold f_X10_isRepeated_27
    by_cases q1 : s < 16
    · rw [if_neg (show ¬ (16 : Int32) ≤ nI s from nI_ge (b := 16) q1 (by decide))]
      unfold f_X10_isRepeated_57
      rw [if_neg (show ¬ (16 : Int32) ≤ nI s from nI_ge (b := 16) q1 (by decide))]
      unfold f_X10_isRepeated_90
      rw [if_neg (show ¬ (16 : Int32) ≤ nI s from nI_ge (b := 16) q1 (by decide))]
      have := s113 s 0 1 q1 (by decide) (by decide)
      unfold repB repL repV
      simp only [if_pos q1]
      exact this
    · rw [if_pos (show (16 : Int32) ≤ nI s from nI_le (a := 16) (by omega) (by omega)), if_neg (show ¬ nI s = 16 from fun z => c16 ((nI_eq (by omega) (show 16 < 2 ^ 31 by decide)).mp z))]
      unfold f_X10_isRepeated_57
      rw [if_pos (show (16 : Int32) ≤ nI s from nI_le (a := 16) (by omega) (by omega)), if_neg (show ¬ nI s = 16 from fun z => c16 ((nI_eq (by omega) (show 16 < 2 ^ 31 by decide)).mp z))]
      unfold f_X10_isRepeated_90
      by_cases q2 : s = 17
      · subst q2
        rw [if_pos (show nI 17 = 17 from rfl), if_pos (by decide), if_neg (by decide)]
        exact s113 0 3 3 (by decide) (by decide) (by decide)
      · have : s = 18 := by omega
        subst this
        rw [if_neg (by decide), if_pos (by decide), if_pos (show nI 18 = 18 from rfl)]
        exact s113 0 7 11 (by decide) (by decide) (by decide)
/-- may these lengths of symbols go on -/
noncomputable def slB (row : List Nat) (bef H : Nat) : Bool := if bef ≤ 256 ∧ 256 < row.length ∧ gt row 256 = 0 then false else if bef < H ∧ H ≤ row.length then decide (ful (row.take H) 15 = 32768) else true
theorem f_areSymbolLengths {N : Nat} {c : hS} {row : List Nat} {bef H : Nat} (hN : 1000000 ≤ N) (ha : arR c row) (h13 : c.1 11 13 = nI H) (hH : H ≤ 286) (hb : bef ≤ 316) : ∃ c', f_X10_areSymbolLengths N c (nI bef) = some (bI (slB row bef H), c') ∧ fr [20, 21, 22, 23] c c' ∧ (bef < H ∧ H ≤ row.length → slB row bef H = true → cdC c' 20 (row.take H)) ∧ (H ≤ bef → c' = c) := by
  have hrl := ha.2.2
  have a29 : ∀ {bb : Bool}, bb = (if bef < H ∧ H ≤ row.length then decide (ful (row.take H) 15 = 32768) else true) → ∃ c', f_X10_areSymbolLengths_29 N (nI bef) c = some (bI bb, c') ∧ fr [20, 21, 22, 23] c c' ∧ (bef < H ∧ H ≤ row.length → bb = true → cdC c' 20 (row.take H)) ∧ (H ≤ bef → c' = c) := by
    intro bb hbb
    unfold f_X10_areSymbolLengths_29
    rw [h13, ha.2.1]
    by_cases q1 : H ≤ bef
    · rw [if_pos (nI_le q1 (by omega))]
      rw [if_neg (by omega)] at hbb
      subst hbb
      exact ⟨c, rfl, fr.rf, fun z => by omega, fun _ => rfl⟩
    · rw [if_neg (nI_ge (by omega) (by omega))]
      by_cases q2 : H ≤ row.length
      · rw [if_pos (nI_le q2 (by omega))]
        rw [if_pos ⟨by omega, q2⟩] at hbb
        have tl : (row.take H).length = H := by rw [List.length_take]; omega
        obtain ⟨c1, e1, d1, f1⟩ := f_order (d := 20) (a := 0) (lens := row.take H) hN (Or.inr (Or.inr (Or.inl rfl))) ⟨by omega, fun i hi => by rw [tl] at hi; rw [Nat.zero_add, gt_take hi]; exact ha.1 i (by omega)⟩ (by rw [tl]; show H ≤ 288; omega)
        rw [tl] at e1
        rw [show (0 : Int32) = nI 0 from rfl, e1, bnd_some, f_areComplete hN (Or.inr (Or.inr (Or.inl rfl))) d1 (by omega), bnd_some, ← hbb]
        cases bb <;> exact ⟨c1, rfl, f1, fun _ _ => d1, fun z => by omega⟩
      · rw [if_neg (nI_ge (by omega) (by omega))]
        rw [if_neg (by omega)] at hbb
        subst hbb
        exact ⟨c, rfl, fr.rf, fun z => by omega, fun _ => rfl⟩
  unfold f_X10_areSymbolLengths slB
  by_cases q1 : bef ≤ 256
  · rw [if_neg (show ¬ (256 : Int32) < nI bef from nI_nlt (a := 256) q1 (by decide)), ha.2.1]
    by_cases q2 : 256 < row.length
    · rw [if_neg (show ¬ nI row.length ≤ 256 from nI_ge (a := 256) q2 (by omega))]
      have g := ha.1 256 q2
      unfold f_X10_lengthAt
      rw [if_neg (by decide), show Int32.ofNat (ln 32) = nI 320 from rfl, if_neg (show ¬ nI 320 ≤ 256 by decide), show j_in 256 (ln 32) = true from rfl, cond_true, show (256 : Int32).toNatClampNeg = 256 from rfl, g.1, bnd_some]
      by_cases q3 : gt row 256 = 0
      · rw [q3, if_pos nI_0, if_pos ⟨q1, q2, rfl⟩]
        exact ⟨c, rfl, fr.rf, fun _ z => (by cases z), fun _ => rfl⟩
      · rw [if_neg (nI_ne0 (by omega) (by omega)), if_neg (fun z => q3 z.2.2)]
        exact a29 rfl
    · rw [if_pos (show nI row.length ≤ 256 from nI_le (b := 256) (by omega) (by decide)), if_neg (fun z => q2 z.2.1)]
      exact a29 rfl
  · rw [if_pos (show (256 : Int32) < nI bef from nI_lt (a := 256) (by omega) (by omega)), if_neg (fun z => q1 z.1)]
    exact a29 rfl
/-- distances: complete, none, or one of a single bit -/
noncomputable def dsB (l : List Nat) : Bool := decide (ful l 15 = 32768) || (decide (off l 16 = 0) || (decide (off l 16 = 1) && decide (mxN l 15 = 1)))
noncomputable def okR (H : Nat) (row : List Nat) : Bool := decide (gt row 256 ≠ 0) && (decide (ful (row.take H) 15 = 32768) && dsB (row.drop H))
noncomputable def dyR (t : List Nat) (e : Nat) (cl : List Nat) (H all f b : Nat) (row : List Nat) : Option (List Nat × Nat) := match rws t e cl all f b row with
  | none => none
  | some q => if okR H q.1 = true then some q else none
theorem f_areLengths {N : Nat} {c : hS} {t cl : List Nat} {b e H K : Nat} (hN : 1000000 ≤ N) (h : unB c t b e) (h13 : c.1 11 13 = nI H) (h14 : c.1 11 14 = nI (H + K)) (hcl : cdC c 28 cl) (hcll : cl.length = 19) (hH1 : 257 ≤ H) (hH : H ≤ 286) (hK1 : 1 ≤ K) (hK : K ≤ 30) : ∃ c', f_X10_areLengths N c = some (bI (dyR t e cl H (H + K) 320 b []).isSome, c') ∧ fr Sun c c' ∧ (∀ row b', dyR t e cl H (H + K) 320 b [] = some (row, b') → cdC c' 20 (row.take H) ∧ cdC c' 24 (row.drop H) ∧ unB c' t b' e ∧ row.length = H + K ∧ (∀ k, k ≠ 9 → k ≠ 15 → c'.1 11 k = c.1 11 k)) := by
  have key : ∀ f n v b c row, H + K < row.length + f → f < n → v ≤ row.length → row.length ≤ H + K → unB c t b e → arR c row → c.1 11 13 = nI H → c.1 11 14 = nI (H + K) → cdC c 28 cl → (256 < row.length → gt row 256 ≠ 0) → (H ≤ row.length → cdC c 20 (row.take H) ∧ ful (row.take H) 15 = 32768) → ∃ c', f_X10_areLengths_7 N n c (nI v) = some (bI (dyR t e cl H (H + K) f b row).isSome, c') ∧ fr Sun c c' ∧ (∀ row' b', dyR t e cl H (H + K) f b row = some (row', b') → cdC c' 20 (row'.take H) ∧ cdC c' 24 (row'.drop H) ∧ unB c' t b' e ∧ row'.length = H + K ∧ (∀ k, k ≠ 9 → k ≠ 15 → c'.1 11 k = c.1 11 k)) := by
    intro f
    induction f with
    | zero => intro n v b c row h1 _ _ h2; omega
    | succ f ih =>
      intro n v b c row hf hn hv hrl h ha h13 h14 hcl h256 hsy
      obtain ⟨n, rfl⟩ : ∃ m, n = m + 1 := ⟨n - 1, by omega⟩
      rw [f_X10_areLengths_7, show Int32.ofNat (ln 32) = nI 320 from rfl, if_neg (nI_ge (by omega) (by decide)), h14, ha.2.1]
      unfold dyR rws
      by_cases q1 : H + K ≤ row.length
      · rw [if_pos (nI_le q1 (by omega)), if_pos q1]
        dsimp only
        obtain ⟨hs20, hful⟩ := hsy (by omega)
        have dl : (row.drop H).length = K := by rw [List.length_drop]; omega
        unfold f_X10_areLengths_88
        rw [h13, h14, subI (by omega), show H + K - H = K by omega]
        obtain ⟨c1, e1, d1, f1⟩ := f_order (c := c) (d := 24) (a := H) (lens := row.drop H) hN (Or.inr (Or.inr (Or.inr (Or.inl rfl)))) ⟨by omega, fun i hi => by rw [dl] at hi; rw [gt_drop]; exact ha.1 (H + i) (by omega)⟩ (by rw [dl]; show K ≤ 32; omega)
        rw [dl] at e1
        have f1' : fr Sun c c1 := Sun_of f1 (by decide)
        have s20 := hs20.fr f1 (by decide) (by decide) (by decide)
        have u1 := h.fr f1 (by decide) (by decide) (by decide)
        have sl : ∀ k, k ≠ 9 → k ≠ 15 → c1.1 11 k = c.1 11 k := fun k _ _ => f1.i (by decide) k
        have okq : okR H row = dsB (row.drop H) := by
          unfold okR
          rw [decide_eq_true (h256 (by omega)), decide_eq_true hful, Bool.true_and, Bool.true_and]
        rw [e1, bnd_some, f_areComplete hN (Or.inr (Or.inr (Or.inr (Or.inl rfl)))) d1 (by omega), bnd_some, okq]
        have good : dsB (row.drop H) = true → ∃ c', some ((1 : Int32), c1) = some (bI (if dsB (row.drop H) = true then some (row, b) else none).isSome, c') ∧ fr Sun c c' ∧ (∀ row' b', (if dsB (row.drop H) = true then some (row, b) else none) = some (row', b') → cdC c' 20 (row'.take H) ∧ cdC c' 24 (row'.drop H) ∧ unB c' t b' e ∧ row'.length = H + K ∧ (∀ k, k ≠ 9 → k ≠ 15 → c'.1 11 k = c.1 11 k)) := by
          intro hg
          rw [if_pos hg]
          exact ⟨c1, rfl, f1', fun row' b' z => by cases z; exact ⟨s20, d1, u1, by omega, sl⟩⟩
        by_cases q2 : ful (row.drop H) 15 = 32768
        · rw [decide_eq_true q2, if_neg (by decide)]
          exact good (by unfold dsB; rw [decide_eq_true q2]; rfl)
        · rw [decide_eq_false q2, if_pos (show bI false = 0 from rfl), f_noneOrOne d1 (by omega), bnd_some]
          cases q3 : (decide (off (row.drop H) 16 = 0) || (decide (off (row.drop H) 16 = 1) && decide (mxN (row.drop H) 15 = 1))) with
          | true =>
            rw [if_neg (by decide)]
            exact good (by unfold dsB; rw [q3, Bool.or_true])
          | false =>
            rw [if_pos (show bI false = 0 from rfl)]
            have hb : dsB (row.drop H) = false := by unfold dsB; rw [decide_eq_false q2, q3]; rfl
            obtain ⟨c', a1, a2, _⟩ := RB.last_ (RB.tell (c := c1) (a := 24) (p := c1.1 11 12))
            rw [hb, if_neg (by decide)]
            exact ⟨c', a1, f1'.tr (Sun_of a2 (by decide)), fun _ _ z => by cases z⟩
      · rw [if_neg (nI_ge (by omega) (by omega)), if_neg q1]
        obtain ⟨c2, e2, f2, g2⟩ := f_takeSymbol (p := c.1 11 12) hN h (Or.inr (Or.inr (Or.inr (Or.inr rfl)))) hcl (by omega)
        have f2' : fr Sun c c2 := Sun_of f2 (by decide)
        rw [e2, bnd_some]
        cases hd : dec t e cl b with
        | none =>
          rw [show sym1 none = -1 from rfl, if_pos rfl]
          exact ⟨c2, rfl, f2', fun _ _ z => by cases z⟩
        | some p =>
          obtain ⟨p1, p2⟩ := p
          have dl := dec_lt hd
          have ec2 := g2 p1 p2 hd
          subst ec2
          have u2 := h.mv (b' := p2) dl.2.2
          have ha2 : arR (sI c 11 9 (nI p2)) row := ⟨fun i hi => by rw [sI_o (by decide)]; exact ha.1 i hi, by rw [sI_j (by decide)]; exact ha.2.1, ha.2.2⟩
          have hcl2 := hcl.fr (S := [11]) (c1 := sI c 11 9 (nI p2)) (fr.sI (by simp)) (by decide) (by decide) (by decide)
          have hs20' : H ≤ row.length → cdC (sI c 11 9 (nI p2)) 20 (row.take H) := fun z => (hsy z).1.fr (S := [11]) (fr.sI (by simp)) (by decide) (by decide) (by decide)
          obtain ⟨c4, e4, f4, s4, g4⟩ := f_isRepeated (s := p1) (all := H + K) hN u2 ha2 (by rw [sI_j (by decide)]; exact h14) (by omega) (by omega)
          have f4' : fr Sun c c4 := f2'.tr (Sun_of f4 (by decide))
          rw [show sym1 (some (p1, p2)) = nI p1 from rfl, if_neg (show ¬ nI p1 = -1 from fun z => by have := nI_pos (n := p1) (by omega); rw [z] at this; exact this (by decide)), e4, bnd_some]
          dsimp only
          cases hr : rep t e (H + K) row p1 p2 with
          | none =>
            rw [if_pos (show bI (none : Option (List Nat × Nat)).isSome = 0 from rfl)]
            exact ⟨c4, rfl, f4', fun _ _ z => by cases z⟩
          | some q =>
            obtain ⟨row', b'⟩ := q
            obtain ⟨ha4, u4⟩ := g4 row' b' hr
            obtain ⟨r, x1, x2, x3, x4, x5⟩ := rep_ext hr
            have h134 : c4.1 11 13 = nI H := by rw [s4 13 (by decide) (by decide), sI_j (by decide)]; exact h13
            have h144 : c4.1 11 14 = nI (H + K) := by rw [s4 14 (by decide) (by decide), sI_j (by decide)]; exact h14
            have hcl4 := hcl2.fr f4 (by decide) (by decide) (by decide)
            have rl' : row'.length = row.length + r.length := by rw [x1, List.length_append]
            rw [if_neg (show ¬ bI (some (row', b')).isSome = 0 from (by decide : ¬ bI true = 0))]
            obtain ⟨c6, e6, f6, g6, k6⟩ := f_areSymbolLengths (bef := row.length) (H := H) hN ha4 h134 hH (by omega)
            have f6' : fr Sun c c6 := f4'.tr (Sun_of f6 (by decide))
            rw [e6, bnd_some]
            cases hsl : slB row' row.length H with
            | false =>
              rw [if_pos (show bI false = 0 from rfl)]
              obtain ⟨c8, a1, a2, _⟩ := RB.tellb (c := c6) (a := 24) (p := c6.1 11 12)
              -- what is told then has the same lengths
              have non : dyR t e cl H (H + K) f b' row' = none := by
                unfold dyR
                cases hw : rws t e cl (H + K) f b' row' with
                | none => rfl
                | some q =>
                  obtain ⟨row'', b''⟩ := q
                  obtain ⟨r', y1, y2⟩ := rws_ext x3 hw
                  dsimp only
                  rw [if_neg]
                  intro hok
                  unfold okR at hok
                  simp only [Bool.and_eq_true, decide_eq_true_eq] at hok
                  obtain ⟨o1, o2, o3⟩ := hok
                  unfold slB at hsl
                  split at hsl
                  · rename_i z
                    rw [y1, gt_app_l z.2.1] at o1
                    exact o1 z.2.2
                  · split at hsl
                    · rename_i z
                      rw [y1, List.take_append_of_le_length z.2] at o2
                      exact (of_decide_eq_false hsl) o2
                    · cases hsl
              have non2 : (match rws t e cl (H + K) f b' row' with | none => none | some q => if okR H q.1 = true then some q else none) = none := non
              rw [non2]
              exact ⟨c8, a1, f6'.tr (Sun_of a2 (by decide)), fun _ _ z => by cases z⟩
            | true =>
              rw [if_neg (by decide), nI_1]
              have sl6 : ∀ k, c6.1 11 k = c4.1 11 k := fun k => f6.i (by decide) k
              have ha6 : arR c6 row' := ⟨fun i hi => by rw [f6.i (by decide)]; exact ha4.1 i hi, (sl6 15).trans ha4.2.1, ha4.2.2⟩
              have hA : 256 < row'.length → gt row' 256 ≠ 0 := by
                intro w
                by_cases w0 : 256 < row.length
                · rw [x1, gt_app_l w0]; exact h256 w0
                · intro w1
                  unfold slB at hsl
                  rw [if_pos ⟨by omega, w, w1⟩] at hsl
                  cases hsl
              have hB : H ≤ row'.length → cdC c6 20 (row'.take H) ∧ ful (row'.take H) 15 = 32768 := by
                intro w
                by_cases w0 : H ≤ row.length
                · have e20 : row'.take H = row.take H := by rw [x1, List.take_append_of_le_length w0]
                  rw [e20, k6 w0]
                  exact ⟨(hs20' w0).fr f4 (by decide) (by decide) (by decide), (hsy w0).2⟩
                · refine ⟨g6 ⟨by omega, w⟩ hsl, ?_⟩
                  unfold slB at hsl
                  split at hsl
                  · cases hsl
                  · rw [if_pos ⟨by omega, w⟩] at hsl
                    exact of_decide_eq_true hsl
              obtain ⟨c9, z1, z2, z3⟩ := ih n (v + 1) b' c6 row' (by omega) (by omega) (by omega) x3 (u4.fr f6 (by decide) (by decide) (by decide)) ha6 ((sl6 13).trans h134) ((sl6 14).trans h144) (hcl4.fr f6 (by decide) (by decide) (by decide)) hA hB
              refine ⟨c9, z1, f6'.tr z2, fun row'' b'' w => ?_⟩
              obtain ⟨w1, w2, w3, w4, w5⟩ := z3 row'' b'' w
              refine ⟨w1, w2, w3, w4, fun k k1 k2 => ?_⟩
              rw [w5 k k1 k2, sl6 k, s4 k k1 k2, sI_j k1]
  unfold f_X10_areLengths
  dsimp only [st1]
  have u1 : unB (sI c 11 15 0) t b e := ⟨h.1.fr (S := [11]) (fr.sI (by simp)) (by decide) (by decide), by rw [sI_j (by decide)]; exact h.2.1, by rw [sI_j (by decide)]; exact h.2.2.1, h.2.2.2.1, h.2.2.2.2⟩
  obtain ⟨c', e1, f1, g1⟩ := key 320 N 0 b (sI c 11 15 0) [] (by simp; omega) (by omega) (by simp) (by simp) u1 ⟨fun i hi => by simp at hi, sI_s _ _ _ _, by simp⟩ (by rw [sI_j (by decide)]; exact h13) (by rw [sI_j (by decide)]; exact h14) (hcl.fr (S := [11]) (fr.sI (by simp)) (by decide) (by decide) (by decide)) (fun w => by simp at w) (fun w => by simp at w; omega)
  refine ⟨c', e1, fr11.tr f1, fun row b' w => ?_⟩
  obtain ⟨w1, w2, w3, w4, w5⟩ := g1 row b' w
  exact ⟨w1, w2, w3, w4, fun k k1 k2 => by rw [w5 k k1 k2, sI_j k2]⟩
end
section
/-! PURE: packed bytes are opened -/
theorem nm1' {n : Nat} (h : n < 2 ^ 31) : ¬ nI n = -1 := fun z => by
  have := nI_pos h
  rw [z] at this
  exact this (by decide)
/-- the class's unpacker at bit b of e, with these bytes of so many at most -/
noncomputable def UO (c : hS) (t : List Nat) (b e most : Nat) (out : List Nat) : Prop := unB c t b e ∧ row c 7 out ∧ c.1 11 11 = nI most ∧ most ≤ 512 ∧ out.length ≤ most
theorem UO.mv {c : hS} {t : List Nat} {b e most b' : Nat} {out : List Nat} (h : UO c t b e most out) (hb : b' ≤ e) : UO (sI c 11 9 (nI b')) t b' e most out := ⟨h.1.mv hb, h.2.1.fr (S := [11]) (fr.sI (by simp)) (by decide) (by decide), by rw [sI_j (by decide)]; exact h.2.2.1, h.2.2.2⟩
theorem UO.add {c : hS} {t : List Nat} {b e most x : Nat} {out : List Nat} (h : UO c t b e most out) (hl : out.length < most) (hx : x < 256) : ∃ c', f_X2_add c 7 (nI x) = some ((), c') ∧ UO c' t b e most (out ++ [x]) ∧ fr [7, 8] c c' := by
  obtain ⟨c', e1, r1, f1⟩ := f_add (nI x) h.2.1 (show out.length < 512 by have := h.2.2.2.1; omega)
  rw [b8_nI' hx] at r1
  exact ⟨c', e1, ⟨h.1.fr f1 (by decide) (by decide) (by decide), r1, (f1.i (by decide) 11).trans h.2.2.1, h.2.2.2.1, by simp; omega⟩, f1⟩
noncomputable abbrev So4 : List Nat := [7, 8, 9, 11]
theorem So9 {c c' : hS} (h : fr [9] c c') : fr So4 c c' := h.mono (fun o ho => by simp at ho ⊢; omega)
theorem So78 {c c' : hS} (h : fr [7, 8] c c') : fr So4 c c' := h.mono (fun o ho => by simp at ho ⊢; omega)
theorem So11 {c : hS} {j : Nat} {x : Int32} : fr So4 c (sI c 11 j x) := fr.sI (by simp)
/-- what a run of the unpacker says -/
noncomputable def UR (X : Option (Int32 × hS)) (c : hS) (S : List Nat) (t : List Nat) (e most : Nat) (r : Option (List Nat × Nat)) : Prop := ∃ c', X = some (bI r.isSome, c') ∧ fr S c c' ∧ ∀ out b, r = some (out, b) → UO c' t b e most out
theorem UR.no {X : Option (Int32 × hS)} {c c1 : hS} {S t : List Nat} {e most : Nat} {r : Option (List Nat × Nat)} (hr : r = none) (hX : ∃ c', X = some (0, c') ∧ fr S c1 c') (hf : fr S c c1) : UR X c S t e most r := by
  obtain ⟨c', e1, f1⟩ := hX
  subst hr
  exact ⟨c', e1, hf.tr f1, fun _ _ z => by cases z⟩
theorem UR.yes {c c1 : hS} {S t : List Nat} {e most b : Nat} {out : List Nat} (h : UO c1 t b e most out) (hf : fr S c c1) : UR (some (1, c1)) c S t e most (some (out, b)) := ⟨c1, rfl, hf, fun _ _ z => by cases z; exact h⟩
theorem tellX (c1 : hS) (a p : Int32) : ∃ c', (bnd (f_X6_tell c1 a p) fun x c2 => bif j_b x then some (x, c2) else none) = some (0, c') ∧ fr So4 c1 c' := by
  obtain ⟨c', a1, a2, _⟩ := RB.tellb (c := c1) (a := a) (p := p)
  exact ⟨c', a1, So9 a2⟩
/-! sort 0 -/
noncomputable def stoB (t : List Nat) (b n : Nat) : List Nat := (List.range n).map fun i => bv t (b + 8 * i) 8
noncomputable def stoF (t : List Nat) (e most b : Nat) (out : List Nat) : Option (List Nat × Nat) := if (b + 7) / 8 * 8 + 32 ≤ e then (if bv t ((b + 7) / 8 * 8 + 16) 16 = 65535 - bv t ((b + 7) / 8 * 8) 16 then (if (b + 7) / 8 * 8 + 32 + 8 * bv t ((b + 7) / 8 * 8) 16 ≤ e ∧ out.length + bv t ((b + 7) / 8 * 8) 16 ≤ most then some (out ++ stoB t ((b + 7) / 8 * 8 + 32) (bv t ((b + 7) / 8 * 8) 16), (b + 7) / 8 * 8 + 32 + 8 * bv t ((b + 7) / 8 * 8) 16) else none) else none) else none
theorem andm8 (a : Nat) (ha : a < 2 ^ 31) : nI a &&& (-8) = nI (a / 8 * 8) := by
  have h1 := Nat.div_add_mod a 8
  have e : nI a = nI (a / 8 * 8) + nI (a % 8) := by rw [nI_add]; congr 1; omega
  apply b_ext
  intro i hi
  rw [b_and]
  have m8 : ∀ i, i < 32 → bt (-8) i = decide (3 ≤ i) := by decide +kernel
  rw [m8 i hi]
  have g1 : bt (nI a) i = a.testBit i := by
    show (BitVec.ofNat 32 a).getLsbD i = _
    rw [BitVec.getLsbD_ofNat, decide_eq_true hi, Bool.true_and]
  have g2 : bt (nI (a / 8 * 8)) i = (a / 8 * 8).testBit i := by
    show (BitVec.ofNat 32 (a / 8 * 8)).getLsbD i = _
    rw [BitVec.getLsbD_ofNat, decide_eq_true hi, Bool.true_and]
  rw [g1, g2, show a / 8 * 8 = (a >>> 3) <<< 3 by rw [Nat.shiftRight_eq_div_pow, Nat.shiftLeft_eq], Nat.testBit_shiftLeft, Nat.testBit_shiftRight]
  by_cases q : 3 ≤ i
  · rw [decide_eq_true q, Bool.and_true, Bool.true_and, show 3 + (i - 3) = i by omega]
  · rw [decide_eq_false q, Bool.and_false, Bool.false_and]
theorem f_isStored {N : Nat} {c : hS} {t out : List Nat} {b e most : Nat} (hN : 1000000 ≤ N) (h : UO c t b e most out) (he8 : e % 8 = 0) : UR (f_X10_isStored N c) c So4 t e most (stoF t e most b out) := by
  have he := h.1.e
  have hbe := h.1.2.2.2.1
  have h512 := h.2.2.2.1
  unfold f_X10_isStored stoF
  rw [h.1.2.1, show nI b + 7 = nI (b + 7) from nI_add b 7, andm8 _ (by omega)]
  dsimp only [st1]
  generalize hb0 : (b + 7) / 8 * 8 = b0
  have hb0e : b0 ≤ e := by omega
  have h0 := h.mv (b' := b0) hb0e
  have f0 : fr So4 c (sI c 11 9 (nI b0)) := So11
  revert h0 f0
  generalize sI c 11 9 (nI b0) = c1
  intro h0 f0
  by_cases q1 : b0 + 32 ≤ e
  · have v1 := bv_lt t b0 16
    have v2 := bv_lt t (b0 + 16) 16
    rw [show (16 : Int32) = nI 16 from rfl, f_takeBits hN h0.1 (show b0 + 16 ≤ e by omega) (by decide), bnd_some, f_takeBits hN (h0.mv (b' := b0 + 16) (by omega)).1 (show b0 + 16 + 16 ≤ e by omega) (by decide), bnd_some, sI_sI, if_neg (nm1' (by omega)), if_neg (nm1' (by omega)), if_pos q1, show (65535 : Int32) = nI 65535 from rfl, subI (by omega)]
    have h2 := h0.mv (b' := b0 + 16 + 16) (by omega)
    have f2 : fr So4 c (sI c1 11 9 (nI (b0 + 16 + 16))) := f0.tr So11
    rw [show b0 + 16 + 16 = b0 + 32 by omega] at h2 f2 ⊢
    revert h2 f2
    generalize sI c1 11 9 (nI (b0 + 32)) = c2
    intro h2 f2
    by_cases q2 : bv t (b0 + 16) 16 = 65535 - bv t b0 16
    · rw [if_pos (by rw [q2]), if_pos q2]
      generalize hnn : bv t b0 16 = nn
      rw [hnn] at v1
      have key : ∀ d n i c u, i + d = nn → d < n → UO c t (b0 + 32 + 8 * i) e most u → UR (f_X10_isStored_64 N n c (nI nn) (nI i)) c So4 t e most (if b0 + 32 + 8 * nn ≤ e ∧ u.length + d ≤ most then some (u ++ (List.range' i d).map (fun i => bv t (b0 + 32 + 8 * i) 8), b0 + 32 + 8 * nn) else none) := by
        intro d
        induction d with
        | zero =>
          intro n i c u hi hn hu
          obtain ⟨n, rfl⟩ : ∃ m, n = m + 1 := ⟨n - 1, by omega⟩
          have : i = nn := by omega
          subst this
          rw [f_X10_isStored_64, if_pos (nI_le (Nat.le_refl _) (by omega))]
          by_cases q : b0 + 32 + 8 * i ≤ e ∧ u.length + 0 ≤ most
          · rw [if_pos q]
            have := UR.yes (S := So4) hu (fr.rf (c := c))
            simpa using this
          · exfalso
            apply q
            have e1 := hu.1.2.2.2.1
            exact ⟨e1, hu.2.2.2.2⟩
        | succ d ih =>
          intro n i c u hi hn hu
          obtain ⟨n, rfl⟩ : ∃ m, n = m + 1 := ⟨n - 1, by omega⟩
          rw [f_X10_isStored_64, if_neg (nI_ge (by omega) (by omega))]
          by_cases q4 : b0 + 32 + 8 * i + 8 ≤ e
          · have v8 := bv_lt t (b0 + 32 + 8 * i) 8
            have h3 := hu.mv (b' := b0 + 32 + 8 * i + 8) q4
            rw [show (8 : Int32) = nI 8 from rfl, f_takeBits hN hu.1 q4 (by decide), bnd_some, if_neg (nm1' (by omega)), f_size h3.2.1, bnd_some, h3.2.2.1]
            have ml := h3.2.2.2
            by_cases q5 : u.length < most
            · rw [if_pos (nI_lt q5 (by omega))]
              obtain ⟨c5, e5, h5, f5⟩ := h3.add q5 v8
              rw [e5, bnd_some, nI_1]
              rw [show b0 + 32 + 8 * i + 8 = b0 + 32 + 8 * (i + 1) by omega] at h5
              obtain ⟨c6, w1, w2, w3⟩ := ih n (i + 1) c5 _ (by omega) (by omega) h5
              refine ⟨c6, ?_, (So11.tr (So78 f5)).tr w2, ?_⟩
              · rw [w1]
                congr 3
                rw [List.length_append, List.length_singleton, show u.length + 1 + d = u.length + (d + 1) by omega, List.range'_succ, List.map_cons, List.append_assoc]
                rfl
              · intro out' b' z
                apply w3
                rw [← z, List.length_append, List.length_singleton, show u.length + 1 + d = u.length + (d + 1) by omega, List.range'_succ, List.map_cons, List.append_assoc]
                rfl
            · rw [if_neg (nI_nlt (by omega) (by omega)), if_neg (by omega)]
              exact UR.no rfl (tellX _ _ _) So11
          · obtain ⟨c', a1, a2⟩ := f_takeBits_no (N := N) (n := 8) hu.1 (by omega) (by decide)
            rw [show (8 : Int32) = nI 8 from rfl, a1, bnd_some, if_pos rfl, if_neg (by omega)]
            exact UR.no rfl ⟨c', rfl, So9 a2⟩ fr.rf
      obtain ⟨c9, w1, w2, w3⟩ := key nn N 0 c2 out (by omega) (by omega) (by simpa using h2)
      have er : (List.range' 0 nn).map (fun i => bv t (b0 + 32 + 8 * i) 8) = stoB t (b0 + 32) nn := by unfold stoB; rw [List.range_eq_range']
      rw [er] at w1 w3
      exact ⟨c9, w1, f2.tr w2, w3⟩
    · rw [if_neg (fun z => q2 ((nI_eq (by omega) (by omega)).mp z)), if_neg q2]
      exact UR.no rfl (tellX _ _ _) f2
  · rw [if_neg q1]
    -- one of the two numbers lacks
    by_cases q3 : b0 + 16 ≤ e
    · have v1 := bv_lt t b0 16
      obtain ⟨c5, a1, a2⟩ := f_takeBits_no (N := N) (n := 16) (h0.mv (b' := b0 + 16) q3).1 (by omega) (by decide)
      rw [show (16 : Int32) = nI 16 from rfl, f_takeBits hN h0.1 q3 (by decide), bnd_some, a1, bnd_some, if_neg (nm1' (by omega)), if_pos rfl]
      exact UR.no rfl ⟨c5, rfl, So9 a2⟩ (f0.tr So11)
    · obtain ⟨c3, a1, a2⟩ := f_takeBits_no (N := N) (n := 16) h0.1 (by omega) (by decide)
      obtain ⟨c5, a3, a4⟩ := f_takeBits_no (N := N) (n := 16) (h0.1.fr a2 (by decide) (by decide) (by decide)) (by omega) (by decide)
      rw [show (16 : Int32) = nI 16 from rfl, a1, bnd_some, a3, bnd_some, if_pos rfl]
      exact UR.no rfl ⟨c5, rfl, So9 a4⟩ (f0.tr (So9 a2))
/-! a length and its distance -/
noncomputable def cpy (d : Nat) : Nat → List Nat → List Nat
  | 0, out => out
  | n + 1, out => cpy d n (out ++ [gt out (out.length - d)])
theorem cpy_len (d : Nat) : ∀ n out, (cpy d n out).length = out.length + n
  | 0, out => rfl
  | n + 1, out => by unfold cpy; rw [cpy_len]; simp; omega
noncomputable def copF (t : List Nat) (e : Nat) (lD : List Nat) (most : Nat) (out : List Nat) (s b : Nat) : Option (List Nat × Nat) := if b + lbits s ≤ e then (match dec t e lD (b + lbits s) with
    | none => none
    | some p => if p.1 ≤ 29 then (if p.2 + dbits p.1 ≤ e then (if dbase p.1 + bv t p.2 (dbits p.1) ≤ out.length ∧ out.length + (lbase s + bv t b (lbits s)) ≤ most then some (cpy (dbase p.1 + bv t p.2 (dbits p.1)) (lbase s + bv t b (lbits s)) out, p.2 + dbits p.1) else none) else none) else none) else none
theorem f_isCopied {N : Nat} {c : hS} {t out lD : List Nat} {b e most s d : Nat} {p : Int32} (hN : 1000000 ≤ N) (h : UO c t b e most out) (hs : s < 29) (hd : isCd d) (hc : cdC c d lD) (hl : lD.length ≤ 320) : UR (f_X10_isCopied N c (nI s) d p) c So4 t e most (copF t e lD most out s b) := by
  have he := h.1.e
  have hd11 : 11 < d := by rcases hd with rfl | rfl | rfl | rfl | rfl <;> decide
  have lb := lbits_lt s hs
  have lba := lbase_lt s hs
  have v1 := bv_lt t b (lbits s)
  have v1' : 2 ^ lbits s ≤ 2 ^ 5 := Nat.pow_le_pow_right (by decide) lb
  unfold f_X10_isCopied copF
  rw [f_lengthBits hs, bnd_some]
  by_cases q1 : b + lbits s ≤ e
  · rw [f_takeBits hN h.1 q1 (by omega), bnd_some, if_neg (nm1' (by omega)), if_pos q1]
    have h1 := h.mv (b' := b + lbits s) q1
    have f1 : fr So4 c (sI c 11 9 (nI (b + lbits s))) := So11
    have hc1 := hc.fr f1 (by simp only [List.mem_cons, List.not_mem_nil, or_false]; omega) (by simp only [List.mem_cons, List.not_mem_nil, or_false]; omega) (by simp only [List.mem_cons, List.not_mem_nil, or_false]; omega)
    obtain ⟨c6, e6, f6, g6⟩ := f_takeSymbol (p := p) hN h1.1 hd hc1 hl
    have f6' : fr So4 c c6 := f1.tr (f6.mono (fun o ho => by simp at ho ⊢; omega))
    rw [e6, bnd_some]
    cases hdc : dec t e lD (b + lbits s) with
    | none =>
      rw [show sym1 none = -1 from rfl, if_pos rfl]
      exact UR.no rfl ⟨c6, rfl, fr.rf⟩ f6'
    | some q =>
      obtain ⟨s2, b1⟩ := q
      have dl := dec_lt hdc
      have ec := g6 s2 b1 hdc
      subst ec
      rw [show sym1 (some (s2, b1)) = nI s2 from rfl, if_neg (nm1' (by omega))]
      have h2 := h1.mv (b' := b1) dl.2.2
      dsimp only
      by_cases q2 : s2 ≤ 29
      · have db := dbits_lt s2 (by omega)
        have dba := dbase_lt s2 (by omega)
        have v2 := bv_lt t b1 (dbits s2)
        have v2' : 2 ^ dbits s2 ≤ 2 ^ 13 := Nat.pow_le_pow_right (by decide) db
        rw [if_pos (show nI s2 ≤ 29 from nI_le (b := 29) q2 (by decide)), if_pos q2, f_distanceBits (by omega), bnd_some]
        by_cases q3 : b1 + dbits s2 ≤ e
        · rw [f_takeBits hN h2.1 q3 (by omega), bnd_some, if_neg (nm1' (by omega)), if_pos q3, f_lengthBase hs, bnd_some, f_distanceBase (by omega), bnd_some]
          have h3 := h2.mv (b' := b1 + dbits s2) q3
          rw [sI_sI, sI_sI] at h3 ⊢
          have f3 : fr So4 c (sI c 11 9 (nI (b1 + dbits s2))) := So11
          revert h3 f3
          generalize sI c 11 9 (nI (b1 + dbits s2)) = c3
          intro h3 f3
          generalize hdist : dbase s2 + bv t b1 (dbits s2) = dist
          generalize hlen : lbase s + bv t b (lbits s) = len
          rw [f_size h3.2.1, bnd_some, nI_add, nI_add, hdist, hlen]
          have ml := h3.2.2.2
          by_cases q4 : dist ≤ out.length
          · rw [if_pos (nI_le q4 (by omega)), f_size h3.2.1, bnd_some, nI_add, h3.2.2.1]
            by_cases q5 : out.length + len ≤ most
            · rw [if_pos (nI_le q5 (by omega)), if_pos ⟨q4, q5⟩]
              have dpos : 1 ≤ dist := by
                have := (by decide +kernel : ∀ s, s < 30 → 1 ≤ dbase s) s2 (by omega)
                omega
              have key : ∀ r n i c u, i + r = len → r < n → UO c t (b1 + dbits s2) e most u → dist ≤ u.length → u.length + r ≤ most → UR (f_X10_isCopied_144 N (nI s) d p n c (nI len) (nI dist) (nI i)) c So4 t e most (some (cpy dist r u, b1 + dbits s2)) := by
                intro r
                induction r with
                | zero =>
                  intro n i c u hi hn hu hdu hul
                  obtain ⟨n, rfl⟩ : ∃ m, n = m + 1 := ⟨n - 1, by omega⟩
                  rw [f_X10_isCopied_144, if_pos (nI_le (by omega) (by omega))]
                  exact UR.yes hu fr.rf
                | succ r ih =>
                  intro n i c u hi hn hu hdu hul
                  obtain ⟨n, rfl⟩ : ∃ m, n = m + 1 := ⟨n - 1, by omega⟩
                  have bb := hu.2.1.2.2.2.gt (u.length - dist)
                  rw [f_X10_isCopied_144, if_neg (nI_ge (by omega) (by omega)), f_size hu.2.1, bnd_some, subI hdu, f_get hu.2.1 (by omega), bnd_some]
                  obtain ⟨c5, e5, h5, f5⟩ := hu.add (x := gt u (u.length - dist)) (by omega) bb
                  rw [e5, bnd_some, nI_1]
                  obtain ⟨c6, w1, w2, w3⟩ := ih n (i + 1) c5 _ (by omega) (by omega) h5 (by simp; omega) (by simp; omega)
                  exact ⟨c6, w1, (So78 f5).tr w2, w3⟩
              obtain ⟨c9, w1, w2, w3⟩ := key len N 0 c3 out (by omega) (by omega) h3 q4 q5
              exact ⟨c9, w1, f3.tr w2, w3⟩
            · rw [if_neg (nI_ge (by omega) (by omega)), if_neg (fun z => q5 z.2)]
              exact UR.no rfl (tellX _ _ _) f3
          · rw [if_neg (nI_ge (by omega) (by omega)), if_neg (fun z => q4 z.1)]
            exact UR.no rfl (tellX _ _ _) f3
        · obtain ⟨c', a1, a2⟩ := f_takeBits_no (N := N) (n := dbits s2) h2.1 (by omega) (by omega)
          rw [a1, bnd_some, if_pos rfl, if_neg q3]
          exact UR.no rfl ⟨c', rfl, So9 a2⟩ f6'
      · rw [if_neg (show ¬ nI s2 ≤ 29 from nI_ge (a := 29) (by omega) (by omega)), if_neg q2]
        exact UR.no rfl (tellX _ _ _) f6'
  · obtain ⟨c', a1, a2⟩ := f_takeBits_no (N := N) (n := lbits s) h.1 (by omega) (by omega)
    rw [a1, bnd_some, if_pos rfl, if_neg q1]
    exact UR.no rfl ⟨c', rfl, So9 a2⟩ fr.rf
/-! symbols up to the end of a block -/
noncomputable def stp (s : Nat) : Nat := s - 257
/-- what a symbol is: the end, a byte, a length, none -/
noncomputable def kd (s : Nat) : Nat := if s = 256 then 0 else if s ≤ 285 then (if s ≤ 256 then 1 else 2) else 3
noncomputable def symG (t : List Nat) (e : Nat) (lS : List Nat) (most : Nat) (cop : List Nat → Nat → Nat → Option (List Nat × Nat)) : Nat → Nat → List Nat → Option (List Nat × Nat)
  | 0, _, _ => none
  | f + 1, b, out => match dec t e lS b with
    | none => none
    | some p => if kd p.1 = 0 then some (out, p.2) else if kd p.1 = 1 then (if out.length < most then symG t e lS most cop f p.2 (out ++ [p.1]) else none) else if kd p.1 = 2 then (match cop out (stp p.1) p.2 with
      | none => none
      | some q => symG t e lS most cop f q.2 q.1) else none
noncomputable def symF (t : List Nat) (e : Nat) (lS lD : List Nat) (most f b : Nat) (out : List Nat) : Option (List Nat × Nat) := symG t e lS most (copF t e lD most) f b out
theorem symF_no {t : List Nat} {e : Nat} {lS lD : List Nat} {most f b : Nat} {out : List Nat} (h : dec t e lS b = none) : symF t e lS lD most (f + 1) b out = none := by
  unfold symF
  rw [symG, h]
theorem symF_so {t : List Nat} {e : Nat} {lS lD : List Nat} {most f b s b1 : Nat} {out : List Nat} (h : dec t e lS b = some (s, b1)) : symF t e lS lD most (f + 1) b out = if kd s = 0 then some (out, b1) else if kd s = 1 then (if out.length < most then symF t e lS lD most f b1 (out ++ [s]) else none) else if kd s = 2 then (match copF t e lD most out (stp s) b1 with
      | none => none
      | some q => symF t e lS lD most f q.2 q.1) else none := by
  unfold symF
  rw [symG, h]
theorem kd0 {s : Nat} (h : s = 256) : kd s = 0 := by unfold kd; rw [if_pos h]
theorem kd1 {s : Nat} (h1 : ¬ s = 256) (h2 : s ≤ 285) (h3 : s ≤ 256) : kd s = 1 := by unfold kd; rw [if_neg h1, if_pos h2, if_pos h3]
theorem kd2 {s : Nat} (h1 : ¬ s = 256) (h2 : s ≤ 285) (h3 : ¬ s ≤ 256) : kd s = 2 := by unfold kd; rw [if_neg h1, if_pos h2, if_neg h3]
theorem kd3 {s : Nat} (h1 : ¬ s = 256) (h2 : ¬ s ≤ 285) : kd s = 3 := by unfold kd; rw [if_neg h1, if_neg h2]
theorem copF_lt {t : List Nat} {e : Nat} {lD : List Nat} {most : Nat} {out out' : List Nat} {s b b' : Nat} (h : copF t e lD most out s b = some (out', b')) : b < b' ∧ b' ≤ e := by
  unfold copF at h
  split at h
  · split at h
    · cases h
    · rename_i p hp
      have := dec_lt (s := p.1) (b' := p.2) hp
      split at h
      · split at h
        · split at h
          · cases h
            omega
          · cases h
        · cases h
      · cases h
  · cases h
theorem n160 : nI 160000 = 160000 := by decide
theorem lt160 {k : Nat} (hk : k ≤ 160000) : ¬ (160000 : Int32) < nI k := by
  rw [← n160]
  exact nI_nlt hk (by omega)
theorem f_areSymbols {N : Nat} {c : hS} {t out lS lD : List Nat} {b e most d1 d2 : Nat} (hN : 1000000 ≤ N) (h : UO c t b e most out) (hd1 : isCd d1) (hd2 : isCd d2) (h1 : cdC c d1 lS) (h2 : cdC c d2 lD) (l1 : lS.length ≤ 320) (l2 : lD.length ≤ 320) : UR (f_X10_areSymbols N c d1 d2) c So4 t e most (symF t e lS lD most (e - b + 1) b out) := by
  have he := h.1.e
  have n1 : 11 < d1 := by rcases hd1 with rfl | rfl | rfl | rfl | rfl <;> decide
  have n2 : 11 < d2 := by rcases hd2 with rfl | rfl | rfl | rfl | rfl <;> decide
  have cf : ∀ {a b : hS} {d : Nat} {l : List Nat}, 11 < d → cdC a d l → fr So4 a b → cdC b d l := fun hd hc hf => hc.fr hf (by simp only [List.mem_cons, List.not_mem_nil, or_false]; omega) (by simp only [List.mem_cons, List.not_mem_nil, or_false]; omega) (by simp only [List.mem_cons, List.not_mem_nil, or_false]; omega)
  have key : ∀ f n k b c out, e < b + f → f < n → k ≤ b → UO c t b e most out → cdC c d1 lS → cdC c d2 lD → UR (f_X10_areSymbols_2 N d1 d2 n c (nI k)) c So4 t e most (symF t e lS lD most f b out) := by
    intro f
    induction f with
    | zero => intro n k b c out h1 _ _ h2; have := h2.1.2.2.2.1; omega
    | succ f ih =>
      intro n k b c out hf hn hk h h1 h2
      have hbe := h.1.2.2.2.1
      obtain ⟨n, rfl⟩ : ∃ m, n = m + 1 := ⟨n - 1, by omega⟩
      rw [f_X10_areSymbols_2, if_neg (lt160 (by omega))]
      obtain ⟨c2, e2, f2, g2⟩ := f_takeSymbol (p := j_shr (c.1 11 9) 3) hN h.1 hd1 h1 l1
      have f2' : fr So4 c c2 := f2.mono (fun o ho => by simp at ho ⊢; omega)
      rw [e2, bnd_some]
      cases hdc : dec t e lS b with
      | none =>
        rw [symF_no hdc, show sym1 none = -1 from rfl, if_pos rfl]
        exact UR.no rfl ⟨c2, rfl, fr.rf⟩ f2'
      | some q =>
        obtain ⟨s, b1⟩ := q
        have dl := dec_lt hdc
        have ec := g2 s b1 hdc
        subst ec
        have h3 := h.mv (b' := b1) dl.2.2
        have ml := h3.2.2.2
        rw [symF_so hdc, show sym1 (some (s, b1)) = nI s from rfl, if_neg (nm1' (by omega))]
        by_cases q1 : s = 256
        · rw [if_pos (show nI s = 256 by rw [q1]; rfl), if_pos (kd0 q1)]
          exact UR.yes h3 f2'
        · rw [if_neg (show ¬ nI s = 256 from fun z => q1 ((nI_eq (by omega) (show 256 < 2 ^ 31 by decide)).mp z))]
          by_cases q2 : s ≤ 285
          · rw [if_pos (show nI s ≤ 285 from nI_le (b := 285) q2 (by decide))]
            by_cases q3 : s ≤ 256
            · rw [if_pos (show nI s ≤ 256 from nI_le (b := 256) q3 (by decide)), kd1 q1 q2 q3, if_neg (by decide), if_pos rfl, f_size h3.2.1, bnd_some, h3.2.2.1]
              by_cases q4 : out.length < most
              · rw [if_pos (nI_lt q4 (by omega)), if_pos q4]
                obtain ⟨c5, e5, h5, f5⟩ := h3.add (x := s) q4 (by omega)
                rw [e5, bnd_some, nI_1]
                have f5' := f2'.tr (So78 f5)
                obtain ⟨c6, w1, w2, w3⟩ := ih n (k + 1) b1 c5 _ (by omega) (by omega) (by omega) h5 (cf n1 h1 f5') (cf n2 h2 f5')
                exact ⟨c6, w1, f5'.tr w2, w3⟩
              · rw [if_neg (nI_nlt (by omega) (by omega)), if_neg q4]
                exact UR.no rfl (tellX _ _ _) f2'
            · rw [if_neg (show ¬ nI s ≤ 256 from nI_ge (a := 256) (by omega) (by omega)), kd2 q1 q2 q3, if_neg (by decide), if_neg (by decide), if_pos rfl, show nI s - 256 - 1 = nI (stp s) by rw [show (256 : Int32) = nI 256 from rfl, subI (by omega), show nI (s - 256) - 1 = nI (s - 256 - 1) from subI (b := 1) (by omega), show s - 256 - 1 = stp s by unfold stp; omega]]
              obtain ⟨c9, w1, w2, w3⟩ := f_isCopied (s := stp s) (p := j_shr (c.1 11 9) 3) hN h3 (by unfold stp; omega) hd2 (cf n2 h2 f2') l2
              rw [w1, bnd_some]
              cases hcp : copF t e lD most out (stp s) b1 with
              | none =>
                rw [if_pos (show bI (none : Option (List Nat × Nat)).isSome = 0 from rfl)]
                exact UR.no rfl ⟨c9, rfl, fr.rf⟩ (f2'.tr w2)
              | some q =>
                obtain ⟨out', b2⟩ := q
                have cl := copF_lt hcp
                rw [if_neg (show ¬ bI (some (out', b2)).isSome = 0 from (by decide : ¬ bI true = 0)), nI_1]
                have f9 := f2'.tr w2
                obtain ⟨c6, y1, y2, y3⟩ := ih n (k + 1) b2 c9 out' (by omega) (by omega) (by omega) (w3 out' b2 hcp) (cf n1 h1 f9) (cf n2 h2 f9)
                exact ⟨c6, y1, f9.tr y2, y3⟩
          · rw [if_neg (show ¬ nI s ≤ 285 from nI_ge (a := 285) (by omega) (by omega)), kd3 q1 q2, if_neg (by decide), if_neg (by decide), if_neg (by decide)]
            exact UR.no rfl (tellX _ _ _) f2'
  have := key (e - b + 1) N 0 b c out (by omega) (by omega) (by omega) h h1 h2
  exact this
end
section
/-! PURE: blocks -/
noncomputable def fxS : List Nat := (List.range 288).map fxL
noncomputable def fxD : List Nat := List.replicate 32 5
theorem fxS_len : fxS.length = 288 := by unfold fxS; simp
theorem fxD_len : fxD.length = 32 := by unfold fxD; simp
noncomputable def dynB (t : List Nat) (e b : Nat) : Option (List Nat × List Nat × Nat) := if hcB t e b = true then (match dyR t e (clF t (b + 14) (hn t b)) (hH t b) (hH t b + hK t b) 320 (b + 14 + 3 * hn t b) [] with
  | none => none
  | some q => some (q.1.take (hH t b), q.1.drop (hH t b), q.2)) else none
noncomputable def sorF (t : List Nat) (e most k b : Nat) (out : List Nat) : Option (List Nat × Nat) := if k = 0 then stoF t e most b out else if k = 1 then symF t e fxS fxD most (e - b + 1) b out else if k = 2 then (match dynB t e b with
  | none => none
  | some q => symF t e q.1 q.2.1 most (e - q.2.2 + 1) q.2.2 out) else none
noncomputable def opG (lst : Nat → Bool) (blk : Nat → List Nat → Option (List Nat × Nat)) (fin : Nat → Bool) : Nat → Nat → List Nat → Option (List Nat)
  | 0, _, _ => none
  | f + 1, b, out => match blk b out with
    | none => none
    | some q => if lst b = true then (if fin q.2 = true then some q.1 else none) else opG lst blk fin f q.2 q.1
noncomputable def blkF (t : List Nat) (e most b : Nat) (out : List Nat) : Option (List Nat × Nat) := if b + 3 ≤ e then sorF t e most (bv t (b + 1) 2) (b + 3) out else none
noncomputable def opF (t : List Nat) (behind most f b : Nat) (out : List Nat) : Option (List Nat) := opG (fun b => decide (bt8 t b = 1)) (blkF t (8 * behind) most) (fun b => decide ((b + 7) / 8 = behind)) f b out
noncomputable def opn (t : List Nat) (a behind most : Nat) : Option (List Nat) := opF t behind most (8 * behind - 8 * a + 1) (8 * a) []
noncomputable abbrev Sop : List Nat := [7, 8, 9, 11, 20, 21, 22, 23, 24, 25, 26, 27, 28, 29, 30, 31, 32]
theorem Sop4 {c c' : hS} (h : fr So4 c c') : fr Sop c c' := h.mono (by decide)
theorem SopU {c c' : hS} (h : fr Sun c c') : fr Sop c c' := h.mono (by decide)
theorem Sop11 {c : hS} {j : Nat} {x : Int32} : fr Sop c (sI c 11 j x) := fr.sI (by decide)
theorem symG_lt {t : List Nat} {e : Nat} {lS : List Nat} {most : Nat} {cop : List Nat → Nat → Nat → Option (List Nat × Nat)} (hc : ∀ o s b o' b', cop o s b = some (o', b') → b < b' ∧ b' ≤ e) : ∀ {f b : Nat} {out out' : List Nat} {b' : Nat}, symG t e lS most cop f b out = some (out', b') → b < b' ∧ b' ≤ e
  | 0, b, out, out', b', h => by simp [symG] at h
  | f + 1, b, out, out', b', h => by
    unfold symG at h
    split at h
    · cases h
    · rename_i p hp
      have dl := dec_lt (s := p.1) (b' := p.2) hp
      split at h
      · cases h
        exact dl.2
      · split at h
        · split at h
          · have := symG_lt hc h
            omega
          · cases h
        · split at h
          · split at h
            · cases h
            · rename_i q hq
              have a1 := hc _ _ _ q.1 q.2 hq
              have := symG_lt hc h
              omega
          · cases h
theorem symF_lt {t : List Nat} {e : Nat} {lS lD : List Nat} {most f b : Nat} {out out' : List Nat} {b' : Nat} (h : symF t e lS lD most f b out = some (out', b')) : b < b' ∧ b' ≤ e := symG_lt (fun _ _ _ _ _ q => copF_lt q) h
theorem rws_lt {t : List Nat} {e : Nat} {cl : List Nat} {all : Nat} : ∀ {f b : Nat} {row row' : List Nat} {b' : Nat}, b ≤ e → rws t e cl all f b row = some (row', b') → b ≤ b' ∧ b' ≤ e
  | 0, b, row, row', b', _, h => by simp [rws] at h
  | f + 1, b, row, row', b', hb, h => by
    unfold rws at h
    split at h
    · cases h
      exact ⟨Nat.le_refl _, hb⟩
    · split at h
      · cases h
      · rename_i p hp
        have dl := dec_lt (s := p.1) (b' := p.2) hp
        split at h
        · cases h
        · rename_i q hq
          obtain ⟨q1, q2⟩ := q
          obtain ⟨r, r1, r2, r3, r4, r5⟩ := rep_ext hq
          have := rws_lt r5 h
          omega
theorem dynB_lt {t : List Nat} {e b : Nat} {q : List Nat × List Nat × Nat} (h : dynB t e b = some q) : b ≤ q.2.2 ∧ q.2.2 ≤ e ∧ q.1.length ≤ 286 ∧ q.2.1.length ≤ 30 := by
  unfold dynB at h
  split at h
  · rename_i hh
    unfold hcB at hh
    split at hh
    · split at hh
      · split at hh
        · split at hh
          · split at hh
            · split at hh
              · rename_i a1 a2 a3 a4 a5 a6
                split at h
                · cases h
                · rename_i r hr
                  cases h
                  unfold dyR at hr
                  split at hr
                  · cases hr
                  · rename_i z hz
                    obtain ⟨z1, z2⟩ := z
                    split at hr
                    · cases hr
                      have w1 := rws_lt a6 hz
                      obtain ⟨_, _, w2⟩ := rws_ext (by simp) hz
                      refine ⟨by dsimp only; omega, w1.2, ?_, ?_⟩
                      · dsimp only; rw [List.length_take]; omega
                      · dsimp only; rw [List.length_drop]; omega
                    · cases hr
              · cases hh
            · cases hh
          · cases hh
        · cases hh
      · cases hh
    · cases hh
  · cases h
theorem stoF_lt {t : List Nat} {e most b : Nat} {out out' : List Nat} {b' : Nat} (h : stoF t e most b out = some (out', b')) : b ≤ b' ∧ b' ≤ e := by
  unfold stoF at h
  split at h
  · split at h
    · split at h
      · rename_i q1 q2 q3
        cases h
        omega
      · cases h
    · cases h
  · cases h
theorem blkF_lt {t : List Nat} {e most b : Nat} {out out' : List Nat} {b' : Nat} (h : blkF t e most b out = some (out', b')) : b < b' ∧ b' ≤ e := by
  unfold blkF at h
  split at h
  · unfold sorF at h
    split at h
    · have := stoF_lt h; omega
    · split at h
      · have := symF_lt h; omega
      · split at h
        · split at h
          · cases h
          · rename_i q hq
            have a1 := dynB_lt hq
            have a2 := symF_lt h
            omega
        · cases h
  · cases h
/-- codes that stand from the beginning -/
noncomputable def fxd (c : hS) : Prop := cdC c 12 fxS ∧ cdC c 16 fxD
theorem fxd.fr {S : List Nat} {c c1 : hS} (h : fxd c) (hf : fr S c c1) (h0 : ∀ o, o ∈ S → o < 12 ∨ 19 < o) : fxd c1 := by
  have n : ∀ o, 12 ≤ o → o ≤ 19 → o ∉ S := fun o a b q => by have := h0 o q; omega
  exact ⟨h.1.fr hf (n _ (by decide) (by decide)) (n _ (by decide) (by decide)) (n _ (by decide) (by decide)), h.2.fr hf (n _ (by decide) (by decide)) (n _ (by decide) (by decide)) (n _ (by decide) (by decide))⟩
theorem Sop_fx : ∀ o, o ∈ Sop → o < 12 ∨ 19 < o := by decide
theorem f_open {N : Nat} {c : hS} {t : List Nat} {a behind most : Nat} (hN : 1000000 ≤ N) (h : row c 3 t) (hl : 0 ≤ c.1 7 1) (hfx : fxd c) (hab : a ≤ behind) (hbt : behind ≤ t.length) (hm : most ≤ 512) : ∃ c', f_X10_open N c (nI a) (nI behind) (nI most) = some (bI (opn t a behind most).isSome, c') ∧ fr Sop c c' ∧ ∀ out, opn t a behind most = some out → row c' 7 out := by
  have htl : t.length ≤ 20000 := h.1
  -- the end
  have e198 : ∀ c1 b out, UO c1 t b (8 * behind) most out → ∃ c', f_X10_open_198 N (nI a) (nI behind) (nI most) c1 = some (bI (if (b + 7) / 8 = behind then some out else none).isSome, c') ∧ fr Sop c1 c' ∧ ∀ o, (if (b + 7) / 8 = behind then some out else none) = some o → row c' 7 o := by
    intro c1 b out hu
    have hbe := hu.1.2.2.2.1
    unfold f_X10_open_198
    rw [hu.1.2.1, show nI b + 7 = nI (b + 7) from nI_add b 7, sh3 (by omega)]
    by_cases q : (b + 7) / 8 = behind
    · rw [if_pos (by rw [q]), if_pos q]
      exact ⟨c1, rfl, fr.rf, fun o z => by cases z; exact hu.2.1⟩
    · rw [if_neg (fun z => q ((nI_eq (by omega) (by omega)).mp z)), if_neg q]
      obtain ⟨c', a1, a2, _⟩ := RB.last_ (RB.tell (c := c1) (a := 27) (p := nI ((b + 7) / 8)))
      exact ⟨c', a1, Sop4 (So9 a2), fun _ z => by cases z⟩
  -- what is behind a block's sort
  have key : ∀ f n k b c1 out, 8 * behind < b + f → f + 1 < n → k ≤ b → UO c1 t b (8 * behind) most out → fxd c1 → ∃ c', f_X10_open_35 N (nI a) (nI behind) (nI most) n c1 0 (nI k) = some (bI (opF t behind most f b out).isSome, c') ∧ fr Sop c1 c' ∧ ∀ o, opF t behind most f b out = some o → row c' 7 o := by
    intro f
    induction f with
    | zero => intro n k b c1 out h1 _ _ hu; have := hu.1.2.2.2.1; omega
    | succ f ih =>
      intro n k b c1 out hf hnn hk hu hfx
      have hbe := hu.1.2.2.2.1
      obtain ⟨n, rfl⟩ : ∃ m, n = m + 1 := ⟨n - 1, by omega⟩
      -- one more turn, or the end
      have nxt : ∀ c2 out' b', bt8 t b < 2 → b < b' → UO c2 t b' (8 * behind) most out' → fxd c2 → ∃ c', f_X10_open_179 N (nI a) (nI behind) (nI most) (f_X10_open_35 N (nI a) (nI behind) (nI most) n) c2 (nI k) (nI (bt8 t b)) = some (bI (if bt8 t b = 1 then (if (b' + 7) / 8 = behind then some out' else none) else opF t behind most f b' out').isSome, c') ∧ fr Sop c2 c' ∧ ∀ o, (if bt8 t b = 1 then (if (b' + 7) / 8 = behind then some out' else none) else opF t behind most f b' out') = some o → row c' 7 o := by
        intro c2 out' b' hb2 hbb hu2 hfx2
        have hbe2 := hu2.1.2.2.2.1
        unfold f_X10_open_179
        rw [nI_1]
        by_cases q : bt8 t b = 1
        · rw [if_pos (show nI (bt8 t b) = 1 by rw [q]; rfl), if_pos q]
          obtain ⟨n, rfl⟩ : ∃ m, n = m + 1 := ⟨n - 1, by omega⟩
          rw [f_X10_open_35, if_neg (lt160 (by omega)), if_neg (show ¬ (1 : Int32) = 0 by decide)]
          exact e198 c2 b' out' hu2
        · have q0 : bt8 t b = 0 := by omega
          rw [q0, if_neg (show ¬ nI 0 = 1 by decide), if_neg (show ¬ (0 : Nat) = 1 by decide)]
          exact ih n (k + 1) b' c2 out' (by omega) (by omega) (by omega) hu2 hfx2
      have eop : opF t behind most (f + 1) b out = (match blkF t (8 * behind) most b out with | none => none | some q => if bt8 t b = 1 then (if (q.2 + 7) / 8 = behind then some q.1 else none) else opF t behind most f q.2 q.1) := by
        unfold opF
        rw [opG]
        simp only [decide_eq_true_eq]
      have no : ∀ {X : Option (Int32 × hS)} {c2 : hS}, blkF t (8 * behind) most b out = none → (∃ c', X = some (0, c') ∧ fr Sop c2 c') → fr Sop c1 c2 → ∃ c', X = some (bI (opF t behind most (f + 1) b out).isSome, c') ∧ fr Sop c1 c' ∧ ∀ o, opF t behind most (f + 1) b out = some o → row c' 7 o := by
        intro X c2 hbl ⟨c', e1, f1⟩ f0
        rw [eop, hbl]
        exact ⟨c', e1, f0.tr f1, fun _ z => by cases z⟩
      -- a block that went well, or not
      have blk : ∀ {A : Option (Int32 × hS)} {c2 : hS} {B : hS → Option (Int32 × hS)} {r : Option (List Nat × Nat)}, blkF t (8 * behind) most b out = r → UR A c2 Sop t (8 * behind) most r → fr Sop c1 c2 → fxd c2 → (∀ c3, B c3 = f_X10_open_179 N (nI a) (nI behind) (nI most) (f_X10_open_35 N (nI a) (nI behind) (nI most) n) c3 (nI k) (nI (bt8 t b))) → ∃ c', (bnd A fun x c3 => if x = 0 then some (0, c3) else B c3) = some (bI (opF t behind most (f + 1) b out).isSome, c') ∧ fr Sop c1 c' ∧ ∀ o, opF t behind most (f + 1) b out = some o → row c' 7 o := by
        intro A c2 B r hbl ⟨c3, a1, a2, a3⟩ f2 hfx2 hB
        cases r with
        | none =>
          refine no hbl ⟨c3, ?_, a2⟩ f2
          rw [a1, bnd_some, if_pos (show bI (none : Option (List Nat × Nat)).isSome = 0 from rfl)]
        | some q =>
          obtain ⟨o1, b1⟩ := q
          have bl := blkF_lt hbl
          obtain ⟨c4, w1, w2, w3⟩ := nxt c3 o1 b1 (bt8_lt t b) bl.1 (a3 o1 b1 rfl) (hfx2.fr a2 Sop_fx)
          rw [eop, hbl]
          refine ⟨c4, ?_, (f2.tr a2).tr w2, w3⟩
          rw [a1, bnd_some, if_neg (show ¬ bI (some (o1, b1)).isSome = 0 from (by decide : ¬ bI true = 0)), hB]
          exact w1
      rw [f_X10_open_35, if_neg (lt160 (by omega)), if_pos rfl]
      dsimp only [st1]
      have hu1 : UO (sI c1 11 12 (j_shr (c1.1 11 9) 3)) t b (8 * behind) most out := ⟨⟨hu.1.1.fr (S := [11]) (fr.sI (by simp)) (by decide) (by decide), by rw [sI_j (by decide)]; exact hu.1.2.1, by rw [sI_j (by decide)]; exact hu.1.2.2.1, hu.1.2.2.2⟩, hu.2.1.fr (S := [11]) (fr.sI (by simp)) (by decide) (by decide), by rw [sI_j (by decide)]; exact hu.2.2.1, hu.2.2.2⟩
      have f01 : fr Sop c1 (sI c1 11 12 (j_shr (c1.1 11 9) 3)) := Sop11
      revert hu1 f01
      generalize sI c1 11 12 (j_shr (c1.1 11 9) 3) = c2
      intro hu1 f01
      by_cases q3 : b + 3 ≤ 8 * behind
      · have v2 := bv_lt t (b + 1) 2
        have eb1 : bv t b 1 = bt8 t b := by simp [bv]
        have t1 : f_X10_takeBits N c2 1 = _ := f_takeBits (n := 1) hN hu1.1 (by omega) (by decide)
        have t2 : f_X10_takeBits N (sI c2 11 9 (nI (b + 1))) 2 = _ := f_takeBits (n := 2) hN (hu1.mv (b' := b + 1) (by omega)).1 (by omega) (by decide)
        rw [t1, bnd_some, t2, bnd_some, sI_sI, if_neg (nm1' (by have := bv_lt t b 1; omega)), if_neg (nm1' (by omega)), eb1]
        have hu3 := hu1.mv (b' := b + 1 + 2) (by omega)
        have f3 : fr Sop c1 (sI c2 11 9 (nI (b + 1 + 2))) := f01.tr Sop11
        rw [show b + 1 + 2 = b + 3 by omega] at hu3 f3 ⊢
        revert hu3 f3
        generalize sI c2 11 9 (nI (b + 3)) = c3
        intro hu3 f3
        have hfx3 := hfx.fr f3 Sop_fx
        have ebl : blkF t (8 * behind) most b out = sorF t (8 * behind) most (bv t (b + 1) 2) (b + 3) out := by unfold blkF; rw [if_pos q3]
        have u142 : ∀ c4 (s : Nat), s ≠ 2 → s < 4 → f_X10_open_142 N (nI a) (nI behind) (nI most) (f_X10_open_35 N (nI a) (nI behind) (nI most) n) c4 (nI k) (nI (bt8 t b)) (nI s) = f_X10_open_179 N (nI a) (nI behind) (nI most) (f_X10_open_35 N (nI a) (nI behind) (nI most) n) c4 (nI k) (nI (bt8 t b)) := by
          intro c4 s h2 h4
          unfold f_X10_open_142
          rw [if_neg (show ¬ nI s = 2 from fun z => h2 ((nI_eq (by omega) (show 2 < 2 ^ 31 by decide)).mp z))]
        generalize hs : bv t (b + 1) 2 = s at *
        match s, v2 with
        | 0, _ =>
          rw [if_neg (show ¬ nI 0 = 3 by decide), if_pos nI_0]
          refine blk (r := sorF t (8 * behind) most 0 (b + 3) out) ebl ?_ f3 hfx3 (fun c4 => ?_)
          · obtain ⟨c5, w1, w2, w3⟩ := f_isStored hN hu3 (by omega)
            exact ⟨c5, w1, Sop4 w2, w3⟩
          · unfold f_X10_open_119
            rw [if_neg (show ¬ nI 0 = 1 by decide)]
            exact u142 c4 0 (by decide) (by decide)
        | 1, _ =>
          rw [if_neg (show ¬ nI 1 = 3 by decide), if_neg (show ¬ nI 1 = 0 by decide)]
          unfold f_X10_open_119
          rw [if_pos (show nI 1 = 1 from rfl)]
          refine blk (r := sorF t (8 * behind) most 1 (b + 3) out) ebl ?_ f3 hfx3 (fun c4 => u142 c4 1 (by decide) (by decide))
          obtain ⟨c5, w1, w2, w3⟩ := f_areSymbols hN hu3 (Or.inl rfl) (Or.inr (Or.inl rfl)) hfx3.1 hfx3.2 (by rw [fxS_len]; decide) (by rw [fxD_len]; decide)
          exact ⟨c5, w1, Sop4 w2, w3⟩
        | 2, _ =>
          rw [if_neg (show ¬ nI 2 = 3 by decide), if_neg (show ¬ nI 2 = 0 by decide)]
          unfold f_X10_open_119
          rw [if_neg (show ¬ nI 2 = 1 by decide)]
          unfold f_X10_open_142
          rw [if_pos (show nI 2 = 2 from rfl)]
          have esor : sorF t (8 * behind) most 2 (b + 3) out = (match dynB t (8 * behind) (b + 3) with | none => none | some q => symF t (8 * behind) q.1 q.2.1 most (8 * behind - q.2.2 + 1) q.2.2 out) := rfl
          obtain ⟨c4, a1, a2, a3, a4⟩ := f_areLengthCodes hN hu3.1
          rw [a1, bnd_some]
          cases hhc : hcB t (8 * behind) (b + 3) with
          | false =>
            rw [if_pos (show bI false = 0 from rfl)]
            refine no (by rw [ebl, esor]; unfold dynB; rw [hhc]; rfl) ⟨c4, rfl, SopU a2⟩ f3
          | true =>
            obtain ⟨y1, y2, y3, y4, y5, y6⟩ := a4 hhc
            rw [if_neg (by decide)]
            obtain ⟨c5, g1, g2, g3⟩ := f_areLengths hN y4 y1 y2 y3 (clF_len _ _ _) (by unfold hH; omega) y5 (by unfold hK; omega) y6
            rw [g1, bnd_some]
            cases hdy : dyR t (8 * behind) (clF t (b + 3 + 14) (hn t (b + 3))) (hH t (b + 3)) (hH t (b + 3) + hK t (b + 3)) 320 (b + 3 + 14 + 3 * hn t (b + 3)) [] with
            | none =>
              rw [if_pos (show bI (none : Option (List Nat × Nat)).isSome = 0 from rfl)]
              refine no (by rw [ebl, esor]; unfold dynB; rw [if_pos hhc, hdy]) ⟨c5, rfl, SopU g2⟩ (f3.tr (SopU a2))
            | some q =>
              obtain ⟨row', b1⟩ := q
              obtain ⟨x1, x2, x3, x4, x5⟩ := g3 row' b1 hdy
              have edy : dynB t (8 * behind) (b + 3) = some (row'.take (hH t (b + 3)), row'.drop (hH t (b + 3)), b1) := by unfold dynB; rw [if_pos hhc, hdy]
              have dl := dynB_lt edy
              rw [if_neg (show ¬ bI (some (row', b1)).isSome = 0 from (by decide : ¬ bI true = 0))]
              have f5 : fr Sop c1 c5 := (f3.tr (SopU a2)).tr (SopU g2)
              have f35 : fr Sun c3 c5 := a2.tr g2
              have hu5 : UO c5 t b1 (8 * behind) most out := ⟨x3, hu3.2.1.fr f35 (by decide) (by decide), by rw [x5 11 (by decide) (by decide), a3 11 (by decide) (by decide) (by decide)]; exact hu3.2.2.1, hu3.2.2.2⟩
              refine blk (r := symF t (8 * behind) (row'.take (hH t (b + 3))) (row'.drop (hH t (b + 3))) most (8 * behind - b1 + 1) b1 out) (by rw [ebl, esor, edy]) ?_ f5 (hfx.fr f5 Sop_fx) (fun _ => rfl)
              obtain ⟨c6, w1, w2, w3⟩ := f_areSymbols hN hu5 (Or.inr (Or.inr (Or.inl rfl))) (Or.inr (Or.inr (Or.inr (Or.inl rfl)))) x1 x2 (by have := dl.2.2.1; dsimp only at this; omega) (by have := dl.2.2.2; dsimp only at this; omega)
              exact ⟨c6, w1, Sop4 w2, w3⟩
        | 3, _ =>
          rw [if_pos (show nI 3 = 3 from rfl)]
          obtain ⟨c', a1, a2⟩ := tellX c3 21 (c3.1 11 12)
          refine no (by rw [ebl]; rfl) ⟨c', a1, Sop4 a2⟩ f3
      · -- a bit lacks
        have ebl : blkF t (8 * behind) most b out = none := by unfold blkF; rw [if_neg q3]
        by_cases q4 : b + 1 ≤ 8 * behind
        · obtain ⟨c5, a1, a2⟩ := f_takeBits_no (N := N) (n := 2) (hu1.mv (b' := b + 1) q4).1 (by omega) (by decide)
          have t1 : f_X10_takeBits N c2 1 = _ := f_takeBits (n := 1) hN hu1.1 q4 (by decide)
          have t2 : f_X10_takeBits N (sI c2 11 9 (nI (b + 1))) 2 = _ := a1
          rw [t1, bnd_some, t2, bnd_some, if_neg (nm1' (by have := bv_lt t b 1; omega)), if_pos rfl]
          exact no ebl ⟨c5, rfl, Sop4 (So9 a2)⟩ (f01.tr Sop11)
        · obtain ⟨c4, a1, a2⟩ := f_takeBits_no (N := N) (n := 1) hu1.1 (by omega) (by decide)
          obtain ⟨c5, a3, a4⟩ := f_takeBits_no (N := N) (n := 2) (hu1.1.fr a2 (by decide) (by decide) (by decide)) (by omega) (by decide)
          have t1 : f_X10_takeBits N c2 1 = _ := a1
          have t2 : f_X10_takeBits N c4 2 = _ := a3
          rw [t1, bnd_some, t2, bnd_some, if_pos rfl]
          exact no ebl ⟨c5, rfl, Sop4 (So9 a4)⟩ (f01.tr (Sop4 (So9 a2)))
  unfold f_X10_open
  dsimp only [st1]
  rw [show (8 : Int32) * nI a = nI (8 * a) from nI_mul 8 a, show (8 : Int32) * nI behind = nI (8 * behind) from nI_mul 8 behind]
  have f3 : fr [11] c (sI (sI (sI c 11 9 (nI (8 * a))) 11 10 (nI (8 * behind))) 11 11 (nI most)) := ((fr.sI (by simp)).tr (fr.sI (by simp))).tr (fr.sI (by simp))
  have g9 : (sI (sI (sI c 11 9 (nI (8 * a))) 11 10 (nI (8 * behind))) 11 11 (nI most)).1 11 9 = nI (8 * a) := by rw [sI_j (by decide), sI_j (by decide), sI_s]
  have g10 : (sI (sI (sI c 11 9 (nI (8 * a))) 11 10 (nI (8 * behind))) 11 11 (nI most)).1 11 10 = nI (8 * behind) := by rw [sI_j (by decide), sI_s]
  have g11 : (sI (sI (sI c 11 9 (nI (8 * a))) 11 10 (nI (8 * behind))) 11 11 (nI most)).1 11 11 = nI most := sI_s _ _ _ _
  revert f3 g9 g10 g11
  generalize sI (sI (sI c 11 9 (nI (8 * a))) 11 10 (nI (8 * behind))) 11 11 (nI most) = c3
  intro f3 g9 g10 g11
  obtain ⟨c4, e4, r4, f4⟩ := f_cutN (f3.2.2 hl)
  rw [e4, bnd_some]
  have fall : fr Sop c c4 := (f3.mono (by decide)).tr (f4.mono (by decide))
  have hu : UO c4 t (8 * a) (8 * behind) most [] := ⟨⟨(h.fr f3 (by decide) (by decide)).fr f4 (by decide) (by decide), (f4.i (by decide) 9).trans g9, (f4.i (by decide) 10).trans g10, by omega, by omega⟩, r4, (f4.i (by decide) 11).trans g11, hm, by simp⟩
  obtain ⟨c5, w1, w2, w3⟩ := key (8 * behind - 8 * a + 1) N 0 (8 * a) c4 [] (by omega) (by omega) (by omega) hu (hfx.fr fall Sop_fx)
  exact ⟨c5, w1, fall.tr w2, w3⟩
end
