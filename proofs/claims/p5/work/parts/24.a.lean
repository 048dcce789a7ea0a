/-! PURE: states, rows of bytes, the class's Bytes -/
theorem sI_s (c : hS) (o j : Nat) (x : Int32) : (sI c o j x).1 o j = x := by simp [sI]
theorem sI_n {c : hS} {o j a b : Nat} {x : Int32} (h : ¬ (a = o ∧ b = j)) : (sI c o j x).1 a b = c.1 a b := by simp [sI, h]
theorem sI_o {c : hS} {o j a b : Nat} {x : Int32} (h : a ≠ o) : (sI c o j x).1 a b = c.1 a b := by simp [sI, h]
theorem sI_j {c : hS} {o j a b : Nat} {x : Int32} (h : b ≠ j) : (sI c o j x).1 a b = c.1 a b := by simp [sI, h]
theorem sI_2 (c : hS) (o j : Nat) (x : Int32) : (sI c o j x).2 = c.2 := rfl
theorem sR_1 (c : hS) (o j x : Nat) : (sR c o j x).1 = c.1 := rfl
theorem sR_21 (c : hS) (o j x : Nat) : (sR c o j x).2.1 = c.2.1 := rfl
theorem sR_s (c : hS) (o j x : Nat) : (sR c o j x).2.2 o j = x := by simp [sR]
theorem sR_n {c : hS} {o j a b x : Nat} (h : ¬ (a = o ∧ b = j)) : (sR c o j x).2.2 a b = c.2.2 a b := by simp [sR, h]
theorem sR_o {c : hS} {o j a b x : Nat} (h : a ≠ o) : (sR c o j x).2.2 a b = c.2.2 a b := by simp [sR, h]
theorem sR_j {c : hS} {o j a b x : Nat} (h : b ≠ j) : (sR c o j x).2.2 a b = c.2.2 a b := by simp [sR, h]
theorem nI_pos'' {k : Nat} (h : k < 2 ^ 31) : 0 ≤ nI k := Int32.not_lt.mp (nI_pos h)
/-- nothing but these objects has changed; the rows 5 and 7 have a length -/
noncomputable def fr (S : List Nat) (c c' : hS) : Prop := (∀ o, o ∉ S → (∀ j, c'.1 o j = c.1 o j) ∧ (∀ j, c'.2.1 o j = c.2.1 o j) ∧ (∀ j, c'.2.2 o j = c.2.2 o j)) ∧ (0 ≤ c.1 5 1 → 0 ≤ c'.1 5 1) ∧ (0 ≤ c.1 7 1 → 0 ≤ c'.1 7 1)
theorem fr.rf {S : List Nat} {c : hS} : fr S c c := ⟨fun _ _ => ⟨fun _ => rfl, fun _ => rfl, fun _ => rfl⟩, fun h => h, fun h => h⟩
theorem fr.tr {S : List Nat} {c c1 c2 : hS} (h1 : fr S c c1) (h2 : fr S c1 c2) : fr S c c2 := ⟨fun o ho => ⟨fun j => ((h2.1 o ho).1 j).trans ((h1.1 o ho).1 j), fun j => ((h2.1 o ho).2.1 j).trans ((h1.1 o ho).2.1 j), fun j => ((h2.1 o ho).2.2 j).trans ((h1.1 o ho).2.2 j)⟩, fun h => h2.2.1 (h1.2.1 h), fun h => h2.2.2 (h1.2.2 h)⟩
theorem fr.mono {S S' : List Nat} {c c1 : hS} (h1 : fr S c c1) (hS : ∀ o, o ∈ S → o ∈ S') : fr S' c c1 := ⟨fun o ho => h1.1 o (fun q => ho (hS o q)), h1.2⟩
theorem fr.sI {S : List Nat} {c : hS} {o j : Nat} {x : Int32} (h : o ∈ S) (h2 : ¬ (j = 1 ∧ (o = 5 ∨ o = 7)) ∨ 0 ≤ x := by first | (left; omega) | (right; exact nI_pos'' (by omega))) : fr S c (sI c o j x) := by
  refine ⟨fun q hq => ⟨fun _ => sI_o (fun e => hq (by rw [e]; exact h)), fun _ => rfl, fun _ => rfl⟩, fun h0 => ?_, fun h0 => ?_⟩
  · by_cases e : 5 = o ∧ 1 = j
    · rcases h2 with q | q
      · exact absurd ⟨e.2.symm, Or.inl e.1.symm⟩ q
      · rw [e.1, e.2, sI_s]; exact q
    · rw [sI_n e]; exact h0
  · by_cases e : 7 = o ∧ 1 = j
    · rcases h2 with q | q
      · exact absurd ⟨e.2.symm, Or.inr e.1.symm⟩ q
      · rw [e.1, e.2, sI_s]; exact q
    · rw [sI_n e]; exact h0
theorem fr.sR {S : List Nat} {c : hS} {o j x : Nat} (h : o ∈ S) : fr S c (sR c o j x) := ⟨fun q hq => ⟨fun _ => rfl, fun _ => rfl, fun _ => sR_o (fun e => hq (by rw [e]; exact h))⟩, fun h => h, fun h => h⟩
theorem fr.i {S : List Nat} {c c1 : hS} (h : fr S c c1) {o : Nat} (ho : o ∉ S) (j : Nat) : c1.1 o j = c.1 o j := (h.1 o ho).1 j
theorem fr.r {S : List Nat} {c c1 : hS} (h : fr S c c1) {o : Nat} (ho : o ∉ S) (j : Nat) : c1.2.2 o j = c.2.2 o j := (h.1 o ho).2.2 j
/-! ints that are numbers -/
theorem ln_le (o : Nat) : ln o ≤ 20000 := by
  unfold ln
  rw [List.getD_eq_getElem?_getD]
  cases h : lnl[o]? with
  | none => exact Nat.zero_le _
  | some v => exact (by decide +kernel : ∀ v ∈ lnl, v ≤ 20000) v (List.mem_of_getElem? h)
theorem ln_lt (o : Nat) : ln o < 2 ^ 31 := Nat.lt_of_le_of_lt (ln_le o) (by decide)
theorem j_in_nI {k m : Nat} (hk : k < m) (hm : m < 2 ^ 31) : j_in (nI k) m = true := by
  unfold j_in
  rw [decide_eq_false (nI_pos (by omega)), nI_clamp (by omega)]
  exact Nat.blt_eq.mpr hk
theorem ofNat_nI (k : Nat) : Int32.ofNat k = nI k := rfl
/-- the lowest byte -/
noncomputable def b8 (x : Int32) : Nat := x.toUInt32.toNat % 256
theorem b8_lt (x : Int32) : b8 x < 256 := Nat.mod_lt _ (by decide)
theorem nI_u (k : Nat) : (nI k).toUInt32.toNat = k % 2 ^ 32 := rfl
theorem i32_ext {x y : Int32} (h : x.toUInt32.toNat = y.toUInt32.toNat) : x = y := Int32.toBitVec_inj.mp (BitVec.eq_of_toNat_eq h)
theorem b8_and (x : Int32) : x &&& 255 = nI (b8 x) := by
  apply i32_ext
  have h1 : (x &&& 255).toUInt32 = x.toUInt32 &&& 255 := rfl
  rw [h1, UInt32.toNat_and, nI_u, show (255 : UInt32).toNat = 2 ^ 8 - 1 from rfl, Nat.and_two_pow_sub_one_eq_mod]
  have := b8_lt x
  unfold b8 at this ⊢
  omega
theorem b8_nI (k : Nat) : b8 (nI k) = k % 256 := by
  unfold b8
  rw [nI_u]
  omega
theorem b8_nI' {k : Nat} (h : k < 256) : b8 (nI k) = k := by rw [b8_nI]; omega
/-- byte k, 0 where there is none -/
noncomputable def gt (l : List Nat) (k : Nat) : Nat := l.getD k 0
theorem gt_lt {l : List Nat} {k : Nat} (h : k < l.length) : gt l k = l[k] := by
  unfold gt
  rw [List.getD_eq_getElem?_getD, List.getElem?_eq_getElem h]
  rfl
theorem gt_ge {l : List Nat} {k : Nat} (h : l.length ≤ k) : gt l k = 0 := by
  unfold gt
  rw [List.getD_eq_getElem?_getD, List.getElem?_eq_none h]
  rfl
theorem gt_app_l {l r : List Nat} {k : Nat} (h : k < l.length) : gt (l ++ r) k = gt l k := by
  unfold gt
  rw [List.getD_eq_getElem?_getD, List.getD_eq_getElem?_getD, List.getElem?_append_left h]
theorem gt_app_r {l r : List Nat} {k : Nat} (h : l.length ≤ k) : gt (l ++ r) k = gt r (k - l.length) := by
  unfold gt
  rw [List.getD_eq_getElem?_getD, List.getD_eq_getElem?_getD, List.getElem?_append_right h]
theorem gt_take {l : List Nat} {k n : Nat} (h : k < n) : gt (l.take n) k = gt l k := by
  unfold gt
  rw [List.getD_eq_getElem?_getD, List.getD_eq_getElem?_getD, List.getElem?_take_of_lt h]
theorem gt_drop (l : List Nat) (k n : Nat) : gt (l.drop n) k = gt l (n + k) := by
  unfold gt
  rw [List.getD_eq_getElem?_getD, List.getD_eq_getElem?_getD, List.getElem?_drop]
theorem gt_ext {l r : List Nat} (hl : l.length = r.length) (h : ∀ k, k < l.length → gt l k = gt r k) : l = r := by
  apply List.ext_getElem hl
  intro k h1 h2
  have := h k h1
  rwa [gt_lt h1, gt_lt h2] at this
/-- all are bytes -/
noncomputable def byt (l : List Nat) : Prop := ∀ x ∈ l, x < 256
theorem byt.gt {l : List Nat} (h : byt l) (k : Nat) : gt l k < 256 := by
  by_cases e : k < l.length
  · rw [gt_lt e]; exact h _ (List.getElem_mem e)
  · rw [gt_ge (Nat.le_of_not_lt e)]; decide
theorem byt.take {l : List Nat} (h : byt l) (n : Nat) : byt (l.take n) := fun x hx => h x (List.mem_of_mem_take hx)
theorem byt.drop {l : List Nat} (h : byt l) (n : Nat) : byt (l.drop n) := fun x hx => h x (List.mem_of_mem_drop hx)
theorem byt.app {l r : List Nat} (h : byt l) (h2 : byt r) : byt (l ++ r) := fun x hx => (List.mem_append.mp hx).elim (h x) (h2 x)
theorem map_gt (g : List Nat) (i n : Nat) (h : i + n ≤ g.length) : (List.range' i n).map (gt g) = (g.drop i).take n := by
  apply gt_ext
  · simp; omega
  · intro k hk
    have hk : k < n := by simpa using hk
    rw [gt_lt (by simpa using hk), gt_take hk, gt_drop]
    simp
/-- b is a row with these bytes -/
noncomputable def row (c : hS) (b : Nat) (l : List Nat) : Prop := l.length ≤ ln (b + 1) ∧ c.1 b 1 = nI l.length ∧ (∀ i, i < l.length → c.1 (b + 1) i = nI (gt l i)) ∧ byt l
theorem row.fr {S : List Nat} {c c1 : hS} {b : Nat} {l : List Nat} (h : row c b l) (hf : fr S c c1) (h1 : b ∉ S) (h2 : b + 1 ∉ S) : row c1 b l := ⟨h.1, (hf.i h1 1).trans h.2.1, fun i hi => (hf.i h2 i).trans (h.2.2.1 i hi), h.2.2.2⟩
theorem row.lt {c : hS} {b : Nat} {l : List Nat} (h : row c b l) : l.length < 2 ^ 31 := Nat.lt_of_le_of_lt h.1 (ln_lt _)
theorem f_size {c : hS} {b : Nat} {l : List Nat} (h : row c b l) : f_X2_size c b = some (nI l.length, c) := by
  unfold f_X2_size
  rw [h.2.1]
theorem f_has {c : hS} {b k : Nat} {l : List Nat} (h : row c b l) (hk : k < 2 ^ 31) : f_X2_has c b (nI k) = some (if k < l.length then 1 else 0, c) := by
  unfold f_X2_has
  rw [if_neg (nI_pos hk), h.2.1]
  by_cases e : k < l.length
  · rw [if_neg (nI_ge e h.lt), if_pos e]
  · rw [if_pos (nI_le (Nat.le_of_not_lt e) hk), if_neg e]
theorem f_has_neg {c : hS} {b : Nat} {x : Int32} (h : x < 0) : f_X2_has c b x = some (0, c) := by
  unfold f_X2_has
  rw [if_pos h]
theorem f_get {c : hS} {b k : Nat} {l : List Nat} (h : row c b l) (hk : k < 2 ^ 31) : f_X2_get c b (nI k) = some (nI (gt l k), c) := by
  unfold f_X2_get
  rw [if_neg (nI_pos hk), h.2.1]
  by_cases e : k < l.length
  · have h1 := h.1
    have h2 := ln_lt (b + 1)
    rw [if_neg (nI_ge e h.lt), ofNat_nI, if_neg (nI_ge (show k < ln (b + 1) by omega) h2), j_in_nI (show k < ln (b + 1) by omega) h2, cond_true, nI_clamp hk, h.2.2.1 k e]
  · rw [if_pos (nI_le (Nat.le_of_not_lt e) hk), gt_ge (Nat.le_of_not_lt e), nI_0]
theorem f_get_neg {c : hS} {b : Nat} {x : Int32} (h : x < 0) : f_X2_get c b x = some (0, c) := by
  unfold f_X2_get
  rw [if_pos h]
theorem f_add {c : hS} {b : Nat} {l : List Nat} (x : Int32) (h : row c b l) (hl : l.length < ln (b + 1)) : ∃ c', f_X2_add c b x = some ((), c') ∧ row c' b (l ++ [b8 x]) ∧ fr [b, b + 1] c c' := by
  have h2 := ln_lt (b + 1)
  refine ⟨sI (sI c (b + 1) l.length (x &&& 255)) b 1 (nI (l.length + 1)), ?_, ⟨?_, ?_, ?_, ?_⟩, (fr.sI (by simp) (Or.inr (by rw [b8_and]; exact nI_pos'' (by have := b8_lt x; omega)))).tr (fr.sI (by simp) (Or.inr (nI_pos'' (by have := h.lt; have := ln_lt (b + 1); omega))))⟩
  · unfold f_X2_add
    rw [h.2.1, if_neg (nI_pos h.lt), ofNat_nI, if_neg (nI_ge hl h2), j_in_nI hl h2, cond_true, nI_clamp h.lt]
    dsimp only [st1]
    rw [sI_o (show b ≠ b + 1 by omega), h.2.1, nI_1]
  · simp; omega
  · rw [sI_s]; simp
  · intro i hi
    rw [sI_o (show b + 1 ≠ b by omega)]
    by_cases e : i < l.length
    · rw [sI_j (show i ≠ l.length by omega), h.2.2.1 i e, gt_app_l e]
    · have : i = l.length := by simp at hi; omega
      subst this
      rw [sI_s, gt_app_r (Nat.le_refl _), Nat.sub_self, b8_and]
      rfl
  · exact h.2.2.2.app (fun y hy => by simp at hy; subst hy; exact b8_lt x)
theorem f_cut {c : hS} {b k : Nat} {l : List Nat} (h : row c b l) (hk : k ≤ l.length) : ∃ c', f_X2_cutTo c b (nI k) = some ((), c') ∧ row c' b (l.take k) ∧ fr [b] c c' := by
  have h1 := h.lt
  unfold f_X2_cutTo
  rw [if_neg (nI_pos (show k < 2 ^ 31 by omega)), h.2.1]
  by_cases e : k < l.length
  · rw [if_neg (nI_ge e h1)]
    refine ⟨_, rfl, ⟨?_, ?_, ?_, h.2.2.2.take k⟩, fr.sI (by simp) (Or.inr (nI_pos'' (by omega)))⟩
    · have := h.1
      simp; omega
    · rw [sI_s]; simp [Nat.min_eq_left hk]
    · intro i hi
      have : i < k := by simp at hi; omega
      rw [sI_o (show b + 1 ≠ b by omega), h.2.2.1 i (by omega), gt_take this]
  · have : k = l.length := by omega
    subst this
    rw [if_pos (nI_le (Nat.le_refl _) h1)]
    exact ⟨c, rfl, by rw [List.take_length]; exact h, fr.rf⟩
theorem row.nn {c : hS} {b : Nat} {l : List Nat} (h : row c b l) : 0 ≤ c.1 b 1 := by rw [h.2.1]; exact nI_pos'' h.lt
theorem f_cutN {c : hS} {b : Nat} (h : 0 ≤ c.1 b 1) : ∃ c', f_X2_cutTo c b 0 = some ((), c') ∧ row c' b [] ∧ fr [b] c c' := by
  unfold f_X2_cutTo
  rw [if_neg (by decide)]
  by_cases q : c.1 b 1 ≤ 0
  · rw [if_pos q]
    exact ⟨c, rfl, ⟨Nat.zero_le _, Int32.le_antisymm q h, fun i hi => absurd hi (Nat.not_lt_zero i), fun x hx => by cases hx⟩, fr.rf⟩
  · rw [if_neg q]
    exact ⟨_, rfl, ⟨Nat.zero_le _, sI_s _ _ _ _, fun i hi => absurd hi (Nat.not_lt_zero i), fun x hx => by cases hx⟩, fr.sI (by simp) (Or.inr (by decide))⟩
theorem f_cut0 {c : hS} {b : Nat} {l : List Nat} (h : row c b l) : ∃ c', f_X2_cutTo c b 0 = some ((), c') ∧ row c' b [] ∧ fr [b] c c' := f_cutN h.nn
