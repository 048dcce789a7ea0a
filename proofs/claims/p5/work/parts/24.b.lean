/-! PURE: loops -/
/-- a loop with a count: d bounds the turns that are left -/
theorem loop {σ ρ : Type} {F : Nat → σ → ρ} (Inv : Nat → σ → Prop) (R : ρ → Prop) (hs : ∀ d n s, Inv d s → (∃ d' s', d' < d ∧ F (n + 1) s = F n s' ∧ Inv d' s') ∨ R (F (n + 1) s)) : ∀ d n s, d < n → Inv d s → R (F n s) := by
  intro d
  induction d using Nat.strongRecOn with
  | ind d ih =>
    intro n s hn hi
    cases n with
    | zero => exact absurd hn (Nat.not_lt_zero d)
    | succ n =>
      rcases hs d n s hi with ⟨d', s', h1, h2, h3⟩ | h
      · rw [h2]
        exact ih d' h1 n s' (by omega) h3
      · exact h
/-- rows of a loop that adds one byte a turn -/
theorem app_loop {F : Nat → hS → Int32 → Option (Unit × hS)} {b j : Nat} {val : Nat → Int32} (I : hS → Prop) (hI : ∀ c c', I c → fr [b, b + 1] c c' → I c')
    (hs : ∀ n c k, k < j → I c → F (n + 1) c (nI k) = bnd (f_X2_add c b (val k)) fun _ c1 => F n c1 (nI k + 1)) (h0 : ∀ n c, I c → F (n + 1) c (nI j) = some ((), c)) :
    ∀ d n c k l, k + d = j → d < n → I c → row c b l → l.length + d ≤ ln (b + 1) → ∃ c', F n c (nI k) = some ((), c') ∧ row c' b (l ++ (List.range' k d).map fun i => b8 (val i)) ∧ fr [b, b + 1] c c' := by
  intro d
  induction d with
  | zero =>
    intro n c k l hk hn hi hr hl
    cases n with
    | zero => exact absurd hn (Nat.not_lt_zero 0)
    | succ n =>
      have : k = j := by omega
      subst this
      exact ⟨c, h0 n c hi, by simpa using hr, fr.rf⟩
  | succ d ih =>
    intro n c k l hk hn hi hr hl
    cases n with
    | zero => exact absurd hn (by omega)
    | succ n =>
      obtain ⟨c1, e1, r1, f1⟩ := f_add (val k) hr (by omega)
      obtain ⟨c2, e2, r2, f2⟩ := ih n c1 (k + 1) _ (by omega) (by omega) (hI c c1 hi f1) r1 (by simp; omega)
      refine ⟨c2, ?_, ?_, f1.tr f2⟩
      · rw [hs n c k (by omega) hi, e1, bnd_some, nI_1]
        exact e2
      · rw [List.range'_succ]
        simpa using r2
theorem f_addRow {N : Nat} {c : hS} {b f i j : Nat} {l g : List Nat} (hN : 1000000 ≤ N) (hr : row c b l) (hg : row c f g) (hfb : f ≠ b) (hf1 : f ≠ b + 1) (hf2 : f + 1 ≠ b) (hij : i ≤ j) (hj : j < 2 ^ 31) (hl : l.length + (j - i) ≤ ln (b + 1)) :
    ∃ c', f_X2_addRow N c b f (nI i) (nI j) = some ((), c') ∧ row c' b (l ++ (List.range' i (j - i)).map (gt g)) ∧ fr [b, b + 1] c c' := by
  have hln := ln_le (b + 1)
  obtain ⟨c', e, r, q⟩ := app_loop (F := f_X2_addRow_3 N b f (nI i) (nI j)) (j := j) (val := fun k => nI (gt g k)) (fun c => row c f g) (fun c c' h q => h.fr q (by simp; omega) (by simp; omega)) (fun n c k hk hi => by rw [f_X2_addRow_3, if_neg (nI_ge hk hj), f_get hi (by omega), bnd_some]) (fun n c _ => by rw [f_X2_addRow_3, if_pos (nI_le (Nat.le_refl _) hj)]) (j - i) N c i l (by omega) (by omega) hg hr hl
  refine ⟨c', e, ?_, q⟩
  have : (List.range' i (j - i)).map (fun k => b8 (nI (gt g k))) = (List.range' i (j - i)).map (gt g) := List.map_congr_left (fun k _ => b8_nI' (hg.2.2.2.gt k))
  rwa [this] at r
/-- a part of another row -/
theorem f_addPart {N : Nat} {c : hS} {b f i j : Nat} {l g : List Nat} (hN : 1000000 ≤ N) (hr : row c b l) (hg : row c f g) (hfb : f ≠ b) (hf1 : f ≠ b + 1) (hf2 : f + 1 ≠ b) (hij : i ≤ j) (hj : j ≤ g.length) (hl : l.length + (j - i) ≤ ln (b + 1)) :
    ∃ c', f_X2_addRow N c b f (nI i) (nI j) = some ((), c') ∧ row c' b (l ++ (g.drop i).take (j - i)) ∧ fr [b, b + 1] c c' := by
  have := hg.lt
  obtain ⟨c', e, r, q⟩ := f_addRow hN hr hg hfb hf1 hf2 hij (by omega) hl
  rw [map_gt g i (j - i) (by omega)] at r
  exact ⟨c', e, r, q⟩
theorem map_b8 (t : List Int32) : (List.range' 0 t.length).map (fun k => b8 (t.getD k 0)) = t.map b8 := by
  apply List.ext_getElem
  · simp
  · intro k h1 h2
    have hk : k < t.length := by simpa using h1
    simp [List.getD_eq_getElem?_getD, List.getElem?_eq_getElem hk]
theorem f_addText {N : Nat} {c : hS} {b : Nat} {l : List Nat} {t : List Int32} (hN : 1000000 ≤ N) (hr : row c b l) (hl : l.length + t.length ≤ ln (b + 1)) :
    ∃ c', f_X2_addText N c b t = some ((), c') ∧ row c' b (l ++ t.map b8) ∧ fr [b, b + 1] c c' := by
  have hln := ln_le (b + 1)
  rw [← map_b8]
  refine app_loop (F := f_X2_addText_2 N b t) (j := t.length) (val := fun k => t.getD k 0) (fun _ => True) (fun _ _ _ _ => trivial) ?_ ?_ t.length N c 0 l (by omega) (by omega) trivial hr hl
  · intro n c k hk _
    rw [f_X2_addText_2, ofNat_nI, if_neg (nI_ge hk (by omega)), j_in_nI hk (by omega), cond_true, nI_clamp (by omega)]
  · intro n c _
    rw [f_X2_addText_2, ofNat_nI, if_pos (nI_le (Nat.le_refl _) (by omega))]
theorem f_addMark {N : Nat} {c : hS} {b : Nat} {l : List Nat} {t : List Int32} (hN : 1000000 ≤ N) (hr : row c b l) (hl : l.length + t.length ≤ ln (b + 1)) :
    ∃ c', f_X2_addMark N c b t = some ((), c') ∧ row c' b (l ++ t.map b8) ∧ fr [b, b + 1] c c' := by
  have hln := ln_le (b + 1)
  rw [← map_b8]
  refine app_loop (F := f_X2_addMark_2 N b t) (j := t.length) (val := fun k => t.getD k 0) (fun _ => True) (fun _ _ _ _ => trivial) ?_ ?_ t.length N c 0 l (by omega) (by omega) trivial hr hl
  · intro n c k hk _
    rw [f_X2_addMark_2, ofNat_nI, if_neg (nI_ge hk (by omega)), j_in_nI hk (by omega), cond_true, nI_clamp (by omega)]
  · intro n c _
    rw [f_X2_addMark_2, ofNat_nI, if_pos (nI_le (Nat.le_refl _) (by omega))]
theorem f_addZeros {N m : Nat} {c : hS} {b : Nat} {l : List Nat} (hN : 1000000 ≤ N) (hr : row c b l) (hl : l.length + m ≤ ln (b + 1)) :
    ∃ c', f_X2_addZeros N c b (nI m) = some ((), c') ∧ row c' b (l ++ List.replicate m 0) ∧ fr [b, b + 1] c c' := by
  have hln := ln_le (b + 1)
  obtain ⟨c', e, r, q⟩ := app_loop (F := f_X2_addZeros_2 N b (nI m)) (j := m) (val := fun _ => 0) (fun _ => True) (fun _ _ _ _ => trivial) (fun n c k hk _ => by rw [f_X2_addZeros_2, if_neg (nI_ge hk (by omega))]) (fun n c _ => by rw [f_X2_addZeros_2, if_pos (nI_le (Nat.le_refl _) (by omega))]) m N c 0 l (by omega) (by omega) trivial hr hl
  refine ⟨c', e, ?_, q⟩
  have : (List.range' 0 m).map (fun _ => b8 0) = List.replicate m 0 := by
    rw [List.map_const']
    simp [show b8 0 = 0 from rfl]
  rwa [this] at r
theorem f_addLittle {N m : Nat} {c : hS} {b : Nat} {l : List Nat} {x : Int64} (hN : 1000000 ≤ N) (hr : row c b l) (hl : l.length + m ≤ ln (b + 1)) :
    ∃ c', f_X2_addLittle N c b x (nI m) = some ((), c') ∧ row c' b (l ++ (List.range' 0 m).map fun k => b8 (j_lushr x (8 * nI k)).toInt32) ∧ fr [b, b + 1] c c' := by
  have hln := ln_le (b + 1)
  refine app_loop (F := f_X2_addLittle_3 N b x (nI m)) (j := m) (val := fun k => (j_lushr x (8 * nI k)).toInt32) (fun _ => True) (fun _ _ _ _ => trivial) ?_ ?_ m N c 0 l (by omega) (by omega) trivial hr hl
  · intro n c k hk _
    rw [f_X2_addLittle_3, if_neg (nI_ge hk (by omega))]
  · intro n c _
    rw [f_X2_addLittle_3, if_pos (nI_le (Nat.le_refl _) (by omega))]
/-- the same, downwards -/
theorem app_down {F : Nat → hS → Int32 → Option (Unit × hS)} {b : Nat} {val : Nat → Int32}
    (hs : ∀ n c k, k < 2 ^ 31 → F (n + 1) c (nI k) = bnd (f_X2_add c b (val k)) fun _ c1 => F n c1 (nI k + -1)) (h0 : ∀ n c, F (n + 1) c (-1) = some ((), c)) :
    ∀ d n c l, d < n → d < 2 ^ 31 → row c b l → l.length + d ≤ ln (b + 1) → ∃ c', F n c (nI d - 1) = some ((), c') ∧ row c' b (l ++ (List.range d).reverse.map fun i => b8 (val i)) ∧ fr [b, b + 1] c c' := by
  intro d
  induction d with
  | zero =>
    intro n c l hn hd hr hl
    cases n with
    | zero => exact absurd hn (Nat.not_lt_zero 0)
    | succ n => exact ⟨c, h0 n c, by simpa using hr, fr.rf⟩
  | succ d ih =>
    intro n c l hn hd hr hl
    cases n with
    | zero => exact absurd hn (by omega)
    | succ n =>
      obtain ⟨c1, e1, r1, f1⟩ := f_add (val d) hr (by omega)
      obtain ⟨c2, e2, r2, f2⟩ := ih n c1 _ (by omega) (by omega) r1 (by simp; omega)
      refine ⟨c2, ?_, ?_, f1.tr f2⟩
      · rw [nI_pred, hs n c d (by omega), e1, bnd_some, show nI d + -1 = nI d - 1 from (Int32.sub_eq_add_neg _ _).symm]
        exact e2
      · rw [List.range_succ]
        simpa using r2
theorem f_addBig {N m : Nat} {c : hS} {b : Nat} {l : List Nat} {x : Int64} (hN : 1000000 ≤ N) (hr : row c b l) (hl : l.length + m ≤ ln (b + 1)) :
    ∃ c', f_X2_addBig N c b x (nI m) = some ((), c') ∧ row c' b (l ++ (List.range m).reverse.map fun k => b8 (j_lushr x (8 * nI k)).toInt32) ∧ fr [b, b + 1] c c' := by
  have hln := ln_le (b + 1)
  refine app_down (F := f_X2_addBig_5 N b x (nI m)) (val := fun k => (j_lushr x (8 * nI k)).toInt32) ?_ ?_ m N c l (by omega) (by omega) hr hl
  · intro n c k hk
    rw [f_X2_addBig_5, if_neg (nI_pos hk)]
  · intro n c
    rw [f_X2_addBig_5, if_pos (by decide)]
theorem f_set {c : hS} {b k : Nat} {l : List Nat} (x : Int32) (h : row c b l) (hk : k < l.length) : ∃ c', f_X2_set c b (nI k) x = some ((), c') ∧ row c' b (l.set k (b8 x)) ∧ fr [b, b + 1] c c' := by
  have h1 := h.1
  have h2 := ln_lt (b + 1)
  have h3 := h.lt
  unfold f_X2_set
  rw [if_neg (nI_pos (show k < 2 ^ 31 by omega)), h.2.1, if_neg (nI_ge hk h3), ofNat_nI, if_neg (nI_ge (show k < ln (b + 1) by omega) h2), j_in_nI (show k < ln (b + 1) by omega) h2, cond_true, nI_clamp (by omega)]
  refine ⟨_, rfl, ⟨by simpa using h1, ?_, ?_, ?_⟩, fr.sI (by simp) (Or.inr (by rw [b8_and]; exact nI_pos'' (by have := b8_lt x; omega)))⟩
  · rw [sI_o (show b ≠ b + 1 by omega), h.2.1]; simp
  · intro i hi
    have hi : i < l.length := by simpa using hi
    by_cases e : i = k
    · subst e
      rw [sI_s, gt_lt (by simpa using hi), b8_and]
      simp
    · rw [sI_j e, h.2.2.1 i hi, gt_lt hi, gt_lt (by simpa using hi)]
      simp [Ne.symm e]
  · intro y hy
    rcases List.mem_or_eq_of_mem_set hy with q | q
    · exact h.2.2.2 y q
    · rw [q]; exact b8_lt x
