/-! PURE: packing -/
/-- bytes that are done, the byte that is held, how many bits it has -/
noncomputable abbrev Pk : Type := List Nat × Nat × Nat
noncomputable def psh (s : Pk) (b : Nat) : Pk := if s.2.2 + 1 = 8 then (s.1 ++ [s.2.1 + b * 2 ^ s.2.2], 0, 0) else (s.1, s.2.1 + b * 2 ^ s.2.2, s.2.2 + 1)
noncomputable def psL (s : Pk) (bs : List Nat) : Pk := bs.foldl psh s
theorem psL_app (s : Pk) (a b : List Nat) : psL s (a ++ b) = psL (psL s a) b := List.foldl_append
noncomputable def pkOk (s : Pk) : Prop := s.2.2 < 8 ∧ s.2.1 < 2 ^ s.2.2
theorem psh_ok {s : Pk} {b : Nat} (h : pkOk s) (hb : b < 2) : pkOk (psh s b) := by
  unfold psh
  split
  · exact ⟨show 0 < 8 by decide, show 0 < 2 ^ 0 by decide⟩
  · refine ⟨by have := h.1; simp only; omega, ?_⟩
    show s.2.1 + b * 2 ^ s.2.2 < 2 ^ (s.2.2 + 1)
    have := h.2
    have : b * 2 ^ s.2.2 ≤ 1 * 2 ^ s.2.2 := Nat.mul_le_mul_right _ (by omega)
    rw [Nat.pow_succ]
    omega
noncomputable def bitL (bs : List Nat) : Prop := ∀ b ∈ bs, b < 2
theorem psL_ok {bs : List Nat} : ∀ {s : Pk}, pkOk s → bitL bs → pkOk (psL s bs) := by
  induction bs with
  | nil => intro s h _; exact h
  | cons b r ih => intro s h hb; exact ih (psh_ok h (hb b (by simp))) (fun x hx => hb x (by simp [hx]))
theorem psL_len {bs : List Nat} : ∀ {s : Pk}, s.2.2 < 8 → 8 * (psL s bs).1.length + (psL s bs).2.2 = 8 * s.1.length + s.2.2 + bs.length ∧ (psL s bs).2.2 < 8 := by
  induction bs with
  | nil => intro s h; exact ⟨by simp [psL], h⟩
  | cons b r ih =>
    intro s h
    have e : (psh s b).2.2 < 8 ∧ 8 * (psh s b).1.length + (psh s b).2.2 = 8 * s.1.length + s.2.2 + 1 := by
      unfold psh
      split
      · exact ⟨show 0 < 8 by decide, by simp; omega⟩
      · exact ⟨by simp only; omega, by simp only; omega⟩
    obtain ⟨i1, i2⟩ := ih e.1
    refine ⟨?_, i2⟩
    show 8 * (psL (psh s b) r).1.length + (psL (psh s b) r).2.2 = _
    rw [i1, e.2, List.length_cons]
    omega
noncomputable def bLE (v n : Nat) : List Nat := (List.range n).map fun i => v / 2 ^ i % 2
noncomputable def bBE (v n : Nat) : List Nat := (List.range n).reverse.map fun i => v / 2 ^ i % 2
theorem bLE_bit (v n : Nat) : bitL (bLE v n) := fun b hb => by
  unfold bLE at hb
  obtain ⟨i, _, rfl⟩ := List.mem_map.mp hb
  exact Nat.mod_lt _ (by decide)
theorem bBE_bit (v n : Nat) : bitL (bBE v n) := fun b hb => by
  unfold bBE at hb
  obtain ⟨i, _, rfl⟩ := List.mem_map.mp hb
  exact Nat.mod_lt _ (by decide)
theorem bLE_len (v n : Nat) : (bLE v n).length = n := by simp [bLE]
theorem bBE_len (v n : Nat) : (bBE v n).length = n := by simp [bBE]
theorem bitL.app {a b : List Nat} (h1 : bitL a) (h2 : bitL b) : bitL (a ++ b) := fun x hx => (List.mem_append.mp hx).elim (h1 x) (h2 x)
theorem and1 (a : Nat) : nI a &&& 1 = nI (a % 2) := by
  rw [show (1 : Int32) = nI 1 from rfl, nx_and]
  congr 1
  exact Nat.and_two_pow_sub_one_eq_mod a 1
theorem held_or {h b k : Nat} (hh : h < 2 ^ k) (hk : k < 8) : nI h ||| j_shl (nI b) (nI k) = nI (h + b * 2 ^ k) := by
  rw [shl_nI b (by omega), nx_or, Nat.or_comm, or_add hh, Nat.add_comm]
/-- the class's packer -/
noncomputable def pkC (c : hS) (t : List Nat) (s : Pk) : Prop := row c 3 (t ++ s.1) ∧ c.1 10 1 = nI s.2.1 ∧ c.1 10 2 = nI s.2.2 ∧ pkOk s
noncomputable abbrev Spk : List Nat := [3, 4, 10]
/-- a run that pushes these bits -/
noncomputable def PB (X : Option (Unit × hS)) (c : hS) (t : List Nat) (s : Pk) (bs : List Nat) : Prop := ∃ c', X = some ((), c') ∧ pkC c' t (psL s bs) ∧ fr Spk c c' ∧ c'.1 10 3 = c.1 10 3
theorem PB.end_ {c : hS} {t : List Nat} {s : Pk} (h : pkC c t s) : PB (some ((), c)) c t s [] := ⟨c, rfl, h, fr.rf, rfl⟩
theorem PB.bnd_ {X : Option (Unit × hS)} {K : Unit → hS → Option (Unit × hS)} {c : hS} {t : List Nat} {s : Pk} {p r : List Nat} (hX : PB X c t s p) (hK : ∀ c1, pkC c1 t (psL s p) → fr Spk c c1 → c1.1 10 3 = c.1 10 3 → PB (K () c1) c1 t (psL s p) r) : PB (bnd X K) c t s (p ++ r) := by
  obtain ⟨c1, e1, r1, f1, d1⟩ := hX
  obtain ⟨c2, e2, r2, f2, d2⟩ := hK c1 r1 f1 d1
  refine ⟨c2, ?_, by rw [psL_app]; exact r2, f1.tr f2, d2.trans d1⟩
  rw [e1, bnd_some]
  exact e2
theorem PB.last_ {X : Option (Unit × hS)} {c : hS} {t : List Nat} {s : Pk} {p : List Nat} (hX : PB X c t s p) : PB (bnd X fun _ c1 => some ((), c1)) c t s p := by
  have := PB.bnd_ (K := fun _ c1 => some ((), c1)) hX (fun c1 r1 _ _ => PB.end_ r1)
  rwa [List.append_nil] at this
theorem PB.bits {N : Nat} {c : hS} {t : List Nat} {s : Pk} {x m : Int32} {v n : Nat} (hN : 1000000 ≤ N) (h : pkC c t s) (hl : t.length + s.1.length + n ≤ 20000) (hx : x = nI v) (hv : v < 2 ^ 31) (hn : n ≤ 16) (hm : m = nI n) : PB (f_X8_addBits N c x m) c t s (bLE v n) := by
  subst hx
  subst hm
  unfold f_X8_addBits
  have key : ∀ d n' i c s, i + d = n → d < n' → pkC c t s → t.length + s.1.length + d ≤ 20000 → PB (f_X8_addBits_2 N (nI v) (nI n) n' c (nI i)) c t s ((List.range' i d).map fun i => v / 2 ^ i % 2) := by
    intro d
    induction d with
    | zero =>
      intro n' i c s hi hn' h hl
      obtain ⟨n', rfl⟩ : ∃ k, n' = k + 1 := ⟨n' - 1, by omega⟩
      rw [f_X8_addBits_2, if_pos (nI_le (by omega) (by omega))]
      exact PB.end_ h
    | succ d ih =>
      intro n' i c s hi hn' h hl
      obtain ⟨n', rfl⟩ : ∃ k, n' = k + 1 := ⟨n' - 1, by omega⟩
      obtain ⟨h1, h2, h3, h4⟩ := h
      rw [f_X8_addBits_2, if_neg (nI_ge (by omega) (by omega)), shr_nI hv (by omega), and1, h2, h3, held_or h4.2 h4.1]
      dsimp only [st1]
      have e2 : (sI c 10 1 (nI (s.2.1 + v / 2 ^ i % 2 * 2 ^ s.2.2))).1 10 2 = nI s.2.2 := by rw [sI_j (by decide)]; exact h3
      rw [e2, nI_1, sI_s, sI_j (show (1 : Nat) ≠ 2 by decide), sI_s, nI_1]
      have hb : v / 2 ^ i % 2 < 2 := Nat.mod_lt _ (by decide)
      have ok := psh_ok h4 hb
      rw [List.range'_succ, List.map_cons]
      have f12 : fr Spk c (sI (sI c 10 1 (nI (s.2.1 + v / 2 ^ i % 2 * 2 ^ s.2.2))) 10 2 (nI (s.2.2 + 1))) := (fr.sI (by simp)).tr (fr.sI (by simp))
      have r12 := h1.fr (S := [10]) (c1 := sI (sI c 10 1 (nI (s.2.1 + v / 2 ^ i % 2 * 2 ^ s.2.2))) 10 2 (nI (s.2.2 + 1))) ((fr.sI (by simp)).tr (fr.sI (by simp))) (by decide) (by decide)
      by_cases e : s.2.2 + 1 = 8
      · have hlt : s.2.1 + v / 2 ^ i % 2 * 2 ^ s.2.2 < 256 := by
          have a1 := h4.2
          have e7 : s.2.2 = 7 := by omega
          rw [e7] at a1 ⊢
          omega
        rw [e, if_pos (show nI 8 = 8 from rfl)]
        rw [e] at r12 f12
        obtain ⟨c3, e3, r3, f3⟩ := f_add (nI (s.2.1 + v / 2 ^ i % 2 * 2 ^ s.2.2)) r12 (by rw [ln4]; simp; omega)
        rw [e3, bnd_some, b8_nI' hlt] at *
        have f5 : fr [10] c3 (sI (sI c3 10 1 0) 10 2 0) := (fr.sI (by simp)).tr (fr.sI (by simp))
        have eq : psh s (v / 2 ^ i % 2) = (s.1 ++ [s.2.1 + v / 2 ^ i % 2 * 2 ^ s.2.2], 0, 0) := by unfold psh; rw [if_pos e]
        have p5 : pkC (sI (sI c3 10 1 0) 10 2 0) t (psh s (v / 2 ^ i % 2)) := by
          refine ⟨?_, ?_, ?_, ok⟩
          · rw [eq]
            have := r3.fr f5 (by decide) (by decide)
            rwa [List.append_assoc] at this
          · rw [eq, sI_j (by decide), sI_s]; rfl
          · rw [eq, sI_s]; rfl
        obtain ⟨c6, e6, r6, f6, d6⟩ := ih n' (i + 1) _ _ (by omega) (by omega) p5 (by rw [eq]; simp; omega)
        refine ⟨c6, ?_, r6, (f12.tr ((f3.mono (fun o ho => by simp at ho ⊢; omega)).tr (f5.mono (fun o ho => by simp at ho ⊢; omega)))).tr f6, ?_⟩
        · exact e6
        · rw [d6, sI_j (by decide), sI_j (by decide), f3.i (by decide), sI_j (by decide), sI_j (by decide)]
      · have h7 : s.2.2 + 1 < 8 := by have := h4.1; omega
        rw [if_neg (show ¬ nI (s.2.2 + 1) = 8 from fun q => e ((nI_eq (by omega) (show 8 < 2 ^ 31 by decide)).mp q))]
        have eq : psh s (v / 2 ^ i % 2) = (s.1, s.2.1 + v / 2 ^ i % 2 * 2 ^ s.2.2, s.2.2 + 1) := by unfold psh; rw [if_neg e]
        have p2 : pkC (sI (sI c 10 1 (nI (s.2.1 + v / 2 ^ i % 2 * 2 ^ s.2.2))) 10 2 (nI (s.2.2 + 1))) t (psh s (v / 2 ^ i % 2)) := by
          refine ⟨?_, ?_, ?_, ok⟩
          · rw [eq]; exact r12
          · rw [eq, sI_j (by decide), sI_s]
          · rw [eq, sI_s]
        obtain ⟨c6, e6, r6, f6, d6⟩ := ih n' (i + 1) _ _ (by omega) (by omega) p2 (by rw [eq]; simp only; omega)
        refine ⟨c6, e6, r6, f12.tr f6, ?_⟩
        rw [d6, sI_j (by decide), sI_j (by decide)]
  have := key n N 0 c s (by omega) (by omega) h hl
  rw [bLE, List.range_eq_range']
  exact this
theorem PB.code {N : Nat} {c : hS} {t : List Nat} {s : Pk} {x m : Int32} {v n : Nat} (hN : 1000000 ≤ N) (h : pkC c t s) (hl : t.length + s.1.length + n ≤ 20000) (hx : x = nI v) (hv : v < 2 ^ 31) (hn : n ≤ 16) (hm : m = nI n) : PB (f_X8_addCode N c x m) c t s (bBE v n) := by
  subst hx
  subst hm
  unfold f_X8_addCode
  have key : ∀ d n' c s, d ≤ n → d < n' → pkC c t s → t.length + s.1.length + d ≤ 20000 → PB (f_X8_addCode_4 N (nI v) (nI n) n' c (nI d - 1)) c t s (bBE v d) := by
    intro d
    induction d with
    | zero =>
      intro n' c s _ hn' h hl
      obtain ⟨n', rfl⟩ : ∃ k, n' = k + 1 := ⟨n' - 1, by omega⟩
      rw [f_X8_addCode_4, if_pos (by decide)]
      exact PB.end_ h
    | succ d ih =>
      intro n' c s hd hn' h hl
      obtain ⟨n', rfl⟩ : ∃ k, n' = k + 1 := ⟨n' - 1, by omega⟩
      rw [nI_pred, f_X8_addCode_4, if_neg (nI_pos (by omega)), shr_nI hv (by omega), show bBE v (d + 1) = [v / 2 ^ d % 2] ++ bBE v d by simp [bBE, List.range_succ]]
      have b1 := PB.bits (v := v / 2 ^ d) (n := 1) (m := 1) hN h (by omega) rfl (Nat.lt_of_le_of_lt (Nat.div_le_self _ _) hv) (by decide) rfl
      rw [show bLE (v / 2 ^ d) 1 = [v / 2 ^ d % 2] by simp [bLE, List.range_succ]] at b1
      refine PB.bnd_ b1 (fun c1 r1 f1 _ => ?_)
      rw [show nI d + -1 = nI d - 1 from (Int32.sub_eq_add_neg _ _).symm]
      have hlen := psL_len (s := s) (bs := [v / 2 ^ d % 2]) h.2.2.2.1
      have h8 := h.2.2.2.1
      refine ih n' c1 _ (by omega) (by omega) r1 ?_
      simp only [List.length_cons, List.length_nil] at hlen
      omega
  exact key n N c s (by omega) (by omega) h hl
