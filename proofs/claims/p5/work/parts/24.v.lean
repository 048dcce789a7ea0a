/-! PURE: the lengths that a block tells -/
noncomputable def repB (s : Nat) : Nat := if s < 16 then 0 else if s = 16 then 2 else if s = 17 then 3 else 7
noncomputable def repL (s : Nat) : Nat := if s < 16 then 1 else if s = 18 then 11 else 3
noncomputable def repV (row : List Nat) (s : Nat) : Nat := if s < 16 then s else if s = 16 then gt row (row.length - 1) else 0
noncomputable def rep (t : List Nat) (e all : Nat) (row : List Nat) (s b : Nat) : Option (List Nat × Nat) := if s = 16 ∧ row.length = 0 then none else if b + repB s ≤ e then (if row.length + (repL s + bv t b (repB s)) ≤ all then some (row ++ List.replicate (repL s + bv t b (repB s)) (repV row s), b + repB s) else none) else none
noncomputable def rws (t : List Nat) (e : Nat) (cl : List Nat) (all : Nat) : Nat → Nat → List Nat → Option (List Nat × Nat)
  | 0, _, _ => none
  | f + 1, b, row => if all ≤ row.length then some (row, b) else match dec t e cl b with
    | none => none
    | some p => match rep t e all row p.1 p.2 with
      | none => none
      | some q => rws t e cl all f q.2 q.1
theorem rep_ext {t : List Nat} {e all : Nat} {row row' : List Nat} {s b b' : Nat} (h : rep t e all row s b = some (row', b')) : ∃ r, row' = row ++ r ∧ 1 ≤ r.length ∧ row'.length ≤ all ∧ b ≤ b' ∧ b' ≤ e := by
  unfold rep at h
  split at h
  · cases h
  · split at h
    · split at h
      · rename_i q1 q2 q3
        cases h
        refine ⟨_, rfl, ?_, by simp only [List.length_append, List.length_replicate]; omega, by omega, q2⟩
        rw [List.length_replicate]
        unfold repL
        split
        · omega
        · split <;> omega
      · cases h
    · cases h
theorem rws_ext {t : List Nat} {e : Nat} {cl : List Nat} {all : Nat} : ∀ {f b : Nat} {row row' : List Nat} {b' : Nat}, row.length ≤ all → rws t e cl all f b row = some (row', b') → ∃ r, row' = row ++ r ∧ row'.length = all
  | 0, b, row, row', b', _, h => by simp [rws] at h
  | f + 1, b, row, row', b', hl, h => by
    unfold rws at h
    split at h
    · cases h
      exact ⟨[], by simp, by omega⟩
    · split at h
      · cases h
      · rename_i p hp
        split at h
        · cases h
        · rename_i q hq
          obtain ⟨q1, q2⟩ := q
          obtain ⟨r, r1, r2, r3, r4⟩ := rep_ext hq
          obtain ⟨r', w1, w2⟩ := rws_ext r3 h
          exact ⟨r ++ r', by rw [w1, r1, List.append_assoc], w2⟩
noncomputable def arR (c : hS) (row : List Nat) : Prop := (∀ i, i < row.length → c.1 32 i = nI (gt row i) ∧ gt row i < 16) ∧ c.1 11 15 = nI row.length ∧ row.length ≤ 316
theorem f_isRepeated {N : Nat} {c : hS} {t row : List Nat} {b e all s : Nat} (hN : 1000000 ≤ N) (h : unB c t b e) (ha : arR c row) (h14 : c.1 11 14 = nI all) (hall : all ≤ 316) (hs : s < 19) : ∃ c', f_X10_isRepeated N c (nI s) = some (bI (rep t e all row s b).isSome, c') ∧ fr [9, 11, 32] c c' ∧ (∀ k, k ≠ 9 → k ≠ 15 → c'.1 11 k = c.1 11 k) ∧ (∀ row' b', rep t e all row s b = some (row', b') → arR c' row' ∧ unB c' t b' e) := by
  have he := h.e
  have hrl := ha.2.2
  have no9 : ∀ {X : Option (Int32 × hS)} {c1 : hS} {r : Option (List Nat × Nat)}, r = none → (∃ c', X = some (0, c') ∧ fr [9] c1 c') → fr [9, 11, 32] c c1 → (∀ k, k ≠ 9 → k ≠ 15 → c1.1 11 k = c.1 11 k) → ∃ c', X = some (bI r.isSome, c') ∧ fr [9, 11, 32] c c' ∧ (∀ k, k ≠ 9 → k ≠ 15 → c'.1 11 k = c.1 11 k) ∧ (∀ row' b', r = some (row', b') → arR c' row' ∧ unB c' t b' e) := by
    intro X c1 r hr ⟨c', e1, f1⟩ f0 s0
    subst hr
    exact ⟨c', e1, f0.tr (f1.mono (fun o ho => by simp at ho ⊢; omega)), fun k a1 a2 => (f1.i (by decide) k).trans (s0 k a1 a2), fun _ _ z => by cases z⟩
  have tl : ∀ (c1 : hS) (a p : Int32), ∃ c', (bnd (f_X6_tell c1 a p) fun x c2 => bif j_b x then some (x, c2) else none) = some (0, c') ∧ fr [9] c1 c' := by
    intro c1 a p
    obtain ⟨c', a1, a2, _⟩ := RB.tellb (c := c1) (a := a) (p := p)
    exact ⟨c', a1, a2⟩
  have s113 : ∀ v k le : Nat, v < 16 → k ≤ 7 → le ≤ 11 → ∃ c', f_X10_isRepeated_113 N (nI s) c (nI v) (nI k) (nI le) = some (bI (if b + k ≤ e then (if row.length + (le + bv t b k) ≤ all then some (row ++ List.replicate (le + bv t b k) v, b + k) else none) else none).isSome, c') ∧ fr [9, 11, 32] c c' ∧ (∀ k, k ≠ 9 → k ≠ 15 → c'.1 11 k = c.1 11 k) ∧ (∀ row' b', (if b + k ≤ e then (if row.length + (le + bv t b k) ≤ all then some (row ++ List.replicate (le + bv t b k) v, b + k) else none) else none) = some (row', b') → arR c' row' ∧ unB c' t b' e) := by
    intro v k le hv hk hle
    have v1 := bv_lt t b k
    have v2 : 2 ^ k ≤ 2 ^ 7 := Nat.pow_le_pow_right (by decide) hk
    unfold f_X10_isRepeated_113
    by_cases q1 : b + k ≤ e
    · rw [f_takeBits hN h q1 (by omega), bnd_some, if_neg (show ¬ nI (bv t b k) = -1 from fun z => by have := nI_pos (n := bv t b k) (by omega); rw [z] at this; exact this (by decide)), if_pos q1, sI_j (show (15 : Nat) ≠ 9 by decide), sI_j (show (14 : Nat) ≠ 9 by decide), ha.2.1, h14, nI_add, nI_add, Nat.add_assoc]
      by_cases q2 : row.length + (le + bv t b k) ≤ all
      · rw [if_pos (nI_le q2 (by omega)), if_pos q2]
        obtain ⟨c3, e3, f3, g3⟩ := f_fillLengths (c := sI c 11 9 (nI (b + k))) (a := row.length) (b := row.length + (le + bv t b k)) (v := v) hN (by omega) (by omega)
        rw [e3, bnd_some]
        dsimp only [st1]
        refine ⟨_, rfl, ?_, fun k a1 a2 => ?_, fun row' b' z => ?_⟩
        · exact (fr.sI (by simp)).tr ((f3.mono (fun o ho => by simp at ho ⊢; omega)).tr (fr.sI (by simp)))
        · rw [sI_j a2, f3.i (by decide), sI_j a1]
        · cases z
          refine ⟨⟨fun i hi => ?_, ?_, by simp only [List.length_append, List.length_replicate]; omega⟩, ?_⟩
          · rw [sI_o (by decide), g3 i]
            simp only [List.length_append, List.length_replicate] at hi
            by_cases w : i < row.length
            · rw [if_neg (by omega), sI_o (by decide), gt_app_l w]
              exact ha.1 i w
            · rw [if_pos (by omega), gt_app_r (by omega), gt_rep, if_pos (by omega)]
              exact ⟨rfl, hv⟩
          · rw [sI_s, List.length_append, List.length_replicate]
          · have u := (h.mv (b' := b + k) q1).fr f3 (by decide) (by decide) (by decide)
            exact ⟨u.1.fr (S := [11]) (fr.sI (by simp)) (by decide) (by decide), by rw [sI_j (by decide)]; exact u.2.1, by rw [sI_j (by decide)]; exact u.2.2.1, u.2.2.2.1, u.2.2.2.2⟩
      · rw [if_neg (nI_ge (by omega) (by omega)), if_neg q2]
        exact no9 rfl (tl _ _ _) (fr.sI (by simp)) (fun k a1 a2 => by rw [sI_j a1])
    · obtain ⟨c', a1, a2⟩ := f_takeBits_no (N := N) (n := k) h (by omega) (by omega)
      rw [a1, bnd_some, if_pos rfl, if_neg q1]
      exact no9 rfl ⟨c', rfl, a2⟩ fr.rf (fun _ _ _ => rfl)
  unfold f_X10_isRepeated rep
  by_cases c16 : s = 16
  · subst c16
    rw [if_pos (show nI 16 = 16 from rfl), ha.2.1]
    by_cases q0 : row.length = 0
    · rw [q0, if_pos nI_0, if_pos ⟨rfl, rfl⟩]
      exact no9 rfl (tl _ _ _) fr.rf (fun _ _ _ => rfl)
    · rw [if_neg (nI_ne0 (by omega) (by omega)), if_neg (fun z => q0 z.2)]
      unfold f_X10_isRepeated_27
      have gl := ha.1 (row.length - 1) (by omega)
      rw [if_pos (by decide), if_pos (show nI 16 = 16 from rfl), ha.2.1, show nI row.length - 1 = nI (row.length - 1) from subI (b := 1) (by omega)]
      unfold f_X10_lengthAt
      rw [if_neg (nI_pos (by omega)), show Int32.ofNat (ln 32) = nI 320 from rfl, if_neg (nI_ge (by omega) (by decide)), j_in_nI (show row.length - 1 < ln 32 from (by show row.length - 1 < 320; omega)) (by decide), cond_true, nI_clamp (by omega), gl.1, bnd_some]
      unfold f_X10_isRepeated_57
      rw [if_pos (by decide), if_pos (show nI 16 = 16 from rfl)]
      unfold f_X10_isRepeated_90
      rw [if_pos (by decide), if_neg (show ¬ nI 16 = 18 by decide)]
      exact s113 _ 2 3 gl.2 (by decide) (by decide)
  · rw [if_neg (show ¬ nI s = 16 from fun z => c16 ((nI_eq (by omega) (show 16 < 2 ^ 31 by decide)).mp z)), if_neg (fun z => c16 z.1)]
    unfold f_X10_isRepeated_27
    by_cases q1 : s < 16
    · rw [if_neg (show ¬ (16 : Int32) ≤ nI s from nI_ge (b := 16) q1 (by decide))]
      unfold f_X10_isRepeated_57
      rw [if_neg (show ¬ (16 : Int32) ≤ nI s from nI_ge (b := 16) q1 (by decide))]
      unfold f_X10_isRepeated_90
      rw [if_neg (show ¬ (16 : Int32) ≤ nI s from nI_ge (b := 16) q1 (by decide))]
      have := s113 s 0 1 q1 (by decide) (by decide)
      unfold repB repL repV
      simp only [if_pos q1]
      exact this
    · rw [if_pos (show (16 : Int32) ≤ nI s from nI_le (a := 16) (by omega) (by omega)), if_neg (show ¬ nI s = 16 from fun z => c16 ((nI_eq (by omega) (show 16 < 2 ^ 31 by decide)).mp z))]
      unfold f_X10_isRepeated_57
      rw [if_pos (show (16 : Int32) ≤ nI s from nI_le (a := 16) (by omega) (by omega)), if_neg (show ¬ nI s = 16 from fun z => c16 ((nI_eq (by omega) (show 16 < 2 ^ 31 by decide)).mp z))]
      unfold f_X10_isRepeated_90
      by_cases q2 : s = 17
      · subst q2
        rw [if_pos (show nI 17 = 17 from rfl), if_pos (by decide), if_neg (by decide)]
        exact s113 0 3 3 (by decide) (by decide) (by decide)
      · have : s = 18 := by omega
        subst this
        rw [if_neg (by decide), if_pos (by decide), if_pos (show nI 18 = 18 from rfl)]
        exact s113 0 7 11 (by decide) (by decide) (by decide)
/-- may these lengths of symbols go on -/
noncomputable def slB (row : List Nat) (bef H : Nat) : Bool := if bef ≤ 256 ∧ 256 < row.length ∧ gt row 256 = 0 then false else if bef < H ∧ H ≤ row.length then decide (ful (row.take H) 15 = 32768) else true
theorem f_areSymbolLengths {N : Nat} {c : hS} {row : List Nat} {bef H : Nat} (hN : 1000000 ≤ N) (ha : arR c row) (h13 : c.1 11 13 = nI H) (hH : H ≤ 286) (hb : bef ≤ 316) : ∃ c', f_X10_areSymbolLengths N c (nI bef) = some (bI (slB row bef H), c') ∧ fr [20, 21, 22, 23] c c' ∧ (bef < H ∧ H ≤ row.length → slB row bef H = true → cdC c' 20 (row.take H)) ∧ (H ≤ bef → c' = c) := by
  have hrl := ha.2.2
  have a29 : ∀ {bb : Bool}, bb = (if bef < H ∧ H ≤ row.length then decide (ful (row.take H) 15 = 32768) else true) → ∃ c', f_X10_areSymbolLengths_29 N (nI bef) c = some (bI bb, c') ∧ fr [20, 21, 22, 23] c c' ∧ (bef < H ∧ H ≤ row.length → bb = true → cdC c' 20 (row.take H)) ∧ (H ≤ bef → c' = c) := by
    intro bb hbb
    unfold f_X10_areSymbolLengths_29
    rw [h13, ha.2.1]
    by_cases q1 : H ≤ bef
    · rw [if_pos (nI_le q1 (by omega))]
      rw [if_neg (by omega)] at hbb
      subst hbb
      exact ⟨c, rfl, fr.rf, fun z => by omega, fun _ => rfl⟩
    · rw [if_neg (nI_ge (by omega) (by omega))]
      by_cases q2 : H ≤ row.length
      · rw [if_pos (nI_le q2 (by omega))]
        rw [if_pos ⟨by omega, q2⟩] at hbb
        have tl : (row.take H).length = H := by rw [List.length_take]; omega
        obtain ⟨c1, e1, d1, f1⟩ := f_order (d := 20) (a := 0) (lens := row.take H) hN (Or.inr (Or.inr (Or.inl rfl))) ⟨by omega, fun i hi => by rw [tl] at hi; rw [Nat.zero_add, gt_take hi]; exact ha.1 i (by omega)⟩ (by rw [tl]; show H ≤ 288; omega)
        rw [tl] at e1
        rw [show (0 : Int32) = nI 0 from rfl, e1, bnd_some, f_areComplete hN (Or.inr (Or.inr (Or.inl rfl))) d1 (by omega), bnd_some, ← hbb]
        cases bb <;> exact ⟨c1, rfl, f1, fun _ _ => d1, fun z => by omega⟩
      · rw [if_neg (nI_ge (by omega) (by omega))]
        rw [if_neg (by omega)] at hbb
        subst hbb
        exact ⟨c, rfl, fr.rf, fun z => by omega, fun _ => rfl⟩
  unfold f_X10_areSymbolLengths slB
  by_cases q1 : bef ≤ 256
  · rw [if_neg (show ¬ (256 : Int32) < nI bef from nI_nlt (a := 256) q1 (by decide)), ha.2.1]
    by_cases q2 : 256 < row.length
    · rw [if_neg (show ¬ nI row.length ≤ 256 from nI_ge (a := 256) q2 (by omega))]
      have g := ha.1 256 q2
      unfold f_X10_lengthAt
      rw [if_neg (by decide), show Int32.ofNat (ln 32) = nI 320 from rfl, if_neg (show ¬ nI 320 ≤ 256 by decide), show j_in 256 (ln 32) = true from rfl, cond_true, show (256 : Int32).toNatClampNeg = 256 from rfl, g.1, bnd_some]
      by_cases q3 : gt row 256 = 0
      · rw [q3, if_pos nI_0, if_pos ⟨q1, q2, rfl⟩]
        exact ⟨c, rfl, fr.rf, fun _ z => (by cases z), fun _ => rfl⟩
      · rw [if_neg (nI_ne0 (by omega) (by omega)), if_neg (fun z => q3 z.2.2)]
        exact a29 rfl
    · rw [if_pos (show nI row.length ≤ 256 from nI_le (b := 256) (by omega) (by decide)), if_neg (fun z => q2 z.2.1)]
      exact a29 rfl
  · rw [if_pos (show (256 : Int32) < nI bef from nI_lt (a := 256) (by omega) (by omega)), if_neg (fun z => q1 z.1)]
    exact a29 rfl
/-- distances: complete, none, or one of a single bit -/
noncomputable def dsB (l : List Nat) : Bool := decide (ful l 15 = 32768) || (decide (off l 16 = 0) || (decide (off l 16 = 1) && decide (mxN l 15 = 1)))
noncomputable def okR (H : Nat) (row : List Nat) : Bool := decide (gt row 256 ≠ 0) && (decide (ful (row.take H) 15 = 32768) && dsB (row.drop H))
noncomputable def dyR (t : List Nat) (e : Nat) (cl : List Nat) (H all f b : Nat) (row : List Nat) : Option (List Nat × Nat) := match rws t e cl all f b row with
  | none => none
  | some q => if okR H q.1 = true then some q else none
theorem f_areLengths {N : Nat} {c : hS} {t cl : List Nat} {b e H K : Nat} (hN : 1000000 ≤ N) (h : unB c t b e) (h13 : c.1 11 13 = nI H) (h14 : c.1 11 14 = nI (H + K)) (hcl : cdC c 28 cl) (hcll : cl.length = 19) (hH1 : 257 ≤ H) (hH : H ≤ 286) (hK1 : 1 ≤ K) (hK : K ≤ 30) : ∃ c', f_X10_areLengths N c = some (bI (dyR t e cl H (H + K) 320 b []).isSome, c') ∧ fr Sun c c' ∧ (∀ row b', dyR t e cl H (H + K) 320 b [] = some (row, b') → cdC c' 20 (row.take H) ∧ cdC c' 24 (row.drop H) ∧ unB c' t b' e ∧ row.length = H + K ∧ (∀ k, k ≠ 9 → k ≠ 15 → c'.1 11 k = c.1 11 k)) := by
  have key : ∀ f n v b c row, H + K < row.length + f → f < n → v ≤ row.length → row.length ≤ H + K → unB c t b e → arR c row → c.1 11 13 = nI H → c.1 11 14 = nI (H + K) → cdC c 28 cl → (256 < row.length → gt row 256 ≠ 0) → (H ≤ row.length → cdC c 20 (row.take H) ∧ ful (row.take H) 15 = 32768) → ∃ c', f_X10_areLengths_7 N n c (nI v) = some (bI (dyR t e cl H (H + K) f b row).isSome, c') ∧ fr Sun c c' ∧ (∀ row' b', dyR t e cl H (H + K) f b row = some (row', b') → cdC c' 20 (row'.take H) ∧ cdC c' 24 (row'.drop H) ∧ unB c' t b' e ∧ row'.length = H + K ∧ (∀ k, k ≠ 9 → k ≠ 15 → c'.1 11 k = c.1 11 k)) := by
    intro f
    induction f with
    | zero => intro n v b c row h1 _ _ h2; omega
    | succ f ih =>
      intro n v b c row hf hn hv hrl h ha h13 h14 hcl h256 hsy
      obtain ⟨n, rfl⟩ : ∃ m, n = m + 1 := ⟨n - 1, by omega⟩
      rw [f_X10_areLengths_7, show Int32.ofNat (ln 32) = nI 320 from rfl, if_neg (nI_ge (by omega) (by decide)), h14, ha.2.1]
      unfold dyR rws
      by_cases q1 : H + K ≤ row.length
      · rw [if_pos (nI_le q1 (by omega)), if_pos q1]
        dsimp only
        obtain ⟨hs20, hful⟩ := hsy (by omega)
        have dl : (row.drop H).length = K := by rw [List.length_drop]; omega
        unfold f_X10_areLengths_88
        rw [h13, h14, subI (by omega), show H + K - H = K by omega]
        obtain ⟨c1, e1, d1, f1⟩ := f_order (c := c) (d := 24) (a := H) (lens := row.drop H) hN (Or.inr (Or.inr (Or.inr (Or.inl rfl)))) ⟨by omega, fun i hi => by rw [dl] at hi; rw [gt_drop]; exact ha.1 (H + i) (by omega)⟩ (by rw [dl]; show K ≤ 32; omega)
        rw [dl] at e1
        have f1' : fr Sun c c1 := Sun_of f1 (by decide)
        have s20 := hs20.fr f1 (by decide) (by decide) (by decide)
        have u1 := h.fr f1 (by decide) (by decide) (by decide)
        have sl : ∀ k, k ≠ 9 → k ≠ 15 → c1.1 11 k = c.1 11 k := fun k _ _ => f1.i (by decide) k
        have okq : okR H row = dsB (row.drop H) := by
          unfold okR
          rw [decide_eq_true (h256 (by omega)), decide_eq_true hful, Bool.true_and, Bool.true_and]
        rw [e1, bnd_some, f_areComplete hN (Or.inr (Or.inr (Or.inr (Or.inl rfl)))) d1 (by omega), bnd_some, okq]
        have good : dsB (row.drop H) = true → ∃ c', some ((1 : Int32), c1) = some (bI (if dsB (row.drop H) = true then some (row, b) else none).isSome, c') ∧ fr Sun c c' ∧ (∀ row' b', (if dsB (row.drop H) = true then some (row, b) else none) = some (row', b') → cdC c' 20 (row'.take H) ∧ cdC c' 24 (row'.drop H) ∧ unB c' t b' e ∧ row'.length = H + K ∧ (∀ k, k ≠ 9 → k ≠ 15 → c'.1 11 k = c.1 11 k)) := by
          intro hg
          rw [if_pos hg]
          exact ⟨c1, rfl, f1', fun row' b' z => by cases z; exact ⟨s20, d1, u1, by omega, sl⟩⟩
        by_cases q2 : ful (row.drop H) 15 = 32768
        · rw [decide_eq_true q2, if_neg (by decide)]
          exact good (by unfold dsB; rw [decide_eq_true q2]; rfl)
        · rw [decide_eq_false q2, if_pos (show bI false = 0 from rfl), f_noneOrOne d1 (by omega), bnd_some]
          cases q3 : (decide (off (row.drop H) 16 = 0) || (decide (off (row.drop H) 16 = 1) && decide (mxN (row.drop H) 15 = 1))) with
          | true =>
            rw [if_neg (by decide)]
            exact good (by unfold dsB; rw [q3, Bool.or_true])
          | false =>
            rw [if_pos (show bI false = 0 from rfl)]
            have hb : dsB (row.drop H) = false := by unfold dsB; rw [decide_eq_false q2, q3]; rfl
            obtain ⟨c', a1, a2, _⟩ := RB.last_ (RB.tell (c := c1) (a := 24) (p := c1.1 11 12))
            rw [hb, if_neg (by decide)]
            exact ⟨c', a1, f1'.tr (Sun_of a2 (by decide)), fun _ _ z => by cases z⟩
      · rw [if_neg (nI_ge (by omega) (by omega)), if_neg q1]
        obtain ⟨c2, e2, f2, g2⟩ := f_takeSymbol (p := c.1 11 12) hN h (Or.inr (Or.inr (Or.inr (Or.inr rfl)))) hcl (by omega)
        have f2' : fr Sun c c2 := Sun_of f2 (by decide)
        rw [e2, bnd_some]
        cases hd : dec t e cl b with
        | none =>
          rw [show sym1 none = -1 from rfl, if_pos rfl]
          exact ⟨c2, rfl, f2', fun _ _ z => by cases z⟩
        | some p =>
          obtain ⟨p1, p2⟩ := p
          have dl := dec_lt hd
          have ec2 := g2 p1 p2 hd
          subst ec2
          have u2 := h.mv (b' := p2) dl.2.2
          have ha2 : arR (sI c 11 9 (nI p2)) row := ⟨fun i hi => by rw [sI_o (by decide)]; exact ha.1 i hi, by rw [sI_j (by decide)]; exact ha.2.1, ha.2.2⟩
          have hcl2 := hcl.fr (S := [11]) (c1 := sI c 11 9 (nI p2)) (fr.sI (by simp)) (by decide) (by decide) (by decide)
          have hs20' : H ≤ row.length → cdC (sI c 11 9 (nI p2)) 20 (row.take H) := fun z => (hsy z).1.fr (S := [11]) (fr.sI (by simp)) (by decide) (by decide) (by decide)
          obtain ⟨c4, e4, f4, s4, g4⟩ := f_isRepeated (s := p1) (all := H + K) hN u2 ha2 (by rw [sI_j (by decide)]; exact h14) (by omega) (by omega)
          have f4' : fr Sun c c4 := f2'.tr (Sun_of f4 (by decide))
          rw [show sym1 (some (p1, p2)) = nI p1 from rfl, if_neg (show ¬ nI p1 = -1 from fun z => by have := nI_pos (n := p1) (by omega); rw [z] at this; exact this (by decide)), e4, bnd_some]
          dsimp only
          cases hr : rep t e (H + K) row p1 p2 with
          | none =>
            rw [if_pos (show bI (none : Option (List Nat × Nat)).isSome = 0 from rfl)]
            exact ⟨c4, rfl, f4', fun _ _ z => by cases z⟩
          | some q =>
            obtain ⟨row', b'⟩ := q
            obtain ⟨ha4, u4⟩ := g4 row' b' hr
            obtain ⟨r, x1, x2, x3, x4, x5⟩ := rep_ext hr
            have h134 : c4.1 11 13 = nI H := by rw [s4 13 (by decide) (by decide), sI_j (by decide)]; exact h13
            have h144 : c4.1 11 14 = nI (H + K) := by rw [s4 14 (by decide) (by decide), sI_j (by decide)]; exact h14
            have hcl4 := hcl2.fr f4 (by decide) (by decide) (by decide)
            have rl' : row'.length = row.length + r.length := by rw [x1, List.length_append]
            rw [if_neg (show ¬ bI (some (row', b')).isSome = 0 from (by decide : ¬ bI true = 0))]
            obtain ⟨c6, e6, f6, g6, k6⟩ := f_areSymbolLengths (bef := row.length) (H := H) hN ha4 h134 hH (by omega)
            have f6' : fr Sun c c6 := f4'.tr (Sun_of f6 (by decide))
            rw [e6, bnd_some]
            cases hsl : slB row' row.length H with
            | false =>
              rw [if_pos (show bI false = 0 from rfl)]
              obtain ⟨c8, a1, a2, _⟩ := RB.tellb (c := c6) (a := 24) (p := c6.1 11 12)
              -- what is told then has the same lengths
              have non : dyR t e cl H (H + K) f b' row' = none := by
                unfold dyR
                cases hw : rws t e cl (H + K) f b' row' with
                | none => rfl
                | some q =>
                  obtain ⟨row'', b''⟩ := q
                  obtain ⟨r', y1, y2⟩ := rws_ext x3 hw
                  dsimp only
                  rw [if_neg]
                  intro hok
                  unfold okR at hok
                  simp only [Bool.and_eq_true, decide_eq_true_eq] at hok
                  obtain ⟨o1, o2, o3⟩ := hok
                  unfold slB at hsl
                  split at hsl
                  · rename_i z
                    rw [y1, gt_app_l z.2.1] at o1
                    exact o1 z.2.2
                  · split at hsl
                    · rename_i z
                      rw [y1, List.take_append_of_le_length z.2] at o2
                      exact (of_decide_eq_false hsl) o2
                    · cases hsl
              have non2 : (match rws t e cl (H + K) f b' row' with | none => none | some q => if okR H q.1 = true then some q else none) = none := non
              rw [non2]
              exact ⟨c8, a1, f6'.tr (Sun_of a2 (by decide)), fun _ _ z => by cases z⟩
            | true =>
              rw [if_neg (by decide), nI_1]
              have sl6 : ∀ k, c6.1 11 k = c4.1 11 k := fun k => f6.i (by decide) k
              have ha6 : arR c6 row' := ⟨fun i hi => by rw [f6.i (by decide)]; exact ha4.1 i hi, (sl6 15).trans ha4.2.1, ha4.2.2⟩
              have hA : 256 < row'.length → gt row' 256 ≠ 0 := by
                intro w
                by_cases w0 : 256 < row.length
                · rw [x1, gt_app_l w0]; exact h256 w0
                · intro w1
                  unfold slB at hsl
                  rw [if_pos ⟨by omega, w, w1⟩] at hsl
                  cases hsl
              have hB : H ≤ row'.length → cdC c6 20 (row'.take H) ∧ ful (row'.take H) 15 = 32768 := by
                intro w
                by_cases w0 : H ≤ row.length
                · have e20 : row'.take H = row.take H := by rw [x1, List.take_append_of_le_length w0]
                  rw [e20, k6 w0]
                  exact ⟨(hs20' w0).fr f4 (by decide) (by decide) (by decide), (hsy w0).2⟩
                · refine ⟨g6 ⟨by omega, w⟩ hsl, ?_⟩
                  unfold slB at hsl
                  split at hsl
                  · cases hsl
                  · rw [if_pos ⟨by omega, w⟩] at hsl
                    exact of_decide_eq_true hsl
              obtain ⟨c9, z1, z2, z3⟩ := ih n (v + 1) b' c6 row' (by omega) (by omega) (by omega) x3 (u4.fr f6 (by decide) (by decide) (by decide)) ha6 ((sl6 13).trans h134) ((sl6 14).trans h144) (hcl4.fr f6 (by decide) (by decide) (by decide)) hA hB
              refine ⟨c9, z1, f6'.tr z2, fun row'' b'' w => ?_⟩
              obtain ⟨w1, w2, w3, w4, w5⟩ := z3 row'' b'' w
              refine ⟨w1, w2, w3, w4, fun k k1 k2 => ?_⟩
              rw [w5 k k1 k2, sl6 k, s4 k k1 k2, sI_j k1]
  unfold f_X10_areLengths
  dsimp only [st1]
  have u1 : unB (sI c 11 15 0) t b e := ⟨h.1.fr (S := [11]) (fr.sI (by simp)) (by decide) (by decide), by rw [sI_j (by decide)]; exact h.2.1, by rw [sI_j (by decide)]; exact h.2.2.1, h.2.2.2.1, h.2.2.2.2⟩
  obtain ⟨c', e1, f1, g1⟩ := key 320 N 0 b (sI c 11 15 0) [] (by simp; omega) (by omega) (by simp) (by simp) u1 ⟨fun i hi => by simp at hi, sI_s _ _ _ _, by simp⟩ (by rw [sI_j (by decide)]; exact h13) (by rw [sI_j (by decide)]; exact h14) (hcl.fr (S := [11]) (fr.sI (by simp)) (by decide) (by decide) (by decide)) (fun w => by simp at w) (fun w => by simp at w; omega)
  refine ⟨c', e1, fr11.tr f1, fun row b' w => ?_⟩
  obtain ⟨w1, w2, w3, w4, w5⟩ := g1 row b' w
  exact ⟨w1, w2, w3, w4, fun k k1 k2 => by rw [w5 k k1 k2, sI_j k2]⟩
