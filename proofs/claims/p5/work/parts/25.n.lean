/-! PURE: the reference: codes -/
noncomputable def fc (lens : List Nat) : Nat → Nat
  | 0 => 0
  | 1 => 0
  | l + 2 => 2 * (fc lens (l + 1) + cnt lens (l + 1))
theorem fc_s {lens : List Nat} {l : Nat} (h : 1 ≤ l) : fc lens (l + 1) = 2 * (fc lens l + cnt lens l) := by
  obtain ⟨l, rfl⟩ : ∃ k, l = k + 1 := ⟨l - 1, by omega⟩
  rfl
noncomputable def cod (lens : List Nat) (i : Nat) : Nat := fc lens (gt lens i) + cntN lens (gt lens i) i
theorem cnt_le (lens : List Nat) (l : Nat) : cnt lens l ≤ lens.length := cntN_le _ _ _
theorem fc_le (lens : List Nat) : ∀ l, fc lens (l + 1) + 3 * lens.length ≤ 3 * lens.length * 2 ^ (l + 1)
  | 0 => by show 0 + _ ≤ _; rw [show (2 : Nat) ^ (0 + 1) = 2 from rfl]; omega
  | l + 1 => by
    have h1 := fc_le lens l
    have h2 := cnt_le lens (l + 1)
    rw [fc_s (by omega), show 3 * lens.length * 2 ^ (l + 1 + 1) = 2 * (3 * lens.length * 2 ^ (l + 1)) by rw [Nat.pow_succ 2 (l + 1)]; rw [Nat.mul_comm (2 ^ (l + 1)) 2]; rw [Nat.mul_left_comm]]
    omega
theorem fc_lt {lens : List Nat} {l : Nat} (h : lens.length ≤ 320) (hl : l < 16) : fc lens l ≤ 3 * 320 * 2 ^ 15 := by
  cases l with
  | zero => exact Nat.zero_le _
  | succ l =>
    have h1 := fc_le lens l
    have h2 : 2 ^ (l + 1) ≤ 2 ^ 15 := Nat.pow_le_pow_right (by decide) (by omega)
    have h3 : 3 * lens.length * 2 ^ (l + 1) ≤ 3 * 320 * 2 ^ 15 := Nat.mul_le_mul (by omega) h2
    omega
/-- the reference's row of lengths, from base on -/
noncomputable def mln (c : hS) (base : Nat) (lens : List Nat) : Prop := base + lens.length ≤ 360 ∧ ∀ i, i < lens.length → c.1 212 (base + i) = nI (gt lens i) ∧ gt lens i < 16
/-- and of codes -/
noncomputable def mcd (c : hS) (base : Nat) (lens : List Nat) : Prop := mln c base lens ∧ ∀ i, i < lens.length → 0 < gt lens i → c.1 213 (base + i) = nI (cod lens i)
theorem m_layCodes {N base : Nat} {c : hS} {lens : List Nat} {p1 p2 : Int32} (hN : 1000000 ≤ N) (h : mln c base lens) (h1 : p1 = nI base) (h2 : p2 = nI lens.length) : ∃ c', f_X12_layCodes N c p1 p2 = some ((), c') ∧ mcd c' base lens ∧ fm (fun o j => o = 213 ∧ base ≤ j ∧ j < base + lens.length) c c' := by
  subst h1 h2
  have hb := h.1
  have inn : ∀ d m l i c (k5 : hS → Int32 → Int32 → Option (Unit × hS)), i + d = lens.length → d < m → l < 16 → mln c base lens → ∃ c', f_X12_layCodes_19 N (nI base) (nI lens.length) k5 m c (nI (fc lens l + cntN lens l i)) (nI l) (nI (base + i)) = k5 c' (nI (fc lens l + cnt lens l)) (nI l + 1) ∧ (∀ k, i ≤ k → k < lens.length → gt lens k = l → c'.1 213 (base + k) = nI (cod lens k)) ∧ fm (fun o j => o = 213 ∧ base + i ≤ j ∧ j < base + lens.length ∧ gt lens (j - base) = l) c c' := by
    intro d
    induction d with
    | zero =>
      intro m l i c k5 hi hm hl hc
      obtain ⟨m, rfl⟩ : ∃ k, m = k + 1 := ⟨m - 1, by omega⟩
      have : i = lens.length := by omega
      subst this
      rw [f_X12_layCodes_19, nI_add, if_pos (nI_le (Nat.le_refl _) (by omega))]
      exact ⟨c, rfl, fun k a b => by omega, fm.rf⟩
    | succ d ih =>
      intro m l i c k5 hi hm hl hc
      obtain ⟨m, rfl⟩ : ∃ k, m = k + 1 := ⟨m - 1, by omega⟩
      have hv := hc.2 i (by omega)
      rw [f_X12_layCodes_19, nI_add, if_neg (nI_ge (by omega) (by omega)), j_in_nI (show base + i < ln 212 from (by show base + i < 360; omega)) (by decide), cond_true, nI_clamp (by omega), hv.1]
      have cs := cntN_s lens l i
      by_cases q : gt lens i = l
      · rw [if_pos q] at cs
        rw [if_pos (by rw [q]), j_in_nI (show base + i < ln 213 from (by show base + i < 360; omega)) (by decide), cond_true, nI_1, nI_1]
        dsimp only [st1]
        have f1 : fm (fun o j => o = 213 ∧ base + i ≤ j ∧ j < base + lens.length ∧ gt lens (j - base) = l) c (sI c 213 (base + i) (nI (fc lens l + cntN lens l i))) := fm.sI ⟨rfl, by omega, by omega, by rw [Nat.add_sub_cancel_left]; exact q⟩
        obtain ⟨c', w1, w2, w3⟩ := ih m l (i + 1) _ k5 (by omega) (by omega) hl ⟨hc.1, fun k hk => ⟨(f1.1 _ _ (by omega)).trans (hc.2 k hk).1, (hc.2 k hk).2⟩⟩
        rw [cs, ← Nat.add_assoc] at w1
        refine ⟨c', w1, fun k a b e => ?_, f1.tr (w3.mono (fun o j z => ⟨z.1, by omega, z.2.2⟩))⟩
        by_cases ek : k = i
        · rw [ek, w3.1 _ _ (by omega), sI_s]
          unfold cod
          rw [q]
        · exact w2 k (by omega) b e
      · rw [if_neg q, Nat.add_zero] at cs
        rw [if_neg (fun z => q ((nI_eq (by omega) (by omega)).mp z)), nI_1]
        obtain ⟨c', w1, w2, w3⟩ := ih m l (i + 1) c k5 (by omega) (by omega) hl hc
        rw [cs] at w1
        refine ⟨c', w1, fun k a b e => ?_, w3.mono (fun o j z => ⟨z.1, by omega, z.2.2⟩)⟩
        by_cases ek : k = i
        · rw [ek] at e; exact absurd e q
        · exact w2 k (by omega) b e
  have out : ∀ d m l c x, l + d = 16 → 1 ≤ l → d < m → mln c base lens → (2 : Int32) * x = nI (fc lens l) → (∀ k, k < lens.length → 0 < gt lens k → gt lens k < l → c.1 213 (base + k) = nI (cod lens k)) → ∃ c', f_X12_layCodes_5 N (nI base) (nI lens.length) m c x (nI l) = some ((), c') ∧ mcd c' base lens ∧ fm (fun o j => o = 213 ∧ base ≤ j ∧ j < base + lens.length) c c' := by
    intro d
    induction d with
    | zero =>
      intro m l c x hl h1 hm hc hx hk
      obtain ⟨m, rfl⟩ : ∃ k, m = k + 1 := ⟨m - 1, by omega⟩
      rw [f_X12_layCodes_5, if_pos (show (16 : Int32) ≤ nI l from nI_le (a := 16) (by omega) (by omega))]
      exact ⟨c, rfl, ⟨hc, fun i hi h0 => hk i hi h0 (by have := (hc.2 i hi).2; omega)⟩, fm.rf⟩
    | succ d ih =>
      intro m l c x hl h1 hm hc hx hk
      obtain ⟨m, rfl⟩ : ∃ k, m = k + 1 := ⟨m - 1, by omega⟩
      rw [f_X12_layCodes_5, if_neg (show ¬ (16 : Int32) ≤ nI l from nI_ge (b := 16) (by omega) (by decide)), hx]
      obtain ⟨c1, w1, w2, w3⟩ := inn lens.length N l 0 c (f_X12_layCodes_5 N (nI base) (nI lens.length) m) (by omega) (by omega) (by omega) hc
      have w1' : f_X12_layCodes_19 N (nI base) (nI lens.length) (f_X12_layCodes_5 N (nI base) (nI lens.length) m) N c (nI (fc lens l)) (nI l) (nI base) = _ := w1
      rw [w1', nI_1]
      obtain ⟨c', r1, r2, r3⟩ := ih m (l + 1) c1 _ (by omega) (by omega) (by omega) ⟨hc.1, fun k hk => ⟨(w3.1 _ _ (by omega)).trans (hc.2 k hk).1, (hc.2 k hk).2⟩⟩ (by rw [fc_s h1, show (2 : Int32) = nI 2 from rfl, nI_mul]) (fun k hkl h0 hlt => by
        by_cases e : gt lens k = l
        · exact w2 k (Nat.zero_le _) hkl e
        · rw [w3.1 _ _ (fun z => by have z4 := z.2.2.2; rw [Nat.add_sub_cancel_left] at z4; exact e z4)]
          exact hk k hkl h0 (by omega))
      exact ⟨c', r1, r2, (w3.mono (fun o j z => ⟨z.1, by omega, z.2.2.1⟩)).tr r3⟩
  unfold f_X12_layCodes
  exact out 15 N 1 c 0 (by omega) (by omega) (by omega) h rfl (fun k hk a b => by omega)
theorem fxS_gt {i : Nat} (h : i < 288) : gt fxS i = fxL i := by
  rw [gt_lt (by rw [fxS_len]; exact h)]
  simp [fxS]
theorem fxD_gt {i : Nat} (h : i < 32) : gt fxD i = 5 := (by decide : ∀ i, i < 32 → gt fxD i = 5) i h
theorem m_layFixed {N : Nat} {c : hS} (hN : 1000000 ≤ N) : ∃ c', f_X12_layFixed N c = some ((), c') ∧ mcd c' 0 fxS ∧ mcd c' 300 fxD ∧ fm (fun o j => o = 212 ∨ o = 213) c c' := by
  have k2 : ∀ d n i c, i + d = 288 → d < n → (∀ k, k < i → c.1 212 k = nI (fxL k)) → ∃ c', f_X12_layFixed_2 N n c (nI i) = f_X12_layFixed_61 N N c' 0 ∧ (∀ k, k < 288 → c'.1 212 k = nI (fxL k)) ∧ fm (fun o j => o = 212) c c' := by
    intro d
    induction d with
    | zero =>
      intro n i c hi hn hk
      obtain ⟨n, rfl⟩ : ∃ k, n = k + 1 := ⟨n - 1, by omega⟩
      rw [f_X12_layFixed_2, if_pos (show (288 : Int32) ≤ nI i from nI_le (a := 288) (by omega) (by omega))]
      exact ⟨c, rfl, fun k a => hk k (by omega), fm.rf⟩
    | succ d ih =>
      intro n i c hi hn hk
      obtain ⟨n, rfl⟩ : ∃ k, n = k + 1 := ⟨n - 1, by omega⟩
      have ex : f_X12_layFixed_2 N (n + 1) c (nI i) = f_X12_layFixed_2 N n (sI c 212 i (nI (fxL i))) (nI (i + 1)) := by
        have jn := j_in_nI (show i < ln 212 from (by show i < 360; omega)) (by decide : ln 212 < 2 ^ 31)
        have nc := nI_clamp (show i < 2 ^ 31 by omega)
        rw [f_X12_layFixed_2, if_neg (show ¬ (288 : Int32) ≤ nI i from nI_ge (b := 288) (by omega) (by decide)), jn, cond_true, cond_true, cond_true, nc, nI_1]
        dsimp only [st1]
        unfold fxL
        by_cases a1 : i < 144
        · rw [if_neg (show ¬ (144 : Int32) ≤ nI i from nI_ge (b := 144) a1 (by decide)), if_pos a1]; rfl
        · rw [if_pos (show (144 : Int32) ≤ nI i from nI_le (a := 144) (by omega) (by omega)), if_neg a1]
          by_cases a2 : i < 256
          · rw [if_neg (show ¬ (256 : Int32) ≤ nI i from nI_ge (b := 256) a2 (by decide)), if_pos a2]; rfl
          · rw [if_pos (show (256 : Int32) ≤ nI i from nI_le (a := 256) (by omega) (by omega)), if_neg a2]
            by_cases a3 : i < 280
            · rw [if_neg (show ¬ (280 : Int32) ≤ nI i from nI_ge (b := 280) a3 (by decide)), if_pos a3]; rfl
            · rw [if_pos (show (280 : Int32) ≤ nI i from nI_le (a := 280) (by omega) (by omega)), if_neg a3]; rfl
      obtain ⟨c', w1, w2, w3⟩ := ih n (i + 1) (sI c 212 i (nI (fxL i))) (by omega) (by omega) (fun k hk' => by
        by_cases e : k = i
        · rw [e, sI_s]
        · rw [sI_j e]; exact hk k (by omega))
      exact ⟨c', by rw [ex, w1], w2, (fm.sI (P := fun o j => o = 212) rfl).tr w3⟩
  have k61 : ∀ d n i c, i + d = 32 → d < n → (∀ k, k < i → c.1 212 (300 + k) = 5) → ∃ c', f_X12_layFixed_61 N n c (nI i) = (bnd (f_X12_layCodes N c' 0 288) fun _ c1 => bnd (f_X12_layCodes N c1 300 32) fun _ c2 => some ((), c2)) ∧ (∀ k, k < 32 → c'.1 212 (300 + k) = 5) ∧ fm (fun o j => o = 212 ∧ 300 ≤ j) c c' := by
    intro d
    induction d with
    | zero =>
      intro n i c hi hn hk
      obtain ⟨n, rfl⟩ : ∃ k, n = k + 1 := ⟨n - 1, by omega⟩
      rw [f_X12_layFixed_61, if_pos (show (32 : Int32) ≤ nI i from nI_le (a := 32) (by omega) (by omega))]
      exact ⟨c, rfl, fun k a => hk k (by omega), fm.rf⟩
    | succ d ih =>
      intro n i c hi hn hk
      obtain ⟨n, rfl⟩ : ∃ k, n = k + 1 := ⟨n - 1, by omega⟩
      obtain ⟨c', w1, w2, w3⟩ := ih n (i + 1) (sI c 212 (300 + i) 5) (by omega) (by omega) (fun k hk' => by
        by_cases e : k = i
        · rw [e, sI_s]
        · rw [sI_j (by omega)]; exact hk k (by omega))
      refine ⟨c', ?_, w2, (fm.sI (by omega)).tr w3⟩
      rw [f_X12_layFixed_61, if_neg (show ¬ (32 : Int32) ≤ nI i from nI_ge (b := 32) (by omega) (by decide)), show (300 : Int32) + nI i = nI (300 + i) from nI_add 300 i, j_in_nI (show 300 + i < ln 212 from (by show 300 + i < 360; omega)) (by decide), cond_true, nI_clamp (by omega), nI_1]
      exact w1
  unfold f_X12_layFixed
  obtain ⟨c1, a1, a2, a3⟩ := k2 288 N 0 c (by omega) (by omega) (fun k hk => by omega)
  obtain ⟨c2, b1, b2, b3⟩ := k61 32 N 0 c1 (by omega) (by omega) (fun k hk => by omega)
  have a1' : f_X12_layFixed_2 N N c 0 = _ := a1
  have b1' : f_X12_layFixed_61 N N c1 0 = _ := b1
  have l9 : ∀ s, fxL s < 16 := fun s => by have := fxL_le s; omega
  have m1 : mln c2 0 fxS := ⟨by rw [fxS_len]; decide, fun i hi => by
    rw [fxS_len] at hi
    rw [fxS_gt hi, Nat.zero_add, b3.1 _ _ (by omega)]
    exact ⟨a2 i hi, l9 i⟩⟩
  obtain ⟨c3, d1, d2, d3⟩ := m_layCodes (p1 := 0) (p2 := 288) hN m1 rfl (by rw [fxS_len]; rfl)
  have m2 : mln c3 300 fxD := ⟨by show 300 + 32 ≤ 360; decide, fun i hi => by
    have hi : i < 32 := hi
    rw [fxD_gt hi, d3.1 _ _ (by omega)]
    exact ⟨b2 i hi, by decide⟩⟩
  obtain ⟨c4, e1, e2, e3⟩ := m_layCodes (p1 := 300) (p2 := 32) hN m2 rfl rfl
  refine ⟨c4, by rw [a1', b1', d1, bnd_some, e1, bnd_some], ⟨⟨d2.1.1, fun i hi => ⟨(e3.1 _ _ (by omega)).trans (d2.1.2 i hi).1, (d2.1.2 i hi).2⟩⟩, fun i hi h0 => (e3.1 _ _ (by rw [fxS_len] at hi; omega)).trans (d2.2 i hi h0)⟩, e2, ?_⟩
  exact (((a3.mono (fun o j z => by omega)).tr (b3.mono (fun o j z => by omega))).tr (d3.mono (fun o j z => by omega))).tr (e3.mono (fun o j z => by omega))
theorem fx_code : ∀ s, s < 288 → cod fxS s = fxC s := by decide +kernel
theorem fx_dist : ∀ s, s < 32 → cod fxD s = s := by decide +kernel
