/-! PURE: the reference: kind 1 read -/
theorem lshr_lN {n k : Nat} (hn : n < 2 ^ 63) (hk : k < 64) : j_lshr (lN n) (nI k) = lN (n / 2 ^ k) := by
  unfold j_lshr
  rw [wb_c k hk]
  apply wb_inj
  rw [Int64.toBitVec_shiftRight, wb_tb, wb_tb, wb_tb, wb_sm k hk]
  show (BitVec.ofNat 64 n).sshiftRight (BitVec.ofNat 64 k).toNat = _
  rw [BitVec.toNat_ofNat, Nat.mod_eq_of_lt (show k < 2 ^ 64 by omega), BitVec.sshiftRight_eq_of_msb_false]
  · apply BitVec.eq_of_toNat_eq
    rw [BitVec.toNat_ushiftRight, BitVec.toNat_ofNat, BitVec.toNat_ofNat, Nat.shiftRight_eq_div_pow, Nat.mod_eq_of_lt (by omega), Nat.mod_eq_of_lt (Nat.lt_of_le_of_lt (Nat.div_le_self _ _) (by omega))]
  · rw [BitVec.msb_eq_false_iff_two_mul_lt, BitVec.toNat_ofNat]
    omega
theorem sort_eq {v : Nat} (hv : v < 2 ^ 63) : ((j_lshr (lN v) 12) &&& 15).toInt32 = nI (v / 4096 % 16) := by
  rw [show (12 : Int32) = nI 12 from rfl, lshr_lN hv (by decide), show (15 : Int64) = lN (2 ^ 4 - 1) from rfl, wb_mask (Nat.lt_of_le_of_lt (Nat.div_le_self _ _) (by omega)) (by decide), lN_i]
theorem m_inL {c : hS} {v a b : Nat} {x a' b' : Int64} (hx : x = lN v) (ha : a' = lN a) (hb : b' = lN b) (hv : v < 2 ^ 62) (ha2 : a < 2 ^ 62) (hb2 : b < 2 ^ 62) : f_X12_in c x a' b' = some (bI (decide (a ≤ v) && decide (v ≤ b)), c) := by
  subst hx ha hb
  unfold f_X12_in
  by_cases q : a ≤ v
  · rw [if_neg (by rw [cmp_lt (by omega) (by omega)]; omega), decide_eq_true q, Bool.true_and]
    by_cases w : v ≤ b
    · rw [if_neg (by rw [Int32.not_lt, cmp_le (by omega) (by omega)]; exact w), decide_eq_true w]; rfl
    · rw [if_pos (by rw [← Int32.not_le, cmp_le (by omega) (by omega)]; exact w), decide_eq_false w]; rfl
  · rw [if_pos (by rw [cmp_lt (by omega) (by omega)]; omega), decide_eq_false q]; rfl
theorem m_digitOf {c : hS} {x : Nat} (hx : x < 256) : f_X12_digitOf c (nI x) = some (hxI x, c) := by
  unfold f_X12_digitOf
  rw [m_inN (a := 48) (b := 57) (by omega) (by decide) (by decide) (by decide) (by decide), bnd_some]
  unfold hxI hxD
  by_cases q : 48 ≤ x ∧ x ≤ 57
  · rw [decide_eq_true q.1, decide_eq_true q.2, if_neg (by decide), if_pos q, if_neg (by omega), show (48 : Int32) = nI 48 from rfl, subI (by omega)]
  · have e1 : (decide (48 ≤ x) && decide (x ≤ 57)) = false := by rw [← Bool.decide_and]; exact decide_eq_false q
    rw [e1, if_pos (show bI false = 0 from rfl), if_neg q, m_inN (a := 97) (b := 102) (by omega) (by decide) (by decide) (by decide) (by decide), bnd_some]
    by_cases q2 : 97 ≤ x ∧ x ≤ 102
    · rw [decide_eq_true q2.1, decide_eq_true q2.2, if_neg (by decide), if_pos q2, if_neg (by omega), show (87 : Int32) = nI 87 from rfl, subI (by omega)]
    · have e2 : (decide (97 ≤ x) && decide (x ≤ 102)) = false := by rw [← Bool.decide_and]; exact decide_eq_false q2
      rw [e2, if_pos (show bI false = 0 from rfl), if_neg q2, m_inN (a := 65) (b := 70) (by omega) (by decide) (by decide) (by decide) (by decide), bnd_some]
      by_cases q3 : 65 ≤ x ∧ x ≤ 70
      · rw [decide_eq_true q3.1, decide_eq_true q3.2, if_neg (by decide), if_pos q3, if_neg (by omega), show (55 : Int32) = nI 55 from rfl, subI (by omega)]
      · have e3 : (decide (65 ≤ x) && decide (x ≤ 70)) = false := by rw [← Bool.decide_and]; exact decide_eq_false q3
        rw [e3, if_pos (show bI false = 0 from rfl), if_neg q3, if_pos rfl]
theorem m_hexAt {N p : Nat} {c : hS} {t : List Nat} {x : Int32} (hN : 1000000 ≤ N) (h : mrw c 4 203 t) (hp : p + 8 ≤ t.length) (hx : x = nI p) (hd : ∀ i, p ≤ i → i < p + 8 → hxD (gt t i) ≠ 99) : f_X12_hexAt N c x = some (lN (hex8 t p), c) := by
  subst hx
  have ht : t.length ≤ 20000 := h.1
  have key : ∀ d n k v, k + d = 8 → d < n → v < 16 ^ k → f_X12_hexAt_5 N (nI p) n c (lN v) (nI k) = some (lN (hexV t (p + k) d v), c) := by
    intro d
    induction d with
    | zero =>
      intro n k v hk hn hv
      obtain ⟨n, rfl⟩ : ∃ m, n = m + 1 := ⟨n - 1, by omega⟩
      rw [f_X12_hexAt_5, if_pos (show (8 : Int32) ≤ nI k from nI_le (a := 8) (by omega) (by omega))]
      rfl
    | succ d ih =>
      intro n k v hk hn hv
      obtain ⟨n, rfl⟩ : ∃ m, n = m + 1 := ⟨n - 1, by omega⟩
      obtain ⟨a1, a2⟩ := tp_at h (show p + k < t.length by omega)
      have hd1 := hd (p + k) (by omega) (by omega)
      have hl := hxD_lt (gt t (p + k))
      have e1 : hxI (gt t (p + k)) = nI (hx4 (gt t (p + k))) := by unfold hxI hx4; rw [if_neg hd1, if_neg hd1]
      have hm := hx4_lt (gt t (p + k))
      rw [f_X12_hexAt_5, if_neg (show ¬ (8 : Int32) ≤ nI k from nI_ge (b := 8) (by omega) (by decide)), nI_add, a1, cond_true, a2, m_digitOf (h.2.2.2.gt _), bnd_some, e1, nI_l (by omega), show (16 : Int64) = lN 16 from rfl, lN_mul, lN_add, nI_1]
      have := ih n (k + 1) (v * 16 + hx4 (gt t (p + k))) (by omega) (by omega) (by rw [Nat.pow_succ]; omega)
      rw [Nat.mul_comm 16]
      exact this
  unfold f_X12_hexAt
  exact key 8 N 0 0 (by omega) (by omega) (by decide)
noncomputable def RQ (o i : Nat) : Prop := (o = 201 ∧ (i = 5 ∨ i = 6 ∨ i = 8 ∨ i = 14 ∨ i = 16 ∨ i = 18 ∨ 23 ≤ i)) ∨ (209 ≤ o ∧ o < 219) ∨ rg 17 o i
theorem RQ_F {o i : Nat} (h : FQ o i) : RQ o i := by unfold FQ at h; unfold RQ; omega
theorem RQ_C {o i : Nat} (h : CF o i) : RQ o i := by
  rcases h with q | q | q
  · exact RQ_F q
  · unfold RQ; omega
  · exact Or.inr (Or.inr q)
theorem m_dhead {N p : Nat} {c : hS} {t : List Nat} {ms : List Mb} (hN : 1000000 ≤ N) (h : RS c t ms) (hp : p ≤ t.length) : ∃ c', f_X12_readDigitsHead N c (nI p) = some (bI (decide (p + 110 ≤ t.length) && (h1B t p && spB t p)), c') ∧ fm RQ c c' ∧ ((decide (p + 110 ≤ t.length) && (h1B t p && spB t p)) = true → mrw c' 14 209 (nm1 t p) ∧ fm (fun o i => (o = 201 ∧ i = 14) ∨ o = 209) c c') := by
  have ht : t.length ≤ 20000 := h.1.1
  have lift : ∀ {X : Option (Int32 × hS)}, MT X c false → ∃ c', X = some (0, c') ∧ fm RQ c c' := fun ⟨c', a, b, _⟩ => ⟨c', a, b.mono (fun o i z => RQ_F z)⟩
  have bad : ∀ {X : Option (Int32 × hS)} {b : Bool}, b = false → (∃ c', X = some (0, c') ∧ fm RQ c c') → ∃ c', X = some (bI b, c') ∧ fm RQ c c' ∧ (b = true → mrw c' 14 209 (nm1 t p) ∧ fm (fun o i => (o = 201 ∧ i = 14) ∨ o = 209) c c') := by
    intro X b hb ⟨c', a1, a2⟩
    subst hb
    exact ⟨c', a1, a2, fun z => by cases z⟩
  unfold f_X12_readDigitsHead
  obtain ⟨c1, e1, f1, g1⟩ := m_reaches (x := (nI p + 110).toInt64) (k := p + 110) h.1 (by rw [show nI p + 110 = nI (p + 110) from nI_add p 110, nI_l (by omega)]) (by omega)
  rw [e1, bnd_some]
  by_cases q1 : p + 110 ≤ t.length
  · rw [decide_eq_true q1] at g1 ⊢
    rw [g1 rfl, if_neg (by decide), Bool.true_and]
    -- the 104 digits, and behind them
    have k80 : hexB t (p + 6) 104 = true → ∃ c', f_X12_readDigitsHead_80 N (nI p) (0 + 1) c (nI 110) = some (bI (spB t p), c') ∧ fm RQ c c' ∧ (spB t p = true → mrw c' 14 209 (nm1 t p) ∧ fm (fun o i => (o = 201 ∧ i = 14) ∨ o = 209) c c') := by
      intro hx
      have hd : ∀ i, p + 6 ≤ i → i < p + 110 → hxD (gt t i) ≠ 99 := fun i a b => by
        unfold hexB at hx
        rw [List.all_eq_true] at hx
        exact of_decide_eq_true (hx i (by rw [List.mem_range'_1]; omega))
      have hv := hex8_lt t (p + 94)
      rw [f_X12_readDigitsHead_80, if_pos (by decide), show nI p + 94 = nI (p + 94) from nI_add p 94, m_hexAt hN h.1 (by omega) rfl (fun i a b => hd i (by omega) (by omega)), bnd_some, m_inL (x := lN (hex8 t (p + 94))) (a' := 1) (b' := 100) (v := hex8 t (p + 94)) (a := 1) (b := 100) rfl rfl rfl (by omega) (by decide) (by decide), bnd_some]
      unfold spB nm1
      obtain ⟨n, en⟩ : ∃ n, n = hex8 t (p + 94) := ⟨_, rfl⟩
      rw [← en] at hv ⊢
      by_cases w : 1 ≤ n ∧ n ≤ 100
      · rw [decide_eq_true w.1, decide_eq_true w.2, if_neg (by decide), Bool.true_and, Bool.true_and]
        obtain ⟨c2, e2, f2, g2⟩ := m_reaches (x := (nI p + 110).toInt64 + lN n) (k := p + 110 + n) h.1 (by rw [show nI p + 110 = nI (p + 110) from nI_add p 110, nI_l (by omega), lN_add]) (by omega)
        rw [e2, bnd_some]
        by_cases q2 : p + 110 + n ≤ t.length
        · rw [decide_eq_true q2] at g2 ⊢
          rw [g2 rfl, if_neg (by decide), Bool.true_and, lN_i, show nI n - 1 = nI (n - 1) from subI (b := 1) w.1]
          dsimp only [st1]
          have f3 : fm (fun o i => o = 201 ∧ i = 14) c (sI c 201 14 (nI (n - 1))) := fm.sI ⟨rfl, rfl⟩
          have r3 : mrw (sI c 201 14 (nI (n - 1))) 4 203 t := h.1.fm f3 (by omega) (fun i => by omega)
          obtain ⟨a1, a2⟩ := tp_at r3 (show p + 110 + (n - 1) < t.length by omega)
          rw [sI_s, show nI p + 110 + nI (n - 1) = nI (p + 110 + (n - 1)) from by rw [show nI p + 110 = nI (p + 110) from nI_add p 110, nI_add], a1, cond_true, a2, show p + 110 + n - 1 = p + 110 + (n - 1) by omega]
          by_cases q3 : gt t (p + 110 + (n - 1)) = 0
          · rw [if_pos (show nI (gt t (p + 110 + (n - 1))) = 0 by rw [q3]; rfl), decide_eq_true q3]
            obtain ⟨c4, e4, i4, w4, f4⟩ := cp_loop (F := f_X12_readDigitsHead_207 N (nI p)) (X := fun c => some (1, c)) (o := 209) (o' := 203) (a := p + 110) (b := 0) (len := n - 1) (fun c => c.1 201 14 = nI (n - 1)) (fun c i x q => by rw [sI_o (by decide)]; exact q) (fun m c i hi q => by
              rw [f_X12_readDigitsHead_207, q, if_neg (nI_ge hi (by omega)), show nI p + 110 + nI i = nI (p + 110 + i) from by rw [show nI p + 110 = nI (p + 110) from nI_add p 110, nI_add], j_in_nI (show p + 110 + i < ln 203 from (by show p + 110 + i < 20000; omega)) (by decide), cond_true, j_in_nI (show i < ln 209 from (by show i < 300; omega)) (by decide), cond_true, nI_clamp (by omega), nI_clamp (by omega), Nat.zero_add]
              rfl) (fun m c q => by rw [f_X12_readDigitsHead_207, q, if_pos (nI_le (Nat.le_refl _) (by omega))]) (by omega) (n - 1) N (sI c 201 14 (nI (n - 1))) 0 (by omega) (by omega) (sI_s _ _ _ _)
            have fa : fm (fun o i => (o = 201 ∧ i = 14) ∨ o = 209) c c4 := (f3.mono (fun o i z => Or.inl z)).tr (f4.mono (fun o i z => Or.inr z.1))
            refine ⟨c4, e4, fa.mono (fun o i z => by unfold RQ; omega), fun _ => ⟨?_, fa⟩⟩
            exact mrw.cp (c := sI c 201 14 (nI (n - 1))) (c' := c4) (j := 14) (o := 209) (o' := 203) (a := p + 110) (len := n - 1) (l := t) (by omega) r3.2.2.1 w4 i4 (show n - 1 ≤ 300 by omega) h.1.2.2.2
          · rw [if_neg (show ¬ nI (gt t (p + 110 + (n - 1))) = 0 from fun z => q3 ((gt_eq (v := 0) h.1.2.2.2 (by decide)).mp z)), decide_eq_false q3]
            obtain ⟨c5, e5, f5⟩ := b_fail (c := sI c 201 14 (nI (n - 1))) (a := 10) (p := nI (p + 110 + (n - 1))) (P := RQ) (fun i z => by unfold RQ; omega)
            exact ⟨c5, e5, (f3.mono (fun o i z => by unfold RQ; omega)).tr f5, fun z => by cases z⟩
        · rw [decide_eq_false q2, if_pos (show bI false = 0 from rfl), Bool.false_and]
          exact ⟨c2, rfl, f2.mono (fun o i z => RQ_F z), fun z => by cases z⟩
      · have ew : (decide (1 ≤ n) && decide (n ≤ 100)) = false := by rw [← Bool.decide_and]; exact decide_eq_false w
        have ew2 : (decide (1 ≤ n) && (decide (n ≤ 100) && (decide (p + 110 + n ≤ t.length) && decide (gt t (p + 110 + n - 1) = 0)))) = false := by rw [← Bool.and_assoc, ew]; rfl
        rw [ew, if_pos (show bI false = 0 from rfl), ew2]
        obtain ⟨c5, e5, f5⟩ := lift (MT.fail (c := c) (a := 10) (p := nI (p + 94)))
        exact ⟨c5, e5, f5, fun z => by cases z⟩
    have m80 : ∀ d n k, k + d = 110 → d < n → (∀ i, p + 6 ≤ i → i < p + k → hxD (gt t i) ≠ 99) → 6 ≤ k → ∃ c', f_X12_readDigitsHead_80 N (nI p) n c (nI k) = some (bI (hexB t (p + 6) 104 && spB t p), c') ∧ fm RQ c c' ∧ ((hexB t (p + 6) 104 && spB t p) = true → mrw c' 14 209 (nm1 t p) ∧ fm (fun o i => (o = 201 ∧ i = 14) ∨ o = 209) c c') := by
      intro d
      induction d with
      | zero =>
        intro n k hk hn hd hk6
        obtain ⟨n, rfl⟩ : ∃ m, n = m + 1 := ⟨n - 1, by omega⟩
        have : k = 110 := by omega
        subst this
        have hx : hexB t (p + 6) 104 = true := by
          unfold hexB
          rw [List.all_eq_true]
          intro i hi
          rw [List.mem_range'_1] at hi
          exact decide_eq_true (hd i (by omega) (by omega))
        rw [hx, Bool.true_and]
        have := k80 hx
        rw [f_X12_readDigitsHead_80, if_pos (show (110 : Int32) ≤ nI 110 by decide)] at this ⊢
        exact this
      | succ d ih =>
        intro n k hk hn hd hk6
        obtain ⟨n, rfl⟩ : ∃ m, n = m + 1 := ⟨n - 1, by omega⟩
        obtain ⟨a1, a2⟩ := tp_at h.1 (show p + k < t.length by omega)
        have hl := hxD_lt (gt t (p + k))
        rw [f_X12_readDigitsHead_80, if_neg (show ¬ (110 : Int32) ≤ nI k from nI_ge (b := 110) (by omega) (by decide)), nI_add, a1, cond_true, a2, m_digitOf (h.1.2.2.2.gt _), bnd_some]
        unfold hxI
        by_cases q : hxD (gt t (p + k)) = 99
        · have hx : hexB t (p + 6) 104 = false := by
            cases z : hexB t (p + 6) 104 with
            | false => rfl
            | true =>
              unfold hexB at z
              rw [List.all_eq_true] at z
              exact absurd q (of_decide_eq_true (z (p + k) (by rw [List.mem_range'_1]; omega)))
          rw [if_pos q, if_neg (by decide)]
          exact bad (by rw [hx]; rfl) (lift MT.fail)
        · rw [if_neg q, if_pos (nI_pos'' (by omega)), nI_1]
          exact ih n (k + 1) (by omega) (by omega) (fun i a b => by
            by_cases w : i = p + k
            · rw [w]; exact q
            · exact hd i a (by omega)) (by omega)
    have ex : ∀ n k, k < 6 → f_X12_readDigitsHead_16 N (nI p) (n + 1) c (nI k) = f_X12_readDigitsHead_49 N (nI p) (f_X12_readDigitsHead_16 N (nI p) n) c (nI k) (nI (gt mk1 k)) := by
      intro n k hk
      have : k = 0 ∨ k = 1 ∨ k = 2 ∨ k = 3 ∨ k = 4 ∨ k = 5 := by omega
      rcases this with rfl | rfl | rfl | rfl | rfl | rfl <;> rfl
    have m16 : ∀ d n k, k + d = 6 → d < n → (∀ i, i < k → gt t (p + i) = gt mk1 i) → ∃ c', f_X12_readDigitsHead_16 N (nI p) n c (nI k) = some (bI (h1B t p && spB t p), c') ∧ fm RQ c c' ∧ ((h1B t p && spB t p) = true → mrw c' 14 209 (nm1 t p) ∧ fm (fun o i => (o = 201 ∧ i = 14) ∨ o = 209) c c') := by
      intro d
      induction d with
      | zero =>
        intro n k hk hn hd
        obtain ⟨n, rfl⟩ : ∃ m, n = m + 1 := ⟨n - 1, by omega⟩
        have : k = 6 := by omega
        subst this
        have hm : mkB t p mk1 = true := by
          unfold mkB
          rw [List.all_eq_true]
          intro i hi
          rw [List.mem_range'_1] at hi
          exact decide_eq_true (hd i (by have : mk1.length = 6 := rfl; omega))
        have e1 : h1B t p = hexB t (p + 6) 104 := by unfold h1B; rw [hm, Bool.true_and]
        rw [e1, f_X12_readDigitsHead_16, if_pos (show (6 : Int32) ≤ nI 6 by decide)]
        exact m80 104 N 6 (by omega) (by omega) (fun i a b => by omega) (by omega)
      | succ d ih =>
        intro n k hk hn hd
        obtain ⟨n, rfl⟩ : ∃ m, n = m + 1 := ⟨n - 1, by omega⟩
        obtain ⟨a1, a2⟩ := tp_at h.1 (show p + k < t.length by omega)
        have mb : gt mk1 k < 256 := (by decide : ∀ k, k < 6 → gt mk1 k < 256) k (by omega)
        rw [ex n k (by omega)]
        unfold f_X12_readDigitsHead_49
        rw [nI_add, a1, cond_true, a2]
        by_cases q : gt t (p + k) = gt mk1 k
        · rw [if_pos (by rw [q]), nI_1]
          exact ih n (k + 1) (by omega) (by omega) (fun i a => by
            by_cases w : i = k
            · rw [w]; exact q
            · exact hd i (by omega))
        · have hm : mkB t p mk1 = false := by
            cases z : mkB t p mk1 with
            | false => rfl
            | true =>
              unfold mkB at z
              rw [List.all_eq_true] at z
              exact absurd (of_decide_eq_true (z k (by rw [List.mem_range'_1]; have : mk1.length = 6 := rfl; omega))) q
          rw [if_neg (fun z => q ((gt_eq h.1.2.2.2 mb).mp z))]
          exact bad (by unfold h1B; rw [hm]; rfl) (lift MT.fail)
    exact m16 6 N 0 (by omega) (by omega) (fun i a => by omega)
  · rw [decide_eq_false q1, if_pos (show bI false = 0 from rfl), Bool.false_and]
    exact ⟨c1, rfl, f1.mono (fun o i z => RQ_F z), fun z => by cases z⟩
theorem m_isTrailer {N : Nat} {c : hS} {nm : List Nat} (hN : 1000000 ≤ N) (hn : mrw c 14 209 nm) : f_X12_isTrailer N c = some (bI (decide (nm = trl)), c) := by
  have hl : nm.length ≤ 300 := hn.1
  unfold f_X12_isTrailer
  rw [hn.2.1]
  have z : ∀ n k, k ≤ 10 → f_X12_isTrailer_17 N (n + 1) c 0 (nI k) = some (0, c) := fun n k hk => by
    rw [f_X12_isTrailer_17]
    by_cases q : (10 : Int32) ≤ nI k
    · rw [if_pos q]; rfl
    · rw [if_neg q, if_pos rfl]; rfl
  by_cases e : nm.length = 10
  · rw [if_pos (show nI nm.length = 10 by rw [e]; rfl)]
    have key := same_loop (F := f_X12_isTrailer_17 N) (c := c) (j := 10) (P := fun k => decide (gt nm k = gt trl k)) (fun n k hk => by
      have tb : gt trl k < 256 := (by decide : ∀ k, k < 10 → gt trl k < 256) k hk
      rw [f_X12_isTrailer_17, if_neg (show ¬ (10 : Int32) ≤ nI k from nI_ge (b := 10) hk (by decide)), if_neg (by decide), j_in_nI (show k < ln 209 from (by show k < 300; omega)) (by decide), cond_true, trl_at k hk, bnd_some, nI_clamp (by omega), hn.2.2.1 k (by omega)]
      by_cases q : gt nm k = gt trl k
      · rw [if_pos (by rw [q]), decide_eq_true q]; rfl
      · rw [if_neg (fun z => q ((gt_eq hn.2.2.2 tb).mp z)), decide_eq_false q]; rfl) (fun n => by rw [f_X12_isTrailer_17, if_pos (by decide)]; rfl) z 10 N 0 true (by omega) (by omega)
    refine key.trans ?_
    congr 2
    congr 1
    rw [Bool.true_and]
    apply bool_eq
    rw [all_range, decide_eq_true_eq]
    exact ⟨fun q => gt_ext e (fun k hk => of_decide_eq_true (q k (by omega))), fun q k hk => by rw [q]; exact decide_eq_true rfl⟩
  · rw [if_neg (show ¬ nI nm.length = 10 from fun q => e ((nI_eq (b := 10) (by omega) (by decide)).mp q)), decide_eq_false (fun q => e (by rw [q]; rfl))]
    obtain ⟨n, rfl⟩ : ∃ n, N = n + 1 := ⟨N - 1, by omega⟩
    exact z n 0 (Nat.zero_le _)
noncomputable def ZR (X : Option (Int32 × hS)) (c : hS) (t : List Nat) (r : Option (List Mb)) : Prop := ∃ c', X = some (bI r.isSome, c') ∧ fm RQ c c' ∧ ∀ ms, r = some ms → RS c' t ms
theorem ZR.no {X : Option (Int32 × hS)} {c c1 : hS} {t : List Nat} {r : Option (List Mb)} (hr : r = none) (hX : ∃ c', X = some (0, c') ∧ fm RQ c1 c') (hf : fm RQ c c1) : ZR X c t r := by
  obtain ⟨c', e1, f1⟩ := hX
  subst hr
  exact ⟨c', e1, hf.tr f1, fun _ z => by cases z⟩
theorem ZR.pre {X : Option (Int32 × hS)} {c c1 : hS} {t : List Nat} {r : Option (List Mb)} (h : ZR X c1 t r) (hf : fm RQ c c1) : ZR X c t r := by
  obtain ⟨c', a1, a2, a3⟩ := h
  exact ⟨c', a1, hf.tr a2, a3⟩
theorem z_fail (c1 : hS) (a p : Int32) : ∃ c', (bnd (f_X12_fails c1 a p) fun x c2 => bif j_b x then some (x, c2) else none) = some (0, c') ∧ fm RQ c1 c' := b_fail (fun i z => by unfold RQ; omega)
theorem m_read1 {N : Nat} {c : hS} {t : List Nat} (hN : 1000000 ≤ N) (h : RS c t []) : ZR (f_X12_readDigits N c) c t (rd1 t 190 0 []) := by
  have ht : t.length ≤ 20000 := h.1.1
  have key : ∀ f n p ms c, f ≤ 190 → 110 * (190 - f) ≤ p → f < n → p ≤ t.length → RS c t ms → ZR (f_X12_readDigits_2 N n c (nI p)) c t (rd1 t f p ms) := by
    intro f
    induction f with
    | zero => intro n p ms c h1 h2 h3 h4; omega
    | succ f ih =>
      intro n p ms c hf hfp hn hp hr
      obtain ⟨n, rfl⟩ : ∃ m, n = m + 1 := ⟨n - 1, by omega⟩
      obtain ⟨c2, e2, f2, g2⟩ := m_dhead hN hr hp
      rw [f_X12_readDigits_2, e2, bnd_some]
      unfold rd1
      cases hq : (decide (p + 110 ≤ t.length) && (h1B t p && spB t p)) with
      | false =>
        rw [if_pos (show bI false = 0 from rfl)]
        refine ZR.no ?_ ⟨c2, rfl, f2⟩ fm.rf
        by_cases w : t.length < p + 110
        · rw [if_pos w]
        · rw [if_neg w, if_pos]
          intro z
          rw [decide_eq_true (by omega), z.1, z.2] at hq
          cases hq
      | true =>
        obtain ⟨r2, f2'⟩ := g2 hq
        rw [Bool.and_eq_true, Bool.and_eq_true] at hq
        obtain ⟨q1, q2, q3⟩ := hq
        have q1 : p + 110 ≤ t.length := of_decide_eq_true q1
        have hd : ∀ i, p + 6 ≤ i → i < p + 110 → hxD (gt t i) ≠ 99 := fun i a b => by
          unfold h1B hexB at q2
          rw [Bool.and_eq_true, List.all_eq_true] at q2
          exact of_decide_eq_true (q2.2 i (by rw [List.mem_range'_1]; omega))
        rw [if_neg (by decide), if_neg (by omega), if_neg (fun z => z ⟨q2, q3⟩)]
        have hr2 : RS c2 t ms := hr.mv f2' (fun o i z => by omega)
        unfold spB at q3
        simp only [Bool.and_eq_true, decide_eq_true_eq] at q3
        obtain ⟨n1, n2, n3, n4⟩ := q3
        have nl : (nm1 t p).length = hex8 t (p + 94) - 1 := by unfold nm1; rw [List.length_take, List.length_drop]; omega
        have hv := hex8_lt t (p + 54)
        rw [show nI p + 54 = nI (p + 54) from nI_add p 54, m_hexAt hN hr2.1 (by omega) rfl (fun i a b => hd i (by omega) (by omega)), bnd_some, m_isTrailer hN r2, bnd_some, r2.2.1, show nI p + 111 + nI (nm1 t p).length = nI (p + 110 + (nm1 t p).length + 1) from by rw [show nI p + 111 = nI (p + 111) from nI_add p 111, nI_add]; congr 1; omega]
        refine ZR.pre ?_ f2
        by_cases tr : nm1 t p = trl
        · rw [decide_eq_true tr, if_neg (by decide), if_pos tr]
          by_cases z0 : hex8 t (p + 54) = 0
          · rw [if_pos ((cmp_eq' rfl (show (0 : Int64) = lN 0 from rfl) (by omega) (by decide)).mpr z0)]
            obtain ⟨c3, e3, f3, g3⟩ := MT.jb (m_areZeros (p := p + 110 + (nm1 t p).length + 1) hN hr2.1 (by omega))
            rw [e3]
            cases hz : zerB t (p + 110 + (nm1 t p).length + 1) with
            | true =>
              rw [hz] at g3
              rw [if_pos ⟨by omega, rfl⟩, g3 rfl]
              exact ⟨c2, rfl, fm.rf, fun ms' z => by cases z; exact hr2⟩
            | false =>
              rw [if_neg (fun z => by cases z.2)]
              exact ZR.no rfl ⟨c3, rfl, f3.mono (fun o i z => RQ_F z)⟩ fm.rf
          · rw [if_neg (fun z => z0 ((cmp_eq' rfl (show (0 : Int64) = lN 0 from rfl) (by omega) (by decide)).mp z)), if_neg (fun z => z0 (by omega))]
            exact ZR.no rfl (z_fail _ _ _) fm.rf
        · rw [decide_eq_false tr, if_pos (show bI false = 0 from rfl), if_neg tr]
          have hv14 := hex8_lt t (p + 14)
          have hv102 := hex8_lt t (p + 102)
          have hs : so1 t p < 16 := Nat.mod_lt _ (by decide)
          rw [show nI p + 14 = nI (p + 14) from nI_add p 14, m_hexAt hN hr2.1 (by omega) rfl (fun i a b => hd i (by omega) (by omega)), bnd_some, sort_eq (by omega)]
          show ZR (if nI (so1 t p) = 8 then _ else if nI (so1 t p) = 4 then _ else _) _ _ _
          -- behind the sort
          have go : (so1 t p = 8 ∨ so1 t p = 4) → ZR (f_X12_readDigits_107 N (f_X12_readDigits_2 N n) c2 (nI p) (lN (hex8 t (p + 54))) (nI (p + 110 + (nm1 t p).length + 1)) (nI (so1 t p))) c2 t (if meB t p (nm1 t p) = true ∧ beh1 t p ≤ t.length ∧ mayB ms (nm1 t p) (decide (so1 t p = 4)) = true then rd1 t f (beh1 t p) (comeM ms (nm1 t p, (t.drop (beg1 t p)).take (hex8 t (p + 54)), decide (so1 t p = 4))) else none) := by
            intro hso
            have hso' : (decide (so1 t p = 8) || decide (so1 t p = 4)) = true := by
              rcases hso with q | q
              · rw [decide_eq_true q]; rfl
              · rw [decide_eq_true q, Bool.or_true]
            unfold f_X12_readDigits_107
            rw [show nI p + 102 = nI (p + 102) from nI_add p 102, m_hexAt hN hr2.1 (by omega) rfl (fun i a b => hd i (by omega) (by omega)), bnd_some]
            by_cases z0 : hex8 t (p + 102) = 0
            · rw [if_pos ((cmp_eq' rfl (show (0 : Int64) = lN 0 from rfl) (by omega) (by decide)).mpr z0)]
              have em : meB t p (nm1 t p) = (decide (hex8 t (p + 54) ≤ if so1 t p = 4 then 0 else 400) && nameB (nm1 t p)) := by
                unfold meB
                rw [hso', decide_eq_true z0, Bool.true_and, Bool.true_and]
              -- with the directory's bit
              have w142 : ∀ (d : Bool) (mx : Nat), d = decide (so1 t p = 4) → mx = (if so1 t p = 4 then 0 else 400) → ZR (f_X12_readDigits_142 N (f_X12_readDigits_2 N n) c2 (nI p) (lN (hex8 t (p + 54))) (nI (p + 110 + (nm1 t p).length + 1)) (bI d)) c2 t (if meB t p (nm1 t p) = true ∧ beh1 t p ≤ t.length ∧ mayB ms (nm1 t p) (decide (so1 t p = 4)) = true then rd1 t f (beh1 t p) (comeM ms (nm1 t p, (t.drop (beg1 t p)).take (hex8 t (p + 54)), decide (so1 t p = 4))) else none) := by
                intro d mx hdd hmx
                rw [← hdd]
                unfold f_X12_readDigits_142
                rw [show j_b (bI d) = true by cases d <;> rfl, cond_true]
                dsimp only [st1]
                have f3 : fm (fun o i => o = 201 ∧ i = 18) c2 (sI c2 201 18 (bI d)) := fm.sI ⟨rfl, rfl⟩
                have v18 : (sI c2 201 18 (bI d)).1 201 18 = bI d := sI_s _ _ _ _
                refine ZR.pre ?_ (f3.mono (fun o i z => by unfold RQ; omega))
                have hr3 : RS (sI c2 201 18 (bI d)) t ms := hr2.mv f3 (fun o i z => by omega)
                have r3 : mrw (sI c2 201 18 (bI d)) 14 209 (nm1 t p) := r2.fm f3 (by omega) (fun i => by omega)
                revert v18 hr3 r3
                generalize sI c2 201 18 (bI d) = c3
                intro v18 hr3 r3
                have w160 : ∀ w0 : Int64, w0 = lN mx → ZR (f_X12_readDigits_160 N (f_X12_readDigits_2 N n) c3 (nI p) (lN (hex8 t (p + 54))) (nI (p + 110 + (nm1 t p).length + 1)) w0 (lN (hex8 t (p + 54)))) c3 t (if meB t p (nm1 t p) = true ∧ beh1 t p ≤ t.length ∧ mayB ms (nm1 t p) d = true then rd1 t f (beh1 t p) (comeM ms (nm1 t p, (t.drop (beg1 t p)).take (hex8 t (p + 54)), d)) else none) := by
                  intro w0 hw0
                  have mx4 : mx ≤ 400 := by rw [hmx]; split <;> omega
                  unfold f_X12_readDigits_160
                  by_cases z1 : hex8 t (p + 54) ≤ mx
                  · rw [if_pos ((cmp_le' rfl hw0 (by omega) (by omega)).mpr z1), m_isName hN r3, bnd_some]
                    cases hnm : nameB (nm1 t p) with
                    | false =>
                      rw [if_pos (show bI false = 0 from rfl), if_neg (fun z => by rw [em, hnm, Bool.and_false] at z; cases z.1)]
                      exact ZR.no rfl (z_fail _ _ _) fm.rf
                    | true =>
                      have emt : meB t p (nm1 t p) = true := by rw [em, hnm, ← hmx, decide_eq_true z1]; rfl
                      have ub := upTo_le (a := p + 110 + (nm1 t p).length + 1) (b := 4) (by decide)
                      have ub2 := upTo_le (a := beg1 t p + hex8 t (p + 54)) (b := 4) (by decide)
                      have ebg : beg1 t p = upTo (p + 110 + (nm1 t p).length + 1) 4 := rfl
                      have ebh : beh1 t p = upTo (beg1 t p + hex8 t (p + 54)) 4 := rfl
                      rw [if_neg (by decide)]
                      unfold f_X12_upToFour
                      rw [bnd_some, up4 (by omega), bnd_some, lN_i, ← ebg, nI_add, up4 (by omega), ← ebh]
                      obtain ⟨c4, e4, f4, g4⟩ := m_reaches (x := (nI (beh1 t p)).toInt64) (k := beh1 t p) hr3.1 (nI_l (by omega)) (by omega)
                      rw [e4, bnd_some]
                      by_cases z2 : beh1 t p ≤ t.length
                      · rw [decide_eq_true z2] at g4
                        rw [decide_eq_true z2, if_neg (by decide), g4 rfl]
                        obtain ⟨c5, e5, r5, f5⟩ := m_takeBytes (p := beg1 t p) (n := hex8 t (p + 54)) hN hr3.1 (by omega) (by omega) rfl rfl
                        rw [e5, bnd_some]
                        have hr5 : RS c5 t ms := hr3.mv f5 (fun o i z => by omega)
                        have n5 : mrw c5 14 209 (nm1 t p) := r3.fm f5 (by omega) (fun i => by omega)
                        obtain ⟨c6, e6, f6, g6⟩ := m_comes (p := nI p) (d := d) hN hr5 n5 r5 ((f5.1 _ _ (by omega)).trans v18) hnm (by rw [List.length_take]; omega)
                        rw [e6, bnd_some]
                        have f36 : fm RQ c3 c6 := (f5.mono (fun o i z => by unfold RQ; omega)).tr (f6.mono (fun o i z => RQ_C z))
                        cases hmay : mayB ms (nm1 t p) d with
                        | false =>
                          rw [if_pos (show bI false = 0 from rfl), if_neg (fun z => by cases z.2.2)]
                          exact ZR.no rfl ⟨c6, rfl, f36⟩ fm.rf
                        | true =>
                          rw [if_neg (by decide), if_pos ⟨emt, z2, rfl⟩]
                          exact ZR.pre (ih n (beh1 t p) _ c6 (by omega) (by omega) (by omega) z2 (g6 hmay).1) f36
                      · rw [decide_eq_false z2, if_pos (show bI false = 0 from rfl), if_neg (fun z => z2 z.2.1)]
                        exact ZR.no rfl ⟨c4, rfl, f4.mono (fun o i z => RQ_F z)⟩ fm.rf
                  · rw [if_neg (fun z => z1 ((cmp_le' rfl hw0 (by omega) (by omega)).mp z)), if_neg (fun z => by rw [em, ← hmx, decide_eq_false z1, Bool.false_and] at z; cases z.1)]
                    exact ZR.no rfl (z_fail _ _ _) fm.rf
                rw [v18]
                cases d with
                | false => rw [if_pos (show bI false = 0 from rfl)]; exact w160 400 (by rw [hmx, if_neg (of_decide_eq_false hdd.symm)]; rfl)
                | true => rw [if_neg (by decide)]; exact w160 0 (by rw [hmx, if_pos (of_decide_eq_true hdd.symm)]; rfl)
              by_cases s4 : so1 t p = 4
              · rw [if_pos (show nI (so1 t p) = 4 by rw [s4]; rfl)]
                exact w142 true 0 (by rw [decide_eq_true s4]) (by rw [if_pos s4])
              · rw [if_neg (show ¬ nI (so1 t p) = 4 from fun z => s4 ((nI_eq (b := 4) (by omega) (by decide)).mp z))]
                exact w142 false 400 (by rw [decide_eq_false s4]) (by rw [if_neg s4])
            · rw [if_neg (fun z => z0 ((cmp_eq' rfl (show (0 : Int64) = lN 0 from rfl) (by omega) (by decide)).mp z)), if_neg (fun z => by
                have := z.1
                unfold meB at this
                rw [decide_eq_false z0, Bool.false_and, Bool.and_false] at this
                cases this)]
              exact ZR.no rfl (z_fail _ _ _) fm.rf
          by_cases s8 : so1 t p = 8
          · rw [if_pos (show nI (so1 t p) = 8 by rw [s8]; rfl)]
            exact go (Or.inl s8)
          · rw [if_neg (show ¬ nI (so1 t p) = 8 from fun z => s8 ((nI_eq (b := 8) (by omega) (by decide)).mp z))]
            by_cases s4 : so1 t p = 4
            · rw [if_pos (show nI (so1 t p) = 4 by rw [s4]; rfl)]
              exact go (Or.inr s4)
            · rw [if_neg (show ¬ nI (so1 t p) = 4 from fun z => s4 ((nI_eq (b := 4) (by omega) (by decide)).mp z)), if_neg (fun z => by
                have := z.1
                unfold meB at this
                rw [decide_eq_false s8, decide_eq_false s4] at this
                cases this)]
              exact ZR.no rfl (z_fail _ _ _) fm.rf
  exact key 190 N 0 [] c (Nat.le_refl _) (by omega) (by omega) (Nat.zero_le _) h
