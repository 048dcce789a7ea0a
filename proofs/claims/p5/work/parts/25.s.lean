/-! PURE: the reference: bits and symbols -/
noncomputable def UB (c : hS) (t : List Nat) (b e : Nat) : Prop := mrw c 4 203 t ∧ c.1 201 25 = nI b ∧ c.1 201 26 = nI e ∧ b ≤ e ∧ e ≤ 8 * t.length ∧ c.1 201 5 = 0
theorem UB.fm' {P : Nat → Nat → Prop} {c c1 : hS} {t : List Nat} {b e : Nat} (h : UB c t b e) (hf : fm P c c1) (hP : ∀ o i, P o i → o ≠ 203 ∧ (o = 201 → i ≠ 4 ∧ i ≠ 5 ∧ i ≠ 25 ∧ i ≠ 26)) : UB c1 t b e := by
  have n : ∀ i, (i = 4 ∨ i = 5 ∨ i = 25 ∨ i = 26) → ¬ P 201 i := fun i q z => by have := (hP _ _ z).2 rfl; omega
  exact ⟨h.1.fm hf (n _ (by omega)) (fun i z => (hP _ _ z).1 rfl), (hf.1 _ _ (n _ (by omega))).trans h.2.1, (hf.1 _ _ (n _ (by omega))).trans h.2.2.1, h.2.2.2.1, h.2.2.2.2.1, (hf.1 _ _ (n _ (by omega))).trans h.2.2.2.2.2⟩
theorem UB.e {c : hS} {t : List Nat} {b e : Nat} (h : UB c t b e) : e ≤ 160000 := by
  have h1 : t.length ≤ 20000 := h.1.1
  have := h.2.2.2.2.1
  omega
theorem UB.mv {c : hS} {t : List Nat} {b e b' : Nat} (h : UB c t b e) (hb : b' ≤ e) : UB (sI c 201 25 (nI b')) t b' e := by
  have f : fm (fun o i => o = 201 ∧ i = 25) c (sI c 201 25 (nI b')) := fm.sI ⟨rfl, rfl⟩
  exact ⟨h.1.fm f (by omega) (fun i => by omega), sI_s _ _ _ _, (f.1 _ _ (by omega)).trans h.2.2.1, hb, h.2.2.2.2.1, (f.1 _ _ (by omega)).trans h.2.2.2.2.2⟩
noncomputable def F25 (o i : Nat) : Prop := o = 201 ∧ i = 25
noncomputable def F56 (o i : Nat) : Prop := o = 201 ∧ (i = 5 ∨ i = 6 ∨ i = 25)
theorem F25_56 {o i : Nat} (h : F25 o i) : F56 o i := by unfold F25 at h; unfold F56; omega
theorem m_fails {c : hS} {a p : Int32} (h : c.1 201 5 = 0) (ha : a ≠ 0) : ∃ c', f_X12_fails c a p = some (0, c') ∧ c'.1 201 5 ≠ 0 ∧ fm (fun o i => o = 201 ∧ (i = 5 ∨ i = 6)) c c' := by
  unfold f_X12_fails
  rw [if_pos h]
  dsimp only [st1]
  exact ⟨_, rfl, by rw [sI_j (by decide), sI_s]; exact ha, (fm.sI (by omega)).tr (fm.sI (by omega))⟩
theorem m_failsX {c : hS} {a p : Int32} : ∃ c', f_X12_fails c a p = some (0, c') ∧ fm (fun o i => o = 201 ∧ (i = 5 ∨ i = 6)) c c' := by
  unfold f_X12_fails
  by_cases h : c.1 201 5 = 0
  · rw [if_pos h]
    exact ⟨_, rfl, (fm.sI (by omega)).tr (fm.sI (by omega))⟩
  · rw [if_neg h]
    exact ⟨_, rfl, fm.rf⟩
theorem m_bit {c : hS} {t : List Nat} {b e : Nat} (h : UB c t b e) (hb : b < e) : f_X12_bit c = some (nI (bt8 t b), sI c 201 25 (nI (b + 1))) := by
  have he := h.e
  have h1 : t.length ≤ 20000 := h.1.1
  have h2 := h.2.2.2.2.1
  have hg := h.1.2.2.2.gt (b / 8)
  unfold f_X12_bit
  rw [h.2.1, h.2.2.1, if_pos (nI_lt hb (by omega)), show nI b / 8 = nI (b / 8) from div_nI (b := 8) (by omega) (by decide), j_in_nI (show b / 8 < ln 203 from (by show b / 8 < 20000; omega)) (by decide), cond_true, nI_clamp (by omega), h.1.2.2.1 _ (by omega), show j_rem (nI b) 8 = nI (b % 8) from j_rem_nI (b := 8) (by omega) (by decide) (by decide), shr_nI (by omega) (by omega), and1, nI_1]
  rfl
theorem m_bit_no {c : hS} {t : List Nat} {b e : Nat} (h : UB c t b e) (hb : e ≤ b) : ∃ c', f_X12_bit c = some (0, c') ∧ c'.1 201 5 ≠ 0 ∧ fm (fun o i => o = 201 ∧ (i = 5 ∨ i = 6)) c c' := by
  have he := h.e
  have := h.2.2.2.1
  unfold f_X12_bit
  rw [h.2.1, h.2.2.1, if_neg (nI_nlt hb (by omega))]
  obtain ⟨c', e1, v1, f1⟩ := m_fails (c := c) (a := 20) (p := nI e / 8) h.2.2.2.2.2 (by decide)
  rw [e1, bnd_some]
  exact ⟨c', rfl, v1, f1⟩
theorem or_bit {h b k : Nat} (hh : h < 2 ^ k) (hk : k < 32) : nI h ||| j_shl (nI b) (nI k) = nI (h + b * 2 ^ k) := by
  rw [shl_nI b hk]
  apply Int32.toBitVec_inj.1
  show BitVec.ofNat 32 h ||| BitVec.ofNat 32 (b * 2 ^ k) = BitVec.ofNat 32 (h + b * 2 ^ k)
  rw [show h + b * 2 ^ k = h ||| b * 2 ^ k from by rw [Nat.add_comm, Nat.mul_comm, Nat.two_pow_add_eq_or_of_lt hh, Nat.or_comm]]
  apply BitVec.eq_of_getLsbD_eq
  intro i hi
  simp [hi]
theorem m_bits {N : Nat} {c : hS} {t : List Nat} {b e n : Nat} {p : Int32} (hN : 1000000 ≤ N) (h : UB c t b e) (hb : b + n ≤ e) (hn : n ≤ 16) (hp : p = nI n) : ∃ c', f_X12_bits N c p = some (nI (bv t b n), c') ∧ UB c' t (b + n) e ∧ fm F25 c c' := by
  subst hp
  have key : ∀ d m k c, k + d = n → d < m → UB c t (b + k) e → ∃ c', f_X12_bits_4 N (nI n) m c (nI (bv t b k)) (nI k) = some (nI (bv t b n), c') ∧ UB c' t (b + n) e ∧ fm F25 c c' := by
    intro d
    induction d with
    | zero =>
      intro m k c hk hm h
      obtain ⟨m, rfl⟩ : ∃ j, m = j + 1 := ⟨m - 1, by omega⟩
      have : k = n := by omega
      subst this
      rw [f_X12_bits_4, if_pos (nI_le (Nat.le_refl _) (by omega))]
      exact ⟨c, rfl, h, fm.rf⟩
    | succ d ih =>
      intro m k c hk hm h
      obtain ⟨m, rfl⟩ : ∃ j, m = j + 1 := ⟨m - 1, by omega⟩
      obtain ⟨c', a1, a2, a3⟩ := ih m (k + 1) _ (by omega) (by omega) (h.mv (b' := b + (k + 1)) (by omega))
      rw [f_X12_bits_4, if_neg (nI_ge (by omega) (by omega)), if_pos h.2.2.2.2.2, m_bit h (by omega), bnd_some, or_bit (bv_lt t b k) (by omega), nI_1]
      exact ⟨c', a1, a2, (fm.sI ⟨rfl, rfl⟩).tr a3⟩
  exact key n N 0 c (by omega) (by omega) h
theorem m_bits_no {N : Nat} {c : hS} {t : List Nat} {b e n : Nat} {p : Int32} (hN : 1000000 ≤ N) (h : UB c t b e) (hb : e < b + n) (hn : n ≤ 16) (hp : p = nI n) : ∃ x c', f_X12_bits N c p = some (x, c') ∧ c'.1 201 5 ≠ 0 ∧ fm F56 c c' := by
  subst hp
  have key : ∀ d m k c (x : Int32), k + d = n → d + 1 < m → UB c t (b + k) e → ∃ x' c', f_X12_bits_4 N (nI n) m c x (nI k) = some (x', c') ∧ c'.1 201 5 ≠ 0 ∧ fm F56 c c' := by
    intro d
    induction d with
    | zero =>
      intro m k c x hk hm h
      have := h.2.2.2.1
      omega
    | succ d ih =>
      intro m k c x hk hm h
      obtain ⟨m, rfl⟩ : ∃ j, m = j + 2 := ⟨m - 2, by omega⟩
      rw [f_X12_bits_4, if_neg (nI_ge (by omega) (by omega)), if_pos h.2.2.2.2.2]
      by_cases q : b + k < e
      · rw [m_bit h q, bnd_some, nI_1]
        obtain ⟨x', c', a1, a2, a3⟩ := ih (m + 1) (k + 1) _ (x ||| j_shl (nI (bt8 t (b + k))) (nI k)) (by omega) (by omega) (h.mv (b' := b + (k + 1)) (by omega))
        exact ⟨x', c', a1, a2, (fm.sI ⟨rfl, by omega⟩).tr a3⟩
      · obtain ⟨c', a1, a2, a3⟩ := m_bit_no h (by omega)
        rw [a1, bnd_some, nI_1, f_X12_bits_4]
        by_cases w : nI n ≤ nI (k + 1)
        · rw [if_pos w]
          exact ⟨_, c', rfl, a2, a3.mono (fun o i z => by unfold F56; omega)⟩
        · rw [if_neg w, if_neg a2]
          exact ⟨_, c', rfl, a2, a3.mono (fun o i z => by unfold F56; omega)⟩
  exact key n N 0 c 0 (by omega) (by omega) h
theorem m_bits_x {N : Nat} {c : hS} {p : Int32} (hN : 1000000 ≤ N) (h : c.1 201 5 ≠ 0) : f_X12_bits N c p = some (0, c) := by
  obtain ⟨n, rfl⟩ : ∃ n, N = n + 1 := ⟨N - 1, by omega⟩
  unfold f_X12_bits
  rw [f_X12_bits_4]
  by_cases q : p ≤ 0
  · rw [if_pos q]
  · rw [if_neg q, if_neg h]
/-! codes: the longest, how full -/
theorem cnt_pos {lens : List Nat} {l : Nat} : 0 < cnt lens l ↔ ∃ i, i < lens.length ∧ gt lens i = l := by
  unfold cnt cntN idxN
  rw [List.length_pos_iff_exists_mem]
  constructor
  · rintro ⟨i, hi⟩
    rw [List.mem_filter, List.mem_range] at hi
    exact ⟨i, hi.1, of_decide_eq_true hi.2⟩
  · rintro ⟨i, h1, h2⟩
    exact ⟨i, by rw [List.mem_filter, List.mem_range]; exact ⟨h1, decide_eq_true h2⟩⟩
theorem mxN_is {lens : List Nat} {v : Nat} (h1 : ∀ i, i < lens.length → gt lens i ≤ v) (h2 : v = 0 ∨ ∃ i, i < lens.length ∧ gt lens i = v) : ∀ L, v ≤ L → mxN lens L = v
  | 0, h => by show 0 = v; omega
  | L + 1, h => by
    unfold mxN
    by_cases q : v = L + 1
    · rcases h2 with z | z
      · omega
      · rw [if_pos (cnt_pos.mpr (by rw [← q]; exact z)), q]
    · rw [if_neg (fun z => by obtain ⟨i, a, b⟩ := cnt_pos.mp z; have := h1 i a; omega)]
      exact mxN_is h1 h2 L (by omega)
theorem mxN_top {lens : List Nat} : ∀ L k, mxN lens L < k → k ≤ L → cnt lens k = 0
  | 0, k, h, hk => by have : mxN lens 0 = 0 := rfl; omega
  | L + 1, k, h, hk => by
    unfold mxN at h
    by_cases q : 0 < cnt lens (L + 1)
    · rw [if_pos q] at h; omega
    · rw [if_neg q] at h
      by_cases w : k = L + 1
      · rw [w]; omega
      · exact mxN_top L k h (by omega)
theorem ful_top {lens : List Nat} {l : Nat} (h : mxN lens 15 ≤ l) : ∀ d, l + d ≤ 15 → ful lens (l + d) = ful lens l
  | 0, _ => rfl
  | d + 1, hd => by
    have h0 := mxN_top (lens := lens) 15 (l + d + 1) (by omega) (by omega)
    show ful lens (l + d) + cnt lens (l + d + 1) * 2 ^ (15 - (l + d + 1)) = _
    rw [h0, Nat.zero_mul, Nat.add_zero]
    exact ful_top h d (by omega)
theorem ful_fc {lens : List Nat} : ∀ l, l + 1 ≤ 15 → ful lens (l + 1) = (fc lens (l + 1) + cnt lens (l + 1)) * 2 ^ (15 - (l + 1))
  | 0, _ => by
    show ful lens 0 + cnt lens 1 * 2 ^ (15 - 1) = (0 + cnt lens 1) * 2 ^ (15 - 1)
    rw [Nat.zero_add]
    exact Nat.zero_add _
  | l + 1, h => by
    have ih := ful_fc (lens := lens) l (by omega)
    show ful lens (l + 1) + cnt lens (l + 1 + 1) * 2 ^ (15 - (l + 1 + 1)) = _
    have hp : 2 ^ (15 - (l + 1)) = 2 * 2 ^ (15 - (l + 1 + 1)) := by rw [← Nat.pow_succ']; congr 1; omega
    have fcs := fc_s (lens := lens) (l := l + 1) (by omega)
    rw [ih, fcs, Nat.add_mul (2 * (fc lens (l + 1) + cnt lens (l + 1))), hp, Nat.mul_comm 2 (fc lens (l + 1) + cnt lens (l + 1)), Nat.mul_assoc]
theorem m_symbol {N base : Nat} {c : hS} {t lens : List Nat} {b e : Nat} {p1 p2 : Int32} (hN : 1000000 ≤ N) (h : UB c t b e) (hc : mcd c base lens) (hl : lens.length ≤ 320) (h1 : p1 = nI base) (h2 : p2 = nI lens.length) : ∃ x c', f_X12_symbol N c p1 p2 = some (x, c') ∧ (match dec t e lens b with
    | some q => x = nI q.1 ∧ UB c' t q.2 e ∧ fm F25 c c'
    | none => ((x = -1 ∧ c'.1 201 5 ≠ 0) ∨ (x = -2 ∧ c'.1 201 5 = 0 ∧ ful lens 15 ≠ 32768)) ∧ fm F56 c c') := by
  subst h1 h2
  have hb := hc.1.1
  -- the search
  have srch : ∀ d m l k i c v3 (k48 : hS → Int32 → Int32 → Int32 → Option (Int32 × hS)), i + d = lens.length → d < m → 1 ≤ l → l < 16 → k < 2 ^ 20 → mcd c base lens → cntN lens l i ≤ k → f_X12_symbol_83 N (nI base) (nI lens.length) k48 m c v3 (nI (fc lens l + k)) (nI l) (nI (base + i)) = if k < cnt lens l then some (nI (sy lens l k), c) else k48 c v3 (nI (fc lens l + k)) (nI l + 1) := by
    intro d
    induction d with
    | zero =>
      intro m l k i c v3 k48 hi hm hl1 hl2 hk hc hcn
      obtain ⟨m, rfl⟩ : ∃ j, m = j + 1 := ⟨m - 1, by omega⟩
      have : i = lens.length := by omega
      subst this
      rw [f_X12_symbol_83, nI_add, if_pos (nI_le (Nat.le_refl _) (by omega)), if_neg (by unfold cnt; omega)]
    | succ d ih =>
      intro m l k i c v3 k48 hi hm hl1 hl2 hk hc hcn
      obtain ⟨m, rfl⟩ : ∃ j, m = j + 1 := ⟨m - 1, by omega⟩
      have hil : i < lens.length := by omega
      obtain ⟨v1, v2⟩ := hc.1.2 i hil
      have cs := cntN_s lens l i
      have fl := fc_lt (l := l) hl hl2
      have cm := cntN_le lens l i
      rw [f_X12_symbol_83, nI_add, if_neg (nI_ge (by omega) (by omega)), j_in_nI (show base + i < ln 212 from (by show base + i < 360; omega)) (by decide), cond_true, nI_clamp (by omega), v1, nI_1]
      by_cases q : gt lens i = l
      · rw [if_pos q] at cs
        rw [if_pos (by rw [q]), j_in_nI (show base + i < ln 213 from (by show base + i < 360; omega)) (by decide), cond_true, hc.2 i hil (by omega)]
        unfold cod
        rw [q]
        by_cases w : cntN lens l i = k
        · have in_ : k < cnt lens l := by
            have := cntN_mono lens l (show i + 1 ≤ lens.length by omega)
            unfold cnt
            omega
          rw [if_pos (by rw [w]), if_pos in_, subI (by omega), Nat.add_sub_cancel_left, ← w, sy_at hil q]
        · rw [if_neg (fun z => w (by have := (nI_eq (by omega) (by omega)).mp z; omega))]
          exact ih m l k (i + 1) c v3 k48 (by omega) (by omega) hl1 hl2 hk hc (by omega)
      · rw [if_neg q, Nat.add_zero] at cs
        rw [if_neg (fun z => q ((nI_eq (by omega) (by omega)).mp z))]
        exact ih m l k (i + 1) c v3 k48 (by omega) (by omega) hl1 hl2 hk hc (by omega)
  -- by lengths
  have lns : ∀ r m l code b c, l + r = 16 → 1 ≤ l → r < m → (l ≤ mxN lens 15 ∨ l = 1) → fc lens l ≤ 2 * code → code < 2 ^ (l - 1) → mcd c base lens → UB c t b e → ∃ x c', f_X12_symbol_48 N (nI base) (nI lens.length) m c (nI (mxN lens 15)) (nI code) (nI l) = some (x, c') ∧ (match dcd t e lens r l code (fc lens l) b with
      | some q => x = nI q.1 ∧ UB c' t q.2 e ∧ fm F25 c c'
      | none => ((x = -1 ∧ c'.1 201 5 ≠ 0) ∨ (x = -2 ∧ c'.1 201 5 = 0 ∧ ful lens 15 ≠ 32768)) ∧ fm F56 c c') := by
    have mx15 : mxN lens 15 ≤ 15 := by
      have : ∀ L, mxN lens L ≤ L := fun L => by
        induction L with
        | zero => exact Nat.le_refl _
        | succ L ih => unfold mxN; split <;> omega
      exact this 15
    intro r
    induction r with
    | zero =>
      intro m l code b c hr h1 hm hcond
      omega
    | succ r ih =>
      intro m l code b c hr h1 hm hcond hfc hcode hc hu
      obtain ⟨m, rfl⟩ : ∃ j, m = j + 1 := ⟨m - 1, by omega⟩
      have hp2 : 2 ^ (l - 1) ≤ 2 ^ 14 := Nat.pow_le_pow_right (by decide) (by omega)
      have e60 : f_X12_symbol_48 N (nI base) (nI lens.length) (m + 1) c (nI (mxN lens 15)) (nI code) (nI l) = f_X12_symbol_60 N (nI base) (nI lens.length) (f_X12_symbol_48 N (nI base) (nI lens.length) m) c (nI (mxN lens 15)) (nI code) (nI l) := by
        rw [f_X12_symbol_48]
        by_cases q : l ≤ mxN lens 15
        · rw [if_pos (nI_le q (by omega))]
        · have l1 : l = 1 := by omega
          rw [if_neg (nI_ge (by omega) (by omega)), if_pos (show nI l = 1 by rw [l1]; rfl)]
      rw [e60]
      unfold f_X12_symbol_60 dcd
      by_cases q : e ≤ b
      · obtain ⟨c', a1, a2, a3⟩ := m_bit_no hu q
        rw [if_pos q, a1, bnd_some, if_neg a2]
        exact ⟨-1, c', rfl, Or.inl ⟨rfl, a2⟩, a3.mono (fun o i z => by unfold F56; omega)⟩
      · have f1 : fm F25 c (sI c 201 25 (nI (b + 1))) := fm.sI ⟨rfl, rfl⟩
        have u1 := hu.mv (b' := b + 1) (by omega)
        have c1 : mcd (sI c 201 25 (nI (b + 1))) base lens := mcd_fm hc f1 (fun o i z => by unfold F25 at z; omega)
        have hbit := bt8_lt t b
        have fl := fc_lt (l := l) hl (by omega)
        rw [if_neg q, m_bit hu (by omega), bnd_some, if_pos u1.2.2.2.2.2, Int32.or_comm, show j_shl (nI code) 1 = j_shl (nI code) (nI 1) from rfl, or_bit (h := bt8 t b) (b := code) (k := 1) (by omega) (by decide), show bt8 t b + code * 2 ^ 1 = fc lens l + (2 * code + bt8 t b - fc lens l) by omega]
        have es := srch lens.length N l (2 * code + bt8 t b - fc lens l) 0 (sI c 201 25 (nI (b + 1))) (nI (mxN lens 15)) (f_X12_symbol_48 N (nI base) (nI lens.length) m) (by omega) (by omega) h1 (by omega) (by omega) c1 (by show 0 ≤ _; exact Nat.zero_le _)
        have es' : f_X12_symbol_83 N (nI base) (nI lens.length) (f_X12_symbol_48 N (nI base) (nI lens.length) m) N (sI c 201 25 (nI (b + 1))) (nI (mxN lens 15)) (nI (fc lens l + (2 * code + bt8 t b - fc lens l))) (nI l) (nI base) = _ := es
        rw [es']
        by_cases w : 2 * code + bt8 t b < fc lens l + cnt lens l
        · rw [if_pos (by omega), if_pos w]
          exact ⟨_, _, rfl, rfl, u1, f1⟩
        · rw [if_neg (by omega), if_neg w, nI_1, show fc lens l + (2 * code + bt8 t b - fc lens l) = 2 * code + bt8 t b by omega]
          have pw : 2 ^ l = 2 * 2 ^ (l - 1) := by rw [← Nat.pow_succ']; congr 1; omega
          by_cases z : mxN lens 15 ≤ l
          · rw [if_pos z]
            obtain ⟨m, rfl⟩ : ∃ j, m = j + 1 := ⟨m - 1, by omega⟩
            rw [f_X12_symbol_48, if_neg (nI_ge (by omega) (by omega)), if_neg (show ¬ nI (l + 1) = 1 from fun y => by have := (nI_eq (b := 1) (by omega) (by decide)).mp y; omega)]
            refine ⟨-2, _, rfl, Or.inr ⟨rfl, u1.2.2.2.2.2, fun y => ?_⟩, f1.mono (fun o i z => F25_56 z)⟩
            have t1 := ful_top z (15 - l) (by omega)
            rw [show l + (15 - l) = 15 by omega] at t1
            have t2 := ful_fc (lens := lens) (l - 1) (by omega)
            rw [show l - 1 + 1 = l by omega] at t2
            have t3 : (fc lens l + cnt lens l) * 2 ^ (15 - l) < 2 ^ l * 2 ^ (15 - l) := Nat.mul_lt_mul_of_pos_right (by omega) (Nat.pow_pos (by decide))
            rw [← Nat.pow_add, show l + (15 - l) = 15 by omega] at t3
            rw [t1, t2] at y
            rw [y] at t3
            exact absurd t3 (by decide)
          · rw [if_neg z]
            have := ih m (l + 1) (2 * code + bt8 t b) (b + 1) _ (by omega) (by omega) (by omega) (Or.inl (by omega)) (by rw [fc_s h1]; omega) (by rw [Nat.add_sub_cancel, pw]; omega) c1 u1
            rw [fc_s h1] at this
            obtain ⟨x, c', a1, a2⟩ := this
            refine ⟨x, c', a1, ?_⟩
            revert a2
            cases dcd t e lens r (l + 1) (2 * code + bt8 t b) (2 * (fc lens l + cnt lens l)) (b + 1) with
            | none => exact fun a2 => ⟨a2.1, (f1.mono (fun o i z => F25_56 z)).tr a2.2⟩
            | some q => exact fun a2 => ⟨a2.1, a2.2.1, f1.tr a2.2.2⟩
  -- the longest
  have lon : ∀ d m i v, i + d = lens.length → d < m → v < 16 → (∀ k, k < i → gt lens k ≤ v) → (v = 0 ∨ ∃ k, k < lens.length ∧ gt lens k = v) → f_X12_symbol_5 N (nI base) (nI lens.length) m c (nI v) (nI (base + i)) = f_X12_symbol_48 N (nI base) (nI lens.length) N c (nI (mxN lens 15)) 0 1 := by
    intro d
    induction d with
    | zero =>
      intro m i v hi hm hv g1 g2
      obtain ⟨m, rfl⟩ : ∃ j, m = j + 1 := ⟨m - 1, by omega⟩
      have : i = lens.length := by omega
      subst this
      rw [f_X12_symbol_5, nI_add, if_pos (nI_le (Nat.le_refl _) (by omega)), mxN_is g1 g2 15 (by omega)]
    | succ d ih =>
      intro m i v hi hm hv g1 g2
      obtain ⟨m, rfl⟩ : ∃ j, m = j + 1 := ⟨m - 1, by omega⟩
      have hil : i < lens.length := by omega
      obtain ⟨v1, v2⟩ := hc.1.2 i hil
      rw [f_X12_symbol_5, nI_add, if_neg (nI_ge (by omega) (by omega)), j_in_nI (show base + i < ln 212 from (by show base + i < 360; omega)) (by decide), cond_true, cond_true, nI_clamp (by omega), v1, nI_1]
      by_cases q : gt lens i ≤ v
      · rw [if_pos (nI_le q (by omega))]
        exact ih m (i + 1) v (by omega) (by omega) hv (fun k hk => by
          by_cases w : k = i
          · rw [w]; exact q
          · exact g1 k (by omega)) g2
      · rw [if_neg (nI_ge (by omega) (by omega))]
        exact ih m (i + 1) (gt lens i) (by omega) (by omega) v2 (fun k hk => by
          by_cases w : k = i
          · rw [w]; exact Nat.le_refl _
          · have := g1 k (by omega); omega) (Or.inr ⟨i, hil, rfl⟩)
  unfold f_X12_symbol dec
  have e0 := lon lens.length N 0 0 (by omega) (by omega) (by decide) (fun k hk => by omega) (Or.inl rfl)
  have e0' : f_X12_symbol_5 N (nI base) (nI lens.length) N c 0 (nI base) = _ := e0
  rw [e0']
  exact lns 15 N 1 0 b c (by omega) (by omega) (by omega) (Or.inr rfl) (Nat.zero_le _) (by decide) hc h
