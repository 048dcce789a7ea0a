/-! PURE: the reference: blocks; unpack -/
noncomputable def UM (c : hS) (t : List Nat) (b e most : Nat) (out : List Nat) : Prop := UB c t b e ∧ mrw c 23 211 out ∧ c.1 201 24 = nI most ∧ most ≤ 512 ∧ out.length ≤ most
noncomputable def UF (o i : Nat) : Prop := (o = 201 ∧ (i = 5 ∨ i = 6 ∨ (23 ≤ i ∧ i ≤ 30))) ∨ o = 211 ∨ o = 212 ∨ o = 213 ∨ o = 214
theorem UF_F {o i : Nat} (h : F56 o i) : UF o i := by unfold F56 at h; unfold UF; omega
theorem UF_25 {o i : Nat} (h : F25 o i) : UF o i := UF_F (F25_56 h)
theorem UF_D {o i : Nat} (h : DF o i) : UF o i := by unfold DF F56 at h; unfold UF; omega
theorem UM.mv {P : Nat → Nat → Prop} {c c1 : hS} {t out : List Nat} {b b' e most : Nat} (h : UM c t b e most out) (hu : UB c1 t b' e) (hf : fm P c c1) (hP : ∀ o i, P o i → o ≠ 211 ∧ (o = 201 → i ≠ 23 ∧ i ≠ 24)) : UM c1 t b' e most out := by
  have n : ∀ i, (i = 23 ∨ i = 24) → ¬ P 201 i := fun i q z => by have := (hP _ _ z).2 rfl; omega
  exact ⟨hu, h.2.1.fm hf (n _ (by omega)) (fun i z => (hP _ _ z).1 rfl), (hf.1 _ _ (n _ (by omega))).trans h.2.2.1, h.2.2.2⟩
noncomputable def AF (o i : Nat) : Prop := o = 211 ∨ (o = 201 ∧ i = 23)
theorem m_add {c : hS} {t out : List Nat} {b e most x : Nat} {p1 p2 : Int32} (h : UM c t b e most out) (hl : out.length < most) (hx : x < 256) (hp : p1 = nI x) : ∃ c', f_X12_add c p1 p2 = some (1, c') ∧ UM c' t b e most (out ++ [x]) ∧ fm AF c c' := by
  subst hp
  have h5 := h.2.2.2.1
  unfold f_X12_add
  rw [h.2.1.2.1, h.2.2.1, if_neg (fun z => by have := (nI_eq (by omega) (by omega)).mp z; omega), j_in_nI (show out.length < ln 211 from (by show out.length < 512; omega)) (by decide), cond_true, nI_clamp (by omega)]
  dsimp only [st1]
  rw [sI_o (by decide), h.2.1.2.1, nI_1]
  have f1 : fm AF c (sI (sI c 211 out.length (nI x)) 201 23 (nI (out.length + 1))) := (fm.sI (Or.inl rfl)).tr (fm.sI (Or.inr ⟨rfl, rfl⟩))
  exact ⟨_, rfl, ⟨h.1.fm' f1 (fun o i z => by unfold AF at z; omega), h.2.1.add (x := x) (by decide) (show out.length < 512 by omega) hx, (f1.1 _ _ (by unfold AF; omega)).trans h.2.2.1, h5, by simp; omega⟩, f1⟩
theorem m_add_no {c : hS} {t out : List Nat} {b e most : Nat} {p1 p2 : Int32} (h : UM c t b e most out) (hl : ¬ out.length < most) : ∃ c', f_X12_add c p1 p2 = some (0, c') ∧ fm UF c c' := by
  have h5 := h.2.2.2.2
  unfold f_X12_add
  rw [h.2.1.2.1, h.2.2.1, if_pos (show nI out.length = nI most by rw [show out.length = most by omega])]
  exact b_fail (fun i z => Or.inl ⟨rfl, by omega⟩)
noncomputable def XR (X : Option (Int32 × hS)) (c : hS) (t : List Nat) (e most : Nat) (r : Option (List Nat × Nat)) : Prop := ∃ c', X = some (bI r.isSome, c') ∧ fm UF c c' ∧ ∀ out b, r = some (out, b) → UM c' t b e most out
theorem XR.no {X : Option (Int32 × hS)} {c c1 : hS} {t : List Nat} {e most : Nat} {r : Option (List Nat × Nat)} (hr : r = none) (hX : ∃ c', X = some (0, c') ∧ fm UF c1 c') (hf : fm UF c c1) : XR X c t e most r := by
  obtain ⟨c', e1, f1⟩ := hX
  subst hr
  exact ⟨c', e1, hf.tr f1, fun _ _ z => by cases z⟩
theorem XR.yes {c c1 : hS} {t : List Nat} {e most b : Nat} {out : List Nat} (h : UM c1 t b e most out) (hf : fm UF c c1) : XR (some (1, c1)) c t e most (some (out, b)) := ⟨c1, rfl, hf, fun _ _ z => by cases z; exact h⟩
theorem XR.pre {X : Option (Int32 × hS)} {c c1 : hS} {t : List Nat} {e most : Nat} {r : Option (List Nat × Nat)} (h : XR X c1 t e most r) (hf : fm UF c c1) : XR X c t e most r := by
  obtain ⟨c', a1, a2, a3⟩ := h
  exact ⟨c', a1, hf.tr a2, a3⟩
theorem u_fail (c1 : hS) (a p : Int32) : ∃ c', (bnd (f_X12_fails c1 a p) fun x c2 => bif j_b x then some (x, c2) else none) = some (0, c') ∧ fm UF c1 c' := b_fail (fun i z => Or.inl ⟨rfl, by omega⟩)
theorem stoB_s (t : List Nat) (b n : Nat) : stoB t b (n + 1) = bv t b 8 :: stoB t (b + 8) n := by
  unfold stoB
  rw [List.range_succ_eq_map]
  simp only [List.map_cons, List.map_map, Nat.mul_zero, Nat.add_zero]
  congr 1
  apply List.map_congr_left
  intro i _
  simp only [Function.comp]
  congr 1
  omega
theorem m_plain {N : Nat} {c : hS} {t out : List Nat} {b e most : Nat} {p1 : Int32} (hN : 1000000 ≤ N) (h : UM c t b e most out) (he8 : e % 8 = 0) : XR (f_X12_plain N c p1) c t e most (stoF t e most b out) := by
  have hee := h.1.e
  have hbe := h.1.2.2.2.1
  obtain ⟨b', eb⟩ : ∃ b', b' = (b + 7) / 8 * 8 := ⟨_, rfl⟩
  have hb' : b' ≤ e := by omega
  unfold f_X12_plain stoF
  rw [← eb, h.1.2.1, show (nI b + 7) / 8 * 8 = nI b' from by rw [show nI b + 7 = nI (b + 7) from nI_add b 7, show (8 : Int32) = nI 8 from rfl, div_nI (by omega) (by decide), nI_mul, eb]]
  dsimp only [st1]
  have f1 : fm F25 c (sI c 201 25 (nI b')) := fm.sI ⟨rfl, rfl⟩
  have h1 : UM (sI c 201 25 (nI b')) t b' e most out := h.mv (h.1.mv hb') f1 (fun o i z => by unfold F25 at z; omega)
  refine XR.pre ?_ (f1.mono (fun o i z => UF_25 z))
  revert h1
  generalize sI c 201 25 (nI b') = c1
  intro h1
  have mv5 : ∀ {c1 c2 : hS} {b1 b2 : Nat} {out : List Nat}, UM c1 t b1 e most out → UB c2 t b2 e → fm F25 c1 c2 → UM c2 t b2 e most out := fun a b f => a.mv b f (fun o i z => by unfold F25 at z; omega)
  by_cases q : b' + 32 ≤ e
  · rw [if_pos q]
    obtain ⟨c2, e2, u2, f2⟩ := m_bits (p := 16) (n := 16) hN h1.1 (by omega) (by decide) rfl
    obtain ⟨c3, e3, u3, f3⟩ := m_bits (p := 16) (n := 16) hN u2 (by omega) (by decide) rfl
    have h3 := mv5 (mv5 h1 u2 f2) u3 f3
    have l1 := bv_lt t b' 16
    have l2 := bv_lt t (b' + 16) 16
    rw [e2, bnd_some, e3, bnd_some, if_pos u3.2.2.2.2.2, nI_add]
    refine XR.pre ?_ ((f2.tr f3).mono (fun o i z => UF_25 z))
    obtain ⟨L, eL⟩ : ∃ L, L = bv t b' 16 := ⟨_, rfl⟩
    rw [← eL] at l1 ⊢
    by_cases q2 : bv t (b' + 16) 16 = 65535 - L
    · rw [if_pos q2, if_pos (show nI (L + bv t (b' + 16) 16) = 65535 by rw [q2, show L + (65535 - L) = 65535 by omega]; rfl)]
      have h3' : UM c3 t (b' + 32) e most out := by rw [show b' + 16 + 16 = b' + 32 by omega] at h3; exact h3
      have key : ∀ d m i b1 out c, i + d = L → d < m → UM c t b1 e most out → XR (f_X12_plain_60 N p1 m c (nI L) (nI i)) c t e most (if b1 + 8 * d ≤ e ∧ out.length + d ≤ most then some (out ++ stoB t b1 d, b1 + 8 * d) else none) := by
        intro d
        induction d with
        | zero =>
          intro m i b1 out c hi hm hu
          obtain ⟨m, rfl⟩ : ∃ j, m = j + 1 := ⟨m - 1, by omega⟩
          have h1 := hu.1.2.2.2.1
          have h2 := hu.2.2.2.2
          rw [f_X12_plain_60, if_pos (nI_le (by omega) (by omega)), if_pos (by omega)]
          have : out ++ stoB t b1 0 = out := by unfold stoB; simp
          rw [this]
          exact XR.yes hu fm.rf
        | succ d ih =>
          intro m i b1 out c hi hm hu
          obtain ⟨m, rfl⟩ : ∃ j, m = j + 1 := ⟨m - 1, by omega⟩
          rw [f_X12_plain_60, if_neg (nI_ge (by omega) (by omega))]
          by_cases w : b1 + 8 ≤ e
          · obtain ⟨c2, e2, u2, f2⟩ := m_bits (p := 8) (n := 8) hN hu.1 w (by decide) rfl
            have h2 := mv5 hu u2 f2
            have lb := bv_lt t b1 8
            rw [e2, bnd_some, if_pos u2.2.2.2.2.2]
            refine XR.pre ?_ (f2.mono (fun o i z => UF_25 z))
            by_cases w2 : out.length < most
            · obtain ⟨c4, e4, h4, f4⟩ := m_add (x := bv t b1 8) (p2 := c.1 201 25 / 8) h2 w2 (by omega) rfl
              rw [e4, bnd_some, if_neg (by decide), nI_1]
              have := ih m (i + 1) (b1 + 8) (out ++ [bv t b1 8]) c4 (by omega) (by omega) h4
              refine XR.pre ?_ (f4.mono (fun o i z => by unfold AF at z; unfold UF; omega))
              rw [stoB_s]
              rw [show (out ++ [bv t b1 8]).length = out.length + 1 by simp] at this
              by_cases w3 : b1 + 8 * (d + 1) ≤ e ∧ out.length + (d + 1) ≤ most
              · rw [if_pos (by omega)] at this
                rw [if_pos w3, show b1 + 8 * (d + 1) = b1 + 8 + 8 * d by omega]
                simpa using this
              · rw [if_neg (by omega)] at this
                rw [if_neg w3]
                exact this
            · obtain ⟨c4, e4, f4⟩ := m_add_no (p1 := nI (bv t b1 8)) (p2 := c.1 201 25 / 8) h2 w2
              rw [e4, bnd_some, if_pos rfl]
              exact XR.no (by rw [if_neg (by omega)]) ⟨c4, rfl, f4⟩ fm.rf
          · obtain ⟨x, c2, e2, v2, f2⟩ := m_bits_no (p := 8) (n := 8) hN hu.1 (by omega) (by decide) rfl
            rw [e2, bnd_some, if_neg v2]
            exact XR.no (by rw [if_neg (by omega)]) ⟨c2, rfl, f2.mono (fun o i z => UF_F z)⟩ fm.rf
      exact key L N 0 (b' + 32) out c3 (by omega) (by omega) h3'
    · rw [if_neg q2, if_neg (show ¬ nI (L + bv t (b' + 16) 16) = 65535 from fun z => q2 (by have := (nI_eq (b := 65535) (by omega) (by decide)).mp z; omega))]
      exact XR.no rfl (u_fail _ _ _) fm.rf
  · rw [if_neg q]
    by_cases q1 : b' + 16 ≤ e
    · obtain ⟨c2, e2, u2, f2⟩ := m_bits (p := 16) (n := 16) hN h1.1 q1 (by decide) rfl
      obtain ⟨x, c3, e3, v3, f3⟩ := m_bits_no (p := 16) (n := 16) hN u2 (by omega) (by decide) rfl
      rw [e2, bnd_some, e3, bnd_some, if_neg v3]
      exact XR.no rfl ⟨c3, rfl, (f2.mono (fun o i z => UF_25 z)).tr (f3.mono (fun o i z => UF_F z))⟩ fm.rf
    · obtain ⟨x, c2, e2, v2, f2⟩ := m_bits_no (p := 16) (n := 16) hN h1.1 (by omega) (by decide) rfl
      rw [e2, bnd_some, m_bits_x hN v2, bnd_some, if_neg v2]
      exact XR.no rfl ⟨c2, rfl, f2.mono (fun o i z => UF_F z)⟩ fm.rf
theorem dbase_pos : ∀ s, s < 30 → 1 ≤ dbase s := by decide +kernel
theorem m_copies {N n far : Nat} {v1 : Int32} {k0 : hS → Option (Int32 × hS)} {t : List Nat} {b e most : Nat} (hf : 1 ≤ far) : ∀ d m i c out, i + d = n → n < 2 ^ 31 → d < m → far ≤ out.length → UM c t b e most out → (if out.length + d ≤ most then ∃ c', f_X12_readSymbols_193 N k0 m c v1 (nI n) (nI far) (nI i) = k0 c' ∧ UM c' t b e most (cpy far d out) ∧ fm AF c c' else ∃ c', f_X12_readSymbols_193 N k0 m c v1 (nI n) (nI far) (nI i) = some (0, c') ∧ fm UF c c') := by
  intro d
  induction d with
  | zero =>
    intro m i c out hi hn hm hfo hu
    obtain ⟨m, rfl⟩ : ∃ j, m = j + 1 := ⟨m - 1, by omega⟩
    rw [if_pos (by have := hu.2.2.2.2; omega)]
    rw [f_X12_readSymbols_193, if_pos (nI_le (by omega) (by omega))]
    exact ⟨c, rfl, hu, fm.rf⟩
  | succ d ih =>
    intro m i c out hi hn hm hfo hu
    obtain ⟨m, rfl⟩ : ∃ j, m = j + 1 := ⟨m - 1, by omega⟩
    have h5 := hu.2.2.2.1
    have ho := hu.2.2.2.2
    have ex : f_X12_readSymbols_193 N k0 (m + 1) c v1 (nI n) (nI far) (nI i) = bnd (f_X12_add c (nI (gt out (out.length - far))) v1) fun x1 c2 => if x1 = 0 then some (0, c2) else f_X12_readSymbols_193 N k0 m c2 v1 (nI n) (nI far) (nI (i + 1)) := by
      rw [f_X12_readSymbols_193, if_neg (nI_ge (by omega) (by omega)), hu.2.1.2.1, subI hfo, j_in_nI (show out.length - far < ln 211 from (by show out.length - far < 512; omega)) (by decide), cond_true, nI_clamp (by omega), hu.2.1.2.2.1 _ (by omega), nI_1]
    rw [ex]
    by_cases w : out.length < most
    · obtain ⟨c2, e2, h2, f2⟩ := m_add (x := gt out (out.length - far)) (p2 := v1) hu w (hu.2.1.2.2.2.gt _) rfl
      have f2' : fm UF c c2 := f2.mono (fun o i z => by unfold AF at z; unfold UF; omega)
      rw [e2, bnd_some, if_neg (show ¬ (1 : Int32) = 0 by decide)]
      have := ih m (i + 1) c2 (out ++ [gt out (out.length - far)]) (by omega) hn (by omega) (by simp; omega) h2
      rw [show (out ++ [gt out (out.length - far)]).length = out.length + 1 by simp] at this
      by_cases q : out.length + (d + 1) ≤ most
      · rw [if_pos (by omega)] at this
        rw [if_pos q]
        obtain ⟨c', a1, a2, a3⟩ := this
        exact ⟨c', a1, a2, f2.tr a3⟩
      · rw [if_neg (by omega)] at this
        rw [if_neg q]
        obtain ⟨c', a1, a2⟩ := this
        exact ⟨c', a1, f2'.tr a2⟩
    · obtain ⟨c2, e2, f2⟩ := m_add_no (p1 := nI (gt out (out.length - far))) (p2 := v1) hu w
      rw [if_neg (by omega), e2, bnd_some, if_pos rfl]
      exact ⟨c2, rfl, f2⟩
theorem mcd_U {c c1 : hS} {base : Nat} {lens : List Nat} (h : mcd c base lens) (hf : fm (fun o i => UF o i ∧ o ≠ 212 ∧ o ≠ 213) c c1) : mcd c1 base lens := mcd_fm h hf (fun o i z => z.2)
theorem m_readSymbols {N : Nat} {c : hS} {t out lS lD lS' lD' : List Nat} {b e most : Nat} (hN : 1000000 ≤ N) (h : UM c t b e most out) (qS : mcd c 0 lS') (qD : mcd c 300 lD') (l1 : lS'.length = 288) (l2 : lD'.length = 32) (dS : ∀ b, dec t e lS' b = dec t e lS b) (dD : ∀ b, dec t e lD' b = dec t e lD b) : XR (f_X12_readSymbols N c) c t e most (symF t e lS lD most (e - b + 1) b out) := by
  have hee := h.1.e
  have mv5 : ∀ {c1 c2 : hS} {b1 b2 : Nat} {out : List Nat}, UM c1 t b1 e most out → UB c2 t b2 e → fm F25 c1 c2 → UM c2 t b2 e most out := fun a b f => a.mv b f (fun o i z => by unfold F25 at z; omega)
  have cd5 : ∀ {c1 c2 : hS} {base : Nat} {lens : List Nat}, mcd c1 base lens → fm F25 c1 c2 → mcd c2 base lens := fun a f => mcd_fm a f (fun o i z => by unfold F25 at z; omega)
  -- UF without the codes
  have key : ∀ f n b c out, e - b < f → f < n → UM c t b e most out → mcd c 0 lS' → mcd c 300 lD' → XR (f_X12_readSymbols_0 N n c) c t e most (symF t e lS lD most f b out) := by
    intro f
    induction f with
    | zero => intro n b c out h1; omega
    | succ f ih =>
      intro n b c out hf hn hu qS qD
      obtain ⟨n, rfl⟩ : ∃ m, n = m + 1 := ⟨n - 1, by omega⟩
      rw [f_X12_readSymbols_0]
      obtain ⟨x, c2, e2, g2⟩ := m_symbol (p1 := 0) (p2 := 288) hN hu.1 qS (by omega) rfl (by rw [l1]; rfl)
      rw [e2, bnd_some]
      rw [dS] at g2
      cases hd : dec t e lS b with
      | none =>
        rw [hd] at g2
        rw [symF_no hd]
        have f2' : fm UF c c2 := g2.2.mono (fun o i z => UF_F z)
        rcases g2.1 with ⟨z, _⟩ | ⟨z, _, _⟩
        · rw [z, if_pos rfl]
          exact XR.no rfl ⟨c2, rfl, f2'⟩ fm.rf
        · rw [z, if_neg (by decide), if_pos rfl]
          exact XR.no rfl (u_fail _ _ _) f2'
      | some p =>
        obtain ⟨s, b1⟩ := p
        rw [hd] at g2
        obtain ⟨ex, u2, f2⟩ := g2
        have ex : x = nI s := ex
        have u2 : UB c2 t b1 e := u2
        have h2 := mv5 hu u2 f2
        have qS2 := cd5 qS f2
        have qD2 := cd5 qD f2
        have f2' : fm UF c c2 := f2.mono (fun o i z => UF_25 z)
        have dl := dec_lt hd
        have s288 : s < 288 := by
          have := dec_lt ((dS b).trans hd)
          omega
        rw [symF_so hd, ex, if_neg (nm1' (by omega)), if_neg (show ¬ nI s = -2 from fun z => by have := nI_pos (n := s) (by omega); rw [z] at this; exact this (by decide))]
        refine XR.pre ?_ f2'
        by_cases s285 : s ≤ 285
        · rw [if_pos (show nI s ≤ 285 from nI_le (b := 285) s285 (by decide))]
          by_cases s256 : s = 256
          · rw [if_pos (show nI s = 256 by rw [s256]; rfl), if_pos (kd0 s256)]
            exact XR.yes h2 fm.rf
          · rw [if_neg (show ¬ nI s = 256 from fun z => s256 ((nI_eq (b := 256) (by omega) (by decide)).mp z))]
            by_cases slt : s ≤ 256
            · rw [if_neg (show ¬ (256 : Int32) ≤ nI s from nI_ge (b := 256) (by omega) (by decide)), if_neg (by rw [kd1 s256 s285 slt]; decide), if_pos (kd1 s256 s285 slt)]
              by_cases w : out.length < most
              · obtain ⟨c4, e4, h4, f4⟩ := m_add (x := s) (p2 := c.1 201 25 / 8) h2 w (by omega) rfl
                rw [e4, bnd_some, if_neg (by decide), if_pos w]
                refine XR.pre ?_ (f4.mono (fun o i z => by unfold AF at z; unfold UF; omega))
                exact ih n b1 c4 _ (by omega) (by omega) h4 (mcd_fm qS2 f4 (fun o i z => by unfold AF at z; omega)) (mcd_fm qD2 f4 (fun o i z => by unfold AF at z; omega))
              · obtain ⟨c4, e4, f4⟩ := m_add_no (p1 := nI s) (p2 := c.1 201 25 / 8) h2 w
                rw [e4, bnd_some, if_pos rfl, if_neg w]
                exact XR.no rfl ⟨c4, rfl, f4⟩ fm.rf
            · have k2 := kd2 s256 s285 slt
              rw [if_pos (show (256 : Int32) ≤ nI s from nI_le (a := 256) (by omega) (by omega)), if_neg (by rw [k2]; decide), if_neg (by rw [k2]; decide), if_pos k2, show nI s - 257 = nI (stp s) from subI (b := 257) (by omega)]
              have s29 : stp s < 29 := by unfold stp; omega
              obtain ⟨c6, e6, v6, f6⟩ := m_lengthOf (c := c2) s29
              have u6 : UB c6 t b1 e := u2.fm' f6 (fun o i z => ⟨by omega, by omega⟩)
              have h6 : UM c6 t b1 e most out := h2.mv u6 f6 (fun o i z => by omega)
              have qS6 : mcd c6 0 lS' := mcd_fm qS2 f6 (fun o i z => by omega)
              have qD6 : mcd c6 300 lD' := mcd_fm qD2 f6 (fun o i z => by omega)
              have lb := lbits_lt (stp s) s29
              have lbs := lbase_lt (stp s) s29
              rw [e6, bnd_some, v6]
              refine XR.pre ?_ (f6.mono (fun o i z => by unfold UF; omega))
              by_cases q1 : b1 + lbits (stp s) ≤ e
              · obtain ⟨c8, e8, u8, f8⟩ := m_bits (n := lbits (stp s)) hN u6 q1 (by omega) rfl
                have h8 := mv5 h6 u8 f8
                have qS8 := cd5 qS6 f8
                have qD8 := cd5 qD6 f8
                have bl := bv_lt t b1 (lbits (stp s))
                have bl2 : 2 ^ lbits (stp s) ≤ 2 ^ 5 := Nat.pow_le_pow_right (by decide) lb
                rw [e8, bnd_some, if_pos u8.2.2.2.2.2]
                refine XR.pre ?_ (f8.mono (fun o i z => UF_25 z))
                obtain ⟨y, c10, e10, g10⟩ := m_symbol (p1 := 300) (p2 := 32) hN u8 qD8 (by omega) rfl (by rw [l2]; rfl)
                rw [e10, bnd_some]
                rw [dD] at g10
                cases hd2 : dec t e lD (b1 + lbits (stp s)) with
                | none =>
                  have cn : copF t e lD most out (stp s) b1 = none := by unfold copF; rw [if_pos q1, hd2]
                  rw [hd2] at g10
                  rw [cn]
                  have f10 : fm UF c8 c10 := g10.2.mono (fun o i z => UF_F z)
                  rcases g10.1 with ⟨z, _⟩ | ⟨z, _, _⟩
                  · rw [z, if_pos rfl]
                    exact XR.no rfl ⟨c10, rfl, f10⟩ fm.rf
                  · rw [z, if_neg (by decide), if_pos rfl]
                    exact XR.no rfl (u_fail _ _ _) f10
                | some p2 =>
                  obtain ⟨d, b2⟩ := p2
                  rw [hd2] at g10
                  obtain ⟨ey, u10, f10⟩ := g10
                  have ey : y = nI d := ey
                  have u10 : UB c10 t b2 e := u10
                  have h10 := mv5 h8 u10 f10
                  have qS10 := cd5 qS8 f10
                  have qD10 := cd5 qD8 f10
                  have dl2 := dec_lt hd2
                  have d32 : d < 32 := by
                    have := dec_lt ((dD (b1 + lbits (stp s))).trans hd2)
                    omega
                  rw [ey, if_neg (nm1' (by omega)), if_neg (show ¬ nI d = -2 from fun z => by have := nI_pos (n := d) (by omega); rw [z] at this; exact this (by decide))]
                  refine XR.pre ?_ (f10.mono (fun o i z => UF_25 z))
                  by_cases q2 : d ≤ 29
                  · rw [if_pos (show nI d ≤ 29 from nI_le (b := 29) q2 (by decide))]
                    obtain ⟨c14, e14, v14, f14⟩ := m_distanceOf (c := c10) (s := d) (by omega)
                    have u14 : UB c14 t b2 e := u10.fm' f14 (fun o i z => ⟨by omega, by omega⟩)
                    have h14 : UM c14 t b2 e most out := h10.mv u14 f14 (fun o i z => by omega)
                    have qS14 : mcd c14 0 lS' := mcd_fm qS10 f14 (fun o i z => by omega)
                    have qD14 : mcd c14 300 lD' := mcd_fm qD10 f14 (fun o i z => by omega)
                    have db := dbits_lt d (by omega)
                    have dbs := dbase_lt d (by omega)
                    have dbp := dbase_pos d (by omega)
                    rw [e14, bnd_some, v14]
                    refine XR.pre ?_ (f14.mono (fun o i z => by unfold UF; omega))
                    by_cases q3 : b2 + dbits d ≤ e
                    · obtain ⟨c16, e16, u16, f16⟩ := m_bits (n := dbits d) hN u14 q3 (by omega) rfl
                      have h16 := mv5 h14 u16 f16
                      have qS16 := cd5 qS14 f16
                      have qD16 := cd5 qD14 f16
                      have bl3 := bv_lt t b2 (dbits d)
                      have bl4 : 2 ^ dbits d ≤ 2 ^ 13 := Nat.pow_le_pow_right (by decide) db
                      have ol : out.length ≤ 512 := by have := h16.2.2.2; omega
                      rw [e16, bnd_some, if_pos u16.2.2.2.2.2, nI_add, nI_add, h16.2.1.2.1]
                      refine XR.pre ?_ (f16.mono (fun o i z => UF_25 z))
                      obtain ⟨nn, enn⟩ : ∃ nn, nn = lbase (stp s) + bv t b1 (lbits (stp s)) := ⟨_, rfl⟩
                      obtain ⟨ff, eff⟩ : ∃ ff, ff = dbase d + bv t b2 (dbits d) := ⟨_, rfl⟩
                      have hff : 1 ≤ ff ∧ ff < 2 ^ 31 := by omega
                      have hnn : nn < 1000 := by omega
                      rw [← enn, ← eff]
                      by_cases q4 : ff ≤ out.length
                      · rw [if_pos (nI_le q4 (by omega))]
                        have mc := m_copies (N := N) (v1 := c.1 201 25 / 8) (k0 := f_X12_readSymbols_0 N n) (n := nn) (far := ff) hff.1 nn N 0 c16 out (Nat.zero_add _) (by omega) (by omega) q4 h16
                        by_cases q5 : out.length + nn ≤ most
                        · rw [if_pos q5] at mc
                          obtain ⟨c17, a1, a2, a3⟩ := mc
                          have a1' : f_X12_readSymbols_193 N (f_X12_readSymbols_0 N n) N c16 (c.1 201 25 / 8) (nI nn) (nI ff) 0 = _ := a1
                          have cs : copF t e lD most out (stp s) b1 = some (cpy ff nn out, b2 + dbits d) := by
                            unfold copF
                            rw [if_pos q1, hd2]
                            dsimp only
                            rw [if_pos q2, if_pos q3, ← enn, ← eff, if_pos ⟨q4, q5⟩]
                          rw [a1', cs]
                          dsimp only
                          refine XR.pre ?_ (a3.mono (fun o i z => by unfold AF at z; unfold UF; omega))
                          exact ih n (b2 + dbits d) c17 _ (by omega) (by omega) a2 (mcd_fm qS16 a3 (fun o i z => by unfold AF at z; omega)) (mcd_fm qD16 a3 (fun o i z => by unfold AF at z; omega))
                        · rw [if_neg q5] at mc
                          obtain ⟨c17, a1, a2⟩ := mc
                          have a1' : f_X12_readSymbols_193 N (f_X12_readSymbols_0 N n) N c16 (c.1 201 25 / 8) (nI nn) (nI ff) 0 = _ := a1
                          have cn : copF t e lD most out (stp s) b1 = none := by
                            unfold copF
                            rw [if_pos q1, hd2]
                            dsimp only
                            rw [if_pos q2, if_pos q3, ← enn, ← eff, if_neg (fun z => q5 z.2)]
                          rw [a1', cn]
                          exact XR.no rfl ⟨c17, rfl, a2⟩ fm.rf
                      · have cn : copF t e lD most out (stp s) b1 = none := by
                          unfold copF
                          rw [if_pos q1, hd2]
                          dsimp only
                          rw [if_pos q2, if_pos q3, ← enn, ← eff, if_neg (fun z => q4 z.1)]
                        rw [if_neg (nI_ge (by omega) (by omega)), cn]
                        exact XR.no rfl (u_fail _ _ _) fm.rf
                    · obtain ⟨x16, c16, e16, v16, f16⟩ := m_bits_no (n := dbits d) hN u14 (by omega) (by omega) rfl
                      have cn : copF t e lD most out (stp s) b1 = none := by
                        unfold copF
                        rw [if_pos q1, hd2]
                        dsimp only
                        rw [if_pos q2, if_neg q3]
                      rw [e16, bnd_some, if_neg v16, cn]
                      exact XR.no rfl ⟨c16, rfl, f16.mono (fun o i z => UF_F z)⟩ fm.rf
                  · have cn : copF t e lD most out (stp s) b1 = none := by
                      unfold copF
                      rw [if_pos q1, hd2]
                      dsimp only
                      rw [if_neg q2]
                    rw [if_neg (show ¬ nI d ≤ 29 from nI_ge (a := 29) (by omega) (by omega)), cn]
                    exact XR.no rfl (u_fail _ _ _) fm.rf
              · obtain ⟨x8, c8, e8, v8, f8⟩ := m_bits_no (n := lbits (stp s)) hN u6 (by omega) (by omega) rfl
                have cn : copF t e lD most out (stp s) b1 = none := by unfold copF; rw [if_neg q1]
                rw [e8, bnd_some, if_neg v8, cn]
                exact XR.no rfl ⟨c8, rfl, f8.mono (fun o i z => UF_F z)⟩ fm.rf
        · have k3 := kd3 (show ¬ s = 256 by omega) s285
          rw [if_neg (show ¬ nI s ≤ 285 from nI_ge (a := 285) (by omega) (by omega)), if_neg (by rw [k3]; decide), if_neg (by rw [k3]; decide), if_neg (by rw [k3]; decide)]
          exact XR.no rfl (u_fail _ _ _) fm.rf
  exact key (e - b + 1) N b c out (by omega) (by omega) h qS qD
theorem m_unpackFrom {N : Nat} {c : hS} {t : List Nat} {a behind most : Nat} {p1 p2 p3 : Int32} (hN : 1000000 ≤ N) (h : mrw c 4 203 t) (h5 : c.1 201 5 = 0) (hab : a ≤ behind) (hbt : behind ≤ t.length) (hm : most ≤ 512) (e1 : p1 = nI a) (e2 : p2 = nI behind) (e3 : p3 = nI most) : ∃ c', f_X12_unpackFrom N c p1 p2 p3 = some (bI (opn t a behind most).isSome, c') ∧ fm UF c c' ∧ ∀ out, opn t a behind most = some out → mrw c' 23 211 out ∧ out.length ≤ most ∧ c'.1 201 5 = 0 := by
  subst e1 e2 e3
  have ht : t.length ≤ 20000 := h.1
  have mv5 : ∀ {c1 c2 : hS} {b1 b2 : Nat} {out : List Nat}, UM c1 t b1 (8 * behind) most out → UB c2 t b2 (8 * behind) → fm F25 c1 c2 → UM c2 t b2 (8 * behind) most out := fun a b f => a.mv b f (fun o i z => by unfold F25 at z; omega)
  have key : ∀ f n b c out, 8 * behind - b < f → f < n → UM c t b (8 * behind) most out → ∃ c', f_X12_unpackFrom_29 N (nI a) (nI behind) (nI most) n c 0 = some (bI (opF t behind most f b out).isSome, c') ∧ fm UF c c' ∧ ∀ out', opF t behind most f b out = some out' → mrw c' 23 211 out' ∧ out'.length ≤ most ∧ c'.1 201 5 = 0 := by
    intro f
    induction f with
    | zero => intro n b c out h1; omega
    | succ f ih =>
      intro n b c out hf hn hu
      obtain ⟨n, rfl⟩ : ∃ m, n = m + 2 := ⟨n - 2, by omega⟩
      have hbe := hu.1.2.2.2.1
      have eo : opF t behind most (f + 1) b out = match blkF t (8 * behind) most b out with
        | none => none
        | some q => if bt8 t b = 1 then (if (q.2 + 7) / 8 = behind then some q.1 else none) else opF t behind most f q.2 q.1 := by
        unfold opF
        rw [opG]
        cases blkF t (8 * behind) most b out with
        | none => rfl
        | some q => simp only [decide_eq_true_eq]
      -- a block that fails
      have bad : ∀ {X : Option (Int32 × hS)}, blkF t (8 * behind) most b out = none → (∃ c', X = some (0, c') ∧ fm UF c c') → ∃ c', X = some (bI (opF t behind most (f + 1) b out).isSome, c') ∧ fm UF c c' ∧ ∀ out', opF t behind most (f + 1) b out = some out' → mrw c' 23 211 out' ∧ out'.length ≤ most ∧ c'.1 201 5 = 0 := by
        intro X hb ⟨c', x1, x2⟩
        rw [eo, hb]
        exact ⟨c', x1, x2, fun _ z => by cases z⟩
      -- behind a block
      have next : ∀ (c1 : hS) (b1 : Nat) (out1 : List Nat) (l : Int32), blkF t (8 * behind) most b out = some (out1, b1) → l = nI (bt8 t b) → UM c1 t b1 (8 * behind) most out1 → fm UF c c1 → ∃ c', f_X12_unpackFrom_29 N (nI a) (nI behind) (nI most) (n + 1) c1 l = some (bI (opF t behind most (f + 1) b out).isSome, c') ∧ fm UF c c' ∧ ∀ out', opF t behind most (f + 1) b out = some out' → mrw c' 23 211 out' ∧ out'.length ≤ most ∧ c'.1 201 5 = 0 := by
        intro c1 b1 out1 l hb hl h1 hf1
        have lt := blkF_lt hb
        have e1 := h1.1.e
        rw [eo, hb]
        dsimp only
        by_cases q : bt8 t b = 1
        · rw [if_pos q, f_X12_unpackFrom_29, hl, q, if_neg (by decide), h1.1.2.1, show (nI b1 + 7) / 8 = nI ((b1 + 7) / 8) from by rw [show nI b1 + 7 = nI (b1 + 7) from nI_add b1 7, show (8 : Int32) = nI 8 from rfl, div_nI (by omega) (by decide)]]
          by_cases w : (b1 + 7) / 8 = behind
          · rw [if_pos (by rw [w]), if_pos w]
            exact ⟨c1, rfl, hf1, fun out' z => by cases z; exact ⟨h1.2.1, h1.2.2.2.2, h1.1.2.2.2.2.2⟩⟩
          · rw [if_neg (fun z => w ((nI_eq (by omega) (by omega)).mp z)), if_neg w]
            obtain ⟨c2, x1, x2⟩ := m_failsX (c := c1) (a := 27) (p := nI ((b1 + 7) / 8))
            rw [x1, bnd_some, if_pos rfl]
            exact ⟨c2, rfl, hf1.tr (x2.mono (fun o i z => by unfold UF; omega)), fun _ z => by cases z⟩
        · have b0 : bt8 t b = 0 := by have := bt8_lt t b; omega
          rw [if_neg q, hl, b0]
          obtain ⟨c', x1, x2, x3⟩ := ih (n + 1) b1 c1 out1 (by omega) (by omega) h1
          exact ⟨c', x1, hf1.tr x2, x3⟩
      have r56 : ∀ (c1 : hS) (v5 l : Int32), b < 8 * behind → l = nI (bt8 t b) → UM c1 t (b + 1) (8 * behind) most out → fm UF c c1 → ∃ c', f_X12_unpackFrom_56 N (nI a) (nI behind) (nI most) (f_X12_unpackFrom_29 N (nI a) (nI behind) (nI most) (n + 1)) c1 v5 l = some (bI (opF t behind most (f + 1) b out).isSome, c') ∧ fm UF c c' ∧ ∀ out', opF t behind most (f + 1) b out = some out' → mrw c' 23 211 out' ∧ out'.length ≤ most ∧ c'.1 201 5 = 0 := by
        intro c1 v5 l hb hl h1 hf1
        unfold f_X12_unpackFrom_56
        by_cases q : b + 3 ≤ 8 * behind
        · obtain ⟨c2, e2, u2, f2⟩ := m_bits (p := 2) (n := 2) hN h1.1 (by omega) (by decide) rfl
          have h2 : UM c2 t (b + 3) (8 * behind) most out := mv5 h1 u2 f2
          have hf2 : fm UF c c2 := hf1.tr (f2.mono (fun o i z => UF_25 z))
          have l4 := bv_lt t (b + 1) 2
          have eb : blkF t (8 * behind) most b out = sorF t (8 * behind) most (bv t (b + 1) 2) (b + 3) out := by unfold blkF; rw [if_pos q]
          rw [e2, bnd_some, if_pos u2.2.2.2.2.2]
          obtain ⟨k, ek⟩ : ∃ k, k = bv t (b + 1) 2 := ⟨_, rfl⟩
          rw [← ek] at l4 eb ⊢
          have syms : ∀ (c3 : hS) (lS lD lS' lD' : List Nat) (b3 : Nat) (v7 : Int32), v7 ≠ 0 → blkF t (8 * behind) most b out = symF t (8 * behind) lS lD most (8 * behind - b3 + 1) b3 out → UM c3 t b3 (8 * behind) most out → mcd c3 0 lS' → mcd c3 300 lD' → lS'.length = 288 → lD'.length = 32 → (∀ b, dec t (8 * behind) lS' b = dec t (8 * behind) lS b) → (∀ b, dec t (8 * behind) lD' b = dec t (8 * behind) lD b) → fm UF c c3 → ∃ c', f_X12_unpackFrom_129 N (nI a) (nI behind) (nI most) (f_X12_unpackFrom_29 N (nI a) (nI behind) (nI most) (n + 1)) c3 l v7 = some (bI (opF t behind most (f + 1) b out).isSome, c') ∧ fm UF c c' ∧ ∀ out', opF t behind most (f + 1) b out = some out' → mrw c' 23 211 out' ∧ out'.length ≤ most ∧ c'.1 201 5 = 0 := by
            intro c3 lS lD lS' lD' b3 v7 hv eb3 h3 qS qD l1 l2 dS dD hf3
            obtain ⟨c4, x1, x2, x3⟩ := m_readSymbols hN h3 qS qD l1 l2 dS dD
            unfold f_X12_unpackFrom_129
            rw [if_neg hv, x1, bnd_some, ← eb3]
            rw [← eb3] at x3
            cases hbk : blkF t (8 * behind) most b out with
            | none =>
              rw [if_pos (show bI (none : Option (List Nat × Nat)).isSome = 0 from rfl)]
              exact bad hbk ⟨c4, rfl, hf3.tr x2⟩
            | some q2 =>
              obtain ⟨out1, b1⟩ := q2
              rw [if_neg (show ¬ bI (some (out1, b1)).isSome = 0 from (by decide : ¬ bI true = 0))]
              exact next c4 b1 out1 l hbk hl (x3 out1 b1 hbk) (hf3.tr x2)
          by_cases k3 : k = 3
          · rw [if_pos (show nI k = 3 by rw [k3]; rfl)]
            obtain ⟨c3, x1, x2⟩ := u_fail c2 21 v5
            exact bad (by rw [eb, k3]; rfl) ⟨c3, x1, hf2.tr x2⟩
          · rw [if_neg (show ¬ nI k = 3 from fun z => k3 ((nI_eq (b := 3) (by omega) (by decide)).mp z))]
            by_cases k0 : k = 0
            · rw [if_pos (show nI k = 0 by rw [k0]; rfl)]
              obtain ⟨c3, x1, x2, x3⟩ := m_plain (p1 := v5) hN h2 (by omega)
              have ebs : blkF t (8 * behind) most b out = stoF t (8 * behind) most (b + 3) out := by rw [eb, k0]; rfl
              rw [x1, bnd_some, ← ebs]
              rw [← ebs] at x3
              cases hbk : blkF t (8 * behind) most b out with
              | none =>
                rw [if_pos (show bI (none : Option (List Nat × Nat)).isSome = 0 from rfl)]
                exact bad hbk ⟨c3, rfl, hf2.tr x2⟩
              | some q2 =>
                obtain ⟨out1, b1⟩ := q2
                rw [if_neg (show ¬ bI (some (out1, b1)).isSome = 0 from (by decide : ¬ bI true = 0))]
                exact next c3 b1 out1 l hbk hl (x3 out1 b1 hbk) (hf2.tr x2)
            · rw [if_neg (nI_ne0 (by omega) (by omega))]
              by_cases k1 : k = 1
              · rw [if_pos (show nI k = 1 by rw [k1]; rfl)]
                obtain ⟨c5, x1, x2, x3, x4⟩ := m_layFixed (c := c2) hN
                rw [x1, bnd_some]
                have u5 : UB c5 t (b + 3) (8 * behind) := h2.1.fm' x4 (fun o i z => ⟨by omega, by omega⟩)
                exact syms c5 fxS fxD fxS fxD (b + 3) 1 (by decide) (by rw [eb, k1]; rfl) (h2.mv u5 x4 (fun o i z => by omega)) x2 x3 fxS_len fxD_len (fun _ => rfl) (fun _ => rfl) (hf2.tr (x4.mono (fun o i z => by unfold UF; omega)))
              · rw [if_neg (show ¬ nI k = 1 from fun z => k1 ((nI_eq (b := 1) (by omega) (by decide)).mp z))]
                have k2 : k = 2 := by omega
                obtain ⟨c4, x1, x2, x3⟩ := m_readCodes (p1 := v5) hN h2.1
                have hf4 : fm UF c c4 := hf2.tr (x2.mono (fun o i z => UF_D z))
                have eb2 : blkF t (8 * behind) most b out = match dynB t (8 * behind) (b + 3) with
                  | none => none
                  | some q => symF t (8 * behind) q.1 q.2.1 most (8 * behind - q.2.2 + 1) q.2.2 out := by rw [eb, k2]; rfl
                rw [x1, bnd_some]
                cases hdy : dynB t (8 * behind) (b + 3) with
                | none =>
                  rw [hdy] at eb2
                  unfold f_X12_unpackFrom_129
                  rw [if_pos (show bI (none : Option (List Nat × List Nat × Nat)).isSome = 0 from rfl)]
                  exact bad eb2 ⟨c4, rfl, hf4⟩
                | some q2 =>
                  rw [hdy] at eb2
                  obtain ⟨y1, y2, y3⟩ := x3 q2 hdy
                  have dl := dynB_lt hdy
                  have h4 : UM c4 t q2.2.2 (8 * behind) most out := h2.mv y1 x2 (fun o i z => by unfold DF F56 at z; omega)
                  exact syms c4 q2.1 q2.2.1 _ _ q2.2.2 _ (show bI (some q2).isSome ≠ 0 from (by decide : bI true ≠ 0)) eb2 h4 y2 y3 (by rw [List.length_append, List.length_replicate]; omega) (by rw [List.length_append, List.length_replicate]; omega) (fun _ => dec_pad) (fun _ => dec_pad) hf4
        · obtain ⟨x, c2, e2, v2, f2⟩ := m_bits_no (p := 2) (n := 2) hN h1.1 (by omega) (by decide) rfl
          rw [e2, bnd_some, if_neg v2]
          exact bad (by unfold blkF; rw [if_neg q]) ⟨c2, rfl, hf1.tr (f2.mono (fun o i z => UF_F z))⟩
      rw [f_X12_unpackFrom_29, if_pos rfl]
      by_cases q : b < 8 * behind
      · have f1 : fm F25 c (sI c 201 25 (nI (b + 1))) := fm.sI ⟨rfl, rfl⟩
        have h1 := mv5 hu (hu.1.mv (b' := b + 1) (by omega)) f1
        rw [m_bit hu.1 q, bnd_some]
        by_cases w : bt8 t b = 1
        · rw [if_pos (show nI (bt8 t b) = 1 by rw [w]; rfl)]
          exact r56 _ _ 1 q (by rw [w]; rfl) h1 (f1.mono (fun o i z => UF_25 z))
        · have b0 : bt8 t b = 0 := by have := bt8_lt t b; omega
          rw [if_neg (show ¬ nI (bt8 t b) = 1 by rw [b0]; decide)]
          exact r56 _ _ 0 q (by rw [b0]; rfl) h1 (f1.mono (fun o i z => UF_25 z))
      · obtain ⟨c2, e2, v2, f2⟩ := m_bit_no hu.1 (by omega)
        rw [e2, bnd_some, if_neg (by decide)]
        unfold f_X12_unpackFrom_56
        rw [m_bits_x hN v2, bnd_some, if_neg v2]
        exact bad (by unfold blkF; rw [if_neg (by omega)]) ⟨c2, rfl, f2.mono (fun o i z => by unfold UF; omega)⟩
  unfold f_X12_unpackFrom
  dsimp only [st1]
  rw [show (8 : Int32) * nI a = nI (8 * a) from nI_mul 8 a, show (8 : Int32) * nI behind = nI (8 * behind) from nI_mul 8 behind]
  obtain ⟨c4, e4⟩ : ∃ c4, sI (sI (sI (sI c 201 25 (nI (8 * a))) 201 26 (nI (8 * behind))) 201 24 (nI most)) 201 23 0 = c4 := ⟨_, rfl⟩
  have f4 : fm (fun o i => o = 201 ∧ 23 ≤ i ∧ i ≤ 26) c c4 := by rw [← e4]; exact (((fm.sI (by omega)).tr (fm.sI (by omega))).tr (fm.sI (by omega))).tr (fm.sI (by omega))
  rw [e4]
  have h4 : UM c4 t (8 * a) (8 * behind) most [] := by
    refine ⟨⟨h.fm f4 (by omega) (fun i => by omega), ?_, ?_, by omega, by omega, (f4.1 _ _ (by omega)).trans h5⟩, ⟨Nat.zero_le _, ?_, fun i hi => absurd hi (Nat.not_lt_zero i), fun x hx => by cases hx⟩, ?_, hm, Nat.zero_le _⟩
    · rw [← e4, sI_j (by decide), sI_j (by decide), sI_j (by decide), sI_s]
    · rw [← e4, sI_j (by decide), sI_j (by decide), sI_s]
    · rw [← e4, sI_s]; rfl
    · rw [← e4, sI_j (by decide), sI_s]
  obtain ⟨c', x1, x2, x3⟩ := key (8 * behind - 8 * a + 1) N (8 * a) c4 [] (by omega) (by omega) h4
  exact ⟨c', x1, (f4.mono (fun o i z => by unfold UF; omega)).tr x2, x3⟩
theorem m_unpack {N : Nat} {c : hS} {b t : List Nat} {ms : List Mb} (hN : 1000000 ≤ N) (h : PM c b t ms) : MN (f_X12_unpack N c) c 0 (unV t) (unB1 b t) t ms := by
  obtain ⟨c1, e1, h1, z1, f1⟩ := m_zero h
  unfold f_X12_unpack
  rw [e1]
  dsimp only [st1]
  obtain ⟨c3, e3⟩ : ∃ c3, sI (sI c1 201 5 0) 201 6 (-1) = c3 := ⟨_, rfl⟩
  have f3 : fm (fun o i => o = 201 ∧ (i = 5 ∨ i = 6)) c1 c3 := by rw [← e3]; exact (fm.sI (by omega)).tr (fm.sI (by omega))
  have v5 : c3.1 201 5 = 0 := by rw [← e3, sI_j (by decide), sI_s]
  rw [e3]
  have h3 := h1.mv f3 (fun o i z => by omega)
  obtain ⟨c5, e5, f5, g5⟩ := m_unpackFrom (p1 := 0) (p2 := c3.1 201 4) (p3 := 512) (a := 0) (behind := t.length) (most := 512) hN h3.2.1 v5 (Nat.zero_le _) (Nat.le_refl _) (Nat.le_refl _) rfl h3.2.1.2.1 rfl
  have f5' : fm (fun o i => (o = 201 ∧ (i = 5 ∨ i = 6 ∨ 23 ≤ i)) ∨ (208 < o ∧ o < 219)) c3 c5 := f5.mono (fun o i z => by unfold UF at z; omega)
  have h5 := h3.mv f5' (fun o i z => by omega)
  have z5 : c5.1 201 0 = 0 := by rw [f5'.1 _ _ (by omega), f3.1 _ _ (by omega)]; exact z1
  have fz : fm (fun o _ => 201 ≤ o ∧ o < 219) c c5 := (f1.tr (f3.mono (fun o i z => by omega))).tr (f5'.mono (fun o i z => by omega))
  rw [e5, bnd_some]
  unfold unV unB1
  cases ho : opn t 0 t.length 512 with
  | none =>
    rw [if_pos (show bI (none : Option (List Nat)).isSome = 0 from rfl)]
    exact ⟨_, c5, rfl, z5, fun _ => rfl, h5, fz⟩
  | some out =>
    obtain ⟨r5, l5, -⟩ := g5 out ho
    rw [if_neg (show ¬ bI (some out).isSome = 0 from (by decide : ¬ bI true = 0)), r5.2.1]
    dsimp only
    obtain ⟨c6, e6⟩ : ∃ c6, sI c5 201 2 (nI out.length) = c6 := ⟨_, rfl⟩
    have f6 : fm (fun o i => o = 201 ∧ i = 2) c5 c6 := by rw [← e6]; exact fm.sI ⟨rfl, rfl⟩
    have v6 : c6.1 201 2 = nI out.length := by rw [← e6, sI_s]
    rw [e6]
    obtain ⟨c7, e7, i7, w7, f7⟩ := cp_loop (F := f_X12_unpack_42 N) (X := fun c => some (c.1 201 2, c)) (o := 202) (o' := 211) (a := 0) (b := 0) (len := out.length) (fun c => c.1 201 23 = nI out.length) (fun c i x q => by rw [sI_o (by decide)]; exact q) (fun n c i hi q => by
      rw [f_X12_unpack_42, q, if_neg (nI_ge hi (by omega)), j_in_nI (show i < ln 211 from (by show i < 512; omega)) (by decide), cond_true, j_in_nI (show i < ln 202 from (by show i < 512; omega)) (by decide), cond_true, nI_clamp (by omega), Nat.zero_add]
      rfl) (fun n c q => by rw [f_X12_unpack_42, q, if_pos (nI_le (Nat.le_refl _) (by omega))]) (by omega) out.length N c6 0 (by omega) (by omega) ((f6.1 _ _ (by omega)).trans r5.2.1)
    have f7' : fm (fun o i => o = 202) c6 c7 := f7.mono (fun o i z => z.1)
    have f67 : fm (fun o i => (o = 201 ∧ i = 2) ∨ o = 202) c5 c7 := (f6.mono (fun o i z => Or.inl z)).tr (f7'.mono (fun o i z => Or.inr z))
    have e7' : f_X12_unpack_42 N N c6 0 = some (c7.1 201 2, c7) := e7
    have v7 : c7.1 201 2 = nI out.length := (f7'.1 _ _ (by omega)).trans v6
    have r7 : mrw c7 2 202 out := ⟨show out.length ≤ 512 from l5, v7, fun i hi => by
      have := w7 i (Nat.zero_le _) hi
      rw [Nat.zero_add] at this
      rw [this, f6.1 _ _ (by omega)]
      exact r5.2.2.1 i hi, r5.2.2.2⟩
    rw [e7', v7]
    exact ⟨_, c7, rfl, (f67.1 _ _ (by omega)).trans z5, fun _ => rfl, h5.bf f67 (fun o i z => by omega) r7, fz.tr (f67.mono (fun o i z => by omega))⟩
