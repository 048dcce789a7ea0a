/-! PURE: the reference: read -/
noncomputable def MG {α : Type} (X : Option (α × hS)) (c : hS) (k : Nat) (v : α) (b t : List Nat) (ms : List Mb) : Prop := ∃ x c', X = some (x, c') ∧ c'.1 201 0 = nI k ∧ (k = 0 → x = v) ∧ PM c' b t ms ∧ gm (fun o _ => 201 ≤ o ∧ o < 219) c c'
theorem MN_g {α : Type} {X : Option (α × hS)} {c : hS} {k : Nat} {v : α} {b t : List Nat} {ms : List Mb} (h : MN X c k v b t ms) : MG X c k v b t ms := by
  obtain ⟨x, c', a1, a2, a3, a4, a5⟩ := h
  exact ⟨x, c', a1, a2, a3, a4, fm_g a5⟩
theorem RQ_m {o i m : Nat} (h : RQ o i) (hm : m < 17) : ¬ msl m o i := by
  rcases h with q | q | q
  · unfold msl; omega
  · unfold msl; omega
  · exact rg_msl q (Or.inl hm)
theorem RQ_201 {o i : Nat} (h : RQ o i) : (o = 201 ∧ i ≠ 0 ∧ i ≠ 2 ∧ i ≠ 4 ∧ i ≠ 7) ∨ (203 < o ∧ o < 219) := by
  rcases h with q | q | q
  · omega
  · omega
  · have := rg_n q; omega
theorem PM_rd {c c1 : hS} {b t : List Nat} {ms : List Mb} (h : PM c b t ms) (hf : gm RQ c c1) : PM c1 b t ms := by
  have n : ∀ o i, ¬ ((o = 201 ∧ i ≠ 0 ∧ i ≠ 2 ∧ i ≠ 4 ∧ i ≠ 7) ∨ (203 < o ∧ o < 219)) → ¬ RQ o i := fun o i q z => q (RQ_201 z)
  have h16 := h.2.2.2.1
  refine ⟨mrw_1 (h.1.fm (gm_f hf) (n _ _ (by omega)) (fun i => n _ _ (by omega))) rfl, mrw_1 (h.2.1.fm (gm_f hf) (n _ _ (by omega)) (fun i => n _ _ (by omega))) rfl, (hf.1 _ _ (n _ _ (by omega))).trans h.2.2.1, h16, fun i hi => ?_, h.2.2.2.2.2⟩
  have := mmbAt (h.2.2.2.2.1 i hi) (gm_f hf) (fun o j z => RQ_m z (by omega))
  exact this
theorem m_read {N : Nat} {c : hS} {b t : List Nat} {ms : List Mb} {w : Int32} (hN : 1000000 ≤ N) (h : PM c b t ms) : MG (f_X12_read N c w) c (wrK w) (rdV t w) b t (rdM t ms w) := by
  obtain ⟨c1, e1, h1, z1, f1⟩ := m_zero h
  have h16 := h.2.2.2.1
  unfold f_X12_read wrK
  rw [e1]
  dsimp only [st1]
  rw [m_in (a := 0) (b := 2) (a' := 0) (b' := 2) (by decide) (by decide), bnd_some, in_02]
  unfold f_X12_read_23
  by_cases o : w = 0 ∨ w = 1 ∨ w = 2
  · rw [decide_eq_true o, if_neg (by decide), if_pos o, m_ref0 z1, bnd_some, if_pos rfl]
    dsimp only [st1]
    obtain ⟨c2, e2⟩ : ∃ c2, sI (sI (sI c1 201 5 0) 201 6 (-1)) 201 8 0 = c2 := ⟨_, rfl⟩
    have f2 : fm (fun o i => o = 201 ∧ (i = 5 ∨ i = 6 ∨ i = 8)) c1 c2 := by rw [← e2]; exact ((fm.sI (by omega)).tr (fm.sI (by omega))).tr (fm.sI (by omega))
    have v5 : c2.1 201 5 = 0 := by rw [← e2, sI_j (by decide), sI_j (by decide), sI_s]
    have v8 : c2.1 201 8 = nI 0 := by rw [← e2, sI_s]; rfl
    rw [e2]
    have h2 := h1.mv f2 (fun o i z => by omega)
    have z2 : c2.1 201 0 = 0 := (f2.1 _ _ (by omega)).trans z1
    have r2 : RS c2 t [] := ⟨h2.2.1, fun i hi => absurd hi (Nat.not_lt_zero i), v8, Nat.zero_le _, fun x hx => by cases hx⟩
    have fz : gm (fun o _ => 201 ≤ o ∧ o < 219) c c2 := fm_g (f1.tr (f2.mono (fun o i z => by omega)))
    -- behind the reading
    have fin : ∀ {X : Option (Int32 × hS)}, GZ X c2 t (rdR t w) → MG (bnd X fun x c7 => f_X12_read_74 N w c7 x) c 0 (rdV t w) b t (rdM t ms w) := by
      intro X ⟨c3, e3, f3, g3⟩
      have h3 := PM_rd h2 f3
      have z3 : c3.1 201 0 = 0 := (f3.1 _ _ (fun z => by have := RQ_201 z; omega)).trans z2
      have fz3 : gm (fun o _ => 201 ≤ o ∧ o < 219) c c3 := gm_tr fz (gm_mono f3 (fun o i z => by have := RQ_201 z; omega))
      rw [e3, bnd_some]
      unfold f_X12_read_74 rdV rdM
      cases hr : rdR t w with
      | none =>
        rw [if_pos (show bI (none : Option (List Mb)).isSome = 0 from rfl)]
        exact ⟨_, c3, rfl, z3, fun _ => rfl, h3, fz3⟩
      | some ms' =>
        have r3 := g3 ms' hr
        have l3 := r3.2.2.2.1
        rw [if_neg (show ¬ bI (some ms').isSome = 0 from (by decide : ¬ bI true = 0)), r3.2.2.1]
        dsimp only [st1]
        have f4 : fm (fun o i => o = 201 ∧ i = 7) c3 (sI c3 201 7 (nI ms'.length)) := fm.sI ⟨rfl, rfl⟩
        have key : ∀ d m i c, i + d = ms'.length → d < m → msh c 17 ms' → (∀ j (hj : j < ms'.length), j < i → mmb c j ms'[j]) → c.1 201 7 = nI ms'.length → ∃ c', f_X12_read_91 N w m c (nI i) = some (nI ms'.length, c') ∧ (∀ j (hj : j < ms'.length), mmb c' j ms'[j]) ∧ fm (rg 0) c c' := by
          intro d
          induction d with
          | zero =>
            intro m i c hi hm hs hj h7
            obtain ⟨m, rfl⟩ : ∃ k, m = k + 1 := ⟨m - 1, by omega⟩
            rw [f_X12_read_91, h7, if_pos (nI_le (by omega) (by omega))]
            exact ⟨c, rfl, fun j hj' => hj j hj' (by omega), fm.rf⟩
          | succ d ih =>
            intro m i c hi hm hs hj h7
            obtain ⟨m, rfl⟩ : ∃ k, m = k + 1 := ⟨m - 1, by omega⟩
            have hil : i < ms'.length := by omega
            obtain ⟨c', a1, a2, a3⟩ := m_move (N := N) (a := 17 + i) (b := i) hN (hs i hil) (by omega) (by omega) (by omega)
            obtain ⟨c'', b1, b2, b3⟩ := ih m (i + 1) c' (by omega) (by omega) (fun j hj' => mmbAt (hs j hj') a3 (fun o k z => by unfold msl at *; omega)) (fun j hj' hji => by
              by_cases q : j = i
              · subst q; exact a2
              · exact mmbAt (hj j hj' (by omega)) a3 (fun o k z => by unfold msl at *; omega)) ((a3.1 _ _ (by unfold msl; omega)).trans h7)
            rw [f_X12_read_91, h7, if_neg (nI_ge hil (by omega)), show (17 : Int32) + nI i = nI (17 + i) from nI_add 17 i, a1, bnd_some, nI_1]
            exact ⟨c'', b1, b2, (a3.mono (fun o k z => msl_rg z (by omega) (by omega))).tr b3⟩
        obtain ⟨c5, b1, b2, b3⟩ := key ms'.length N 0 (sI c3 201 7 (nI ms'.length)) (by omega) (by omega) (fun j hj => (r3.2.1 j hj).fm f4 (fun o k a b => by omega)) (fun j hj a => by omega) (sI_s _ _ _ _)
        have fa : fm (fun o i => (o = 201 ∧ i = 7) ∨ (204 ≤ o ∧ o ≤ 208)) c3 c5 := (f4.mono (fun o i z => Or.inl z)).tr (b3.mono (fun o i z => Or.inr (rg_n z)))
        have b1' : f_X12_read_91 N w N (sI c3 201 7 (nI ms'.length)) 0 = some (nI ms'.length, c5) := b1
        rw [b1']
        refine ⟨_, c5, rfl, (fa.1 _ _ (by omega)).trans z3, fun _ => rfl, ?_, gm_tr fz3 (fm_g (fa.mono (fun o i z => by omega)))⟩
        refine h3.sh fa (fun o i z => by omega) (h3.1.fm fa (by omega) (fun i => by omega)) ?_ l3 (fun i hi => by rw [Nat.zero_add]; exact b2 i hi) r3.2.2.2.2
        rw [b3.1 _ _ (by unfold rg; omega), sI_s]
        rfl
    by_cases w0 : w = 0
    · rw [if_pos w0]
      exact fin (by unfold rdR; rw [if_pos w0]; exact m_read0 hN r2)
    · rw [if_neg w0]
      by_cases w1 : w = 1
      · rw [if_pos w1]
        exact fin (by unfold rdR; rw [if_neg w0, if_pos w1]; exact (m_read1 hN r2).g)
      · have w2 : w = 2 := by rcases o with q | q | q; exact absurd q w0; exact absurd q w1; exact q
        rw [if_neg w1]
        exact fin (by unfold rdR; rw [if_neg w0, if_neg w1, if_pos w2]; exact (m_read2 hN r2 v5).g)
  · have o0 : ¬ w = 0 := fun z => o (Or.inl z)
    have o1 : ¬ w = 1 := fun z => o (Or.inr (Or.inl z))
    have o2 : ¬ w = 2 := fun z => o (Or.inr (Or.inr z))
    have en : rdM t ms w = ms := by unfold rdM rdR; rw [if_neg o0, if_neg o1, if_neg o2]; rfl
    rw [decide_eq_false o, if_pos (show bI false = 0 from rfl), if_neg o, m_ref1 z1 (by decide), bnd_some, if_neg (by decide), en]
    exact MN_g (m_no h1 f1 (by decide) rfl)
