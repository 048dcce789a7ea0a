section
/-! PURE: the reference: unpacking -/
theorem DF_of {o i : Nat} (h : F56 o i ∨ o = 212 ∨ o = 213 ∨ o = 214) : DF o i := h
theorem m_readCodes {N : Nat} {c : hS} {t : List Nat} {b e : Nat} {p1 : Int32} (hN : 1000000 ≤ N) (h : UB c t b e) : ∃ c', f_X12_readCodes N c p1 = some (bI (dynB t e b).isSome, c') ∧ fm DF c c' ∧ ∀ q, dynB t e b = some q → UB c' t q.2.2 e ∧ mcd c' 0 (q.1 ++ List.replicate (288 - q.1.length) 0) ∧ mcd c' 300 (q.2.1 ++ List.replicate (32 - q.2.1.length) 0) := by
  have nob : hcB t e b = false → dynB t e b = none := fun z => by unfold dynB; rw [z]; rfl
  have bad : ∀ {c1 : hS} {X : Option (Int32 × hS)}, dynB t e b = none → fm DF c c1 → (∃ c', X = some (0, c') ∧ fm DF c1 c') → ∃ c', X = some (bI (dynB t e b).isSome, c') ∧ fm DF c c' ∧ ∀ q, dynB t e b = some q → UB c' t q.2.2 e ∧ mcd c' 0 (q.1 ++ List.replicate (288 - q.1.length) 0) ∧ mcd c' 300 (q.2.1 ++ List.replicate (32 - q.2.1.length) 0) := by
    intro c1 X hn hf ⟨c', e1, f1⟩
    rw [hn]
    exact ⟨c', e1, hf.tr f1, fun q z => by cases z⟩
  have m2 : ∀ {c1 c2 : hS}, fm (fun o i => o = 212) c1 c2 → fm DF c1 c2 := fun f => f.mono (fun o i z => by unfold DF; omega)
  have m5 : ∀ {c1 c2 : hS}, fm F25 c1 c2 → fm DF c1 c2 := fun f => f.mono (fun o i z => Or.inl (F25_56 z))
  have m6 : ∀ {c1 c2 : hS}, fm F56 c1 c2 → fm DF c1 c2 := fun f => f.mono (fun o i z => Or.inl z)
  have bf : ∀ (c1 : hS) (a p : Int32), ∃ c', (bnd (f_X12_fails c1 a p) fun x3 c4 => bif j_b x3 then some (x3, c4) else none) = some (0, c') ∧ fm DF c1 c' := fun c1 a p => b_fail (fun i z => Or.inl ⟨rfl, by omega⟩)
  unfold f_X12_readCodes
  by_cases q1 : b + 5 ≤ e
  · obtain ⟨c2, e2, u2, f2⟩ := m_bits (p := 5) hN h q1 (by decide) rfl
    have bl := bv_lt t b 5
    rw [e2, bnd_some, if_pos u2.2.2.2.2.2, show (257 : Int32) + nI (bv t b 5) = nI (hH t b) from nI_add 257 _]
    have eH : hH t b = 257 + bv t b 5 := rfl
    by_cases q2 : hH t b ≤ 286
    · rw [if_pos (show nI (hH t b) ≤ 286 from nI_le (b := 286) q2 (by decide))]
      unfold f_X12_readCodes_32
      by_cases q3 : b + 10 ≤ e
      · obtain ⟨c3, e3, u3, f3⟩ := m_bits (p := 5) (n := 5) hN u2 (by omega) (by decide) rfl
        have bl2 := bv_lt t (b + 5) 5
        have eK : hK t b = 1 + bv t (b + 5) 5 := rfl
        rw [e3, bnd_some, if_pos u3.2.2.2.2.2, show (1 : Int32) + nI (bv t (b + 5) 5) = nI (hK t b) from nI_add 1 _]
        by_cases q4 : hK t b ≤ 30
        · rw [if_pos (show nI (hK t b) ≤ 30 from nI_le (b := 30) q4 (by decide))]
          unfold f_X12_readCodes_61
          by_cases q5 : b + 14 ≤ e
          · obtain ⟨c4, e4, u4, f4⟩ := m_bits (p := 4) (n := 4) hN u3 (by omega) (by decide) rfl
            have bl3 := bv_lt t (b + 10) 4
            have en : hn t b = 4 + bv t (b + 10) 4 := rfl
            have u4 : UB c4 t (b + 14) e := by rw [show b + 5 + 5 + 4 = b + 14 by omega] at u4; exact u4
            rw [e4, bnd_some, show (4 : Int32) + nI (bv t (b + 5 + 5) 4) = nI (hn t b) from nI_add 4 _]
            have n19 : hn t b ≤ 19 := by omega
            have fz4 : fm DF c c4 := ((m5 f2).tr (m5 f3)).tr (m5 f4)
            -- the nineteen lengths
            have key : ∀ d m i c, i + d = 19 → d < m → UB c t (b + 14 + 3 * min i (hn t b)) e → b + 14 + 3 * hn t b ≤ e → (∀ j, j < i → c.1 212 (340 + gt ordL j) = nI (gt (clF t (b + 14) (hn t b)) (gt ordL j))) → ∃ c', f_X12_readCodes_73 N p1 m c (nI (hH t b)) (nI (hK t b)) (nI (hn t b)) (nI i) = f_X12_readCodes_73 N p1 (0 + 1) c' (nI (hH t b)) (nI (hK t b)) (nI (hn t b)) (nI 19) ∧ UB c' t (b + 14 + 3 * hn t b) e ∧ (∀ j, j < 19 → c'.1 212 (340 + gt ordL j) = nI (gt (clF t (b + 14) (hn t b)) (gt ordL j))) ∧ fm DF c c' := by
              intro d
              induction d with
              | zero =>
                intro m i c hi hm hu hle hk
                obtain ⟨m, rfl⟩ : ∃ j, m = j + 1 := ⟨m - 1, by omega⟩
                have : i = 19 := by omega
                subst this
                refine ⟨c, ?_, by rw [show min 19 (hn t b) = hn t b by omega] at hu; exact hu, hk, fm.rf⟩
                rw [f_X12_readCodes_73, f_X12_readCodes_73, if_pos (show (19 : Int32) ≤ nI 19 by decide), if_pos (show (19 : Int32) ≤ nI 19 by decide)]
              | succ d ih =>
                intro m i c hi hm hu hle hk
                obtain ⟨m, rfl⟩ : ∃ j, m = j + 1 := ⟨m - 1, by omega⟩
                obtain ⟨o1, o2⟩ := ord_in i (by omega)
                have ca := clF_at t (b + 14) (hn t b) n19 i (by omega)
                have st : ∀ (c1 : hS) (v : Int32), (∀ j, j < i → c1.1 212 (340 + gt ordL j) = nI (gt (clF t (b + 14) (hn t b)) (gt ordL j))) → v = nI (gt (clF t (b + 14) (hn t b)) (gt ordL i)) → ∀ j, j < i + 1 → (sI c1 212 (340 + gt ordL i) v).1 212 (340 + gt ordL j) = nI (gt (clF t (b + 14) (hn t b)) (gt ordL j)) := by
                  intro c1 v hc1 hv j hj
                  by_cases e : j = i
                  · rw [e, sI_s, hv]
                  · rw [sI_j (fun z => e (ord_inj j (by omega) i (by omega) (by omega)))]
                    exact hc1 j (by omega)
                rw [f_X12_readCodes_73, if_neg (show ¬ (19 : Int32) ≤ nI i from nI_ge (b := 19) (by omega) (by decide)), ord_at i (by omega), bnd_some, o1, cond_true, o2, nI_1]
                by_cases q : i < hn t b
                · rw [if_pos q] at ca
                  rw [show min i (hn t b) = i by omega] at hu
                  obtain ⟨c1, x1, x2, x3⟩ := m_bits (p := 3) (n := 3) hN hu (by omega) (by decide) rfl
                  rw [if_neg (nI_ge q (by omega)), x1, bnd_some, cond_true, ← ca]
                  dsimp only [st1]
                  have fs : fm (fun o i => o = 212) c1 (sI c1 212 (340 + gt ordL i) (nI (gt (clF t (b + 14) (hn t b)) (gt ordL i)))) := fm.sI rfl
                  obtain ⟨c', y1, y2, y3, y4⟩ := ih m (i + 1) _ (by omega) (by omega) (by
                    have := x2.fm' fs (fun o i z => ⟨by omega, by omega⟩)
                    rw [show min (i + 1) (hn t b) = i + 1 by omega]
                    rw [show b + 14 + 3 * (i + 1) = b + 14 + 3 * i + 3 by omega]
                    exact this) hle (st c1 _ (fun j hj => (x3.1 _ _ (by unfold F25; omega)).trans (hk j hj)) rfl)
                  exact ⟨c', y1, y2, y3, ((m5 x3).tr (m2 fs)).tr y4⟩
                · rw [if_neg q] at ca
                  rw [if_pos (nI_le (by omega) (by omega)), show (0 : Int32) = nI (gt (clF t (b + 14) (hn t b)) (gt ordL i)) by rw [ca]; rfl]
                  dsimp only [st1]
                  have fs : fm (fun o i => o = 212) c (sI c 212 (340 + gt ordL i) (nI (gt (clF t (b + 14) (hn t b)) (gt ordL i)))) := fm.sI rfl
                  obtain ⟨c', y1, y2, y3, y4⟩ := ih m (i + 1) _ (by omega) (by omega) (by
                    have := hu.fm' fs (fun o i z => ⟨by omega, by omega⟩)
                    rw [show min (i + 1) (hn t b) = min i (hn t b) by omega]
                    exact this) hle (st c _ hk rfl)
                  exact ⟨c', y1, y2, y3, (m2 fs).tr y4⟩
            -- where a bit lacks
            have lack : ∀ d m i c, i + d = 19 → d < m → UB c t (b + 14 + 3 * i) e → i ≤ hn t b → e < b + 14 + 3 * hn t b → ∃ c', f_X12_readCodes_73 N p1 m c (nI (hH t b)) (nI (hK t b)) (nI (hn t b)) (nI i) = some (0, c') ∧ fm DF c c' := by
              intro d
              induction d with
              | zero =>
                intro m i c hi hm hu hin hlt
                have := hu.2.2.2.1
                omega
              | succ d ih =>
                intro m i c hi hm hu hin hlt
                obtain ⟨m, rfl⟩ : ∃ j, m = j + 1 := ⟨m - 1, by omega⟩
                have hi2 : i < hn t b := by have := hu.2.2.2.1; omega
                obtain ⟨o1, o2⟩ := ord_in i (by omega)
                rw [f_X12_readCodes_73, if_neg (show ¬ (19 : Int32) ≤ nI i from nI_ge (b := 19) (by omega) (by decide)), ord_at i (by omega), bnd_some, o1, cond_true, o2, nI_1, if_neg (nI_ge hi2 (by omega))]
                by_cases q : b + 14 + 3 * i + 3 ≤ e
                · obtain ⟨c1, x1, x2, x3⟩ := m_bits (p := 3) (n := 3) hN hu q (by decide) rfl
                  rw [x1, bnd_some, cond_true]
                  dsimp only [st1]
                  have fs : fm (fun o i => o = 212) c1 (sI c1 212 (340 + gt ordL i) (nI (bv t (b + 14 + 3 * i) 3))) := fm.sI rfl
                  obtain ⟨c', y1, y2⟩ := ih m (i + 1) _ (by omega) (by omega) (by
                    have := x2.fm' fs (fun o i z => ⟨by omega, by omega⟩)
                    rw [show b + 14 + 3 * (i + 1) = b + 14 + 3 * i + 3 by omega]
                    exact this) (by omega) hlt
                  exact ⟨c', y1, ((m5 x3).tr (m2 fs)).tr y2⟩
                · obtain ⟨x, c1, x1, x2, x3⟩ := m_bits_no (p := 3) (n := 3) hN hu (by omega) (by decide) rfl
                  rw [x1, bnd_some, cond_true]
                  dsimp only [st1]
                  have fs : fm (fun o i => o = 212) c1 (sI c1 212 (340 + gt ordL i) x) := fm.sI rfl
                  obtain ⟨c', y1, y2⟩ := m_rc73x (p1 := p1) hN d m (i + 1) (sI c1 212 (340 + gt ordL i) x) (nI (hH t b)) (nI (hK t b)) (nI (hn t b)) (by omega) (by omega) (by rw [sI_o (by decide)]; exact x2)
                  exact ⟨c', y1, ((m6 x3).tr (m2 fs)).tr (m2 y2)⟩
            by_cases q6 : b + 14 + 3 * hn t b ≤ e
            · obtain ⟨c5, e5, u5, v5, f5⟩ := key 19 N 0 c4 (by omega) (by omega) (by simpa using u4) q6 (fun j hj => by omega)
              have e5' : f_X12_readCodes_73 N p1 N c4 (nI (hH t b)) (nI (hK t b)) (nI (hn t b)) 0 = _ := e5
              have l19 := clF_len t (b + 14) (hn t b)
              have hm5 : mln c5 340 (clF t (b + 14) (hn t b)) := ⟨by rw [l19]; decide, fun i hi => by
                rw [l19] at hi
                obtain ⟨j, hj, ej⟩ := ord_sur i hi
                have := v5 j hj
                rw [ej] at this
                exact ⟨this, clF_lt t (b + 14) (hn t b) i n19⟩⟩
              have fb := FN_le (lens := clF t (b + 14) (hn t b)) (clF t (b + 14) (hn t b)).length
              rw [FN_ful, l19] at fb
              have fz5 := fz4.tr f5
              rw [e5', f_X12_readCodes_73, if_pos (by decide), if_pos u5.2.2.2.2.2, m_fullness (p1 := 340) (p2 := 19) hN hm5 rfl (by rw [l19]; rfl), bnd_some]
              by_cases q7 : ful (clF t (b + 14) (hn t b)) 15 = 32768
              · have hcb : hcB t e b = true := by unfold hcB; rw [if_pos q1, if_pos q2, if_pos q3, if_pos q4, if_pos q5, if_pos q6]; exact decide_eq_true q7
                rw [if_pos (show nI (ful (clF t (b + 14) (hn t b)) 15) = 32768 by rw [q7]; rfl)]
                obtain ⟨c6, e6, d6, f6⟩ := m_layCodes (p1 := 340) (p2 := 19) hN hm5 rfl (by rw [l19]; rfl)
                have f6' : fm (fun o i => o = 213) c5 c6 := f6.mono (fun o i z => z.1)
                have u6 := u5.fm' f6' (fun o i z => ⟨by omega, by omega⟩)
                have fz6 : fm DF c c6 := fz5.tr (f6'.mono (fun o i z => by unfold DF; omega))
                obtain ⟨c7, e7, f7, g7⟩ := m_readRow (p1 := nI (hH t b) + nI (hK t b)) (p2 := p1) (all := hH t b + hK t b) hN u6 d6 l19 q7 (by omega) (nI_add _ _)
                have f7' : fm DF c6 c7 := f7.mono (fun o i z => z.elim Or.inl (fun q => Or.inr (Or.inr (Or.inr q))))
                rw [e6, bnd_some, e7, bnd_some]
                cases hw : rws t e (clF t (b + 14) (hn t b)) (hH t b + hK t b) 320 (b + 14 + 3 * hn t b) [] with
                | none =>
                  rw [if_pos (show bI (none : Option (List Nat × Nat)).isSome = 0 from rfl)]
                  exact bad (by unfold dynB dyR; rw [hcb, if_pos rfl, hw]) fz6 ⟨c7, rfl, f7'⟩
                | some q =>
                  obtain ⟨row, b'⟩ := q
                  obtain ⟨u7, r7⟩ := g7 row b' hw
                  obtain ⟨r, -, rl⟩ := rws_ext (by simp) hw
                  rw [if_neg (show ¬ bI (some (row, b')).isSome = 0 from (by decide : ¬ bI true = 0))]
                  obtain ⟨c8, e8, f8, g8⟩ := m_rc174 (p1 := p1) hN u7.2.2.2.2.2 r7 rl q2 (by omega) q4
                  have f8' : fm DF c7 c8 := f8.mono (fun o i z => by unfold DF F56; omega)
                  rw [e8]
                  have ed : dynB t e b = if okR (hH t b) row = true then some (row.take (hH t b), row.drop (hH t b), b') else none := by
                    unfold dynB dyR
                    rw [hcb, if_pos rfl, hw]
                    dsimp only
                    by_cases z : okR (hH t b) row = true
                    · rw [if_pos z, if_pos z]
                    · rw [if_neg z, if_neg z]
                  cases ho : okR (hH t b) row with
                  | false =>
                    rw [ho, if_neg (by decide)] at ed
                    exact bad ed fz6 ⟨c8, rfl, f7'.tr f8'⟩
                  | true =>
                    rw [ho, if_pos rfl] at ed
                    obtain ⟨x1, x2, x3⟩ := g8 ho
                    rw [ed]
                    refine ⟨c8, rfl, (fz6.tr f7').tr f8', fun q z => ?_⟩
                    cases z
                    have tl : (row.take (hH t b)).length = hH t b := by rw [List.length_take]; omega
                    have dl : (row.drop (hH t b)).length = hK t b := by rw [List.length_drop]; omega
                    refine ⟨u7.fm' x3 (fun o i z => ⟨by omega, by omega⟩), ?_, ?_⟩
                    · show mcd c8 0 (row.take (hH t b) ++ List.replicate (288 - (row.take (hH t b)).length) 0)
                      rw [tl]; exact x1
                    · show mcd c8 300 (row.drop (hH t b) ++ List.replicate (32 - (row.drop (hH t b)).length) 0)
                      rw [dl]; exact x2
              · rw [if_neg (show ¬ nI (ful (clF t (b + 14) (hn t b)) 15) = 32768 from fun z => q7 ((nI_eq (b := 32768) (by omega) (by decide)).mp z))]
                exact bad (nob (by unfold hcB; rw [if_pos q1, if_pos q2, if_pos q3, if_pos q4, if_pos q5, if_pos q6]; exact decide_eq_false q7)) fz5 (bf _ _ _)
            · exact bad (nob (by unfold hcB; rw [if_pos q1, if_pos q2, if_pos q3, if_pos q4, if_pos q5, if_neg q6])) fz4 (lack 19 N 0 c4 (by omega) (by omega) u4 (by omega) (by omega))
          · obtain ⟨x, c4, e4, v4, f4⟩ := m_bits_no (p := 4) (n := 4) hN u3 (by omega) (by decide) rfl
            rw [e4, bnd_some]
            obtain ⟨c5, e5, f5⟩ := m_rc73x (p1 := p1) hN 19 N 0 c4 (nI (hH t b)) (nI (hK t b)) (4 + x) (by omega) (by omega) v4
            exact bad (nob (by unfold hcB; rw [if_pos q1, if_pos q2, if_pos q3, if_pos q4, if_neg q5])) (((m5 f2).tr (m5 f3)).tr (m6 f4)) ⟨c5, e5, m2 f5⟩
        · rw [if_neg (show ¬ nI (hK t b) ≤ 30 from nI_ge (a := 30) (by omega) (by omega))]
          exact bad (nob (by unfold hcB; rw [if_pos q1, if_pos q2, if_pos q3, if_neg q4])) ((m5 f2).tr (m5 f3)) (bf _ _ _)
      · obtain ⟨x, c3, e3, v3, f3⟩ := m_bits_no (p := 5) (n := 5) hN u2 (by omega) (by decide) rfl
        rw [e3, bnd_some, if_neg v3]
        obtain ⟨c4, e4, f4⟩ := m_rc61x (p1 := p1) (v2 := nI (hH t b)) (v3 := 1 + x) hN v3
        exact bad (nob (by unfold hcB; rw [if_pos q1, if_pos q2, if_neg q3])) ((m5 f2).tr (m6 f3)) ⟨c4, e4, m2 f4⟩
    · rw [if_neg (show ¬ nI (hH t b) ≤ 286 from nI_ge (a := 286) (by omega) (by omega))]
      exact bad (nob (by unfold hcB; rw [if_pos q1, if_neg q2])) (m5 f2) (bf _ _ _)
  · obtain ⟨x, c2, e2, v2, f2⟩ := m_bits_no (p := 5) (n := 5) hN h (by omega) (by decide) rfl
    rw [e2, bnd_some, if_neg v2]
    obtain ⟨c3, e3, f3⟩ := m_rc32x (p1 := p1) (v2 := 257 + x) hN v2
    exact bad (nob (by unfold hcB; rw [if_neg q1])) (m6 f2) ⟨c3, e3, m2 f3⟩
end
section
/-! PURE: the reference: blocks; unpack -/
noncomputable def UM (c : hS) (t : List Nat) (b e most : Nat) (out : List Nat) : Prop := UB c t b e ∧ mrw c 23 211 out ∧ c.1 201 24 = nI most ∧ most ≤ 512 ∧ out.length ≤ most
noncomputable def UF (o i : Nat) : Prop := (o = 201 ∧ (i = 5 ∨ i = 6 ∨ (23 ≤ i ∧ i ≤ 30))) ∨ o = 211 ∨ o = 212 ∨ o = 213 ∨ o = 214
theorem UF_F {o i : Nat} (h : F56 o i) : UF o i := by unfold F56 at h; unfold UF; omega
theorem UF_25 {o i : Nat} (h : F25 o i) : UF o i := UF_F (F25_56 h)
theorem UF_D {o i : Nat} (h : DF o i) : UF o i := by unfold DF F56 at h; unfold UF; omega
theorem UM.mv {P : Nat → Nat → Prop} {c c1 : hS} {t out : List Nat} {b b' e most : Nat} (h : UM c t b e most out) (hu : UB c1 t b' e) (hf : fm P c c1) (hP : ∀ o i, P o i → o ≠ 211 ∧ (o = 201 → i ≠ 23 ∧ i ≠ 24)) : UM c1 t b' e most out := by
  have n : ∀ i, (i = 23 ∨ i = 24) → ¬ P 201 i := fun i q z => by have := (hP _ _ z).2 rfl; omega
  exact ⟨hu, h.2.1.fm hf (n _ (by omega)) (fun i z => (hP _ _ z).1 rfl), (hf.1 _ _ (n _ (by omega))).trans h.2.2.1, h.2.2.2⟩
noncomputable def AF (o i : Nat) : Prop := o = 211 ∨ (o = 201 ∧ i = 23)
theorem m_add {c : hS} {t out : List Nat} {b e most x : Nat} {p1 p2 : Int32} (h : UM c t b e most out) (hl : out.length < most) (hx : x < 256) (hp : p1 = nI x) : ∃ c', f_X12_add c p1 p2 = some (1, c') ∧ UM c' t b e most (out ++ [x]) ∧ fm AF c c' := by
  subst hp
  have h5 := h.2.2.2.1
  unfold f_X12_add
  rw [h.2.1.2.1, h.2.2.1, if_neg (fun z => by have := (nI_eq (by omega) (by omega)).mp z; omega), j_in_nI (show out.length < ln 211 from (by show out.length < 512; omega)) (by decide), cond_true, nI_clamp (by omega)]
  dsimp only [st1]
  rw [sI_o (by decide), h.2.1.2.1, nI_1]
  have f1 : fm AF c (sI (sI c 211 out.length (nI x)) 201 23 (nI (out.length + 1))) := (fm.sI (Or.inl rfl)).tr (fm.sI (Or.inr ⟨rfl, rfl⟩))
  exact ⟨_, rfl, ⟨h.1.fm' f1 (fun o i z => by unfold AF at z; omega), h.2.1.add (x := x) (by decide) (show out.length < 512 by omega) hx, (f1.1 _ _ (by unfold AF; omega)).trans h.2.2.1, h5, by simp; omega⟩, f1⟩
theorem m_add_no {c : hS} {t out : List Nat} {b e most : Nat} {p1 p2 : Int32} (h : UM c t b e most out) (hl : ¬ out.length < most) : ∃ c', f_X12_add c p1 p2 = some (0, c') ∧ fm UF c c' := by
  have h5 := h.2.2.2.2
  unfold f_X12_add
  rw [h.2.1.2.1, h.2.2.1, if_pos (show nI out.length = nI most by rw [show out.length = most by omega])]
  exact b_fail (fun i z => Or.inl ⟨rfl, by omega⟩)
noncomputable def XR (X : Option (Int32 × hS)) (c : hS) (t : List Nat) (e most : Nat) (r : Option (List Nat × Nat)) : Prop := ∃ c', X = some (bI r.isSome, c') ∧ fm UF c c' ∧ ∀ out b, r = some (out, b) → UM c' t b e most out
theorem XR.no {X : Option (Int32 × hS)} {c c1 : hS} {t : List Nat} {e most : Nat} {r : Option (List Nat × Nat)} (hr : r = none) (hX : ∃ c', X = some (0, c') ∧ fm UF c1 c') (hf : fm UF c c1) : XR X c t e most r := by
  obtain ⟨c', e1, f1⟩ := hX
  subst hr
  exact ⟨c', e1, hf.tr f1, fun _ _ z => by cases z⟩
theorem XR.yes {c c1 : hS} {t : List Nat} {e most b : Nat} {out : List Nat} (h : UM c1 t b e most out) (hf : fm UF c c1) : XR (some (1, c1)) c t e most (some (out, b)) := ⟨c1, rfl, hf, fun _ _ z => by cases z; exact h⟩
theorem XR.pre {X : Option (Int32 × hS)} {c c1 : hS} {t : List Nat} {e most : Nat} {r : Option (List Nat × Nat)} (h : XR X c1 t e most r) (hf : fm UF c c1) : XR X c t e most r := by
  obtain ⟨c', a1, a2, a3⟩ := h
  exact ⟨c', a1, hf.tr a2, a3⟩
theorem u_fail (c1 : hS) (a p : Int32) : ∃ c', (bnd (f_X12_fails c1 a p) fun x c2 => bif j_b x then some (x, c2) else none) = some (0, c') ∧ fm UF c1 c' := b_fail (fun i z => Or.inl ⟨rfl, by omega⟩)
theorem stoB_s (t : List Nat) (b n : Nat) : stoB t b (n + 1) = bv t b 8 :: stoB t (b + 8) n := by
  unfold stoB
  rw [List.range_succ_eq_map]
  simp only [List.map_cons, List.map_map, Nat.mul_zero, Nat.add_zero]
  congr 1
  apply List.map_congr_left
  intro i _
  simp only [Function.comp]
  congr 1
  omega
theorem m_plain {N : Nat} {c : hS} {t out : List Nat} {b e most : Nat} {p1 : Int32} (hN : 1000000 ≤ N) (h : UM c t b e most out) (he8 : e % 8 = 0) : XR (f_X12_plain N c p1) c t e most (stoF t e most b out) := by
  have hee := h.1.e
  have hbe := h.1.2.2.2.1
  obtain ⟨b', eb⟩ : ∃ b', b' = (b + 7) / 8 * 8 := ⟨_, rfl⟩
  have hb' : b' ≤ e := by omega
  unfold f_X12_plain stoF
  rw [← eb, h.1.2.1, show (nI b + 7) / 8 * 8 = nI b' from by rw [show nI b + 7 = nI (b + 7) from nI_add b 7, show (8 : Int32) = nI 8 from rfl, div_nI (by omega) (by decide), nI_mul, eb]]
  dsimp only [st1]
  have f1 : fm F25 c (sI c 201 25 (nI b')) := fm.sI ⟨rfl, rfl⟩
  have h1 : UM (sI c 201 25 (nI b')) t b' e most out := h.mv (h.1.mv hb') f1 (fun o i z => by unfold F25 at z; omega)
  refine XR.pre ?_ (f1.mono (fun o i z => UF_25 z))
  revert h1
  generalize sI c 201 25 (nI b') = c1
  intro h1
  have mv5 : ∀ {c1 c2 : hS} {b1 b2 : Nat} {out : List Nat}, UM c1 t b1 e most out → UB c2 t b2 e → fm F25 c1 c2 → UM c2 t b2 e most out := fun a b f => a.mv b f (fun o i z => by unfold F25 at z; omega)
  by_cases q : b' + 32 ≤ e
  · rw [if_pos q]
    obtain ⟨c2, e2, u2, f2⟩ := m_bits (p := 16) (n := 16) hN h1.1 (by omega) (by decide) rfl
    obtain ⟨c3, e3, u3, f3⟩ := m_bits (p := 16) (n := 16) hN u2 (by omega) (by decide) rfl
    have h3 := mv5 (mv5 h1 u2 f2) u3 f3
    have l1 := bv_lt t b' 16
    have l2 := bv_lt t (b' + 16) 16
    rw [e2, bnd_some, e3, bnd_some, if_pos u3.2.2.2.2.2, nI_add]
    refine XR.pre ?_ ((f2.tr f3).mono (fun o i z => UF_25 z))
    obtain ⟨L, eL⟩ : ∃ L, L = bv t b' 16 := ⟨_, rfl⟩
    rw [← eL] at l1 ⊢
    by_cases q2 : bv t (b' + 16) 16 = 65535 - L
    · rw [if_pos q2, if_pos (show nI (L + bv t (b' + 16) 16) = 65535 by rw [q2, show L + (65535 - L) = 65535 by omega]; rfl)]
      have h3' : UM c3 t (b' + 32) e most out := by rw [show b' + 16 + 16 = b' + 32 by omega] at h3; exact h3
      have key : ∀ d m i b1 out c, i + d = L → d < m → UM c t b1 e most out → XR (f_X12_plain_60 N p1 m c (nI L) (nI i)) c t e most (if b1 + 8 * d ≤ e ∧ out.length + d ≤ most then some (out ++ stoB t b1 d, b1 + 8 * d) else none) := by
        intro d
        induction d with
        | zero =>
          intro m i b1 out c hi hm hu
          obtain ⟨m, rfl⟩ : ∃ j, m = j + 1 := ⟨m - 1, by omega⟩
          have h1 := hu.1.2.2.2.1
          have h2 := hu.2.2.2.2
          rw [f_X12_plain_60, if_pos (nI_le (by omega) (by omega)), if_pos (by omega)]
          have : out ++ stoB t b1 0 = out := by unfold stoB; simp
          rw [this]
          exact XR.yes hu fm.rf
        | succ d ih =>
          intro m i b1 out c hi hm hu
          obtain ⟨m, rfl⟩ : ∃ j, m = j + 1 := ⟨m - 1, by omega⟩
          rw [f_X12_plain_60, if_neg (nI_ge (by omega) (by omega))]
          by_cases w : b1 + 8 ≤ e
          · obtain ⟨c2, e2, u2, f2⟩ := m_bits (p := 8) (n := 8) hN hu.1 w (by decide) rfl
            have h2 := mv5 hu u2 f2
            have lb := bv_lt t b1 8
            rw [e2, bnd_some, if_pos u2.2.2.2.2.2]
            refine XR.pre ?_ (f2.mono (fun o i z => UF_25 z))
            by_cases w2 : out.length < most
            · obtain ⟨c4, e4, h4, f4⟩ := m_add (x := bv t b1 8) (p2 := c.1 201 25 / 8) h2 w2 (by omega) rfl
              rw [e4, bnd_some, if_neg (by decide), nI_1]
              have := ih m (i + 1) (b1 + 8) (out ++ [bv t b1 8]) c4 (by omega) (by omega) h4
              refine XR.pre ?_ (f4.mono (fun o i z => by unfold AF at z; unfold UF; omega))
              rw [stoB_s]
              rw [show (out ++ [bv t b1 8]).length = out.length + 1 by simp] at this
              by_cases w3 : b1 + 8 * (d + 1) ≤ e ∧ out.length + (d + 1) ≤ most
              · rw [if_pos (by omega)] at this
                rw [if_pos w3, show b1 + 8 * (d + 1) = b1 + 8 + 8 * d by omega]
                simpa using this
              · rw [if_neg (by omega)] at this
                rw [if_neg w3]
                exact this
            · obtain ⟨c4, e4, f4⟩ := m_add_no (p1 := nI (bv t b1 8)) (p2 := c.1 201 25 / 8) h2 w2
              rw [e4, bnd_some, if_pos rfl]
              exact XR.no (by rw [if_neg (by omega)]) ⟨c4, rfl, f4⟩ fm.rf
          · obtain ⟨x, c2, e2, v2, f2⟩ := m_bits_no (p := 8) (n := 8) hN hu.1 (by omega) (by decide) rfl
            rw [e2, bnd_some, if_neg v2]
            exact XR.no (by rw [if_neg (by omega)]) ⟨c2, rfl, f2.mono (fun o i z => UF_F z)⟩ fm.rf
      exact key L N 0 (b' + 32) out c3 (by omega) (by omega) h3'
    · rw [if_neg q2, if_neg (show ¬ nI (L + bv t (b' + 16) 16) = 65535 from fun z => q2 (by have := (nI_eq (b := 65535) (by omega) (by decide)).mp z; omega))]
      exact XR.no rfl (u_fail _ _ _) fm.rf
  · rw [if_neg q]
    by_cases q1 : b' + 16 ≤ e
    · obtain ⟨c2, e2, u2, f2⟩ := m_bits (p := 16) (n := 16) hN h1.1 q1 (by decide) rfl
      obtain ⟨x, c3, e3, v3, f3⟩ := m_bits_no (p := 16) (n := 16) hN u2 (by omega) (by decide) rfl
      rw [e2, bnd_some, e3, bnd_some, if_neg v3]
      exact XR.no rfl ⟨c3, rfl, (f2.mono (fun o i z => UF_25 z)).tr (f3.mono (fun o i z => UF_F z))⟩ fm.rf
    · obtain ⟨x, c2, e2, v2, f2⟩ := m_bits_no (p := 16) (n := 16) hN h1.1 (by omega) (by decide) rfl
      rw [e2, bnd_some, m_bits_x hN v2, bnd_some, if_neg v2]
      exact XR.no rfl ⟨c2, rfl, f2.mono (fun o i z => UF_F z)⟩ fm.rf
theorem dbase_pos : ∀ s, s < 30 → 1 ≤ dbase s := by decide +kernel
theorem m_copies {N n far : Nat} {v1 : Int32} {k0 : hS → Option (Int32 × hS)} {t : List Nat} {b e most : Nat} (hf : 1 ≤ far) : ∀ d m i c out, i + d = n → n < 2 ^ 31 → d < m → far ≤ out.length → UM c t b e most out → (if out.length + d ≤ most then ∃ c', f_X12_readSymbols_193 N k0 m c v1 (nI n) (nI far) (nI i) = k0 c' ∧ UM c' t b e most (cpy far d out) ∧ fm AF c c' else ∃ c', f_X12_readSymbols_193 N k0 m c v1 (nI n) (nI far) (nI i) = some (0, c') ∧ fm UF c c') := by
  intro d
  induction d with
  | zero =>
    intro m i c out hi hn hm hfo hu
    obtain ⟨m, rfl⟩ : ∃ j, m = j + 1 := ⟨m - 1, by omega⟩
    rw [if_pos (by have := hu.2.2.2.2; omega)]
    rw [f_X12_readSymbols_193, if_pos (nI_le (by omega) (by omega))]
    exact ⟨c, rfl, hu, fm.rf⟩
  | succ d ih =>
    intro m i c out hi hn hm hfo hu
    obtain ⟨m, rfl⟩ : ∃ j, m = j + 1 := ⟨m - 1, by omega⟩
    have h5 := hu.2.2.2.1
    have ho := hu.2.2.2.2
    have ex : f_X12_readSymbols_193 N k0 (m + 1) c v1 (nI n) (nI far) (nI i) = bnd (f_X12_add c (nI (gt out (out.length - far))) v1) fun x1 c2 => if x1 = 0 then some (0, c2) else f_X12_readSymbols_193 N k0 m c2 v1 (nI n) (nI far) (nI (i + 1)) := by
      rw [f_X12_readSymbols_193, if_neg (nI_ge (by omega) (by omega)), hu.2.1.2.1, subI hfo, j_in_nI (show out.length - far < ln 211 from (by show out.length - far < 512; omega)) (by decide), cond_true, nI_clamp (by omega), hu.2.1.2.2.1 _ (by omega), nI_1]
    rw [ex]
    by_cases w : out.length < most
    · obtain ⟨c2, e2, h2, f2⟩ := m_add (x := gt out (out.length - far)) (p2 := v1) hu w (hu.2.1.2.2.2.gt _) rfl
      have f2' : fm UF c c2 := f2.mono (fun o i z => by unfold AF at z; unfold UF; omega)
      rw [e2, bnd_some, if_neg (show ¬ (1 : Int32) = 0 by decide)]
      have := ih m (i + 1) c2 (out ++ [gt out (out.length - far)]) (by omega) hn (by omega) (by simp; omega) h2
      rw [show (out ++ [gt out (out.length - far)]).length = out.length + 1 by simp] at this
      by_cases q : out.length + (d + 1) ≤ most
      · rw [if_pos (by omega)] at this
        rw [if_pos q]
        obtain ⟨c', a1, a2, a3⟩ := this
        exact ⟨c', a1, a2, f2.tr a3⟩
      · rw [if_neg (by omega)] at this
        rw [if_neg q]
        obtain ⟨c', a1, a2⟩ := this
        exact ⟨c', a1, f2'.tr a2⟩
    · obtain ⟨c2, e2, f2⟩ := m_add_no (p1 := nI (gt out (out.length - far))) (p2 := v1) hu w
      rw [if_neg (by omega), e2, bnd_some, if_pos rfl]
      exact ⟨c2, rfl, f2⟩
theorem mcd_U {c c1 : hS} {base : Nat} {lens : List Nat} (h : mcd c base lens) (hf : fm (fun o i => UF o i ∧ o ≠ 212 ∧ o ≠ 213) c c1) : mcd c1 base lens := mcd_fm h hf (fun o i z => z.2)
theorem m_readSymbols {N : Nat} {c : hS} {t out lS lD lS' lD' : List Nat} {b e most : Nat} (hN : 1000000 ≤ N) (h : UM c t b e most out) (qS : mcd c 0 lS') (qD : mcd c 300 lD') (l1 : lS'.length = 288) (l2 : lD'.length = 32) (dS : ∀ b, dec t e lS' b = dec t e lS b) (dD : ∀ b, dec t e lD' b = dec t e lD b) : XR (f_X12_readSymbols N c) c t e most (symF t e lS lD most (e - b + 1) b out) := by
  have hee := h.1.e
  have mv5 : ∀ {c1 c2 : hS} {b1 b2 : Nat} {out : List Nat}, UM c1 t b1 e most out → UB c2 t b2 e → fm F25 c1 c2 → UM c2 t b2 e most out := fun a b f => a.mv b f (fun o i z => by unfold F25 at z; omega)
  have cd5 : ∀ {c1 c2 : hS} {base : Nat} {lens : List Nat}, mcd c1 base lens → fm F25 c1 c2 → mcd c2 base lens := fun a f => mcd_fm a f (fun o i z => by unfold F25 at z; omega)
  -- UF without the codes
  have key : ∀ f n b c out, e - b < f → f < n → UM c t b e most out → mcd c 0 lS' → mcd c 300 lD' → XR (f_X12_readSymbols_0 N n c) c t e most (symF t e lS lD most f b out) := by
    intro f
    induction f with
    | zero => intro n b c out h1; omega
    | succ f ih =>
      intro n b c out hf hn hu qS qD
      obtain ⟨n, rfl⟩ : ∃ m, n = m + 1 := ⟨n - 1, by omega⟩
      rw [f_X12_readSymbols_0]
      obtain ⟨x, c2, e2, g2⟩ := m_symbol (p1 := 0) (p2 := 288) hN hu.1 qS (by omega) rfl (by rw [l1]; rfl)
      rw [e2, bnd_some]
      rw [dS] at g2
      cases hd : dec t e lS b with
      | none =>
        rw [hd] at g2
        rw [symF_no hd]
        have f2' : fm UF c c2 := g2.2.mono (fun o i z => UF_F z)
        rcases g2.1 with ⟨z, _⟩ | ⟨z, _, _⟩
        · rw [z, if_pos rfl]
          exact XR.no rfl ⟨c2, rfl, f2'⟩ fm.rf
        · rw [z, if_neg (by decide), if_pos rfl]
          exact XR.no rfl (u_fail _ _ _) f2'
      | some p =>
        obtain ⟨s, b1⟩ := p
        rw [hd] at g2
        obtain ⟨ex, u2, f2⟩ := g2
        have ex : x = nI s := ex
        have u2 : UB c2 t b1 e := u2
        have h2 := mv5 hu u2 f2
        have qS2 := cd5 qS f2
        have qD2 := cd5 qD f2
        have f2' : fm UF c c2 := f2.mono (fun o i z => UF_25 z)
        have dl := dec_lt hd
        have s288 : s < 288 := by
          have := dec_lt ((dS b).trans hd)
          omega
        rw [symF_so hd, ex, if_neg (nm1' (by omega)), if_neg (show ¬ nI s = -2 from fun z => by have := nI_pos (n := s) (by omega); rw [z] at this; exact this (by decide))]
        refine XR.pre ?_ f2'
        by_cases s285 : s ≤ 285
        · rw [if_pos (show nI s ≤ 285 from nI_le (b := 285) s285 (by decide))]
          by_cases s256 : s = 256
          · rw [if_pos (show nI s = 256 by rw [s256]; rfl), if_pos (kd0 s256)]
            exact XR.yes h2 fm.rf
          · rw [if_neg (show ¬ nI s = 256 from fun z => s256 ((nI_eq (b := 256) (by omega) (by decide)).mp z))]
            by_cases slt : s ≤ 256
            · rw [if_neg (show ¬ (256 : Int32) ≤ nI s from nI_ge (b := 256) (by omega) (by decide)), if_neg (by rw [kd1 s256 s285 slt]; decide), if_pos (kd1 s256 s285 slt)]
              by_cases w : out.length < most
              · obtain ⟨c4, e4, h4, f4⟩ := m_add (x := s) (p2 := c.1 201 25 / 8) h2 w (by omega) rfl
                rw [e4, bnd_some, if_neg (by decide), if_pos w]
                refine XR.pre ?_ (f4.mono (fun o i z => by unfold AF at z; unfold UF; omega))
                exact ih n b1 c4 _ (by omega) (by omega) h4 (mcd_fm qS2 f4 (fun o i z => by unfold AF at z; omega)) (mcd_fm qD2 f4 (fun o i z => by unfold AF at z; omega))
              · obtain ⟨c4, e4, f4⟩ := m_add_no (p1 := nI s) (p2 := c.1 201 25 / 8) h2 w
                rw [e4, bnd_some, if_pos rfl, if_neg w]
                exact XR.no rfl ⟨c4, rfl, f4⟩ fm.rf
            · have k2 := kd2 s256 s285 slt
              rw [if_pos (show (256 : Int32) ≤ nI s from nI_le (a := 256) (by omega) (by omega)), if_neg (by rw [k2]; decide), if_neg (by rw [k2]; decide), if_pos k2, show nI s - 257 = nI (stp s) from subI (b := 257) (by omega)]
              have s29 : stp s < 29 := by unfold stp; omega
              obtain ⟨c6, e6, v6, f6⟩ := m_lengthOf (c := c2) s29
              have u6 : UB c6 t b1 e := u2.fm' f6 (fun o i z => ⟨by omega, by omega⟩)
              have h6 : UM c6 t b1 e most out := h2.mv u6 f6 (fun o i z => by omega)
              have qS6 : mcd c6 0 lS' := mcd_fm qS2 f6 (fun o i z => by omega)
              have qD6 : mcd c6 300 lD' := mcd_fm qD2 f6 (fun o i z => by omega)
              have lb := lbits_lt (stp s) s29
              have lbs := lbase_lt (stp s) s29
              rw [e6, bnd_some, v6]
              refine XR.pre ?_ (f6.mono (fun o i z => by unfold UF; omega))
              by_cases q1 : b1 + lbits (stp s) ≤ e
              · obtain ⟨c8, e8, u8, f8⟩ := m_bits (n := lbits (stp s)) hN u6 q1 (by omega) rfl
                have h8 := mv5 h6 u8 f8
                have qS8 := cd5 qS6 f8
                have qD8 := cd5 qD6 f8
                have bl := bv_lt t b1 (lbits (stp s))
                have bl2 : 2 ^ lbits (stp s) ≤ 2 ^ 5 := Nat.pow_le_pow_right (by decide) lb
                rw [e8, bnd_some, if_pos u8.2.2.2.2.2]
                refine XR.pre ?_ (f8.mono (fun o i z => UF_25 z))
                obtain ⟨y, c10, e10, g10⟩ := m_symbol (p1 := 300) (p2 := 32) hN u8 qD8 (by omega) rfl (by rw [l2]; rfl)
                rw [e10, bnd_some]
                rw [dD] at g10
                cases hd2 : dec t e lD (b1 + lbits (stp s)) with
                | none =>
                  have cn : copF t e lD most out (stp s) b1 = none := by unfold copF; rw [if_pos q1, hd2]
                  rw [hd2] at g10
                  rw [cn]
                  have f10 : fm UF c8 c10 := g10.2.mono (fun o i z => UF_F z)
                  rcases g10.1 with ⟨z, _⟩ | ⟨z, _, _⟩
                  · rw [z, if_pos rfl]
                    exact XR.no rfl ⟨c10, rfl, f10⟩ fm.rf
                  · rw [z, if_neg (by decide), if_pos rfl]
                    exact XR.no rfl (u_fail _ _ _) f10
                | some p2 =>
                  obtain ⟨d, b2⟩ := p2
                  rw [hd2] at g10
                  obtain ⟨ey, u10, f10⟩ := g10
                  have ey : y = nI d := ey
                  have u10 : UB c10 t b2 e := u10
                  have h10 := mv5 h8 u10 f10
                  have qS10 := cd5 qS8 f10
                  have qD10 := cd5 qD8 f10
                  have dl2 := dec_lt hd2
                  have d32 : d < 32 := by
                    have := dec_lt ((dD (b1 + lbits (stp s))).trans hd2)
                    omega
                  rw [ey, if_neg (nm1' (by omega)), if_neg (show ¬ nI d = -2 from fun z => by have := nI_pos (n := d) (by omega); rw [z] at this; exact this (by decide))]
                  refine XR.pre ?_ (f10.mono (fun o i z => UF_25 z))
                  by_cases q2 : d ≤ 29
                  · rw [if_pos (show nI d ≤ 29 from nI_le (b := 29) q2 (by decide))]
                    obtain ⟨c14, e14, v14, f14⟩ := m_distanceOf (c := c10) (s := d) (by omega)
                    have u14 : UB c14 t b2 e := u10.fm' f14 (fun o i z => ⟨by omega, by omega⟩)
                    have h14 : UM c14 t b2 e most out := h10.mv u14 f14 (fun o i z => by omega)
                    have qS14 : mcd c14 0 lS' := mcd_fm qS10 f14 (fun o i z => by omega)
                    have qD14 : mcd c14 300 lD' := mcd_fm qD10 f14 (fun o i z => by omega)
                    have db := dbits_lt d (by omega)
                    have dbs := dbase_lt d (by omega)
                    have dbp := dbase_pos d (by omega)
                    rw [e14, bnd_some, v14]
                    refine XR.pre ?_ (f14.mono (fun o i z => by unfold UF; omega))
                    by_cases q3 : b2 + dbits d ≤ e
                    · obtain ⟨c16, e16, u16, f16⟩ := m_bits (n := dbits d) hN u14 q3 (by omega) rfl
                      have h16 := mv5 h14 u16 f16
                      have qS16 := cd5 qS14 f16
                      have qD16 := cd5 qD14 f16
                      have bl3 := bv_lt t b2 (dbits d)
                      have bl4 : 2 ^ dbits d ≤ 2 ^ 13 := Nat.pow_le_pow_right (by decide) db
                      have ol : out.length ≤ 512 := by have := h16.2.2.2; omega
                      rw [e16, bnd_some, if_pos u16.2.2.2.2.2, nI_add, nI_add, h16.2.1.2.1]
                      refine XR.pre ?_ (f16.mono (fun o i z => UF_25 z))
                      obtain ⟨nn, enn⟩ : ∃ nn, nn = lbase (stp s) + bv t b1 (lbits (stp s)) := ⟨_, rfl⟩
                      obtain ⟨ff, eff⟩ : ∃ ff, ff = dbase d + bv t b2 (dbits d) := ⟨_, rfl⟩
                      have hff : 1 ≤ ff ∧ ff < 2 ^ 31 := by omega
                      have hnn : nn < 1000 := by omega
                      rw [← enn, ← eff]
                      by_cases q4 : ff ≤ out.length
                      · rw [if_pos (nI_le q4 (by omega))]
                        have mc := m_copies (N := N) (v1 := c.1 201 25 / 8) (k0 := f_X12_readSymbols_0 N n) (n := nn) (far := ff) hff.1 nn N 0 c16 out (Nat.zero_add _) (by omega) (by omega) q4 h16
                        by_cases q5 : out.length + nn ≤ most
                        · rw [if_pos q5] at mc
                          obtain ⟨c17, a1, a2, a3⟩ := mc
                          have a1' : f_X12_readSymbols_193 N (f_X12_readSymbols_0 N n) N c16 (c.1 201 25 / 8) (nI nn) (nI ff) 0 = _ := a1
                          have cs : copF t e lD most out (stp s) b1 = some (cpy ff nn out, b2 + dbits d) := by
                            unfold copF
                            rw [if_pos q1, hd2]
                            dsimp only
                            rw [if_pos q2, if_pos q3, ← enn, ← eff, if_pos ⟨q4, q5⟩]
                          rw [a1', cs]
                          dsimp only
                          refine XR.pre ?_ (a3.mono (fun o i z => by unfold AF at z; unfold UF; omega))
                          exact ih n (b2 + dbits d) c17 _ (by omega) (by omega) a2 (mcd_fm qS16 a3 (fun o i z => by unfold AF at z; omega)) (mcd_fm qD16 a3 (fun o i z => by unfold AF at z; omega))
                        · rw [if_neg q5] at mc
                          obtain ⟨c17, a1, a2⟩ := mc
                          have a1' : f_X12_readSymbols_193 N (f_X12_readSymbols_0 N n) N c16 (c.1 201 25 / 8) (nI nn) (nI ff) 0 = _ := a1
                          have cn : copF t e lD most out (stp s) b1 = none := by
                            unfold copF
                            rw [if_pos q1, hd2]
                            dsimp only
                            rw [if_pos q2, if_pos q3, ← enn, ← eff, if_neg (fun z => q5 z.2)]
                          rw [a1', cn]
                          exact XR.no rfl ⟨c17, rfl, a2⟩ fm.rf
                      · have cn : copF t e lD most out (stp s) b1 = none := by
                          unfold copF
                          rw [if_pos q1, hd2]
                          dsimp only
                          rw [if_pos q2, if_pos q3, ← enn, ← eff, if_neg (fun z => q4 z.1)]
                        rw [if_neg (nI_ge (by omega) (by omega)), cn]
                        exact XR.no rfl (u_fail _ _ _) fm.rf
                    · obtain ⟨x16, c16, e16, v16, f16⟩ := m_bits_no (n := dbits d) hN u14 (by omega) (by omega) rfl
                      have cn : copF t e lD most out (stp s) b1 = none := by
                        unfold copF
                        rw [if_pos q1, hd2]
                        dsimp only
                        rw [if_pos q2, if_neg q3]
                      rw [e16, bnd_some, if_neg v16, cn]
                      exact XR.no rfl ⟨c16, rfl, f16.mono (fun o i z => UF_F z)⟩ fm.rf
                  · have cn : copF t e lD most out (stp s) b1 = none := by
                      unfold copF
                      rw [if_pos q1, hd2]
                      dsimp only
                      rw [if_neg q2]
                    rw [if_neg (show ¬ nI d ≤ 29 from nI_ge (a := 29) (by omega) (by omega)), cn]
                    exact XR.no rfl (u_fail _ _ _) fm.rf
              · obtain ⟨x8, c8, e8, v8, f8⟩ := m_bits_no (n := lbits (stp s)) hN u6 (by omega) (by omega) rfl
                have cn : copF t e lD most out (stp s) b1 = none := by unfold copF; rw [if_neg q1]
                rw [e8, bnd_some, if_neg v8, cn]
                exact XR.no rfl ⟨c8, rfl, f8.mono (fun o i z => UF_F z)⟩ fm.rf
        · have k3 := kd3 (show ¬ s = 256 by omega) s285
          rw [if_neg (show ¬ nI s ≤ 285 from nI_ge (a := 285) (by omega) (by omega)), if_neg (by rw [k3]; decide), if_neg (by rw [k3]; decide), if_neg (by rw [k3]; decide)]
          exact XR.no rfl (u_fail _ _ _) fm.rf
  exact key (e - b + 1) N b c out (by omega) (by omega) h qS qD
theorem m_unpackFrom {N : Nat} {c : hS} {t : List Nat} {a behind most : Nat} {p1 p2 p3 : Int32} (hN : 1000000 ≤ N) (h : mrw c 4 203 t) (h5 : c.1 201 5 = 0) (hab : a ≤ behind) (hbt : behind ≤ t.length) (hm : most ≤ 512) (e1 : p1 = nI a) (e2 : p2 = nI behind) (e3 : p3 = nI most) : ∃ c', f_X12_unpackFrom N c p1 p2 p3 = some (bI (opn t a behind most).isSome, c') ∧ fm UF c c' ∧ ∀ out, opn t a behind most = some out → mrw c' 23 211 out ∧ out.length ≤ most ∧ c'.1 201 5 = 0 := by
  subst e1 e2 e3
  have ht : t.length ≤ 20000 := h.1
  have mv5 : ∀ {c1 c2 : hS} {b1 b2 : Nat} {out : List Nat}, UM c1 t b1 (8 * behind) most out → UB c2 t b2 (8 * behind) → fm F25 c1 c2 → UM c2 t b2 (8 * behind) most out := fun a b f => a.mv b f (fun o i z => by unfold F25 at z; omega)
  have key : ∀ f n b c out, 8 * behind - b < f → f < n → UM c t b (8 * behind) most out → ∃ c', f_X12_unpackFrom_29 N (nI a) (nI behind) (nI most) n c 0 = some (bI (opF t behind most f b out).isSome, c') ∧ fm UF c c' ∧ ∀ out', opF t behind most f b out = some out' → mrw c' 23 211 out' ∧ out'.length ≤ most ∧ c'.1 201 5 = 0 := by
    intro f
    induction f with
    | zero => intro n b c out h1; omega
    | succ f ih =>
      intro n b c out hf hn hu
      obtain ⟨n, rfl⟩ : ∃ m, n = m + 2 := ⟨n - 2, by omega⟩
      have hbe := hu.1.2.2.2.1
      have eo : opF t behind most (f + 1) b out = match blkF t (8 * behind) most b out with
        | none => none
        | some q => if bt8 t b = 1 then (if (q.2 + 7) / 8 = behind then some q.1 else none) else opF t behind most f q.2 q.1 := by
        unfold opF
        rw [opG]
        cases blkF t (8 * behind) most b out with
        | none => rfl
        | some q => simp only [decide_eq_true_eq]
      -- a block that fails
      have bad : ∀ {X : Option (Int32 × hS)}, blkF t (8 * behind) most b out = none → (∃ c', X = some (0, c') ∧ fm UF c c') → ∃ c', X = some (bI (opF t behind most (f + 1) b out).isSome, c') ∧ fm UF c c' ∧ ∀ out', opF t behind most (f + 1) b out = some out' → mrw c' 23 211 out' ∧ out'.length ≤ most ∧ c'.1 201 5 = 0 := by
        intro X hb ⟨c', x1, x2⟩
        rw [eo, hb]
        exact ⟨c', x1, x2, fun _ z => by cases z⟩
      -- behind a block
      have next : ∀ (c1 : hS) (b1 : Nat) (out1 : List Nat) (l : Int32), blkF t (8 * behind) most b out = some (out1, b1) → l = nI (bt8 t b) → UM c1 t b1 (8 * behind) most out1 → fm UF c c1 → ∃ c', f_X12_unpackFrom_29 N (nI a) (nI behind) (nI most) (n + 1) c1 l = some (bI (opF t behind most (f + 1) b out).isSome, c') ∧ fm UF c c' ∧ ∀ out', opF t behind most (f + 1) b out = some out' → mrw c' 23 211 out' ∧ out'.length ≤ most ∧ c'.1 201 5 = 0 := by
        intro c1 b1 out1 l hb hl h1 hf1
        have lt := blkF_lt hb
        have e1 := h1.1.e
        rw [eo, hb]
        dsimp only
        by_cases q : bt8 t b = 1
        · rw [if_pos q, f_X12_unpackFrom_29, hl, q, if_neg (by decide), h1.1.2.1, show (nI b1 + 7) / 8 = nI ((b1 + 7) / 8) from by rw [show nI b1 + 7 = nI (b1 + 7) from nI_add b1 7, show (8 : Int32) = nI 8 from rfl, div_nI (by omega) (by decide)]]
          by_cases w : (b1 + 7) / 8 = behind
          · rw [if_pos (by rw [w]), if_pos w]
            exact ⟨c1, rfl, hf1, fun out' z => by cases z; exact ⟨h1.2.1, h1.2.2.2.2, h1.1.2.2.2.2.2⟩⟩
          · rw [if_neg (fun z => w ((nI_eq (by omega) (by omega)).mp z)), if_neg w]
            obtain ⟨c2, x1, x2⟩ := m_failsX (c := c1) (a := 27) (p := nI ((b1 + 7) / 8))
            rw [x1, bnd_some, if_pos rfl]
            exact ⟨c2, rfl, hf1.tr (x2.mono (fun o i z => by unfold UF; omega)), fun _ z => by cases z⟩
        · have b0 : bt8 t b = 0 := by have := bt8_lt t b; omega
          rw [if_neg q, hl, b0]
          obtain ⟨c', x1, x2, x3⟩ := ih (n + 1) b1 c1 out1 (by omega) (by omega) h1
          exact ⟨c', x1, hf1.tr x2, x3⟩
      have r56 : ∀ (c1 : hS) (v5 l : Int32), b < 8 * behind → l = nI (bt8 t b) → UM c1 t (b + 1) (8 * behind) most out → fm UF c c1 → ∃ c', f_X12_unpackFrom_56 N (nI a) (nI behind) (nI most) (f_X12_unpackFrom_29 N (nI a) (nI behind) (nI most) (n + 1)) c1 v5 l = some (bI (opF t behind most (f + 1) b out).isSome, c') ∧ fm UF c c' ∧ ∀ out', opF t behind most (f + 1) b out = some out' → mrw c' 23 211 out' ∧ out'.length ≤ most ∧ c'.1 201 5 = 0 := by
        intro c1 v5 l hb hl h1 hf1
        unfold f_X12_unpackFrom_56
        by_cases q : b + 3 ≤ 8 * behind
        · obtain ⟨c2, e2, u2, f2⟩ := m_bits (p := 2) (n := 2) hN h1.1 (by omega) (by decide) rfl
          have h2 : UM c2 t (b + 3) (8 * behind) most out := mv5 h1 u2 f2
          have hf2 : fm UF c c2 := hf1.tr (f2.mono (fun o i z => UF_25 z))
          have l4 := bv_lt t (b + 1) 2
          have eb : blkF t (8 * behind) most b out = sorF t (8 * behind) most (bv t (b + 1) 2) (b + 3) out := by unfold blkF; rw [if_pos q]
          rw [e2, bnd_some, if_pos u2.2.2.2.2.2]
          obtain ⟨k, ek⟩ : ∃ k, k = bv t (b + 1) 2 := ⟨_, rfl⟩
          rw [← ek] at l4 eb ⊢
          have syms : ∀ (c3 : hS) (lS lD lS' lD' : List Nat) (b3 : Nat) (v7 : Int32), v7 ≠ 0 → blkF t (8 * behind) most b out = symF t (8 * behind) lS lD most (8 * behind - b3 + 1) b3 out → UM c3 t b3 (8 * behind) most out → mcd c3 0 lS' → mcd c3 300 lD' → lS'.length = 288 → lD'.length = 32 → (∀ b, dec t (8 * behind) lS' b = dec t (8 * behind) lS b) → (∀ b, dec t (8 * behind) lD' b = dec t (8 * behind) lD b) → fm UF c c3 → ∃ c', f_X12_unpackFrom_129 N (nI a) (nI behind) (nI most) (f_X12_unpackFrom_29 N (nI a) (nI behind) (nI most) (n + 1)) c3 l v7 = some (bI (opF t behind most (f + 1) b out).isSome, c') ∧ fm UF c c' ∧ ∀ out', opF t behind most (f + 1) b out = some out' → mrw c' 23 211 out' ∧ out'.length ≤ most ∧ c'.1 201 5 = 0 := by
            intro c3 lS lD lS' lD' b3 v7 hv eb3 h3 qS qD l1 l2 dS dD hf3
            obtain ⟨c4, x1, x2, x3⟩ := m_readSymbols hN h3 qS qD l1 l2 dS dD
            unfold f_X12_unpackFrom_129
            rw [if_neg hv, x1, bnd_some, ← eb3]
            rw [← eb3] at x3
            cases hbk : blkF t (8 * behind) most b out with
            | none =>
              rw [if_pos (show bI (none : Option (List Nat × Nat)).isSome = 0 from rfl)]
              exact bad hbk ⟨c4, rfl, hf3.tr x2⟩
            | some q2 =>
              obtain ⟨out1, b1⟩ := q2
              rw [if_neg (show ¬ bI (some (out1, b1)).isSome = 0 from (by decide : ¬ bI true = 0))]
              exact next c4 b1 out1 l hbk hl (x3 out1 b1 hbk) (hf3.tr x2)
          by_cases k3 : k = 3
          · rw [if_pos (show nI k = 3 by rw [k3]; rfl)]
            obtain ⟨c3, x1, x2⟩ := u_fail c2 21 v5
            exact bad (by rw [eb, k3]; rfl) ⟨c3, x1, hf2.tr x2⟩
          · rw [if_neg (show ¬ nI k = 3 from fun z => k3 ((nI_eq (b := 3) (by omega) (by decide)).mp z))]
            by_cases k0 : k = 0
            · rw [if_pos (show nI k = 0 by rw [k0]; rfl)]
              obtain ⟨c3, x1, x2, x3⟩ := m_plain (p1 := v5) hN h2 (by omega)
              have ebs : blkF t (8 * behind) most b out = stoF t (8 * behind) most (b + 3) out := by rw [eb, k0]; rfl
              rw [x1, bnd_some, ← ebs]
              rw [← ebs] at x3
              cases hbk : blkF t (8 * behind) most b out with
              | none =>
                rw [if_pos (show bI (none : Option (List Nat × Nat)).isSome = 0 from rfl)]
                exact bad hbk ⟨c3, rfl, hf2.tr x2⟩
              | some q2 =>
                obtain ⟨out1, b1⟩ := q2
                rw [if_neg (show ¬ bI (some (out1, b1)).isSome = 0 from (by decide : ¬ bI true = 0))]
                exact next c3 b1 out1 l hbk hl (x3 out1 b1 hbk) (hf2.tr x2)
            · rw [if_neg (nI_ne0 (by omega) (by omega))]
              by_cases k1 : k = 1
              · rw [if_pos (show nI k = 1 by rw [k1]; rfl)]
                obtain ⟨c5, x1, x2, x3, x4⟩ := m_layFixed (c := c2) hN
                rw [x1, bnd_some]
                have u5 : UB c5 t (b + 3) (8 * behind) := h2.1.fm' x4 (fun o i z => ⟨by omega, by omega⟩)
                exact syms c5 fxS fxD fxS fxD (b + 3) 1 (by decide) (by rw [eb, k1]; rfl) (h2.mv u5 x4 (fun o i z => by omega)) x2 x3 fxS_len fxD_len (fun _ => rfl) (fun _ => rfl) (hf2.tr (x4.mono (fun o i z => by unfold UF; omega)))
              · rw [if_neg (show ¬ nI k = 1 from fun z => k1 ((nI_eq (b := 1) (by omega) (by decide)).mp z))]
                have k2 : k = 2 := by omega
                obtain ⟨c4, x1, x2, x3⟩ := m_readCodes (p1 := v5) hN h2.1
                have hf4 : fm UF c c4 := hf2.tr (x2.mono (fun o i z => UF_D z))
                have eb2 : blkF t (8 * behind) most b out = match dynB t (8 * behind) (b + 3) with
                  | none => none
                  | some q => symF t (8 * behind) q.1 q.2.1 most (8 * behind - q.2.2 + 1) q.2.2 out := by rw [eb, k2]; rfl
                rw [x1, bnd_some]
                cases hdy : dynB t (8 * behind) (b + 3) with
                | none =>
                  rw [hdy] at eb2
                  unfold f_X12_unpackFrom_129
                  rw [if_pos (show bI (none : Option (List Nat × List Nat × Nat)).isSome = 0 from rfl)]
                  exact bad eb2 ⟨c4, rfl, hf4⟩
                | some q2 =>
                  rw [hdy] at eb2
                  obtain ⟨y1, y2, y3⟩ := x3 q2 hdy
                  have dl := dynB_lt hdy
                  have h4 : UM c4 t q2.2.2 (8 * behind) most out := h2.mv y1 x2 (fun o i z => by unfold DF F56 at z; omega)
                  exact syms c4 q2.1 q2.2.1 _ _ q2.2.2 _ (show bI (some q2).isSome ≠ 0 from (by decide : bI true ≠ 0)) eb2 h4 y2 y3 (by rw [List.length_append, List.length_replicate]; omega) (by rw [List.length_append, List.length_replicate]; omega) (fun _ => dec_pad) (fun _ => dec_pad) hf4
        · obtain ⟨x, c2, e2, v2, f2⟩ := m_bits_no (p := 2) (n := 2) hN h1.1 (by omega) (by decide) rfl
          rw [e2, bnd_some, if_neg v2]
          exact bad (by unfold blkF; rw [if_neg q]) ⟨c2, rfl, hf1.tr (f2.mono (fun o i z => UF_F z))⟩
      rw [f_X12_unpackFrom_29, if_pos rfl]
      by_cases q : b < 8 * behind
      · have f1 : fm F25 c (sI c 201 25 (nI (b + 1))) := fm.sI ⟨rfl, rfl⟩
        have h1 := mv5 hu (hu.1.mv (b' := b + 1) (by omega)) f1
        rw [m_bit hu.1 q, bnd_some]
        by_cases w : bt8 t b = 1
        · rw [if_pos (show nI (bt8 t b) = 1 by rw [w]; rfl)]
          exact r56 _ _ 1 q (by rw [w]; rfl) h1 (f1.mono (fun o i z => UF_25 z))
        · have b0 : bt8 t b = 0 := by have := bt8_lt t b; omega
          rw [if_neg (show ¬ nI (bt8 t b) = 1 by rw [b0]; decide)]
          exact r56 _ _ 0 q (by rw [b0]; rfl) h1 (f1.mono (fun o i z => UF_25 z))
      · obtain ⟨c2, e2, v2, f2⟩ := m_bit_no hu.1 (by omega)
        rw [e2, bnd_some, if_neg (by decide)]
        unfold f_X12_unpackFrom_56
        rw [m_bits_x hN v2, bnd_some, if_neg v2]
        exact bad (by unfold blkF; rw [if_neg (by omega)]) ⟨c2, rfl, f2.mono (fun o i z => by unfold UF; omega)⟩
  unfold f_X12_unpackFrom
  dsimp only [st1]
  rw [show (8 : Int32) * nI a = nI (8 * a) from nI_mul 8 a, show (8 : Int32) * nI behind = nI (8 * behind) from nI_mul 8 behind]
  obtain ⟨c4, e4⟩ : ∃ c4, sI (sI (sI (sI c 201 25 (nI (8 * a))) 201 26 (nI (8 * behind))) 201 24 (nI most)) 201 23 0 = c4 := ⟨_, rfl⟩
  have f4 : fm (fun o i => o = 201 ∧ 23 ≤ i ∧ i ≤ 26) c c4 := by rw [← e4]; exact (((fm.sI (by omega)).tr (fm.sI (by omega))).tr (fm.sI (by omega))).tr (fm.sI (by omega))
  rw [e4]
  have h4 : UM c4 t (8 * a) (8 * behind) most [] := by
    refine ⟨⟨h.fm f4 (by omega) (fun i => by omega), ?_, ?_, by omega, by omega, (f4.1 _ _ (by omega)).trans h5⟩, ⟨Nat.zero_le _, ?_, fun i hi => absurd hi (Nat.not_lt_zero i), fun x hx => by cases hx⟩, ?_, hm, Nat.zero_le _⟩
    · rw [← e4, sI_j (by decide), sI_j (by decide), sI_j (by decide), sI_s]
    · rw [← e4, sI_j (by decide), sI_j (by decide), sI_s]
    · rw [← e4, sI_s]; rfl
    · rw [← e4, sI_j (by decide), sI_s]
  obtain ⟨c', x1, x2, x3⟩ := key (8 * behind - 8 * a + 1) N (8 * a) c4 [] (by omega) (by omega) h4
  exact ⟨c', x1, (f4.mono (fun o i z => by unfold UF; omega)).tr x2, x3⟩
theorem m_unpack {N : Nat} {c : hS} {b t : List Nat} {ms : List Mb} (hN : 1000000 ≤ N) (h : PM c b t ms) : MN (f_X12_unpack N c) c 0 (unV t) (unB1 b t) t ms := by
  obtain ⟨c1, e1, h1, z1, f1⟩ := m_zero h
  unfold f_X12_unpack
  rw [e1]
  dsimp only [st1]
  obtain ⟨c3, e3⟩ : ∃ c3, sI (sI c1 201 5 0) 201 6 (-1) = c3 := ⟨_, rfl⟩
  have f3 : fm (fun o i => o = 201 ∧ (i = 5 ∨ i = 6)) c1 c3 := by rw [← e3]; exact (fm.sI (by omega)).tr (fm.sI (by omega))
  have v5 : c3.1 201 5 = 0 := by rw [← e3, sI_j (by decide), sI_s]
  rw [e3]
  have h3 := h1.mv f3 (fun o i z => by omega)
  obtain ⟨c5, e5, f5, g5⟩ := m_unpackFrom (p1 := 0) (p2 := c3.1 201 4) (p3 := 512) (a := 0) (behind := t.length) (most := 512) hN h3.2.1 v5 (Nat.zero_le _) (Nat.le_refl _) (Nat.le_refl _) rfl h3.2.1.2.1 rfl
  have f5' : fm (fun o i => (o = 201 ∧ (i = 5 ∨ i = 6 ∨ 23 ≤ i)) ∨ (208 < o ∧ o < 219)) c3 c5 := f5.mono (fun o i z => by unfold UF at z; omega)
  have h5 := h3.mv f5' (fun o i z => by omega)
  have z5 : c5.1 201 0 = 0 := by rw [f5'.1 _ _ (by omega), f3.1 _ _ (by omega)]; exact z1
  have fz : fm (fun o _ => 201 ≤ o ∧ o < 219) c c5 := (f1.tr (f3.mono (fun o i z => by omega))).tr (f5'.mono (fun o i z => by omega))
  rw [e5, bnd_some]
  unfold unV unB1
  cases ho : opn t 0 t.length 512 with
  | none =>
    rw [if_pos (show bI (none : Option (List Nat)).isSome = 0 from rfl)]
    exact ⟨_, c5, rfl, z5, fun _ => rfl, h5, fz⟩
  | some out =>
    obtain ⟨r5, l5, -⟩ := g5 out ho
    rw [if_neg (show ¬ bI (some out).isSome = 0 from (by decide : ¬ bI true = 0)), r5.2.1]
    dsimp only
    obtain ⟨c6, e6⟩ : ∃ c6, sI c5 201 2 (nI out.length) = c6 := ⟨_, rfl⟩
    have f6 : fm (fun o i => o = 201 ∧ i = 2) c5 c6 := by rw [← e6]; exact fm.sI ⟨rfl, rfl⟩
    have v6 : c6.1 201 2 = nI out.length := by rw [← e6, sI_s]
    rw [e6]
    obtain ⟨c7, e7, i7, w7, f7⟩ := cp_loop (F := f_X12_unpack_42 N) (X := fun c => some (c.1 201 2, c)) (o := 202) (o' := 211) (a := 0) (b := 0) (len := out.length) (fun c => c.1 201 23 = nI out.length) (fun c i x q => by rw [sI_o (by decide)]; exact q) (fun n c i hi q => by
      rw [f_X12_unpack_42, q, if_neg (nI_ge hi (by omega)), j_in_nI (show i < ln 211 from (by show i < 512; omega)) (by decide), cond_true, j_in_nI (show i < ln 202 from (by show i < 512; omega)) (by decide), cond_true, nI_clamp (by omega), Nat.zero_add]
      rfl) (fun n c q => by rw [f_X12_unpack_42, q, if_pos (nI_le (Nat.le_refl _) (by omega))]) (by omega) out.length N c6 0 (by omega) (by omega) ((f6.1 _ _ (by omega)).trans r5.2.1)
    have f7' : fm (fun o i => o = 202) c6 c7 := f7.mono (fun o i z => z.1)
    have f67 : fm (fun o i => (o = 201 ∧ i = 2) ∨ o = 202) c5 c7 := (f6.mono (fun o i z => Or.inl z)).tr (f7'.mono (fun o i z => Or.inr z))
    have e7' : f_X12_unpack_42 N N c6 0 = some (c7.1 201 2, c7) := e7
    have v7 : c7.1 201 2 = nI out.length := (f7'.1 _ _ (by omega)).trans v6
    have r7 : mrw c7 2 202 out := ⟨show out.length ≤ 512 from l5, v7, fun i hi => by
      have := w7 i (Nat.zero_le _) hi
      rw [Nat.zero_add] at this
      rw [this, f6.1 _ _ (by omega)]
      exact r5.2.2.1 i hi, r5.2.2.2⟩
    rw [e7', v7]
    exact ⟨_, c7, rfl, (f67.1 _ _ (by omega)).trans z5, fun _ => rfl, h5.bf f67 (fun o i z => by omega) r7, fz.tr (f67.mono (fun o i z => by omega))⟩
end
section
/-! PURE: the reference: tests of the tape, members that come -/
noncomputable def FQ (o i : Nat) : Prop := o = 201 ∧ (i = 5 ∨ i = 6)
/-- a test: when it holds nothing has changed -/
noncomputable def MT (X : Option (Int32 × hS)) (c : hS) (b : Bool) : Prop := ∃ c', X = some (bI b, c') ∧ fm FQ c c' ∧ (b = true → c' = c)
theorem MT.yes {c : hS} : MT (some (1, c)) c true := ⟨c, rfl, fm.rf, fun _ => rfl⟩
theorem MT.is {c : hS} {b : Bool} : MT (some (bI b, c)) c b := ⟨c, rfl, fm.rf, fun _ => rfl⟩
theorem MT.fail {c : hS} {a p : Int32} : MT (bnd (f_X12_fails c a p) fun x c2 => bif j_b x then some (x, c2) else none) c false := by
  obtain ⟨c', e1, f1⟩ := b_fail (c := c) (a := a) (p := p) (P := FQ) (fun i z => ⟨rfl, z⟩)
  exact ⟨c', e1, f1, fun z => by cases z⟩
theorem MT.fail2 {c : hS} {a p : Int32} : MT (bnd (f_X12_fails c a p) fun x c2 => if x = 0 then some (0, c2) else some (1, c2)) c false := by
  obtain ⟨c', e1, f1⟩ := m_failsX (c := c) (a := a) (p := p)
  rw [e1, bnd_some, if_pos rfl]
  exact ⟨c', rfl, f1, fun z => by cases z⟩
theorem MT.jb {X : Option (Int32 × hS)} {c : hS} {b : Bool} (h : MT X c b) : MT (bnd X fun x c2 => bif j_b x then some (x, c2) else none) c b := by
  obtain ⟨c', e1, f1, g1⟩ := h
  rw [e1, bnd_some, show j_b (bI b) = true by cases b <;> rfl]
  exact ⟨c', rfl, f1, g1⟩
theorem MT.and_ {X : Option (Int32 × hS)} {K : hS → Option (Int32 × hS)} {c : hS} {b b' : Bool} (h : MT X c b) (hK : b = true → MT (K c) c b') : MT (bnd X fun x c1 => if x = 0 then some (0, c1) else K c1) c (b && b') := by
  obtain ⟨c', e1, f1, g1⟩ := h
  rw [e1, bnd_some]
  cases b with
  | false => rw [if_pos (show bI false = 0 from rfl)]; exact ⟨c', rfl, f1, fun z => by cases z⟩
  | true => rw [if_neg (by decide), g1 rfl]; exact hK rfl
theorem MT.last2 {X : Option (Int32 × hS)} {c : hS} {b : Bool} (h : MT X c b) : MT (bnd X fun x c1 => if x = 0 then some (0, c1) else some (1, c1)) c b := by
  have := MT.and_ (K := fun c1 => some (1, c1)) h (fun _ => MT.yes)
  rwa [Bool.and_true] at this
theorem MT.ite_ {X Y : Option (Int32 × hS)} {c : hS} {b : Bool} {p : Prop} [Decidable p] {q : Prop} [Decidable q] (hp : p ↔ q) (hX : q → MT X c b) (hY : MT Y c false) : MT (if p then X else Y) c (decide q && b) := by
  by_cases w : q
  · rw [if_pos (hp.mpr w), decide_eq_true w, Bool.true_and]; exact hX w
  · rw [if_neg (fun z => w (hp.mp z)), decide_eq_false w, Bool.false_and]; exact hY
theorem MT.if1 {Y : Option (Int32 × hS)} {c : hS} {p : Prop} [Decidable p] {q : Prop} [Decidable q] (hp : p ↔ q) (hY : MT Y c false) : MT (if p then some (1, c) else Y) c (decide q) := by
  have := MT.ite_ (X := some (1, c)) (b := true) hp (fun _ => MT.yes) hY
  rwa [Bool.and_true] at this
theorem m_all {F : Nat → hS → Int32 → Option (Int32 × hS)} {c : hS} {j : Nat} {P : Nat → Bool} (hs : ∀ n k, k < j → (P k = true → F (n + 1) c (nI k) = F n c (nI k + 1)) ∧ (P k = false → MT (F (n + 1) c (nI k)) c false)) (h0 : ∀ n, MT (F (n + 1) c (nI j)) c true) : ∀ d n k, k + d = j → d < n → MT (F n c (nI k)) c ((List.range' k d).all P) := by
  intro d
  induction d with
  | zero =>
    intro n k hk hn
    obtain ⟨n, rfl⟩ : ∃ m, n = m + 1 := ⟨n - 1, by omega⟩
    have : k = j := by omega
    subst this
    exact h0 n
  | succ d ih =>
    intro n k hk hn
    obtain ⟨n, rfl⟩ : ∃ m, n = m + 1 := ⟨n - 1, by omega⟩
    obtain ⟨h1, h2⟩ := hs n k (by omega)
    rw [List.range'_succ, List.all_cons]
    cases q : P k with
    | true => rw [h1 q, nI_1, Bool.true_and]; exact ih n (k + 1) (by omega) (by omega)
    | false => rw [Bool.false_and]; exact h2 q
theorem tp_at {c : hS} {t : List Nat} {k : Nat} (h : mrw c 4 203 t) (hk : k < t.length) : j_in (nI k) (ln 203) = true ∧ c.1 203 (nI k).toNatClampNeg = nI (gt t k) := by
  have ht : t.length ≤ 20000 := h.1
  exact ⟨j_in_nI (show k < ln 203 from (by show k < 20000; omega)) (by decide), by rw [nI_clamp (by omega)]; exact h.2.2.1 k hk⟩
theorem gt_eq {t : List Nat} (h : byt t) {k v : Nat} (hv : v < 256) : nI (gt t k) = nI v ↔ gt t k = v := nI_eq (by have := h.gt k; omega) (by omega)
theorem m_reaches {c : hS} {t : List Nat} {x : Int64} {k : Nat} (h : mrw c 4 203 t) (hx : x = lN k) (hk : k < 2 ^ 62) : MT (f_X12_reaches c x) c (decide (k ≤ t.length)) := by
  have ht : t.length ≤ 20000 := h.1
  unfold f_X12_reaches
  rw [h.2.1]
  exact MT.if1 (cmp_le' hx (nI_l (by omega)) (by omega) (by omega)) MT.fail2
theorem m_areZeros {N p : Nat} {c : hS} {t : List Nat} (hN : 1000000 ≤ N) (h : mrw c 4 203 t) (hp : p ≤ t.length) : MT (f_X12_areZeros N c (nI p)) c (zerB t p) := by
  have ht : t.length ≤ 20000 := h.1
  unfold f_X12_areZeros zerB
  refine m_all (F := f_X12_areZeros_2 N (nI p)) (j := t.length) (fun n k hk => ?_) (fun n => ?_) (t.length - p) N p (by omega) (by omega)
  · obtain ⟨a1, a2⟩ := tp_at h hk
    rw [f_X12_areZeros_2, h.2.1, if_neg (nI_ge hk (by omega)), a1, cond_true, a2]
    refine ⟨fun q => ?_, fun q => ?_⟩
    · rw [if_pos (by rw [of_decide_eq_true q]; rfl)]
    · rw [if_neg (show ¬ nI (gt t k) = 0 from fun z => (of_decide_eq_false q) ((gt_eq (v := 0) h.2.2.2 (by decide)).mp z))]
      exact MT.fail
  · rw [f_X12_areZeros_2, h.2.1, if_pos (nI_le (Nat.le_refl _) (by omega))]
    exact MT.yes
theorem m_isRow {N p a b d e : Nat} {c : hS} {t : List Nat} {p1 x y z w f : Int32} (hN : 1000000 ≤ N) (h : mrw c 4 203 t) (hp : p + 4 ≤ t.length) (h1 : p1 = nI p) (hx : x = nI a) (hy : y = nI b) (hz : z = nI d) (hw : w = nI e) (hb : a < 256 ∧ b < 256 ∧ d < 256 ∧ e < 256) : MT (f_X12_isRow N c p1 x y z w f) c (mkB t p [a, b, d, e]) := by
  subst h1 hx hy hz hw
  unfold f_X12_isRow mkB
  refine m_all (F := f_X12_isRow_3 N (nI p) (nI a) (nI b) (nI d) (nI e) f) (j := 4) (fun n k hk => ?_) (fun n => ?_) 4 N 0 (by omega) (by omega)
  · obtain ⟨a1, a2⟩ := tp_at h (show p + k < t.length by omega)
    have gl : gt [a, b, d, e] k < 256 := by
      have : k = 0 ∨ k = 1 ∨ k = 2 ∨ k = 3 := by omega
      rcases this with rfl | rfl | rfl | rfl
      · exact hb.1
      · exact hb.2.1
      · exact hb.2.2.1
      · exact hb.2.2.2
    have ex : f_X12_isRow_3 N (nI p) (nI a) (nI b) (nI d) (nI e) f (n + 1) c (nI k) = f_X12_isRow_41 N (nI p) (nI a) (nI b) (nI d) (nI e) f (f_X12_isRow_3 N (nI p) (nI a) (nI b) (nI d) (nI e) f n) c (nI k) (nI (gt [a, b, d, e] k)) := by
      have : k = 0 ∨ k = 1 ∨ k = 2 ∨ k = 3 := by omega
      rcases this with rfl | rfl | rfl | rfl <;> rfl
    rw [ex]
    unfold f_X12_isRow_41
    rw [nI_add, a1, cond_true, a2]
    refine ⟨fun q => ?_, fun q => ?_⟩
    · rw [if_pos (by rw [of_decide_eq_true q])]
    · rw [if_neg (fun z => (of_decide_eq_false q) ((gt_eq h.2.2.2 gl).mp z))]
      exact MT.fail
  · rw [f_X12_isRow_3, if_pos (by decide)]
    exact MT.yes
/-- the members that have been read -/
noncomputable def RS (c : hS) (t : List Nat) (ms : List Mb) : Prop := mrw c 4 203 t ∧ msh c 17 ms ∧ c.1 201 8 = nI ms.length ∧ ms.length ≤ 16 ∧ ∀ x ∈ ms, nameB x.1 = true
theorem RS.mv {P : Nat → Nat → Prop} {c c1 : hS} {t : List Nat} {ms : List Mb} (h : RS c t ms) (hf : fm P c c1) (hP : ∀ o i, P o i → (o = 201 ∧ i ≠ 4 ∧ i ≠ 8) ∨ o = 202 ∨ 208 < o) : RS c1 t ms := by
  have n : ∀ o i, ¬ ((o = 201 ∧ i ≠ 4 ∧ i ≠ 8) ∨ o = 202 ∨ 208 < o) → ¬ P o i := fun o i q z => q (hP o i z)
  exact ⟨h.1.fm hf (n _ _ (by omega)) (fun i => n _ _ (by omega)), fun i hi => (h.2.1 i hi).fm hf (fun o j a b => n _ _ (by omega)), (hf.1 _ _ (n _ _ (by omega))).trans h.2.2.1, h.2.2.2⟩
noncomputable def CF (o i : Nat) : Prop := FQ o i ∨ (o = 201 ∧ i = 8) ∨ rg 17 o i
theorem rg_n {base o i : Nat} (h : rg base o i) : 204 ≤ o ∧ o ≤ 208 := by unfold rg at h; omega
theorem m_comes {N : Nat} {c : hS} {t nm g : List Nat} {ms : List Mb} {d : Bool} {p : Int32} (hN : 1000000 ≤ N) (h : RS c t ms) (hn : mrw c 14 209 nm) (hg : mrw c 16 210 g) (hd : c.1 201 18 = bI d) (hnm : nameB nm = true) (hgl : g.length ≤ 400) : ∃ c', f_X12_comes N c p = some (bI (mayB ms nm d), c') ∧ fm CF c c' ∧ (mayB ms nm d = true → RS c' t (comeM ms (nm, g, d)) ∧ c'.1 201 5 = c.1 201 5) := by
  have h16 := h.2.2.2.1
  have bad : ∀ {a : Int32}, ∃ c', (bnd (f_X12_fails c a p) fun x c2 => bif j_b x then some (x, c2) else none) = some (0, c') ∧ fm CF c c' := by
    intro a
    obtain ⟨c', e1, f1⟩ := b_fail (c := c) (a := a) (p := p) (P := FQ) (fun i z => ⟨rfl, z⟩)
    exact ⟨c', e1, f1.mono (fun o i z => Or.inl z)⟩
  unfold f_X12_comes mayB
  have ew := m_isInTheWay (base := 17) (d := d) hN h.2.1 (by omega) hn hd (nameB_pos hnm) (fun x hx => nameB_pos (h.2.2.2.2 x hx))
  have ew' : f_X12_isInTheWay N c 17 (nI ms.length) = _ := ew
  have es' : f_X12_seek N c 17 (nI ms.length) = _ := m_seek (base := 17) hN h.2.1 (by omega) hn
  rw [h.2.2.1, ew', bnd_some]
  cases hw : ms.any (wayB nm d) with
  | true =>
    rw [if_neg (by decide)]
    obtain ⟨c', e1, f1⟩ := bad (a := 11)
    exact ⟨c', e1, f1, fun z => by cases z⟩
  | false =>
    rw [if_pos (show bI false = 0 from rfl), Bool.not_false, Bool.true_and, h.2.2.1]
    have room : (decide (ms.length < 16) || ms.any fun x => decide (x.1 = nm)) = true → ∃ c', f_X12_comes_43 N p c = some (bI (decide (ms.length < 16) || ms.any fun x => decide (x.1 = nm)), c') ∧ fm CF c c' ∧ ((decide (ms.length < 16) || ms.any fun x => decide (x.1 = nm)) = true → RS c' t (comeM ms (nm, g, d)) ∧ c'.1 201 5 = c.1 201 5) := by
      intro hr
      have hrm : ms.length < 16 ∨ ∃ x ∈ ms, x.1 = nm := by
        rcases Bool.or_eq_true_iff.mp hr with q | q
        · exact Or.inl (of_decide_eq_true q)
        · obtain ⟨x, hx, q⟩ := List.any_eq_true.mp q
          exact Or.inr ⟨x, hx, of_decide_eq_true q⟩
      obtain ⟨c6, e6, s6, l6, f6⟩ := m_stand (base := 17) (d := d) hN h.2.1 h16 hrm (Or.inr rfl) hn hg hd (nameB_90 hnm) hgl
      have e6' : f_X12_stand N c 17 (nI ms.length) = _ := e6
      unfold f_X12_comes_43
      rw [h.2.2.1, e6', bnd_some, hr]
      dsimp only [st1]
      have f8 : fm (fun o i => o = 201 ∧ i = 8) c6 (sI c6 201 8 (nI (comeM ms (nm, g, d)).length)) := fm.sI ⟨rfl, rfl⟩
      have fa : fm CF c (sI c6 201 8 (nI (comeM ms (nm, g, d)).length)) := (f6.mono (fun o i z => Or.inr (Or.inr z))).tr (f8.mono (fun o i z => Or.inr (Or.inl z)))
      have nr : ∀ o i, ¬ (204 ≤ o ∧ o ≤ 208) → ¬ rg 17 o i := fun o i q z => q (rg_n z)
      refine ⟨_, rfl, fa, fun _ => ⟨⟨(h.1.fm f6 (nr _ _ (by omega)) (fun i => nr _ _ (by omega))).fm f8 (by omega) (fun i => by omega), fun i hi => (s6 i hi).fm f8 (fun o j a b => by omega), sI_s _ _ _ _, l6, fun x hx => ?_⟩, by rw [f8.1 _ _ (by omega), f6.1 _ _ (nr _ _ (by omega))]⟩⟩
      rcases comeM_mem hx with q | q
      · exact h.2.2.2.2 x q
      · rw [q]; exact hnm
    by_cases q16 : ms.length = 16
    · rw [if_pos (show nI ms.length = 16 by rw [q16]; rfl), es', bnd_some]
      rcases fnI_at (t := nm) (ms := ms) (i := 17) with ⟨a1, a2⟩ | ⟨k, a1, a2, a3⟩
      · rw [a1, if_neg (by decide)]
        have hr : (decide (ms.length < 16) || ms.any fun x => decide (x.1 = nm)) = false := by
          rw [decide_eq_false (by omega), Bool.false_or]
          cases z : (ms.any fun x => decide (x.1 = nm)) with
          | false => rfl
          | true =>
            obtain ⟨x, hx, q⟩ := List.any_eq_true.mp z
            exact absurd (of_decide_eq_true q) (a2 x hx)
        obtain ⟨c', e1, f1⟩ := bad (a := 11)
        rw [hr]
        exact ⟨c', e1, f1, fun z => by cases z⟩
      · rw [a2, if_pos (nI_pos'' (by omega))]
        apply room
        rw [Bool.or_eq_true_iff]
        exact Or.inr (List.any_eq_true.mpr ⟨ms[k], List.getElem_mem a1, decide_eq_true (a3 a1)⟩)
    · rw [if_neg (show ¬ nI ms.length = 16 from fun z => q16 ((nI_eq (b := 16) (by omega) (by decide)).mp z))]
      apply room
      rw [decide_eq_true (by omega), Bool.true_or]
theorem m_takeBytes {N p n : Nat} {c : hS} {t : List Nat} {x y : Int32} (hN : 1000000 ≤ N) (h : mrw c 4 203 t) (hp : p + n ≤ t.length) (hn : n ≤ 600) (hx : x = nI p) (hy : y = nI n) : ∃ c', f_X12_takeBytes N c x y = some ((), c') ∧ mrw c' 16 210 ((t.drop p).take n) ∧ fm (fun o i => (o = 201 ∧ i = 16) ∨ o = 210) c c' := by
  subst hx hy
  have ht : t.length ≤ 20000 := h.1
  unfold f_X12_takeBytes
  dsimp only [st1]
  have f1 : fm (fun o i => o = 201 ∧ i = 16) c (sI c 201 16 (nI n)) := fm.sI ⟨rfl, rfl⟩
  obtain ⟨c3, e3, i3, w3, f3⟩ := cp_loop (F := f_X12_takeBytes_7 N (nI p) (nI n)) (X := fun c => some ((), c)) (o := 210) (o' := 203) (a := p) (b := 0) (len := n) (fun c => c.1 201 16 = nI n) (fun c i x q => by rw [sI_o (by decide)]; exact q) (fun m c i hi q => by
    rw [f_X12_takeBytes_7, if_neg (nI_ge hi (by omega)), nI_add, j_in_nI (show p + i < ln 203 from (by show p + i < 20000; omega)) (by decide), cond_true, j_in_nI (show i < ln 210 from (by show i < 600; omega)) (by decide), cond_true, nI_clamp (by omega), nI_clamp (by omega), Nat.zero_add]
    rfl) (fun m c q => by rw [f_X12_takeBytes_7, if_pos (nI_le (Nat.le_refl _) (by omega))]) (by omega) n N (sI c 201 16 (nI n)) 0 (by omega) (by omega) (sI_s _ _ _ _)
  refine ⟨c3, e3, ?_, (f1.mono (fun o i z => Or.inl z)).tr (f3.mono (fun o i z => Or.inr z.1))⟩
  exact mrw.cp (c := sI c 201 16 (nI n)) (c' := c3) (j := 16) (o := 210) (o' := 203) (a := p) (len := n) (l := t) hp (fun i hi => (f1.1 _ _ (by omega)).trans (h.2.2.1 i hi)) w3 i3 hn h.2.2.2
end
section
/-! PURE: the reference: kind 1 read -/
theorem lshr_lN {n k : Nat} (hn : n < 2 ^ 63) (hk : k < 64) : j_lshr (lN n) (nI k) = lN (n / 2 ^ k) := by
  unfold j_lshr
  rw [wb_c k hk]
  apply wb_inj
  rw [Int64.toBitVec_shiftRight, wb_tb, wb_tb, wb_tb, wb_sm k hk]
  show (BitVec.ofNat 64 n).sshiftRight (BitVec.ofNat 64 k).toNat = _
  rw [BitVec.toNat_ofNat, Nat.mod_eq_of_lt (show k < 2 ^ 64 by omega), BitVec.sshiftRight_eq_of_msb_false]
  · apply BitVec.eq_of_toNat_eq
    rw [BitVec.toNat_ushiftRight, BitVec.toNat_ofNat, BitVec.toNat_ofNat, Nat.shiftRight_eq_div_pow, Nat.mod_eq_of_lt (by omega), Nat.mod_eq_of_lt (Nat.lt_of_le_of_lt (Nat.div_le_self _ _) (by omega))]
  · rw [BitVec.msb_eq_false_iff_two_mul_lt, BitVec.toNat_ofNat]
    omega
theorem sort_eq {v : Nat} (hv : v < 2 ^ 63) : ((j_lshr (lN v) 12) &&& 15).toInt32 = nI (v / 4096 % 16) := by
  rw [show (12 : Int32) = nI 12 from rfl, lshr_lN hv (by decide), show (15 : Int64) = lN (2 ^ 4 - 1) from rfl, wb_mask (Nat.lt_of_le_of_lt (Nat.div_le_self _ _) (by omega)) (by decide), lN_i]
theorem m_inL {c : hS} {v a b : Nat} {x a' b' : Int64} (hx : x = lN v) (ha : a' = lN a) (hb : b' = lN b) (hv : v < 2 ^ 62) (ha2 : a < 2 ^ 62) (hb2 : b < 2 ^ 62) : f_X12_in c x a' b' = some (bI (decide (a ≤ v) && decide (v ≤ b)), c) := by
  subst hx ha hb
  unfold f_X12_in
  by_cases q : a ≤ v
  · rw [if_neg (by rw [cmp_lt (by omega) (by omega)]; omega), decide_eq_true q, Bool.true_and]
    by_cases w : v ≤ b
    · rw [if_neg (by rw [Int32.not_lt, cmp_le (by omega) (by omega)]; exact w), decide_eq_true w]; rfl
    · rw [if_pos (by rw [← Int32.not_le, cmp_le (by omega) (by omega)]; exact w), decide_eq_false w]; rfl
  · rw [if_pos (by rw [cmp_lt (by omega) (by omega)]; omega), decide_eq_false q]; rfl
theorem m_digitOf {c : hS} {x : Nat} (hx : x < 256) : f_X12_digitOf c (nI x) = some (hxI x, c) := by
  unfold f_X12_digitOf
  rw [m_inN (a := 48) (b := 57) (by omega) (by decide) (by decide) (by decide) (by decide), bnd_some]
  unfold hxI hxD
  by_cases q : 48 ≤ x ∧ x ≤ 57
  · rw [decide_eq_true q.1, decide_eq_true q.2, if_neg (by decide), if_pos q, if_neg (by omega), show (48 : Int32) = nI 48 from rfl, subI (by omega)]
  · have e1 : (decide (48 ≤ x) && decide (x ≤ 57)) = false := by rw [← Bool.decide_and]; exact decide_eq_false q
    rw [e1, if_pos (show bI false = 0 from rfl), if_neg q, m_inN (a := 97) (b := 102) (by omega) (by decide) (by decide) (by decide) (by decide), bnd_some]
    by_cases q2 : 97 ≤ x ∧ x ≤ 102
    · rw [decide_eq_true q2.1, decide_eq_true q2.2, if_neg (by decide), if_pos q2, if_neg (by omega), show (87 : Int32) = nI 87 from rfl, subI (by omega)]
    · have e2 : (decide (97 ≤ x) && decide (x ≤ 102)) = false := by rw [← Bool.decide_and]; exact decide_eq_false q2
      rw [e2, if_pos (show bI false = 0 from rfl), if_neg q2, m_inN (a := 65) (b := 70) (by omega) (by decide) (by decide) (by decide) (by decide), bnd_some]
      by_cases q3 : 65 ≤ x ∧ x ≤ 70
      · rw [decide_eq_true q3.1, decide_eq_true q3.2, if_neg (by decide), if_pos q3, if_neg (by omega), show (55 : Int32) = nI 55 from rfl, subI (by omega)]
      · have e3 : (decide (65 ≤ x) && decide (x ≤ 70)) = false := by rw [← Bool.decide_and]; exact decide_eq_false q3
        rw [e3, if_pos (show bI false = 0 from rfl), if_neg q3, if_pos rfl]
theorem m_hexAt {N p : Nat} {c : hS} {t : List Nat} {x : Int32} (hN : 1000000 ≤ N) (h : mrw c 4 203 t) (hp : p + 8 ≤ t.length) (hx : x = nI p) (hd : ∀ i, p ≤ i → i < p + 8 → hxD (gt t i) ≠ 99) : f_X12_hexAt N c x = some (lN (hex8 t p), c) := by
  subst hx
  have ht : t.length ≤ 20000 := h.1
  have key : ∀ d n k v, k + d = 8 → d < n → v < 16 ^ k → f_X12_hexAt_5 N (nI p) n c (lN v) (nI k) = some (lN (hexV t (p + k) d v), c) := by
    intro d
    induction d with
    | zero =>
      intro n k v hk hn hv
      obtain ⟨n, rfl⟩ : ∃ m, n = m + 1 := ⟨n - 1, by omega⟩
      rw [f_X12_hexAt_5, if_pos (show (8 : Int32) ≤ nI k from nI_le (a := 8) (by omega) (by omega))]
      rfl
    | succ d ih =>
      intro n k v hk hn hv
      obtain ⟨n, rfl⟩ : ∃ m, n = m + 1 := ⟨n - 1, by omega⟩
      obtain ⟨a1, a2⟩ := tp_at h (show p + k < t.length by omega)
      have hd1 := hd (p + k) (by omega) (by omega)
      have hl := hxD_lt (gt t (p + k))
      have e1 : hxI (gt t (p + k)) = nI (hx4 (gt t (p + k))) := by unfold hxI hx4; rw [if_neg hd1, if_neg hd1]
      have hm := hx4_lt (gt t (p + k))
      rw [f_X12_hexAt_5, if_neg (show ¬ (8 : Int32) ≤ nI k from nI_ge (b := 8) (by omega) (by decide)), nI_add, a1, cond_true, a2, m_digitOf (h.2.2.2.gt _), bnd_some, e1, nI_l (by omega), show (16 : Int64) = lN 16 from rfl, lN_mul, lN_add, nI_1]
      have := ih n (k + 1) (v * 16 + hx4 (gt t (p + k))) (by omega) (by omega) (by rw [Nat.pow_succ]; omega)
      rw [Nat.mul_comm 16]
      exact this
  unfold f_X12_hexAt
  exact key 8 N 0 0 (by omega) (by omega) (by decide)
noncomputable def RQ (o i : Nat) : Prop := (o = 201 ∧ (i = 5 ∨ i = 6 ∨ i = 8 ∨ i = 14 ∨ i = 16 ∨ i = 18 ∨ 23 ≤ i)) ∨ (209 ≤ o ∧ o < 219) ∨ rg 17 o i
theorem RQ_F {o i : Nat} (h : FQ o i) : RQ o i := by unfold FQ at h; unfold RQ; omega
theorem RQ_C {o i : Nat} (h : CF o i) : RQ o i := by
  rcases h with q | q | q
  · exact RQ_F q
  · unfold RQ; omega
  · exact Or.inr (Or.inr q)
theorem m_dhead {N p : Nat} {c : hS} {t : List Nat} {ms : List Mb} (hN : 1000000 ≤ N) (h : RS c t ms) (hp : p ≤ t.length) : ∃ c', f_X12_readDigitsHead N c (nI p) = some (bI (decide (p + 110 ≤ t.length) && (h1B t p && spB t p)), c') ∧ fm RQ c c' ∧ ((decide (p + 110 ≤ t.length) && (h1B t p && spB t p)) = true → mrw c' 14 209 (nm1 t p) ∧ fm (fun o i => (o = 201 ∧ i = 14) ∨ o = 209) c c') := by
  have ht : t.length ≤ 20000 := h.1.1
  have lift : ∀ {X : Option (Int32 × hS)}, MT X c false → ∃ c', X = some (0, c') ∧ fm RQ c c' := fun ⟨c', a, b, _⟩ => ⟨c', a, b.mono (fun o i z => RQ_F z)⟩
  have bad : ∀ {X : Option (Int32 × hS)} {b : Bool}, b = false → (∃ c', X = some (0, c') ∧ fm RQ c c') → ∃ c', X = some (bI b, c') ∧ fm RQ c c' ∧ (b = true → mrw c' 14 209 (nm1 t p) ∧ fm (fun o i => (o = 201 ∧ i = 14) ∨ o = 209) c c') := by
    intro X b hb ⟨c', a1, a2⟩
    subst hb
    exact ⟨c', a1, a2, fun z => by cases z⟩
  unfold f_X12_readDigitsHead
  obtain ⟨c1, e1, f1, g1⟩ := m_reaches (x := (nI p + 110).toInt64) (k := p + 110) h.1 (by rw [show nI p + 110 = nI (p + 110) from nI_add p 110, nI_l (by omega)]) (by omega)
  rw [e1, bnd_some]
  by_cases q1 : p + 110 ≤ t.length
  · rw [decide_eq_true q1] at g1 ⊢
    rw [g1 rfl, if_neg (by decide), Bool.true_and]
    -- the 104 digits, and behind them
    have k80 : hexB t (p + 6) 104 = true → ∃ c', f_X12_readDigitsHead_80 N (nI p) (0 + 1) c (nI 110) = some (bI (spB t p), c') ∧ fm RQ c c' ∧ (spB t p = true → mrw c' 14 209 (nm1 t p) ∧ fm (fun o i => (o = 201 ∧ i = 14) ∨ o = 209) c c') := by
      intro hx
      have hd : ∀ i, p + 6 ≤ i → i < p + 110 → hxD (gt t i) ≠ 99 := fun i a b => by
        unfold hexB at hx
        rw [List.all_eq_true] at hx
        exact of_decide_eq_true (hx i (by rw [List.mem_range'_1]; omega))
      have hv := hex8_lt t (p + 94)
      rw [f_X12_readDigitsHead_80, if_pos (by decide), show nI p + 94 = nI (p + 94) from nI_add p 94, m_hexAt hN h.1 (by omega) rfl (fun i a b => hd i (by omega) (by omega)), bnd_some, m_inL (x := lN (hex8 t (p + 94))) (a' := 1) (b' := 100) (v := hex8 t (p + 94)) (a := 1) (b := 100) rfl rfl rfl (by omega) (by decide) (by decide), bnd_some]
      unfold spB nm1
      obtain ⟨n, en⟩ : ∃ n, n = hex8 t (p + 94) := ⟨_, rfl⟩
      rw [← en] at hv ⊢
      by_cases w : 1 ≤ n ∧ n ≤ 100
      · rw [decide_eq_true w.1, decide_eq_true w.2, if_neg (by decide), Bool.true_and, Bool.true_and]
        obtain ⟨c2, e2, f2, g2⟩ := m_reaches (x := (nI p + 110).toInt64 + lN n) (k := p + 110 + n) h.1 (by rw [show nI p + 110 = nI (p + 110) from nI_add p 110, nI_l (by omega), lN_add]) (by omega)
        rw [e2, bnd_some]
        by_cases q2 : p + 110 + n ≤ t.length
        · rw [decide_eq_true q2] at g2 ⊢
          rw [g2 rfl, if_neg (by decide), Bool.true_and, lN_i, show nI n - 1 = nI (n - 1) from subI (b := 1) w.1]
          dsimp only [st1]
          have f3 : fm (fun o i => o = 201 ∧ i = 14) c (sI c 201 14 (nI (n - 1))) := fm.sI ⟨rfl, rfl⟩
          have r3 : mrw (sI c 201 14 (nI (n - 1))) 4 203 t := h.1.fm f3 (by omega) (fun i => by omega)
          obtain ⟨a1, a2⟩ := tp_at r3 (show p + 110 + (n - 1) < t.length by omega)
          rw [sI_s, show nI p + 110 + nI (n - 1) = nI (p + 110 + (n - 1)) from by rw [show nI p + 110 = nI (p + 110) from nI_add p 110, nI_add], a1, cond_true, a2, show p + 110 + n - 1 = p + 110 + (n - 1) by omega]
          by_cases q3 : gt t (p + 110 + (n - 1)) = 0
          · rw [if_pos (show nI (gt t (p + 110 + (n - 1))) = 0 by rw [q3]; rfl), decide_eq_true q3]
            obtain ⟨c4, e4, i4, w4, f4⟩ := cp_loop (F := f_X12_readDigitsHead_207 N (nI p)) (X := fun c => some (1, c)) (o := 209) (o' := 203) (a := p + 110) (b := 0) (len := n - 1) (fun c => c.1 201 14 = nI (n - 1)) (fun c i x q => by rw [sI_o (by decide)]; exact q) (fun m c i hi q => by
              rw [f_X12_readDigitsHead_207, q, if_neg (nI_ge hi (by omega)), show nI p + 110 + nI i = nI (p + 110 + i) from by rw [show nI p + 110 = nI (p + 110) from nI_add p 110, nI_add], j_in_nI (show p + 110 + i < ln 203 from (by show p + 110 + i < 20000; omega)) (by decide), cond_true, j_in_nI (show i < ln 209 from (by show i < 300; omega)) (by decide), cond_true, nI_clamp (by omega), nI_clamp (by omega), Nat.zero_add]
              rfl) (fun m c q => by rw [f_X12_readDigitsHead_207, q, if_pos (nI_le (Nat.le_refl _) (by omega))]) (by omega) (n - 1) N (sI c 201 14 (nI (n - 1))) 0 (by omega) (by omega) (sI_s _ _ _ _)
            have fa : fm (fun o i => (o = 201 ∧ i = 14) ∨ o = 209) c c4 := (f3.mono (fun o i z => Or.inl z)).tr (f4.mono (fun o i z => Or.inr z.1))
            refine ⟨c4, e4, fa.mono (fun o i z => by unfold RQ; omega), fun _ => ⟨?_, fa⟩⟩
            exact mrw.cp (c := sI c 201 14 (nI (n - 1))) (c' := c4) (j := 14) (o := 209) (o' := 203) (a := p + 110) (len := n - 1) (l := t) (by omega) r3.2.2.1 w4 i4 (show n - 1 ≤ 300 by omega) h.1.2.2.2
          · rw [if_neg (show ¬ nI (gt t (p + 110 + (n - 1))) = 0 from fun z => q3 ((gt_eq (v := 0) h.1.2.2.2 (by decide)).mp z)), decide_eq_false q3]
            obtain ⟨c5, e5, f5⟩ := b_fail (c := sI c 201 14 (nI (n - 1))) (a := 10) (p := nI (p + 110 + (n - 1))) (P := RQ) (fun i z => by unfold RQ; omega)
            exact ⟨c5, e5, (f3.mono (fun o i z => by unfold RQ; omega)).tr f5, fun z => by cases z⟩
        · rw [decide_eq_false q2, if_pos (show bI false = 0 from rfl), Bool.false_and]
          exact ⟨c2, rfl, f2.mono (fun o i z => RQ_F z), fun z => by cases z⟩
      · have ew : (decide (1 ≤ n) && decide (n ≤ 100)) = false := by rw [← Bool.decide_and]; exact decide_eq_false w
        have ew2 : (decide (1 ≤ n) && (decide (n ≤ 100) && (decide (p + 110 + n ≤ t.length) && decide (gt t (p + 110 + n - 1) = 0)))) = false := by rw [← Bool.and_assoc, ew]; rfl
        rw [ew, if_pos (show bI false = 0 from rfl), ew2]
        obtain ⟨c5, e5, f5⟩ := lift (MT.fail (c := c) (a := 10) (p := nI (p + 94)))
        exact ⟨c5, e5, f5, fun z => by cases z⟩
    have m80 : ∀ d n k, k + d = 110 → d < n → (∀ i, p + 6 ≤ i → i < p + k → hxD (gt t i) ≠ 99) → 6 ≤ k → ∃ c', f_X12_readDigitsHead_80 N (nI p) n c (nI k) = some (bI (hexB t (p + 6) 104 && spB t p), c') ∧ fm RQ c c' ∧ ((hexB t (p + 6) 104 && spB t p) = true → mrw c' 14 209 (nm1 t p) ∧ fm (fun o i => (o = 201 ∧ i = 14) ∨ o = 209) c c') := by
      intro d
      induction d with
      | zero =>
        intro n k hk hn hd hk6
        obtain ⟨n, rfl⟩ : ∃ m, n = m + 1 := ⟨n - 1, by omega⟩
        have : k = 110 := by omega
        subst this
        have hx : hexB t (p + 6) 104 = true := by
          unfold hexB
          rw [List.all_eq_true]
          intro i hi
          rw [List.mem_range'_1] at hi
          exact decide_eq_true (hd i (by omega) (by omega))
        rw [hx, Bool.true_and]
        have := k80 hx
        rw [f_X12_readDigitsHead_80, if_pos (show (110 : Int32) ≤ nI 110 by decide)] at this ⊢
        exact this
      | succ d ih =>
        intro n k hk hn hd hk6
        obtain ⟨n, rfl⟩ : ∃ m, n = m + 1 := ⟨n - 1, by omega⟩
        obtain ⟨a1, a2⟩ := tp_at h.1 (show p + k < t.length by omega)
        have hl := hxD_lt (gt t (p + k))
        rw [f_X12_readDigitsHead_80, if_neg (show ¬ (110 : Int32) ≤ nI k from nI_ge (b := 110) (by omega) (by decide)), nI_add, a1, cond_true, a2, m_digitOf (h.1.2.2.2.gt _), bnd_some]
        unfold hxI
        by_cases q : hxD (gt t (p + k)) = 99
        · have hx : hexB t (p + 6) 104 = false := by
            cases z : hexB t (p + 6) 104 with
            | false => rfl
            | true =>
              unfold hexB at z
              rw [List.all_eq_true] at z
              exact absurd q (of_decide_eq_true (z (p + k) (by rw [List.mem_range'_1]; omega)))
          rw [if_pos q, if_neg (by decide)]
          exact bad (by rw [hx]; rfl) (lift MT.fail)
        · rw [if_neg q, if_pos (nI_pos'' (by omega)), nI_1]
          exact ih n (k + 1) (by omega) (by omega) (fun i a b => by
            by_cases w : i = p + k
            · rw [w]; exact q
            · exact hd i a (by omega)) (by omega)
    have ex : ∀ n k, k < 6 → f_X12_readDigitsHead_16 N (nI p) (n + 1) c (nI k) = f_X12_readDigitsHead_49 N (nI p) (f_X12_readDigitsHead_16 N (nI p) n) c (nI k) (nI (gt mk1 k)) := by
      intro n k hk
      have : k = 0 ∨ k = 1 ∨ k = 2 ∨ k = 3 ∨ k = 4 ∨ k = 5 := by omega
      rcases this with rfl | rfl | rfl | rfl | rfl | rfl <;> rfl
    have m16 : ∀ d n k, k + d = 6 → d < n → (∀ i, i < k → gt t (p + i) = gt mk1 i) → ∃ c', f_X12_readDigitsHead_16 N (nI p) n c (nI k) = some (bI (h1B t p && spB t p), c') ∧ fm RQ c c' ∧ ((h1B t p && spB t p) = true → mrw c' 14 209 (nm1 t p) ∧ fm (fun o i => (o = 201 ∧ i = 14) ∨ o = 209) c c') := by
      intro d
      induction d with
      | zero =>
        intro n k hk hn hd
        obtain ⟨n, rfl⟩ : ∃ m, n = m + 1 := ⟨n - 1, by omega⟩
        have : k = 6 := by omega
        subst this
        have hm : mkB t p mk1 = true := by
          unfold mkB
          rw [List.all_eq_true]
          intro i hi
          rw [List.mem_range'_1] at hi
          exact decide_eq_true (hd i (by have : mk1.length = 6 := rfl; omega))
        have e1 : h1B t p = hexB t (p + 6) 104 := by unfold h1B; rw [hm, Bool.true_and]
        rw [e1, f_X12_readDigitsHead_16, if_pos (show (6 : Int32) ≤ nI 6 by decide)]
        exact m80 104 N 6 (by omega) (by omega) (fun i a b => by omega) (by omega)
      | succ d ih =>
        intro n k hk hn hd
        obtain ⟨n, rfl⟩ : ∃ m, n = m + 1 := ⟨n - 1, by omega⟩
        obtain ⟨a1, a2⟩ := tp_at h.1 (show p + k < t.length by omega)
        have mb : gt mk1 k < 256 := (by decide : ∀ k, k < 6 → gt mk1 k < 256) k (by omega)
        rw [ex n k (by omega)]
        unfold f_X12_readDigitsHead_49
        rw [nI_add, a1, cond_true, a2]
        by_cases q : gt t (p + k) = gt mk1 k
        · rw [if_pos (by rw [q]), nI_1]
          exact ih n (k + 1) (by omega) (by omega) (fun i a => by
            by_cases w : i = k
            · rw [w]; exact q
            · exact hd i (by omega))
        · have hm : mkB t p mk1 = false := by
            cases z : mkB t p mk1 with
            | false => rfl
            | true =>
              unfold mkB at z
              rw [List.all_eq_true] at z
              exact absurd (of_decide_eq_true (z k (by rw [List.mem_range'_1]; have : mk1.length = 6 := rfl; omega))) q
          rw [if_neg (fun z => q ((gt_eq h.1.2.2.2 mb).mp z))]
          exact bad (by unfold h1B; rw [hm]; rfl) (lift MT.fail)
    exact m16 6 N 0 (by omega) (by omega) (fun i a => by omega)
  · rw [decide_eq_false q1, if_pos (show bI false = 0 from rfl), Bool.false_and]
    exact ⟨c1, rfl, f1.mono (fun o i z => RQ_F z), fun z => by cases z⟩
theorem m_isTrailer {N : Nat} {c : hS} {nm : List Nat} (hN : 1000000 ≤ N) (hn : mrw c 14 209 nm) : f_X12_isTrailer N c = some (bI (decide (nm = trl)), c) := by
  have hl : nm.length ≤ 300 := hn.1
  unfold f_X12_isTrailer
  rw [hn.2.1]
  have z : ∀ n k, k ≤ 10 → f_X12_isTrailer_17 N (n + 1) c 0 (nI k) = some (0, c) := fun n k hk => by
    rw [f_X12_isTrailer_17]
    by_cases q : (10 : Int32) ≤ nI k
    · rw [if_pos q]; rfl
    · rw [if_neg q, if_pos rfl]; rfl
  by_cases e : nm.length = 10
  · rw [if_pos (show nI nm.length = 10 by rw [e]; rfl)]
    have key := same_loop (F := f_X12_isTrailer_17 N) (c := c) (j := 10) (P := fun k => decide (gt nm k = gt trl k)) (fun n k hk => by
      have tb : gt trl k < 256 := (by decide : ∀ k, k < 10 → gt trl k < 256) k hk
      rw [f_X12_isTrailer_17, if_neg (show ¬ (10 : Int32) ≤ nI k from nI_ge (b := 10) hk (by decide)), if_neg (by decide), j_in_nI (show k < ln 209 from (by show k < 300; omega)) (by decide), cond_true, trl_at k hk, bnd_some, nI_clamp (by omega), hn.2.2.1 k (by omega)]
      by_cases q : gt nm k = gt trl k
      · rw [if_pos (by rw [q]), decide_eq_true q]; rfl
      · rw [if_neg (fun z => q ((gt_eq hn.2.2.2 tb).mp z)), decide_eq_false q]; rfl) (fun n => by rw [f_X12_isTrailer_17, if_pos (by decide)]; rfl) z 10 N 0 true (by omega) (by omega)
    refine key.trans ?_
    congr 2
    congr 1
    rw [Bool.true_and]
    apply bool_eq
    rw [all_range, decide_eq_true_eq]
    exact ⟨fun q => gt_ext e (fun k hk => of_decide_eq_true (q k (by omega))), fun q k hk => by rw [q]; exact decide_eq_true rfl⟩
  · rw [if_neg (show ¬ nI nm.length = 10 from fun q => e ((nI_eq (b := 10) (by omega) (by decide)).mp q)), decide_eq_false (fun q => e (by rw [q]; rfl))]
    obtain ⟨n, rfl⟩ : ∃ n, N = n + 1 := ⟨N - 1, by omega⟩
    exact z n 0 (Nat.zero_le _)
noncomputable def ZR (X : Option (Int32 × hS)) (c : hS) (t : List Nat) (r : Option (List Mb)) : Prop := ∃ c', X = some (bI r.isSome, c') ∧ fm RQ c c' ∧ ∀ ms, r = some ms → RS c' t ms
theorem ZR.no {X : Option (Int32 × hS)} {c c1 : hS} {t : List Nat} {r : Option (List Mb)} (hr : r = none) (hX : ∃ c', X = some (0, c') ∧ fm RQ c1 c') (hf : fm RQ c c1) : ZR X c t r := by
  obtain ⟨c', e1, f1⟩ := hX
  subst hr
  exact ⟨c', e1, hf.tr f1, fun _ z => by cases z⟩
theorem ZR.pre {X : Option (Int32 × hS)} {c c1 : hS} {t : List Nat} {r : Option (List Mb)} (h : ZR X c1 t r) (hf : fm RQ c c1) : ZR X c t r := by
  obtain ⟨c', a1, a2, a3⟩ := h
  exact ⟨c', a1, hf.tr a2, a3⟩
theorem z_fail (c1 : hS) (a p : Int32) : ∃ c', (bnd (f_X12_fails c1 a p) fun x c2 => bif j_b x then some (x, c2) else none) = some (0, c') ∧ fm RQ c1 c' := b_fail (fun i z => by unfold RQ; omega)
theorem m_read1 {N : Nat} {c : hS} {t : List Nat} (hN : 1000000 ≤ N) (h : RS c t []) : ZR (f_X12_readDigits N c) c t (rd1 t 190 0 []) := by
  have ht : t.length ≤ 20000 := h.1.1
  have key : ∀ f n p ms c, f ≤ 190 → 110 * (190 - f) ≤ p → f < n → p ≤ t.length → RS c t ms → ZR (f_X12_readDigits_2 N n c (nI p)) c t (rd1 t f p ms) := by
    intro f
    induction f with
    | zero => intro n p ms c h1 h2 h3 h4; omega
    | succ f ih =>
      intro n p ms c hf hfp hn hp hr
      obtain ⟨n, rfl⟩ : ∃ m, n = m + 1 := ⟨n - 1, by omega⟩
      obtain ⟨c2, e2, f2, g2⟩ := m_dhead hN hr hp
      rw [f_X12_readDigits_2, e2, bnd_some]
      unfold rd1
      cases hq : (decide (p + 110 ≤ t.length) && (h1B t p && spB t p)) with
      | false =>
        rw [if_pos (show bI false = 0 from rfl)]
        refine ZR.no ?_ ⟨c2, rfl, f2⟩ fm.rf
        by_cases w : t.length < p + 110
        · rw [if_pos w]
        · rw [if_neg w, if_pos]
          intro z
          rw [decide_eq_true (by omega), z.1, z.2] at hq
          cases hq
      | true =>
        obtain ⟨r2, f2'⟩ := g2 hq
        rw [Bool.and_eq_true, Bool.and_eq_true] at hq
        obtain ⟨q1, q2, q3⟩ := hq
        have q1 : p + 110 ≤ t.length := of_decide_eq_true q1
        have hd : ∀ i, p + 6 ≤ i → i < p + 110 → hxD (gt t i) ≠ 99 := fun i a b => by
          unfold h1B hexB at q2
          rw [Bool.and_eq_true, List.all_eq_true] at q2
          exact of_decide_eq_true (q2.2 i (by rw [List.mem_range'_1]; omega))
        rw [if_neg (by decide), if_neg (by omega), if_neg (fun z => z ⟨q2, q3⟩)]
        have hr2 : RS c2 t ms := hr.mv f2' (fun o i z => by omega)
        unfold spB at q3
        simp only [Bool.and_eq_true, decide_eq_true_eq] at q3
        obtain ⟨n1, n2, n3, n4⟩ := q3
        have nl : (nm1 t p).length = hex8 t (p + 94) - 1 := by unfold nm1; rw [List.length_take, List.length_drop]; omega
        have hv := hex8_lt t (p + 54)
        rw [show nI p + 54 = nI (p + 54) from nI_add p 54, m_hexAt hN hr2.1 (by omega) rfl (fun i a b => hd i (by omega) (by omega)), bnd_some, m_isTrailer hN r2, bnd_some, r2.2.1, show nI p + 111 + nI (nm1 t p).length = nI (p + 110 + (nm1 t p).length + 1) from by rw [show nI p + 111 = nI (p + 111) from nI_add p 111, nI_add]; congr 1; omega]
        refine ZR.pre ?_ f2
        by_cases tr : nm1 t p = trl
        · rw [decide_eq_true tr, if_neg (by decide), if_pos tr]
          by_cases z0 : hex8 t (p + 54) = 0
          · rw [if_pos ((cmp_eq' rfl (show (0 : Int64) = lN 0 from rfl) (by omega) (by decide)).mpr z0)]
            obtain ⟨c3, e3, f3, g3⟩ := MT.jb (m_areZeros (p := p + 110 + (nm1 t p).length + 1) hN hr2.1 (by omega))
            rw [e3]
            cases hz : zerB t (p + 110 + (nm1 t p).length + 1) with
            | true =>
              rw [hz] at g3
              rw [if_pos ⟨by omega, rfl⟩, g3 rfl]
              exact ⟨c2, rfl, fm.rf, fun ms' z => by cases z; exact hr2⟩
            | false =>
              rw [if_neg (fun z => by cases z.2)]
              exact ZR.no rfl ⟨c3, rfl, f3.mono (fun o i z => RQ_F z)⟩ fm.rf
          · rw [if_neg (fun z => z0 ((cmp_eq' rfl (show (0 : Int64) = lN 0 from rfl) (by omega) (by decide)).mp z)), if_neg (fun z => z0 (by omega))]
            exact ZR.no rfl (z_fail _ _ _) fm.rf
        · rw [decide_eq_false tr, if_pos (show bI false = 0 from rfl), if_neg tr]
          have hv14 := hex8_lt t (p + 14)
          have hv102 := hex8_lt t (p + 102)
          have hs : so1 t p < 16 := Nat.mod_lt _ (by decide)
          rw [show nI p + 14 = nI (p + 14) from nI_add p 14, m_hexAt hN hr2.1 (by omega) rfl (fun i a b => hd i (by omega) (by omega)), bnd_some, sort_eq (by omega)]
          show ZR (if nI (so1 t p) = 8 then _ else if nI (so1 t p) = 4 then _ else _) _ _ _
          -- behind the sort
          have go : (so1 t p = 8 ∨ so1 t p = 4) → ZR (f_X12_readDigits_107 N (f_X12_readDigits_2 N n) c2 (nI p) (lN (hex8 t (p + 54))) (nI (p + 110 + (nm1 t p).length + 1)) (nI (so1 t p))) c2 t (if meB t p (nm1 t p) = true ∧ beh1 t p ≤ t.length ∧ mayB ms (nm1 t p) (decide (so1 t p = 4)) = true then rd1 t f (beh1 t p) (comeM ms (nm1 t p, (t.drop (beg1 t p)).take (hex8 t (p + 54)), decide (so1 t p = 4))) else none) := by
            intro hso
            have hso' : (decide (so1 t p = 8) || decide (so1 t p = 4)) = true := by
              rcases hso with q | q
              · rw [decide_eq_true q]; rfl
              · rw [decide_eq_true q, Bool.or_true]
            unfold f_X12_readDigits_107
            rw [show nI p + 102 = nI (p + 102) from nI_add p 102, m_hexAt hN hr2.1 (by omega) rfl (fun i a b => hd i (by omega) (by omega)), bnd_some]
            by_cases z0 : hex8 t (p + 102) = 0
            · rw [if_pos ((cmp_eq' rfl (show (0 : Int64) = lN 0 from rfl) (by omega) (by decide)).mpr z0)]
              have em : meB t p (nm1 t p) = (decide (hex8 t (p + 54) ≤ if so1 t p = 4 then 0 else 400) && nameB (nm1 t p)) := by
                unfold meB
                rw [hso', decide_eq_true z0, Bool.true_and, Bool.true_and]
              -- with the directory's bit
              have w142 : ∀ (d : Bool) (mx : Nat), d = decide (so1 t p = 4) → mx = (if so1 t p = 4 then 0 else 400) → ZR (f_X12_readDigits_142 N (f_X12_readDigits_2 N n) c2 (nI p) (lN (hex8 t (p + 54))) (nI (p + 110 + (nm1 t p).length + 1)) (bI d)) c2 t (if meB t p (nm1 t p) = true ∧ beh1 t p ≤ t.length ∧ mayB ms (nm1 t p) (decide (so1 t p = 4)) = true then rd1 t f (beh1 t p) (comeM ms (nm1 t p, (t.drop (beg1 t p)).take (hex8 t (p + 54)), decide (so1 t p = 4))) else none) := by
                intro d mx hdd hmx
                rw [← hdd]
                unfold f_X12_readDigits_142
                rw [show j_b (bI d) = true by cases d <;> rfl, cond_true]
                dsimp only [st1]
                have f3 : fm (fun o i => o = 201 ∧ i = 18) c2 (sI c2 201 18 (bI d)) := fm.sI ⟨rfl, rfl⟩
                have v18 : (sI c2 201 18 (bI d)).1 201 18 = bI d := sI_s _ _ _ _
                refine ZR.pre ?_ (f3.mono (fun o i z => by unfold RQ; omega))
                have hr3 : RS (sI c2 201 18 (bI d)) t ms := hr2.mv f3 (fun o i z => by omega)
                have r3 : mrw (sI c2 201 18 (bI d)) 14 209 (nm1 t p) := r2.fm f3 (by omega) (fun i => by omega)
                revert v18 hr3 r3
                generalize sI c2 201 18 (bI d) = c3
                intro v18 hr3 r3
                have w160 : ∀ w0 : Int64, w0 = lN mx → ZR (f_X12_readDigits_160 N (f_X12_readDigits_2 N n) c3 (nI p) (lN (hex8 t (p + 54))) (nI (p + 110 + (nm1 t p).length + 1)) w0 (lN (hex8 t (p + 54)))) c3 t (if meB t p (nm1 t p) = true ∧ beh1 t p ≤ t.length ∧ mayB ms (nm1 t p) d = true then rd1 t f (beh1 t p) (comeM ms (nm1 t p, (t.drop (beg1 t p)).take (hex8 t (p + 54)), d)) else none) := by
                  intro w0 hw0
                  have mx4 : mx ≤ 400 := by rw [hmx]; split <;> omega
                  unfold f_X12_readDigits_160
                  by_cases z1 : hex8 t (p + 54) ≤ mx
                  · rw [if_pos ((cmp_le' rfl hw0 (by omega) (by omega)).mpr z1), m_isName hN r3, bnd_some]
                    cases hnm : nameB (nm1 t p) with
                    | false =>
                      rw [if_pos (show bI false = 0 from rfl), if_neg (fun z => by rw [em, hnm, Bool.and_false] at z; cases z.1)]
                      exact ZR.no rfl (z_fail _ _ _) fm.rf
                    | true =>
                      have emt : meB t p (nm1 t p) = true := by rw [em, hnm, ← hmx, decide_eq_true z1]; rfl
                      have ub := upTo_le (a := p + 110 + (nm1 t p).length + 1) (b := 4) (by decide)
                      have ub2 := upTo_le (a := beg1 t p + hex8 t (p + 54)) (b := 4) (by decide)
                      have ebg : beg1 t p = upTo (p + 110 + (nm1 t p).length + 1) 4 := rfl
                      have ebh : beh1 t p = upTo (beg1 t p + hex8 t (p + 54)) 4 := rfl
                      rw [if_neg (by decide)]
                      unfold f_X12_upToFour
                      rw [bnd_some, up4 (by omega), bnd_some, lN_i, ← ebg, nI_add, up4 (by omega), ← ebh]
                      obtain ⟨c4, e4, f4, g4⟩ := m_reaches (x := (nI (beh1 t p)).toInt64) (k := beh1 t p) hr3.1 (nI_l (by omega)) (by omega)
                      rw [e4, bnd_some]
                      by_cases z2 : beh1 t p ≤ t.length
                      · rw [decide_eq_true z2] at g4
                        rw [decide_eq_true z2, if_neg (by decide), g4 rfl]
                        obtain ⟨c5, e5, r5, f5⟩ := m_takeBytes (p := beg1 t p) (n := hex8 t (p + 54)) hN hr3.1 (by omega) (by omega) rfl rfl
                        rw [e5, bnd_some]
                        have hr5 : RS c5 t ms := hr3.mv f5 (fun o i z => by omega)
                        have n5 : mrw c5 14 209 (nm1 t p) := r3.fm f5 (by omega) (fun i => by omega)
                        obtain ⟨c6, e6, f6, g6⟩ := m_comes (p := nI p) (d := d) hN hr5 n5 r5 ((f5.1 _ _ (by omega)).trans v18) hnm (by rw [List.length_take]; omega)
                        rw [e6, bnd_some]
                        have f36 : fm RQ c3 c6 := (f5.mono (fun o i z => by unfold RQ; omega)).tr (f6.mono (fun o i z => RQ_C z))
                        cases hmay : mayB ms (nm1 t p) d with
                        | false =>
                          rw [if_pos (show bI false = 0 from rfl), if_neg (fun z => by cases z.2.2)]
                          exact ZR.no rfl ⟨c6, rfl, f36⟩ fm.rf
                        | true =>
                          rw [if_neg (by decide), if_pos ⟨emt, z2, rfl⟩]
                          exact ZR.pre (ih n (beh1 t p) _ c6 (by omega) (by omega) (by omega) z2 (g6 hmay).1) f36
                      · rw [decide_eq_false z2, if_pos (show bI false = 0 from rfl), if_neg (fun z => z2 z.2.1)]
                        exact ZR.no rfl ⟨c4, rfl, f4.mono (fun o i z => RQ_F z)⟩ fm.rf
                  · rw [if_neg (fun z => z1 ((cmp_le' rfl hw0 (by omega) (by omega)).mp z)), if_neg (fun z => by rw [em, ← hmx, decide_eq_false z1, Bool.false_and] at z; cases z.1)]
                    exact ZR.no rfl (z_fail _ _ _) fm.rf
                rw [v18]
                cases d with
                | false => rw [if_pos (show bI false = 0 from rfl)]; exact w160 400 (by rw [hmx, if_neg (of_decide_eq_false hdd.symm)]; rfl)
                | true => rw [if_neg (by decide)]; exact w160 0 (by rw [hmx, if_pos (of_decide_eq_true hdd.symm)]; rfl)
              by_cases s4 : so1 t p = 4
              · rw [if_pos (show nI (so1 t p) = 4 by rw [s4]; rfl)]
                exact w142 true 0 (by rw [decide_eq_true s4]) (by rw [if_pos s4])
              · rw [if_neg (show ¬ nI (so1 t p) = 4 from fun z => s4 ((nI_eq (b := 4) (by omega) (by decide)).mp z))]
                exact w142 false 400 (by rw [decide_eq_false s4]) (by rw [if_neg s4])
            · rw [if_neg (fun z => z0 ((cmp_eq' rfl (show (0 : Int64) = lN 0 from rfl) (by omega) (by decide)).mp z)), if_neg (fun z => by
                have := z.1
                unfold meB at this
                rw [decide_eq_false z0, Bool.false_and, Bool.and_false] at this
                cases this)]
              exact ZR.no rfl (z_fail _ _ _) fm.rf
          by_cases s8 : so1 t p = 8
          · rw [if_pos (show nI (so1 t p) = 8 by rw [s8]; rfl)]
            exact go (Or.inl s8)
          · rw [if_neg (show ¬ nI (so1 t p) = 8 from fun z => s8 ((nI_eq (b := 8) (by omega) (by decide)).mp z))]
            by_cases s4 : so1 t p = 4
            · rw [if_pos (show nI (so1 t p) = 4 by rw [s4]; rfl)]
              exact go (Or.inr s4)
            · rw [if_neg (show ¬ nI (so1 t p) = 4 from fun z => s4 ((nI_eq (b := 4) (by omega) (by decide)).mp z)), if_neg (fun z => by
                have := z.1
                unfold meB at this
                rw [decide_eq_false s8, decide_eq_false s4] at this
                cases this)]
              exact ZR.no rfl (z_fail _ _ _) fm.rf
  exact key 190 N 0 [] c (Nat.le_refl _) (by omega) (by omega) (Nat.zero_le _) h
end
section
/-! PURE: the reference: kind 2 read -/
theorem m_twoAt {c : hS} {t : List Nat} {p : Nat} {x : Int32} (h : mrw c 4 203 t) (hp : p + 2 ≤ t.length) (hx : x = nI p) : f_X12_twoAt c x = some (nI (le2 t p), c) := by
  subst hx
  obtain ⟨a1, a2⟩ := tp_at h (show p < t.length by omega)
  obtain ⟨b1, b2⟩ := tp_at h (show p + 1 < t.length by omega)
  have g := h.2.2.2.gt p
  unfold f_X12_twoAt le2
  rw [nI_1, a1, cond_true, b1, cond_true, a2, b2, show j_shl (nI (gt t (p + 1))) 8 = j_shl (nI (gt t (p + 1))) (nI 8) from rfl, or_bit (k := 8) (by omega) (by decide), Nat.mul_comm (gt t (p + 1))]
theorem m_fourAt {c : hS} {t : List Nat} {p : Nat} {x : Int32} (h : mrw c 4 203 t) (hp : p + 4 ≤ t.length) (hx : x = nI p) : f_X12_fourAt c x = some (lN (le4 t p), c) := by
  subst hx
  have h1 := le2_lt h.2.2.2 p
  have h2 := le2_lt h.2.2.2 (p + 2)
  unfold f_X12_fourAt le4
  rw [m_twoAt h (by omega) rfl, bnd_some, m_twoAt h (p := p + 2) (by omega) (show nI p + 2 = nI (p + 2) from nI_add p 2), bnd_some, nI_l (by omega), nI_l (by omega), show (16 : Int32) = nI 16 from rfl, lshl_lN _ (by decide), wb_or (by omega) (by omega), Nat.or_comm, or_add (k := 16) (by omega)]
  congr 3
  omega
theorem m_zero2 {c : hS} {t : List Nat} {p : Nat} {x f : Int32} (h : mrw c 4 203 t) (hp : p + 2 ≤ t.length) (hx : x = nI p) : MT (f_X12_isZeroAt c x 2 f) c (decide (le2 t p = 0)) := by
  have h1 := le2_lt h.2.2.2 p
  unfold f_X12_isZeroAt f_X12_isZeroAt_19
  rw [if_pos rfl, m_twoAt h hp hx, bnd_some]
  exact MT.if1 (cmp_eq' (nI_l (by omega)) (show (0 : Int64) = lN 0 from rfl) (by omega) (by decide)) MT.fail2
theorem m_zero4 {c : hS} {t : List Nat} {p : Nat} {x f : Int32} (h : mrw c 4 203 t) (hp : p + 4 ≤ t.length) (hx : x = nI p) : MT (f_X12_isZeroAt c x 4 f) c (decide (le4 t p = 0)) := by
  have h1 := le4_lt h.2.2.2 p
  unfold f_X12_isZeroAt f_X12_isZeroAt_19
  rw [if_neg (by decide), m_fourAt h hp hx, bnd_some]
  exact MT.if1 (cmp_eq' rfl (show (0 : Int64) = lN 0 from rfl) (by omega) (by decide)) MT.fail2
theorem m_as2 {c : hS} {t : List Nat} {p q : Nat} {x y : Int32} (h : mrw c 4 203 t) (hp : p + 2 ≤ t.length) (hq : q + 2 ≤ t.length) (hx : x = nI p) (hy : y = nI q) : MT (f_X12_isAsThere c x y 2) c (decide (le2 t p = le2 t q)) := by
  have h1 := le2_lt h.2.2.2 p
  have h2 := le2_lt h.2.2.2 q
  unfold f_X12_isAsThere f_X12_isAsThere_35
  rw [if_pos rfl, m_twoAt h hp hx, bnd_some, m_twoAt h hq hy, bnd_some]
  exact MT.if1 (nI_eq (by omega) (by omega)) MT.fail2
theorem m_as4 {c : hS} {t : List Nat} {p q : Nat} {x y : Int32} (h : mrw c 4 203 t) (hp : p + 4 ≤ t.length) (hq : q + 4 ≤ t.length) (hx : x = nI p) (hy : y = nI q) : MT (f_X12_isAsThere c x y 4) c (decide (le4 t p = le4 t q)) := by
  have h1 := le4_lt h.2.2.2 p
  have h2 := le4_lt h.2.2.2 q
  unfold f_X12_isAsThere f_X12_isAsThere_35
  rw [if_neg (by decide), m_fourAt h hp hx, bnd_some, m_fourAt h hq hy, bnd_some]
  exact MT.if1 (cmp_eq' rfl rfl (by omega) (by omega)) MT.fail2
theorem m_readEnd {N e : Nat} {c : hS} {t : List Nat} (hN : 1000000 ≤ N) (h : mrw c 4 203 t) (he : e + 22 = t.length) : MT (f_X12_readEnd N c (nI e)) c (clB t e) := by
  have ht : t.length ≤ 20000 := h.1
  have h8 := le2_lt h.2.2.2 (e + 8)
  have h10 := le2_lt h.2.2.2 (e + 10)
  have h12 := le4_lt h.2.2.2 (e + 12)
  have h16 := le4_lt h.2.2.2 (e + 16)
  unfold f_X12_readEnd clB
  refine MT.and_ (m_isRow (a := 80) (b := 75) (d := 5) (e := 6) hN h (by omega) rfl rfl rfl rfl rfl (by decide)) (fun _ => ?_)
  refine MT.and_ (m_zero2 (p := e + 4) h (by omega) (nI_add e 4)) (fun _ => ?_)
  refine MT.and_ (m_zero2 (p := e + 6) h (by omega) (nI_add e 6)) (fun _ => ?_)
  rw [m_twoAt (x := nI e + 8) (p := e + 8) h (by omega) (nI_add e 8), bnd_some, m_twoAt (x := nI e + 10) (p := e + 10) h (by omega) (nI_add e 10), bnd_some]
  refine MT.ite_ (nI_eq (by omega) (by omega)) (fun _ => ?_) MT.fail
  rw [m_twoAt (x := nI e + 10) (p := e + 10) h (by omega) (nI_add e 10), bnd_some]
  refine MT.ite_ (show nI (le2 t (e + 10)) ≤ 16 ↔ _ from nI_leI (b := 16) (by omega) (by decide)) (fun _ => ?_) MT.fail
  rw [m_fourAt (x := nI e + 12) (p := e + 12) h (by omega) (nI_add e 12), bnd_some, m_fourAt (x := nI e + 16) (p := e + 16) h (by omega) (nI_add e 16), bnd_some, lN_add]
  refine MT.ite_ (cmp_eq' rfl (nI_l (by omega)) (by omega) (by omega)) (fun _ => ?_) MT.fail
  exact MT.jb (m_zero2 (p := e + 20) h (by omega) (nI_add e 20))
/-- a test that leaves something when it holds -/
noncomputable def ME (X : Option (Int32 × hS)) (c : hS) (b : Bool) (Q : hS → Prop) : Prop := ∃ c', X = some (bI b, c') ∧ fm RQ c c' ∧ (b = true → Q c')
theorem ME.no {X : Option (Int32 × hS)} {c : hS} {b : Bool} {Q : hS → Prop} (hb : b = false) (h : MT X c false) : ME X c b Q := by
  obtain ⟨c', e1, f1, _⟩ := h
  subst hb
  exact ⟨c', e1, f1.mono (fun o i z => RQ_F z), fun z => by cases z⟩
theorem ME.and_ {X : Option (Int32 × hS)} {K : hS → Option (Int32 × hS)} {c : hS} {b b' : Bool} {Q : hS → Prop} (h : MT X c b) (hK : b = true → ME (K c) c b' Q) : ME (bnd X fun x c1 => if x = 0 then some (0, c1) else K c1) c (b && b') Q := by
  obtain ⟨c', e1, f1, g1⟩ := h
  rw [e1, bnd_some]
  cases b with
  | false => rw [if_pos (show bI false = 0 from rfl)]; exact ⟨c', rfl, f1.mono (fun o i z => RQ_F z), fun z => by cases z⟩
  | true => rw [if_neg (by decide), g1 rfl]; exact hK rfl
theorem ME.ite_ {X Y : Option (Int32 × hS)} {c : hS} {b : Bool} {p : Prop} [Decidable p] {q : Prop} [Decidable q] {Q : hS → Prop} (hp : p ↔ q) (hX : q → ME X c b Q) (hY : MT Y c false) : ME (if p then X else Y) c (decide q && b) Q := by
  by_cases w : q
  · rw [if_pos (hp.mpr w), decide_eq_true w, Bool.true_and]; exact hX w
  · rw [if_neg (fun z => w (hp.mp z)), decide_eq_false w, Bool.false_and]; exact ME.no rfl hY
theorem ME.pre {X : Option (Int32 × hS)} {c c1 : hS} {b : Bool} {Q Q' : hS → Prop} (h : ME X c1 b Q) (hf : fm RQ c c1) (hQ : ∀ c', Q c' → Q' c') : ME X c b Q' := by
  obtain ⟨c', a1, a2, a3⟩ := h
  exact ⟨c', a1, hf.tr a2, fun z => hQ c' (a3 z)⟩
noncomputable def NF (o i : Nat) : Prop := (o = 201 ∧ (i = 14 ∨ i = 18)) ∨ o = 209
theorem nm2_eq (t : List Nat) (q : Nat) : nameB ((t.drop (q + 46)).take (min (nl2 t q) 299)) = nameB (nm2 t q) ∧ (nameB (nm2 t q) = true → (t.drop (q + 46)).take (min (nl2 t q) 299) = nm2 t q) := by
  have h1 := nameB_299 (t.drop (q + 46)) (nl2 t q)
  have h2 := nameB_256 ((t.drop (q + 46)).take (nl2 t q))
  have e : nm2 t q = ((t.drop (q + 46)).take (nl2 t q)).take 256 := rfl
  rw [h1, e, h2]
  refine ⟨rfl, fun z => ?_⟩
  have l := nameB_90 z
  rw [List.length_take] at l
  rw [List.take_of_length_le (show ((t.drop (q + 46)).take (nl2 t q)).length ≤ 256 by rw [List.length_take]; omega)]
  by_cases w : nl2 t q ≤ 299
  · rw [Nat.min_eq_left w]
  · rw [List.take_of_length_le (by omega), List.take_of_length_le (by omega)]
theorem m_entryHead {N q e : Nat} {c : hS} {t : List Nat} (hN : 1000000 ≤ N) (h : mrw c 4 203 t) (he : e ≤ t.length) (hq : q ≤ e) : ME (f_X12_readEntryHead N c (nI q) (nI e)) c (enB t e q && (mmB t q && nameB (nm2 t q))) (fun c' => mrw c' 14 209 (nm2 t q) ∧ c'.1 201 18 = bI (dr2 t q) ∧ fm NF c c') := by
  have ht : t.length ≤ 20000 := h.1
  have h6 := le2_lt h.2.2.2 (q + 6)
  have h10 := le2_lt h.2.2.2 (q + 10)
  have h28 := le2_lt h.2.2.2 (q + 28)
  have h30 := le2_lt h.2.2.2 (q + 30)
  have h32 := le2_lt h.2.2.2 (q + 32)
  have h20 := le4_lt h.2.2.2 (q + 20)
  have h24 := le4_lt h.2.2.2 (q + 24)
  have eN' : eN t q = le2 t (q + 28) := rfl
  unfold f_X12_readEntryHead enB
  simp only [Bool.and_assoc]
  rw [show nI q + 46 = nI (q + 46) from nI_add q 46]
  refine ME.ite_ (nI_leI (by omega) (by omega)) (fun w46 => ?_) MT.fail
  refine ME.and_ (m_isRow (a := 80) (b := 75) (d := 1) (e := 2) hN h (by omega) rfl rfl rfl rfl rfl (by decide)) (fun _ => ?_)
  rw [m_twoAt (x := nI q + 6) (p := q + 6) h (by omega) (nI_add q 6), bnd_some]
  refine ME.ite_ (show nI (le2 t (q + 6)) ≤ 20 ↔ _ from nI_leI (b := 20) (by omega) (by decide)) (fun _ => ?_) MT.fail
  refine ME.and_ (m_zero2 (p := q + 8) h (by omega) (nI_add q 8)) (fun _ => ?_)
  rw [m_twoAt (x := nI q + 10) (p := q + 10) h (by omega) (nI_add q 10), bnd_some]
  -- behind the way
  have b103 : ME (f_X12_readEntryHead_103 N (nI q) (nI e) c (nI (le2 t (q + 10)))) c (decide (le2 t (q + 34) = 0) && (decide (beh2 t q ≤ e) && (mmB t q && nameB (nm2 t q)))) (fun c' => mrw c' 14 209 (nm2 t q) ∧ c'.1 201 18 = bI (dr2 t q) ∧ fm NF c c') := by
    unfold f_X12_readEntryHead_103
    refine ME.and_ (m_zero2 (p := q + 34) h (by omega) (nI_add q 34)) (fun _ => ?_)
    rw [m_twoAt (x := nI q + 28) (p := q + 28) h (by omega) (nI_add q 28), bnd_some, m_twoAt (x := nI q + 30) (p := q + 30) h (by omega) (nI_add q 30), bnd_some, m_twoAt (x := nI q + 32) (p := q + 32) h (by omega) (nI_add q 32), bnd_some, show nI q + 46 = nI (q + 46) from nI_add q 46, nI_add, nI_add, nI_add]
    refine ME.ite_ (show nI (q + 46 + le2 t (q + 28) + le2 t (q + 30) + le2 t (q + 32)) ≤ nI e ↔ beh2 t q ≤ e from nI_leI (by omega) (by omega)) (fun wb => ?_) MT.fail
    have wb' : q + 46 + le2 t (q + 28) + le2 t (q + 30) + le2 t (q + 32) ≤ e := wb
    have b194 : ∀ d : Bool, d = dr2 t q → ME (f_X12_readEntryHead_194 N (nI q) (nI e) c (nI (le2 t (q + 10))) (nI (le2 t (q + 28))) (bI d)) c (mmB t q && nameB (nm2 t q)) (fun c' => mrw c' 14 209 (nm2 t q) ∧ c'.1 201 18 = bI (dr2 t q) ∧ fm NF c c') := by
      intro d hd
      unfold f_X12_readEntryHead_194
      rw [show j_b (bI d) = true by cases d <;> rfl, cond_true]
      dsimp only [st1]
      have f1 : fm (fun o i => o = 201 ∧ i = 18) c (sI c 201 18 (bI d)) := fm.sI ⟨rfl, rfl⟩
      have v1 : (sI c 201 18 (bI d)).1 201 18 = bI d := sI_s _ _ _ _
      have r1 : mrw (sI c 201 18 (bI d)) 4 203 t := h.fm f1 (by omega) (fun i => by omega)
      refine ME.pre (Q := fun c' => mrw c' 14 209 (nm2 t q) ∧ c'.1 201 18 = bI (dr2 t q) ∧ fm NF (sI c 201 18 (bI d)) c') ?_ (f1.mono (fun o i z => by unfold RQ; omega)) (fun c' z => ⟨z.1, z.2.1, (f1.mono (fun o i z => by unfold NF; omega)).tr z.2.2⟩)
      revert v1 r1
      generalize sI c 201 18 (bI d) = c1
      intro v1 r1
      have b323 : ME (f_X12_readEntryHead_323 N (nI q) (nI e) c1 (nI (le2 t (q + 28)))) c1 (nameB (nm2 t q)) (fun c' => mrw c' 14 209 (nm2 t q) ∧ c'.1 201 18 = bI (dr2 t q) ∧ fm NF c1 c') := by
        have b340 : ME (f_X12_readEntryHead_340 N (nI q) (nI e) c1 (nI (nl2 t q))) c1 (nameB (nm2 t q)) (fun c' => mrw c' 14 209 (nm2 t q) ∧ c'.1 201 18 = bI (dr2 t q) ∧ fm NF c1 c') := by
          have nl : nl2 t q ≤ le2 t (q + 28) := by unfold nl2; split <;> omega
          obtain ⟨j, ej⟩ : ∃ j, j = min (nl2 t q) 299 := ⟨_, rfl⟩
          have go : ∀ c2 : hS, fm (fun o i => o = 201 ∧ i = 14) c1 c2 → c2.1 201 14 = nI j → ME (f_X12_readEntryHead_370 N (nI q) (nI e) N c2 0) c1 (nameB (nm2 t q)) (fun c' => mrw c' 14 209 (nm2 t q) ∧ c'.1 201 18 = bI (dr2 t q) ∧ fm NF c1 c') := by
            intro c2 f2 v2
            have r2 : mrw c2 4 203 t := r1.fm f2 (by omega) (fun i => by omega)
            obtain ⟨c3, e3, i3, w3, f3⟩ := cp_loop (F := f_X12_readEntryHead_370 N (nI q) (nI e)) (X := fun c => f_X12_readEntryHead_370 N (nI q) (nI e) (0 + 1) c (nI j)) (o := 209) (o' := 203) (a := q + 46) (b := 0) (len := j) (fun c => c.1 201 14 = nI j) (fun c i x q => by rw [sI_o (by decide)]; exact q) (fun m c i hi z => by
              rw [f_X12_readEntryHead_370, z, if_neg (nI_ge hi (by omega)), show nI q + 46 + nI i = nI (q + 46 + i) from by rw [show nI q + 46 = nI (q + 46) from nI_add q 46, nI_add], j_in_nI (show q + 46 + i < ln 203 from (by show q + 46 + i < 20000; omega)) (by decide), cond_true, j_in_nI (show i < ln 209 from (by show i < 300; omega)) (by decide), cond_true, nI_clamp (by omega), nI_clamp (by omega), Nat.zero_add]
              rfl) (fun m c z => by
              show _ = f_X12_readEntryHead_370 N (nI q) (nI e) (0 + 1) c (nI j)
              rw [f_X12_readEntryHead_370, f_X12_readEntryHead_370, z, if_pos (nI_le (Nat.le_refl _) (by omega)), if_pos (nI_le (Nat.le_refl _) (by omega))]) (by omega) j N c2 0 (by omega) (by omega) v2
            have fa : fm NF c1 c3 := (f2.mono (fun o i z => by unfold NF; omega)).tr (f3.mono (fun o i z => by unfold NF; omega))
            have n3 : mrw c3 14 209 ((t.drop (q + 46)).take j) := mrw.cp (c := c2) (c' := c3) (j := 14) (o := 209) (o' := 203) (a := q + 46) (len := j) (l := t) (by omega) r2.2.2.1 w3 i3 (show j ≤ 300 by omega) h.2.2.2
            have e3' : f_X12_readEntryHead_370 N (nI q) (nI e) N c2 0 = f_X12_readEntryHead_370 N (nI q) (nI e) (0 + 1) c3 (nI j) := e3
            obtain ⟨x1, x2⟩ := nm2_eq t q
            rw [← ej] at x1 x2
            rw [e3', f_X12_readEntryHead_370, i3, if_pos (nI_le (Nat.le_refl _) (by omega)), m_isName hN n3, bnd_some, x1]
            have fr : fm RQ c1 c3 := fa.mono (fun o i z => by unfold NF at z; unfold RQ; omega)
            cases hnm : nameB (nm2 t q) with
            | false =>
              rw [if_pos (show bI false = 0 from rfl)]
              obtain ⟨c4, e4, f4, _⟩ := MT.fail2 (c := c3) (a := 10) (p := nI q + 46)
              exact ⟨c4, e4, fr.tr (f4.mono (fun o i z => RQ_F z)), fun z => by cases z⟩
            | true =>
              rw [if_neg (by decide)]
              refine ⟨c3, rfl, fr, fun _ => ⟨by rw [← x2 hnm]; exact n3, ?_, fa⟩⟩
              rw [f3.1 _ _ (by omega), f2.1 _ _ (by omega), v1, hd]
          unfold f_X12_readEntryHead_340
          dsimp only [st1]
          rw [sI_s]
          by_cases w : nl2 t q ≤ 299
          · rw [if_pos (show nI (nl2 t q) ≤ 299 from nI_le (b := 299) w (by decide))]
            exact go _ ((fm.sI ⟨rfl, rfl⟩).tr (fm.sI ⟨rfl, rfl⟩)) (by rw [sI_s, ej, Nat.min_eq_left w])
          · rw [if_neg (show ¬ nI (nl2 t q) ≤ 299 from nI_ge (a := 299) (by omega) (by omega))]
            exact go _ ((fm.sI ⟨rfl, rfl⟩).tr (fm.sI ⟨rfl, rfl⟩)) (by rw [sI_s, ej, Nat.min_eq_right (by omega)]; rfl)
        unfold f_X12_readEntryHead_323
        rw [v1]
        cases hd2 : d with
        | false =>
          have : nl2 t q = le2 t (q + 28) := by unfold nl2; rw [← hd, hd2, if_neg (by decide)]; rfl
          rw [if_pos (show bI false = 0 from rfl), ← this]
          exact b340
        | true =>
          have z0 : 0 < le2 t (q + 28) := by
            rw [hd2] at hd
            unfold dr2 at hd
            have := (Bool.and_eq_true_iff.mp hd.symm).1
            exact of_decide_eq_true this
          have : nl2 t q = le2 t (q + 28) - 1 := by unfold nl2; rw [← hd, hd2, if_pos rfl]; rfl
          rw [if_neg (by decide), show nI (le2 t (q + 28)) - 1 = nI (le2 t (q + 28) - 1) from subI (b := 1) (by omega), ← this]
          exact b340
      have b262 : ME (f_X12_readEntryHead_262 N (nI q) (nI e) c1 (nI (le2 t (q + 10))) (nI (le2 t (q + 28)))) c1 (szB t q && nameB (nm2 t q)) (fun c' => mrw c' 14 209 (nm2 t q) ∧ c'.1 201 18 = bI (dr2 t q) ∧ fm NF c1 c') := by
        unfold f_X12_readEntryHead_262 szB
        rw [Bool.and_assoc, m_fourAt (x := nI q + 24) (p := q + 24) r1 (by omega) (nI_add q 24), bnd_some]
        refine ME.ite_ (cmp_le' rfl (show (400 : Int64) = lN 400 from rfl) (by omega) (by decide)) (fun _ => ?_) MT.fail
        by_cases w0 : le2 t (q + 10) = 0
        · rw [if_pos (show nI (le2 t (q + 10)) = 0 by rw [w0]; rfl), if_pos w0, m_fourAt (x := nI q + 20) (p := q + 20) r1 (by omega) (nI_add q 20), bnd_some, m_fourAt (x := nI q + 24) (p := q + 24) r1 (by omega) (nI_add q 24), bnd_some]
          exact ME.ite_ (cmp_eq' rfl rfl (by omega) (by omega)) (fun _ => b323) MT.fail
        · rw [if_neg (nI_ne0 (by omega) (by omega)), if_neg w0, Bool.true_and]
          exact b323
      rw [v1]
      unfold mmB
      rw [← hd]
      cases d with
      | false => rw [if_pos (show bI false = 0 from rfl), if_neg (by decide)]; rw [← hd] at b262; exact b262
      | true =>
        rw [if_neg (by decide), if_pos rfl]
        unfold dzB
        simp only [Bool.and_assoc]
        refine ME.and_ (m_zero2 (p := q + 10) r1 (by omega) (nI_add q 10)) (fun _ => ?_)
        refine ME.and_ (m_zero4 (p := q + 16) r1 (by omega) (nI_add q 16)) (fun _ => ?_)
        refine ME.and_ (m_zero4 (p := q + 20) r1 (by omega) (nI_add q 20)) (fun _ => ?_)
        refine ME.and_ (m_zero4 (p := q + 24) r1 (by omega) (nI_add q 24)) (fun _ => ?_)
        rw [← hd] at b262
        exact b262
    by_cases n0 : le2 t (q + 28) = 0
    · rw [if_pos (show nI (le2 t (q + 28)) ≤ 0 by rw [n0]; decide)]
      exact b194 false (by unfold dr2; rw [eN', n0]; rfl)
    · obtain ⟨a1, a2⟩ := tp_at h (show q + 45 + le2 t (q + 28) < t.length by omega)
      rw [if_neg (nI_nle (by omega) (by omega)), show nI q + 45 + nI (le2 t (q + 28)) = nI (q + 45 + le2 t (q + 28)) from by rw [show nI q + 45 = nI (q + 45) from nI_add q 45, nI_add], a1, cond_true, a2]
      have ed : dr2 t q = decide (gt t (q + 45 + le2 t (q + 28)) = 47) := by
        unfold dr2
        rw [eN', decide_eq_true (show 0 < le2 t (q + 28) by omega), Bool.true_and, show q + 46 + le2 t (q + 28) - 1 = q + 45 + le2 t (q + 28) by omega]
      by_cases g : gt t (q + 45 + le2 t (q + 28)) = 47
      · rw [if_pos (show nI (gt t (q + 45 + le2 t (q + 28))) = 47 by rw [g]; rfl)]
        exact b194 true (by rw [ed, decide_eq_true g])
      · rw [if_neg (show ¬ nI (gt t (q + 45 + le2 t (q + 28))) = 47 from fun z => g ((gt_eq (v := 47) h.2.2.2 (by decide)).mp z))]
        exact b194 false (by rw [ed, decide_eq_false g])
  by_cases w0 : le2 t (q + 10) = 0
  · rw [if_pos (show nI (le2 t (q + 10)) = 0 by rw [w0]; rfl), decide_eq_true (Or.inl w0), Bool.true_and]
    exact b103
  · rw [if_neg (nI_ne0 (by omega) (by omega))]
    by_cases w8 : le2 t (q + 10) = 8
    · rw [if_pos (show nI (le2 t (q + 10)) = 8 by rw [w8]; rfl), decide_eq_true (Or.inr w8), Bool.true_and]
      exact b103
    · rw [if_neg (show ¬ nI (le2 t (q + 10)) = 8 from fun z => w8 ((nI_eq (b := 8) (by omega) (by decide)).mp z)), decide_eq_false (fun z => z.elim w0 w8), Bool.false_and]
      exact ME.no rfl MT.fail
end
