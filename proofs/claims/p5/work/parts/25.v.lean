/-! PURE: the reference: unpacking -/
theorem DF_of {o i : Nat} (h : F56 o i ∨ o = 212 ∨ o = 213 ∨ o = 214) : DF o i := h
theorem m_readCodes {N : Nat} {c : hS} {t : List Nat} {b e : Nat} {p1 : Int32} (hN : 1000000 ≤ N) (h : UB c t b e) : ∃ c', f_X12_readCodes N c p1 = some (bI (dynB t e b).isSome, c') ∧ fm DF c c' ∧ ∀ q, dynB t e b = some q → UB c' t q.2.2 e ∧ mcd c' 0 (q.1 ++ List.replicate (288 - q.1.length) 0) ∧ mcd c' 300 (q.2.1 ++ List.replicate (32 - q.2.1.length) 0) := by
  have nob : hcB t e b = false → dynB t e b = none := fun z => by unfold dynB; rw [z]; rfl
  have bad : ∀ {c1 : hS} {X : Option (Int32 × hS)}, dynB t e b = none → fm DF c c1 → (∃ c', X = some (0, c') ∧ fm DF c1 c') → ∃ c', X = some (bI (dynB t e b).isSome, c') ∧ fm DF c c' ∧ ∀ q, dynB t e b = some q → UB c' t q.2.2 e ∧ mcd c' 0 (q.1 ++ List.replicate (288 - q.1.length) 0) ∧ mcd c' 300 (q.2.1 ++ List.replicate (32 - q.2.1.length) 0) := by
    intro c1 X hn hf ⟨c', e1, f1⟩
    rw [hn]
    exact ⟨c', e1, hf.tr f1, fun q z => by cases z⟩
  have m2 : ∀ {c1 c2 : hS}, fm (fun o i => o = 212) c1 c2 → fm DF c1 c2 := fun f => f.mono (fun o i z => by unfold DF; omega)
  have m5 : ∀ {c1 c2 : hS}, fm F25 c1 c2 → fm DF c1 c2 := fun f => f.mono (fun o i z => Or.inl (F25_56 z))
  have m6 : ∀ {c1 c2 : hS}, fm F56 c1 c2 → fm DF c1 c2 := fun f => f.mono (fun o i z => Or.inl z)
  have bf : ∀ (c1 : hS) (a p : Int32), ∃ c', (bnd (f_X12_fails c1 a p) fun x3 c4 => bif j_b x3 then some (x3, c4) else none) = some (0, c') ∧ fm DF c1 c' := fun c1 a p => b_fail (fun i z => Or.inl ⟨rfl, by omega⟩)
  unfold f_X12_readCodes
  by_cases q1 : b + 5 ≤ e
  · obtain ⟨c2, e2, u2, f2⟩ := m_bits (p := 5) hN h q1 (by decide) rfl
    have bl := bv_lt t b 5
    rw [e2, bnd_some, if_pos u2.2.2.2.2.2, show (257 : Int32) + nI (bv t b 5) = nI (hH t b) from nI_add 257 _]
    have eH : hH t b = 257 + bv t b 5 := rfl
    by_cases q2 : hH t b ≤ 286
    · rw [if_pos (show nI (hH t b) ≤ 286 from nI_le (b := 286) q2 (by decide))]
      unfold f_X12_readCodes_32
      by_cases q3 : b + 10 ≤ e
      · obtain ⟨c3, e3, u3, f3⟩ := m_bits (p := 5) (n := 5) hN u2 (by omega) (by decide) rfl
        have bl2 := bv_lt t (b + 5) 5
        have eK : hK t b = 1 + bv t (b + 5) 5 := rfl
        rw [e3, bnd_some, if_pos u3.2.2.2.2.2, show (1 : Int32) + nI (bv t (b + 5) 5) = nI (hK t b) from nI_add 1 _]
        by_cases q4 : hK t b ≤ 30
        · rw [if_pos (show nI (hK t b) ≤ 30 from nI_le (b := 30) q4 (by decide))]
          unfold f_X12_readCodes_61
          by_cases q5 : b + 14 ≤ e
          · obtain ⟨c4, e4, u4, f4⟩ := m_bits (p := 4) (n := 4) hN u3 (by omega) (by decide) rfl
            have bl3 := bv_lt t (b + 10) 4
            have en : hn t b = 4 + bv t (b + 10) 4 := rfl
            have u4 : UB c4 t (b + 14) e := by rw [show b + 5 + 5 + 4 = b + 14 by omega] at u4; exact u4
            rw [e4, bnd_some, show (4 : Int32) + nI (bv t (b + 5 + 5) 4) = nI (hn t b) from nI_add 4 _]
            have n19 : hn t b ≤ 19 := by omega
            have fz4 : fm DF c c4 := ((m5 f2).tr (m5 f3)).tr (m5 f4)
            -- the nineteen lengths
            have key : ∀ d m i c, i + d = 19 → d < m → UB c t (b + 14 + 3 * min i (hn t b)) e → b + 14 + 3 * hn t b ≤ e → (∀ j, j < i → c.1 212 (340 + gt ordL j) = nI (gt (clF t (b + 14) (hn t b)) (gt ordL j))) → ∃ c', f_X12_readCodes_73 N p1 m c (nI (hH t b)) (nI (hK t b)) (nI (hn t b)) (nI i) = f_X12_readCodes_73 N p1 (0 + 1) c' (nI (hH t b)) (nI (hK t b)) (nI (hn t b)) (nI 19) ∧ UB c' t (b + 14 + 3 * hn t b) e ∧ (∀ j, j < 19 → c'.1 212 (340 + gt ordL j) = nI (gt (clF t (b + 14) (hn t b)) (gt ordL j))) ∧ fm DF c c' := by
              intro d
              induction d with
              | zero =>
                intro m i c hi hm hu hle hk
                obtain ⟨m, rfl⟩ : ∃ j, m = j + 1 := ⟨m - 1, by omega⟩
                have : i = 19 := by omega
                subst this
                refine ⟨c, ?_, by rw [show min 19 (hn t b) = hn t b by omega] at hu; exact hu, hk, fm.rf⟩
                rw [f_X12_readCodes_73, f_X12_readCodes_73, if_pos (show (19 : Int32) ≤ nI 19 by decide), if_pos (show (19 : Int32) ≤ nI 19 by decide)]
              | succ d ih =>
                intro m i c hi hm hu hle hk
                obtain ⟨m, rfl⟩ : ∃ j, m = j + 1 := ⟨m - 1, by omega⟩
                obtain ⟨o1, o2⟩ := ord_in i (by omega)
                have ca := clF_at t (b + 14) (hn t b) n19 i (by omega)
                have st : ∀ (c1 : hS) (v : Int32), (∀ j, j < i → c1.1 212 (340 + gt ordL j) = nI (gt (clF t (b + 14) (hn t b)) (gt ordL j))) → v = nI (gt (clF t (b + 14) (hn t b)) (gt ordL i)) → ∀ j, j < i + 1 → (sI c1 212 (340 + gt ordL i) v).1 212 (340 + gt ordL j) = nI (gt (clF t (b + 14) (hn t b)) (gt ordL j)) := by
                  intro c1 v hc1 hv j hj
                  by_cases e : j = i
                  · rw [e, sI_s, hv]
                  · rw [sI_j (fun z => e (ord_inj j (by omega) i (by omega) (by omega)))]
                    exact hc1 j (by omega)
                rw [f_X12_readCodes_73, if_neg (show ¬ (19 : Int32) ≤ nI i from nI_ge (b := 19) (by omega) (by decide)), ord_at i (by omega), bnd_some, o1, cond_true, o2, nI_1]
                by_cases q : i < hn t b
                · rw [if_pos q] at ca
                  rw [show min i (hn t b) = i by omega] at hu
                  obtain ⟨c1, x1, x2, x3⟩ := m_bits (p := 3) (n := 3) hN hu (by omega) (by decide) rfl
                  rw [if_neg (nI_ge q (by omega)), x1, bnd_some, cond_true, ← ca]
                  dsimp only [st1]
                  have fs : fm (fun o i => o = 212) c1 (sI c1 212 (340 + gt ordL i) (nI (gt (clF t (b + 14) (hn t b)) (gt ordL i)))) := fm.sI rfl
                  obtain ⟨c', y1, y2, y3, y4⟩ := ih m (i + 1) _ (by omega) (by omega) (by
                    have := x2.fm' fs (fun o i z => ⟨by omega, by omega⟩)
                    rw [show min (i + 1) (hn t b) = i + 1 by omega]
                    rw [show b + 14 + 3 * (i + 1) = b + 14 + 3 * i + 3 by omega]
                    exact this) hle (st c1 _ (fun j hj => (x3.1 _ _ (by unfold F25; omega)).trans (hk j hj)) rfl)
                  exact ⟨c', y1, y2, y3, ((m5 x3).tr (m2 fs)).tr y4⟩
                · rw [if_neg q] at ca
                  rw [if_pos (nI_le (by omega) (by omega)), show (0 : Int32) = nI (gt (clF t (b + 14) (hn t b)) (gt ordL i)) by rw [ca]; rfl]
                  dsimp only [st1]
                  have fs : fm (fun o i => o = 212) c (sI c 212 (340 + gt ordL i) (nI (gt (clF t (b + 14) (hn t b)) (gt ordL i)))) := fm.sI rfl
                  obtain ⟨c', y1, y2, y3, y4⟩ := ih m (i + 1) _ (by omega) (by omega) (by
                    have := hu.fm' fs (fun o i z => ⟨by omega, by omega⟩)
                    rw [show min (i + 1) (hn t b) = min i (hn t b) by omega]
                    exact this) hle (st c _ hk rfl)
                  exact ⟨c', y1, y2, y3, (m2 fs).tr y4⟩
            -- where a bit lacks
            have lack : ∀ d m i c, i + d = 19 → d < m → UB c t (b + 14 + 3 * i) e → i ≤ hn t b → e < b + 14 + 3 * hn t b → ∃ c', f_X12_readCodes_73 N p1 m c (nI (hH t b)) (nI (hK t b)) (nI (hn t b)) (nI i) = some (0, c') ∧ fm DF c c' := by
              intro d
              induction d with
              | zero =>
                intro m i c hi hm hu hin hlt
                have := hu.2.2.2.1
                omega
              | succ d ih =>
                intro m i c hi hm hu hin hlt
                obtain ⟨m, rfl⟩ : ∃ j, m = j + 1 := ⟨m - 1, by omega⟩
                have hi2 : i < hn t b := by have := hu.2.2.2.1; omega
                obtain ⟨o1, o2⟩ := ord_in i (by omega)
                rw [f_X12_readCodes_73, if_neg (show ¬ (19 : Int32) ≤ nI i from nI_ge (b := 19) (by omega) (by decide)), ord_at i (by omega), bnd_some, o1, cond_true, o2, nI_1, if_neg (nI_ge hi2 (by omega))]
                by_cases q : b + 14 + 3 * i + 3 ≤ e
                · obtain ⟨c1, x1, x2, x3⟩ := m_bits (p := 3) (n := 3) hN hu q (by decide) rfl
                  rw [x1, bnd_some, cond_true]
                  dsimp only [st1]
                  have fs : fm (fun o i => o = 212) c1 (sI c1 212 (340 + gt ordL i) (nI (bv t (b + 14 + 3 * i) 3))) := fm.sI rfl
                  obtain ⟨c', y1, y2⟩ := ih m (i + 1) _ (by omega) (by omega) (by
                    have := x2.fm' fs (fun o i z => ⟨by omega, by omega⟩)
                    rw [show b + 14 + 3 * (i + 1) = b + 14 + 3 * i + 3 by omega]
                    exact this) (by omega) hlt
                  exact ⟨c', y1, ((m5 x3).tr (m2 fs)).tr y2⟩
                · obtain ⟨x, c1, x1, x2, x3⟩ := m_bits_no (p := 3) (n := 3) hN hu (by omega) (by decide) rfl
                  rw [x1, bnd_some, cond_true]
                  dsimp only [st1]
                  have fs : fm (fun o i => o = 212) c1 (sI c1 212 (340 + gt ordL i) x) := fm.sI rfl
                  obtain ⟨c', y1, y2⟩ := m_rc73x (p1 := p1) hN d m (i + 1) (sI c1 212 (340 + gt ordL i) x) (nI (hH t b)) (nI (hK t b)) (nI (hn t b)) (by omega) (by omega) (by rw [sI_o (by decide)]; exact x2)
                  exact ⟨c', y1, ((m6 x3).tr (m2 fs)).tr (m2 y2)⟩
            by_cases q6 : b + 14 + 3 * hn t b ≤ e
            · obtain ⟨c5, e5, u5, v5, f5⟩ := key 19 N 0 c4 (by omega) (by omega) (by simpa using u4) q6 (fun j hj => by omega)
              have e5' : f_X12_readCodes_73 N p1 N c4 (nI (hH t b)) (nI (hK t b)) (nI (hn t b)) 0 = _ := e5
              have l19 := clF_len t (b + 14) (hn t b)
              have hm5 : mln c5 340 (clF t (b + 14) (hn t b)) := ⟨by rw [l19]; decide, fun i hi => by
                rw [l19] at hi
                obtain ⟨j, hj, ej⟩ := ord_sur i hi
                have := v5 j hj
                rw [ej] at this
                exact ⟨this, clF_lt t (b + 14) (hn t b) i n19⟩⟩
              have fb := FN_le (lens := clF t (b + 14) (hn t b)) (clF t (b + 14) (hn t b)).length
              rw [FN_ful, l19] at fb
              have fz5 := fz4.tr f5
              rw [e5', f_X12_readCodes_73, if_pos (by decide), if_pos u5.2.2.2.2.2, m_fullness (p1 := 340) (p2 := 19) hN hm5 rfl (by rw [l19]; rfl), bnd_some]
              by_cases q7 : ful (clF t (b + 14) (hn t b)) 15 = 32768
              · have hcb : hcB t e b = true := by unfold hcB; rw [if_pos q1, if_pos q2, if_pos q3, if_pos q4, if_pos q5, if_pos q6]; exact decide_eq_true q7
                rw [if_pos (show nI (ful (clF t (b + 14) (hn t b)) 15) = 32768 by rw [q7]; rfl)]
                obtain ⟨c6, e6, d6, f6⟩ := m_layCodes (p1 := 340) (p2 := 19) hN hm5 rfl (by rw [l19]; rfl)
                have f6' : fm (fun o i => o = 213) c5 c6 := f6.mono (fun o i z => z.1)
                have u6 := u5.fm' f6' (fun o i z => ⟨by omega, by omega⟩)
                have fz6 : fm DF c c6 := fz5.tr (f6'.mono (fun o i z => by unfold DF; omega))
                obtain ⟨c7, e7, f7, g7⟩ := m_readRow (p1 := nI (hH t b) + nI (hK t b)) (p2 := p1) (all := hH t b + hK t b) hN u6 d6 l19 q7 (by omega) (nI_add _ _)
                have f7' : fm DF c6 c7 := f7.mono (fun o i z => z.elim Or.inl (fun q => Or.inr (Or.inr (Or.inr q))))
                rw [e6, bnd_some, e7, bnd_some]
                cases hw : rws t e (clF t (b + 14) (hn t b)) (hH t b + hK t b) 320 (b + 14 + 3 * hn t b) [] with
                | none =>
                  rw [if_pos (show bI (none : Option (List Nat × Nat)).isSome = 0 from rfl)]
                  exact bad (by unfold dynB dyR; rw [hcb, if_pos rfl, hw]) fz6 ⟨c7, rfl, f7'⟩
                | some q =>
                  obtain ⟨row, b'⟩ := q
                  obtain ⟨u7, r7⟩ := g7 row b' hw
                  obtain ⟨r, -, rl⟩ := rws_ext (by simp) hw
                  rw [if_neg (show ¬ bI (some (row, b')).isSome = 0 from (by decide : ¬ bI true = 0))]
                  obtain ⟨c8, e8, f8, g8⟩ := m_rc174 (p1 := p1) hN u7.2.2.2.2.2 r7 rl q2 (by omega) q4
                  have f8' : fm DF c7 c8 := f8.mono (fun o i z => by unfold DF F56; omega)
                  rw [e8]
                  have ed : dynB t e b = if okR (hH t b) row = true then some (row.take (hH t b), row.drop (hH t b), b') else none := by
                    unfold dynB dyR
                    rw [hcb, if_pos rfl, hw]
                    dsimp only
                    by_cases z : okR (hH t b) row = true
                    · rw [if_pos z, if_pos z]
                    · rw [if_neg z, if_neg z]
                  cases ho : okR (hH t b) row with
                  | false =>
                    rw [ho, if_neg (by decide)] at ed
                    exact bad ed fz6 ⟨c8, rfl, f7'.tr f8'⟩
                  | true =>
                    rw [ho, if_pos rfl] at ed
                    obtain ⟨x1, x2, x3⟩ := g8 ho
                    rw [ed]
                    refine ⟨c8, rfl, (fz6.tr f7').tr f8', fun q z => ?_⟩
                    cases z
                    have tl : (row.take (hH t b)).length = hH t b := by rw [List.length_take]; omega
                    have dl : (row.drop (hH t b)).length = hK t b := by rw [List.length_drop]; omega
                    refine ⟨u7.fm' x3 (fun o i z => ⟨by omega, by omega⟩), ?_, ?_⟩
                    · show mcd c8 0 (row.take (hH t b) ++ List.replicate (288 - (row.take (hH t b)).length) 0)
                      rw [tl]; exact x1
                    · show mcd c8 300 (row.drop (hH t b) ++ List.replicate (32 - (row.drop (hH t b)).length) 0)
                      rw [dl]; exact x2
              · rw [if_neg (show ¬ nI (ful (clF t (b + 14) (hn t b)) 15) = 32768 from fun z => q7 ((nI_eq (b := 32768) (by omega) (by decide)).mp z))]
                exact bad (nob (by unfold hcB; rw [if_pos q1, if_pos q2, if_pos q3, if_pos q4, if_pos q5, if_pos q6]; exact decide_eq_false q7)) fz5 (bf _ _ _)
            · exact bad (nob (by unfold hcB; rw [if_pos q1, if_pos q2, if_pos q3, if_pos q4, if_pos q5, if_neg q6])) fz4 (lack 19 N 0 c4 (by omega) (by omega) u4 (by omega) (by omega))
          · obtain ⟨x, c4, e4, v4, f4⟩ := m_bits_no (p := 4) (n := 4) hN u3 (by omega) (by decide) rfl
            rw [e4, bnd_some]
            obtain ⟨c5, e5, f5⟩ := m_rc73x (p1 := p1) hN 19 N 0 c4 (nI (hH t b)) (nI (hK t b)) (4 + x) (by omega) (by omega) v4
            exact bad (nob (by unfold hcB; rw [if_pos q1, if_pos q2, if_pos q3, if_pos q4, if_neg q5])) (((m5 f2).tr (m5 f3)).tr (m6 f4)) ⟨c5, e5, m2 f5⟩
        · rw [if_neg (show ¬ nI (hK t b) ≤ 30 from nI_ge (a := 30) (by omega) (by omega))]
          exact bad (nob (by unfold hcB; rw [if_pos q1, if_pos q2, if_pos q3, if_neg q4])) ((m5 f2).tr (m5 f3)) (bf _ _ _)
      · obtain ⟨x, c3, e3, v3, f3⟩ := m_bits_no (p := 5) (n := 5) hN u2 (by omega) (by decide) rfl
        rw [e3, bnd_some, if_neg v3]
        obtain ⟨c4, e4, f4⟩ := m_rc61x (p1 := p1) (v2 := nI (hH t b)) (v3 := 1 + x) hN v3
        exact bad (nob (by unfold hcB; rw [if_pos q1, if_pos q2, if_neg q3])) ((m5 f2).tr (m6 f3)) ⟨c4, e4, m2 f4⟩
    · rw [if_neg (show ¬ nI (hH t b) ≤ 286 from nI_ge (a := 286) (by omega) (by omega))]
      exact bad (nob (by unfold hcB; rw [if_pos q1, if_neg q2])) (m5 f2) (bf _ _ _)
  · obtain ⟨x, c2, e2, v2, f2⟩ := m_bits_no (p := 5) (n := 5) hN h (by omega) (by decide) rfl
    rw [e2, bnd_some, if_neg v2]
    obtain ⟨c3, e3, f3⟩ := m_rc32x (p1 := p1) (v2 := 257 + x) hN v2
    exact bad (nob (by unfold hcB; rw [if_neg q1])) (m6 f2) ⟨c3, e3, m2 f3⟩
