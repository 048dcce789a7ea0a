/-! PURE: the reference: feed -/
theorem b8_w (x : Int32) : b8 x = (x.toBitVec.setWidth 8).toNat := by
  unfold b8
  rw [BitVec.toNat_setWidth]
  rfl
theorem fe_bits (w : Int32) (s : Nat) (hs : s ≤ 24) : ((w.toBitVec.sshiftRight s).setWidth 8) = (((w.toBitVec.signExtend 64) >>> s).signExtend 32).setWidth 8 := by
  apply BitVec.eq_of_getLsbD_eq
  intro i hi
  simp only [BitVec.getLsbD_setWidth, BitVec.getLsbD_sshiftRight, BitVec.getLsbD_ushiftRight, BitVec.getLsbD_signExtend]
  have h1 : s + i < 32 := by omega
  have h2 : i < 32 := by omega
  have h3 : s + i < 64 := by omega
  have h4 : ¬ (32 ≤ i) := by omega
  have h5 : i < 64 := by omega
  simp [h1, h2, h3, hi, h4, h5]
theorem fe_b8 {w : Int32} {a : Int32} {d : Int32} {s : Nat} (hs : s ≤ 24) (h1 : j_shr w a = ⟨⟨w.toBitVec.sshiftRight s⟩⟩) (h2 : (j_lushr w.toInt64 d).toInt32 = ⟨⟨((w.toBitVec.signExtend 64) >>> s).signExtend 32⟩⟩) : b8 (j_shr w a) = b8 (j_lushr w.toInt64 d).toInt32 := by
  rw [b8_w, b8_w, h1, h2]
  exact congrArg BitVec.toNat (fe_bits w s hs)
theorem fe24 (w : Int32) : b8 (j_shr w 24) = b8 (j_lushr w.toInt64 (8 * nI 3)).toInt32 := fe_b8 (s := 24) (by decide) rfl rfl
theorem fe16 (w : Int32) : b8 (j_shr w 16) = b8 (j_lushr w.toInt64 (8 * nI 2)).toInt32 := fe_b8 (s := 16) (by decide) rfl rfl
theorem fe8 (w : Int32) : b8 (j_shr w 8) = b8 (j_lushr w.toInt64 (8 * nI 1)).toInt32 := fe_b8 (s := 8) (by decide) rfl rfl
theorem fe0 (w : Int32) : b8 (j_shr w 0) = b8 (j_lushr w.toInt64 (8 * nI 0)).toInt32 := fe_b8 (s := 0) (by decide) rfl rfl
theorem m_put {c : hS} {b t : List Nat} {ms : List Mb} {v : Int32} (h : PM c b t ms) (hl : t.length < 20000) : ∃ c', f_X12_put c v = some ((), c') ∧ PM c' b (t ++ [b8 v]) ms ∧ fm (fun o i => o = 203 ∨ (o = 201 ∧ i = 4)) c c' := by
  unfold f_X12_put
  rw [h.2.1.2.1, j_in_nI (show t.length < ln 203 from hl) (by decide), cond_true, nI_clamp (by omega)]
  dsimp only [st1]
  rw [b8_and, sI_o (by decide), h.2.1.2.1, nI_1]
  have hr := h.2.1.add (x := b8 v) (by decide) hl (b8_lt v)
  have f2 : fm (fun o i => o = 203 ∨ (o = 201 ∧ i = 4)) c (sI (sI c 203 t.length (nI (b8 v))) 201 4 (nI (t.length + 1))) := (fm.sI (Or.inl rfl)).tr (fm.sI (Or.inr ⟨rfl, rfl⟩))
  exact ⟨_, rfl, h.tp f2 (fun o i z => by omega) hr, f2⟩
noncomputable def fsel (p1 p2 p3 p4 p5 : Int32) (i : Nat) : Int32 := if i < 4 then p1 else if i < 8 then p2 else if i < 12 then p3 else if i < 16 then p4 else p5
noncomputable def fby (p1 p2 p3 p4 p5 : Int32) (i : Nat) : Nat := b8 (j_shr (fsel p1 p2 p3 p4 p5 i) (24 - 8 * j_rem (nI i) 4))
theorem fby_all (p1 p2 p3 p4 p5 : Int32) : (List.range' 0 20).map (fby p1 p2 p3 p4 p5) = fiv p1 p2 p3 p4 p5 := by
  have e : ∀ w : Int32, big w.toInt64 4 = [b8 (j_shr w 24), b8 (j_shr w 16), b8 (j_shr w 8), b8 (j_shr w 0)] := fun w => by
    rw [fe24, fe16, fe8, fe0]
    rfl
  unfold fiv
  rw [e, e, e, e, e]
  rfl
theorem m_feed {N : Nat} {c : hS} {b t : List Nat} {ms : List Mb} {p1 p2 p3 p4 p5 : Int32} (hN : 1000000 ≤ N) (h : PM c b t ms) : MN (f_X12_feed N c p1 p2 p3 p4 p5) c (feK t) (nI (feT t p1 p2 p3 p4 p5).length) b (feT t p1 p2 p3 p4 p5) ms := by
  obtain ⟨c1, e1, h1, z1, f1⟩ := m_zero h
  have htl : t.length ≤ 20000 := h.2.1.1
  unfold f_X12_feed
  rw [e1]
  dsimp only [st1]
  rw [h1.2.1.2.1, show nI t.length + 20 = nI (t.length + 20) from nI_add _ 20]
  unfold f_X12_feed_24
  by_cases q : t.length + 20 ≤ 20000
  · have k1 : feK t = 0 := by unfold feK; rw [if_pos q]
    have e2 : feT t p1 p2 p3 p4 p5 = t ++ fiv p1 p2 p3 p4 p5 := by unfold feT; rw [if_pos k1]
    rw [if_pos (show nI (t.length + 20) ≤ 20000 from nI_le (b := 20000) q (by decide)), m_ref0 z1, bnd_some, if_pos rfl, k1, e2]
    have key : ∀ d m i c t, i + d = 20 → d < m → t.length + d ≤ 20000 → PM c b t ms → c.1 201 0 = 0 → ∃ c', f_X12_feed_36 N p1 p2 p3 p4 p5 m c (nI i) = some (nI (t ++ (List.range' i d).map (fby p1 p2 p3 p4 p5)).length, c') ∧ c'.1 201 0 = 0 ∧ PM c' b (t ++ (List.range' i d).map (fby p1 p2 p3 p4 p5)) ms ∧ fm (fun o _ => 201 ≤ o ∧ o < 219) c c' := by
      intro d
      induction d with
      | zero =>
        intro m i c t hi hm hl h z
        obtain ⟨m, rfl⟩ : ∃ m', m = m' + 1 := ⟨m - 1, by omega⟩
        rw [f_X12_feed_36, if_pos (show (20 : Int32) ≤ nI i from nI_le (a := 20) (by omega) (by omega)), h.2.1.2.1]
        exact ⟨c, by simp, z, by simpa using h, fm.rf⟩
      | succ d ih =>
        intro m i c t hi hm hl h z
        obtain ⟨m, rfl⟩ : ∃ m', m = m' + 1 := ⟨m - 1, by omega⟩
        have es : f_X12_feed_36 N p1 p2 p3 p4 p5 (m + 1) c (nI i) = f_X12_feed_89 N p1 p2 p3 p4 p5 (f_X12_feed_36 N p1 p2 p3 p4 p5 m) c (nI i) (fsel p1 p2 p3 p4 p5 i) := by
          have g : ∀ a : Nat, a < 100 → (nI a ≤ nI i ↔ ¬ i < a) := fun a ha => (nI_leI (by omega) (by omega)).trans ⟨fun z => by omega, fun z => by omega⟩
          have g4 : (4 : Int32) ≤ nI i ↔ ¬ i < 4 := g 4 (by decide)
          have g8 : (8 : Int32) ≤ nI i ↔ ¬ i < 8 := g 8 (by decide)
          have g12 : (12 : Int32) ≤ nI i ↔ ¬ i < 12 := g 12 (by decide)
          have g16 : (16 : Int32) ≤ nI i ↔ ¬ i < 16 := g 16 (by decide)
          have g20 : (20 : Int32) ≤ nI i ↔ ¬ i < 20 := g 20 (by decide)
          rw [f_X12_feed_36, if_neg (fun z => g20.mp z (by omega))]
          unfold fsel
          by_cases a4 : i < 4
          · rw [if_neg (fun z => g4.mp z a4), if_pos a4]
          · rw [if_pos (g4.mpr a4), if_neg a4]
            by_cases a8 : i < 8
            · rw [if_neg (fun z => g8.mp z a8), if_pos a8]
            · rw [if_pos (g8.mpr a8), if_neg a8]
              by_cases a12 : i < 12
              · rw [if_neg (fun z => g12.mp z a12), if_pos a12]
              · rw [if_pos (g12.mpr a12), if_neg a12]
                by_cases a16 : i < 16
                · rw [if_neg (fun z => g16.mp z a16), if_pos a16]
                · rw [if_pos (g16.mpr a16), if_neg a16]
        rw [es]
        unfold f_X12_feed_89
        obtain ⟨c2, b1, b2, b3⟩ := m_put (v := j_shr (fsel p1 p2 p3 p4 p5 i) (24 - 8 * j_rem (nI i) 4)) h (by omega)
        rw [b1, bnd_some, nI_1]
        obtain ⟨c', w1, w2, w3, w4⟩ := ih m (i + 1) c2 _ (by omega) (by omega) (by simp; omega) b2 ((b3.1 _ _ (by omega)).trans z)
        rw [List.append_assoc] at w1 w3
        exact ⟨c', w1, w2, w3, (b3.mono (fun o i z => by omega)).tr w4⟩
    obtain ⟨c', w1, w2, w3, w4⟩ := key 20 N 0 c1 t (by omega) (by omega) q h1 z1
    rw [fby_all] at w1 w3
    exact ⟨_, c', w1, w2, fun _ => rfl, w3, f1.tr w4⟩
  · have k1 : feK t = 1 := by unfold feK; rw [if_neg q]
    have e2 : feT t p1 p2 p3 p4 p5 = t := by unfold feT; rw [if_neg (by rw [k1]; decide)]
    rw [if_neg (show ¬ nI (t.length + 20) ≤ 20000 from nI_ge (show 20000 < t.length + 20 by omega) (by omega)), m_ref1 z1 (by decide), bnd_some, if_neg (by decide), k1, e2]
    exact m_no h1 f1 (by decide) rfl
