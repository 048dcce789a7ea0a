/-! PURE: the reference: come, kind -/
theorem nameB_299 (b : List Nat) (k : Nat) : nameB (b.take (min k 299)) = nameB (b.take k) := by
  by_cases q : k ≤ 299
  · rw [Nat.min_eq_left q]
  · rw [Nat.min_eq_right (by omega)]
    by_cases w : b.length ≤ 299
    · rw [List.take_of_length_le w, List.take_of_length_le (by omega)]
    · rw [nameB_no (by simp; omega), nameB_no (by simp; omega)]
theorem min_I {k : Nat} (hk : k < 2 ^ 31) {c : hS} {j : Nat} {α : Type} {K : hS → Option α} : (if (300 : Int32) ≤ nI k then st1 (sI c 201 j 299) K else st1 (sI c 201 j (nI k)) K) = K (sI c 201 j (nI (min k 299))) := by
  by_cases q : 300 ≤ k
  · rw [if_pos (show (300 : Int32) ≤ nI k from nI_le (a := 300) q hk), Nat.min_eq_right (by omega)]; rfl
  · rw [if_neg (show ¬ (300 : Int32) ≤ nI k from nI_ge (b := 300) (by omega) (by decide)), Nat.min_eq_left (by omega)]; rfl
theorem m_come {N : Nat} {c : hS} {b t : List Nat} {ms : List Mb} {n : Int32} {d : Bool} (hN : 1000000 ≤ N) (h : PM c b t ms) : MN (f_X12_come N c n (bI d)) c (cmK b ms n d) (nI (cmM b ms n d).length) (cmB b ms n d) t (cmM b ms n d) := by
  obtain ⟨c1, e1, h1, z1, f1⟩ := m_zero h
  have h16 := h.2.2.2.1
  have hbl : b.length ≤ 512 := h.1.1
  unfold f_X12_come
  rw [e1]
  dsimp only [st1]
  rw [h1.1.2.1, m_in (a := 0) (a' := 0) (by decide) rfl, bnd_some, in_keep h1.1.lt]
  unfold f_X12_come_25
  rcases keK_01 b n with k0 | k1
  · obtain ⟨k, hk, rfl, hkl⟩ := keK_so k0
    rw [decide_eq_true k0, if_neg (by decide), m_ref0 z1, bnd_some, if_pos rfl, min_I hk]
    have cK : cmK b ms (nI k) d = if nameB (b.take k) = true then (if b.length - k ≤ cmL d then (if ms.any (wayB (b.take k) d) = true then 2 else if (decide (ms.length < 16) || ms.any fun x => decide (x.1 = b.take k)) = true then 0 else 3) else 1) else 1 := by
      unfold cmK
      rw [nI_clamp hk, if_neg]
      rintro (z | z)
      · exact nI_pos hk z
      · omega
    obtain ⟨j, hj⟩ : ∃ j, min k 299 = j := ⟨_, rfl⟩
    rw [hj]
    have hjl : j ≤ b.length ∧ j ≤ 299 ∧ j ≤ k := by omega
    obtain ⟨c2, e2⟩ : ∃ c2, sI c1 201 14 (nI j) = c2 := ⟨_, rfl⟩
    rw [e2]
    have f2 : fm (fun o i => o = 201 ∧ i = 14) c1 c2 := by rw [← e2]; exact fm.sI ⟨rfl, rfl⟩
    have v2 : c2.1 201 14 = nI j := by rw [← e2, sI_s]
    obtain ⟨c3, e3, i3, w3, f3⟩ := cp_loop (F := f_X12_come_54 N (nI k) (bI d)) (X := fun c => f_X12_come_54 N (nI k) (bI d) (0 + 1) c (nI j)) (o := 209) (o' := 202) (a := 0) (b := 0) (len := j) (fun c => c.1 201 14 = nI j) (fun c i x q => by rw [sI_o (by decide)]; exact q) (fun n c i hi q => by
      rw [f_X12_come_54, q, if_neg (nI_ge hi (by omega)), j_in_nI (show i < ln 202 from (by show i < 512; omega)) (by decide), cond_true, j_in_nI (show i < ln 209 from (by show i < 300; omega)) (by decide), cond_true, nI_clamp (by omega), Nat.zero_add]
      rfl) (fun n c q => by
      show _ = f_X12_come_54 N (nI k) (bI d) (0 + 1) c (nI j)
      rw [f_X12_come_54, f_X12_come_54, q, if_pos (nI_le (Nat.le_refl _) (by omega)), if_pos (nI_le (Nat.le_refl _) (by omega))]) (by omega) j N c2 0 (by omega) (by omega) v2
    have f13 : fm (fun o i => (o = 201 ∧ i = 14) ∨ o = 209) c1 c3 := (f2.mono (fun o i z => Or.inl z)).tr (f3.mono (fun o i z => Or.inr z.1))
    have h3 := h1.mv f13 (fun o i z => by omega)
    have n3 : mrw c3 14 209 (b.take j) := by
      have := mrw.cp (c := c2) (c' := c3) (j := 14) (o := 209) (o' := 202) (a := 0) (len := j) (l := b) (by omega) (fun i hi => (f2.1 _ _ (by omega)).trans (h1.1.2.2.1 i hi)) w3 i3 (show j ≤ 300 by omega) h1.1.2.2.2
      simpa using this
    have e3' : f_X12_come_54 N (nI k) (bI d) N c2 0 = f_X12_come_54 N (nI k) (bI d) (0 + 1) c3 (nI j) := e3
    rw [e3', f_X12_come_54, i3, if_pos (nI_le (Nat.le_refl _) (by omega)), h3.1.2.1, subI hkl]
    dsimp only [st1]
    rw [show j_b (bI d) = true by cases d <;> rfl, cond_true]
    obtain ⟨c4, e4⟩ : ∃ c4, sI (sI c3 201 16 (nI (b.length - k))) 201 18 (bI d) = c4 := ⟨_, rfl⟩
    rw [e4]
    have f4 : fm (fun o i => o = 201 ∧ (i = 16 ∨ i = 18)) c3 c4 := by rw [← e4]; exact (fm.sI (by omega)).tr (fm.sI (by omega))
    have v16 : c4.1 201 16 = nI (b.length - k) := by rw [← e4, sI_j (by decide), sI_s]
    have v18 : c4.1 201 18 = bI d := by rw [← e4, sI_s]
    have h4 := h3.mv f4 (fun o i z => by omega)
    have n4 : mrw c4 14 209 (b.take j) := n3.fm f4 (by omega) (fun i => by omega)
    have fz : fm (fun o _ => 201 ≤ o ∧ o < 219) c c4 := (f1.tr (f13.mono (fun o i z => by omega))).tr (f4.mono (fun o i z => by omega))
    have z4 : c4.1 201 0 = 0 := by rw [f4.1 _ _ (by omega), f13.1 _ _ (by omega)]; exact z1
    rw [m_isName hN n4, bnd_some]
    have no1 : cmK b ms (nI k) d = 1 → MN (f_X12_come_124 N (nI k) (bI d) c4) c (cmK b ms (nI k) d) (nI (cmM b ms (nI k) d).length) (cmB b ms (nI k) d) t (cmM b ms (nI k) d) := by
      intro q
      unfold f_X12_come_124 f_X12_come_129
      rw [m_ref1 z4 (by decide), bnd_some, if_neg (by decide), q]
      have eB : cmB b ms (nI k) d = b := by unfold cmB; rw [if_neg (by rw [q]; decide)]
      have eM : cmM b ms (nI k) d = ms := by unfold cmM; rw [if_neg (by rw [q]; decide)]
      rw [eB, eM]
      exact m_no h4 fz (by decide) rfl
    rw [← hj, nameB_299] at *
    cases hnm : nameB (b.take k) with
    | false =>
      rw [if_pos (show bI false = 0 from rfl)]
      exact no1 (by rw [cK, hnm]; rfl)
    | true =>
      rw [if_neg (by decide)]
      rw [hnm, if_pos rfl] at cK
      have k90 : k ≤ 90 := by
        have := nameB_90 hnm
        simp at this
        omega
      have jk : min k 299 = k := by omega
      rw [jk] at n4
      have good : b.length - k ≤ cmL d → MN (f_X12_come_129 N (nI k) (bI d) c4 0) c (cmK b ms (nI k) d) (nI (cmM b ms (nI k) d).length) (cmB b ms (nI k) d) t (cmM b ms (nI k) d) := by
        intro hs
        rw [if_pos hs] at cK
        have h400 : b.length - k ≤ 400 := by unfold cmL at hs; split at hs <;> omega
        unfold f_X12_come_129
        have ew := m_isInTheWay (base := 0) (d := d) hN h4.2.2.2.2.1 (by omega) n4 v18 (nameB_pos hnm) (fun x hx => nameB_pos (h4.2.2.2.2.2 x hx))
        rw [nI_0] at ew
        rw [m_ref0 z4, bnd_some, if_pos rfl, h4.2.2.1, ew, bnd_some]
        cases hw : ms.any (wayB (b.take k) d) with
        | true =>
          rw [hw, if_pos rfl] at cK
          have eB : cmB b ms (nI k) d = b := by unfold cmB; rw [if_neg (by rw [cK]; decide)]
          have eM : cmM b ms (nI k) d = ms := by unfold cmM; rw [if_neg (by rw [cK]; decide)]
          rw [show bI true = 1 from rfl, m_ref1 z4 (by decide), bnd_some, if_neg (by decide), cK, eB, eM]
          exact m_no h4 fz (by decide) rfl
        | false =>
          rw [hw, if_neg (by decide)] at cK
          rw [show bI false = 0 from rfl, m_ref0 z4, bnd_some, if_pos rfl, h4.2.2.1]
          have room : (decide (ms.length < 16) || ms.any fun x => decide (x.1 = b.take k)) = true → MN (f_X12_come_181 N (nI k) (bI d) c4) c (cmK b ms (nI k) d) (nI (cmM b ms (nI k) d).length) (cmB b ms (nI k) d) t (cmM b ms (nI k) d) := by
            intro hr
            rw [hr, if_pos rfl] at cK
            have eB : cmB b ms (nI k) d = [] := by unfold cmB; rw [if_pos cK]
            have eM : cmM b ms (nI k) d = comeM ms (b.take k, b.drop k, d) := by unfold cmM; rw [if_pos cK, nI_clamp hk]
            rw [cK, eB, eM]
            unfold f_X12_come_181 f_X12_come_182
            rw [m_ref0 z4, bnd_some, if_pos rfl]
            obtain ⟨c5, e5, i5, w5, f5⟩ := cp_loop (F := f_X12_come_193 N (nI k) (bI d)) (X := fun c => f_X12_come_193 N (nI k) (bI d) (0 + 1) c (nI (b.length - k))) (o := 210) (o' := 202) (a := k) (b := 0) (len := b.length - k) (fun c => c.1 201 16 = nI (b.length - k)) (fun c i x q => by rw [sI_o (by decide)]; exact q) (fun n c i hi q => by
              rw [f_X12_come_193, q, if_neg (nI_ge hi (by omega)), nI_add, j_in_nI (show k + i < ln 202 from (by show k + i < 512; omega)) (by decide), cond_true, j_in_nI (show i < ln 210 from (by show i < 600; omega)) (by decide), cond_true, nI_clamp (by omega), nI_clamp (by omega), Nat.zero_add]
              rfl) (fun n c q => by
              show _ = f_X12_come_193 N (nI k) (bI d) (0 + 1) c (nI (b.length - k))
              rw [f_X12_come_193, f_X12_come_193, q, if_pos (nI_le (Nat.le_refl _) (by omega)), if_pos (nI_le (Nat.le_refl _) (by omega))]) (by omega) (b.length - k) N c4 0 (by omega) (by omega) v16
            have f5' : fm (fun o i => o = 210) c4 c5 := f5.mono (fun o i z => z.1)
            have h5 := h4.mv f5' (fun o i z => by omega)
            have n5 : mrw c5 14 209 (b.take k) := n4.fm f5' (by omega) (fun i => by omega)
            have g5 : mrw c5 16 210 (b.drop k) := by
              have := mrw.cp (c := c4) (c' := c5) (j := 16) (o := 210) (o' := 202) (a := k) (len := b.length - k) (l := b) (by omega) h4.1.2.2.1 w5 i5 (show b.length - k ≤ 600 by omega) h1.1.2.2.2
              rwa [List.take_of_length_le (by simp)] at this
            have d5 : c5.1 201 18 = bI d := (f5'.1 _ _ (by omega)).trans v18
            have e5' : f_X12_come_193 N (nI k) (bI d) N c4 0 = f_X12_come_193 N (nI k) (bI d) (0 + 1) c5 (nI (b.length - k)) := e5
            have hrm : ms.length < 16 ∨ ∃ x ∈ ms, x.1 = b.take k := by
              rcases Bool.or_eq_true_iff.mp hr with q | q
              · exact Or.inl (of_decide_eq_true q)
              · obtain ⟨x, hx, q⟩ := List.any_eq_true.mp q
                exact Or.inr ⟨x, hx, of_decide_eq_true q⟩
            obtain ⟨c6, e6, s6, l6, f6⟩ := m_stand (base := 0) (d := d) hN h5.2.2.2.2.1 h16 hrm (Or.inl rfl) n5 g5 d5 (by simp; omega) (by simp; omega)
            rw [nI_0] at e6
            rw [e5', f_X12_come_193, i5, if_pos (nI_le (Nat.le_refl _) (by omega)), h5.2.2.1, e6, bnd_some]
            dsimp only [st1]
            have f6' : fm (fun o i => 204 ≤ o ∧ o ≤ 208) c5 c6 := f6.mono (fun o i z => by unfold rg at z; omega)
            obtain ⟨c8, e8⟩ : ∃ c8, sI (sI c6 201 7 (nI (comeM ms (b.take k, b.drop k, d)).length)) 201 2 0 = c8 := ⟨_, rfl⟩
            have f8 : fm (fun o i => o = 201 ∧ (i = 7 ∨ i = 2)) c6 c8 := by rw [← e8]; exact (fm.sI (by omega)).tr (fm.sI (by omega))
            have v7 : c8.1 201 7 = nI (comeM ms (b.take k, b.drop k, d)).length := by rw [← e8, sI_j (by decide), sI_s]
            have v02 : c8.1 201 2 = 0 := by rw [← e8, sI_s]
            rw [e8]
            have fa : fm (fun o i => (204 ≤ o ∧ o ≤ 208) ∨ (o = 201 ∧ (i = 7 ∨ i = 2))) c5 c8 := (f6'.mono (fun o i z => Or.inl z)).tr (f8.mono (fun o i z => Or.inr z))
            refine ⟨_, c8, rfl, ?_, fun _ => v7, ?_, (fz.tr (f5'.mono (fun o i z => by omega))).tr (fa.mono (fun o i z => by omega))⟩
            · rw [fa.1 _ _ (by omega), f5'.1 _ _ (by omega)]; exact z4
            · refine h5.sh fa (fun o i z => by omega) ⟨Nat.zero_le _, v02, fun i hi => absurd hi (Nat.not_lt_zero i), fun x hx => by cases hx⟩ v7 l6 (fun i hi => (s6 i hi).fm f8 (fun o j a b => by omega)) (fun x hx => ?_)
              rcases comeM_mem hx with q | q
              · exact h4.2.2.2.2.2 x q
              · rw [q]; exact hnm
          have full : (decide (ms.length < 16) || ms.any fun x => decide (x.1 = b.take k)) = false → MN (f_X12_come_182 N (nI k) (bI d) c4 1) c (cmK b ms (nI k) d) (nI (cmM b ms (nI k) d).length) (cmB b ms (nI k) d) t (cmM b ms (nI k) d) := by
            intro hr
            rw [hr, if_neg (by decide)] at cK
            have eB : cmB b ms (nI k) d = b := by unfold cmB; rw [if_neg (by rw [cK]; decide)]
            have eM : cmM b ms (nI k) d = ms := by unfold cmM; rw [if_neg (by rw [cK]; decide)]
            unfold f_X12_come_182
            rw [m_ref1 z4 (by decide), bnd_some, if_neg (by decide), cK, eB, eM]
            exact m_no h4 fz (by decide) rfl
          have es := m_seek (base := 0) hN h4.2.2.2.2.1 (by omega) n4
          rw [nI_0] at es
          by_cases q16 : ms.length = 16
          · rw [if_pos (show nI ms.length = 16 by rw [q16]; rfl), es, bnd_some]
            rcases fnI_at (t := b.take k) (ms := ms) (i := 0) with ⟨a1, a2⟩ | ⟨p, a1, a2, a3⟩
            · rw [a1, if_neg (by decide)]
              apply full
              rw [decide_eq_false (by omega), Bool.false_or]
              cases z : (ms.any fun x => decide (x.1 = b.take k)) with
              | false => rfl
              | true =>
                obtain ⟨x, hx, q⟩ := List.any_eq_true.mp z
                exact absurd (of_decide_eq_true q) (a2 x hx)
            · rw [a2, if_pos (nI_pos'' (by omega))]
              apply room
              rw [Bool.or_eq_true_iff]
              exact Or.inr (List.any_eq_true.mpr ⟨ms[p], List.getElem_mem a1, decide_eq_true (a3 a1)⟩)
          · rw [if_neg (show ¬ nI ms.length = 16 from fun z => q16 ((nI_eq (b := 16) (by omega) (by decide)).mp z))]
            apply room
            rw [decide_eq_true (by omega), Bool.true_or]
      have g114 : b.length - k ≤ cmL d ∨ (d = false ∧ 400 < b.length - k) → MN (f_X12_come_114 N (nI k) (bI d) c4) c (cmK b ms (nI k) d) (nI (cmM b ms (nI k) d).length) (cmB b ms (nI k) d) t (cmM b ms (nI k) d) := by
        intro hs
        unfold f_X12_come_114
        rw [v16]
        by_cases w : b.length - k ≤ 400
        · rw [if_pos (show nI (b.length - k) ≤ 400 from nI_le (b := 400) w (by decide))]
          rcases hs with q | ⟨_, q⟩
          · exact good q
          · omega
        · rw [if_neg (show ¬ nI (b.length - k) ≤ 400 from nI_ge (a := 400) (by omega) (by omega))]
          apply no1
          rw [cK, if_neg]
          unfold cmL
          split <;> omega
      cases d with
      | false =>
        rw [if_pos (show bI false = 0 from rfl)]
        by_cases w : b.length - k ≤ 400
        · exact g114 (Or.inl w)
        · exact g114 (Or.inr ⟨rfl, by omega⟩)
      | true =>
        rw [if_neg (by decide), v16]
        by_cases w : b.length - k = 0
        · rw [w, if_neg (by decide)]
          exact g114 (Or.inl (by rw [w]; exact Nat.zero_le _))
        · rw [if_pos (show (0 : Int32) < nI (b.length - k) from nI_lt (a := 0) (by omega) (by omega))]
          apply no1
          rw [cK, if_neg]
          unfold cmL
          rw [if_pos rfl]
          omega
  · have hor : n < 0 ∨ b.length < n.toNatClampNeg := by
      unfold keK at k1
      by_cases q : n < 0
      · exact Or.inl q
      · rw [if_neg q] at k1
        by_cases w : b.length < n.toNatClampNeg
        · exact Or.inr w
        · rw [if_neg w] at k1; cases k1
    have cK : cmK b ms n d = 1 := by unfold cmK; rw [if_pos hor]
    have eB : cmB b ms n d = b := by unfold cmB; rw [if_neg (by rw [cK]; decide)]
    have eM : cmM b ms n d = ms := by unfold cmM; rw [if_neg (by rw [cK]; decide)]
    rw [decide_eq_false (by rw [k1]; decide), if_pos (show bI false = 0 from rfl), m_ref1 z1 (by decide), bnd_some, if_neg (by decide), cK, eB, eM]
    exact m_no h1 f1 (by decide) rfl
