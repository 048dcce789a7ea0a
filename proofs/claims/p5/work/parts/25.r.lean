/-! PURE: the reference: kind 2 written whole; write -/
theorem LF_W {m o i : Nat} (h : W1 o i) : LF m o i := by unfold W1 at h; unfold LF PK PQ; omega
theorem m_entry {N m way size hd : Nat} {c : hS} {t : List Nat} {x : Mb} (hN : 1000000 ≤ N) (h : mrw c 4 203 t) (hm : mmb c m x) (hm16 : m < 16) (hl : t.length + 140 ≤ 20000) (h6 : c.1 216 m = nI hd) (h7 : c.1 217 m = nI way) (h8 : c.1 218 m = nI size) (b6 : hd < 2 ^ 31) (b7 : way < 2 ^ 31) (b8' : size < 2 ^ 31) : MP (f_X12_writeEntry N c (nI m)) c t (ent x way size hd) := by
  have hx := hm.1.2.2.1
  have hb := hm.2.1.2.2.1
  have nl := nmS_len hx
  have nw : ∀ o i, o ≠ 203 → o ≠ 201 → ¬ W1 o i := fun o i a b => by unfold W1; omega
  unfold f_X12_writeEntry
  show MP _ c t ([80] ++ ([75] ++ ([1] ++ ([2] ++ (le 20 2 ++ (com x way size ++ (List.replicate 12 0 ++ (le hd 4 ++ nmS x))))))))
  unfold com
  simp only [List.append_assoc]
  refine MP.bnd_ (MP.put h (by omega) rfl) (fun c3 r3 g3 => ?_)
  refine MP.bnd_ (MP.put r3 (by simp; omega) rfl) (fun c4 r4 f4 => ?_)
  refine MP.bnd_ (MP.put r4 (by simp; omega) rfl) (fun c5 r5 f5 => ?_)
  refine MP.bnd_ (MP.put r5 (by simp; omega) rfl) (fun c6 r6 f6 => ?_)
  refine MP.bnd_ (MP.two r6 (by simp; omega) rfl) (fun c7 r7 f7 => ?_)
  refine MP.bnd_ (MP.two r7 (by simp [le_len]; omega) rfl) (fun c8 r8 f8 => ?_)
  refine MP.bnd_ (MP.two r8 (by simp [le_len]; omega) rfl) (fun c9 r9 f9 => ?_)
  have g9 := (((((g3.tr f4).tr f5).tr f6).tr f7).tr f8).tr f9
  rw [j_in_nI (show m < ln 217 from hm16) (by decide), cond_true, nI_clamp (by omega), g9.1 _ _ (nw _ _ (by decide) (by decide)), h7]
  refine MP.bnd_ (MP.two r9 (by simp [le_len]; omega) (u32_n b7)) (fun c10 r10 f10 => ?_)
  refine MP.bnd_ (MP.two r10 (by simp [le_len]; omega) rfl) (fun c11 r11 f11 => ?_)
  refine MP.bnd_ (MP.two r11 (by simp [le_len]; omega) rfl) (fun c12 r12 f12 => ?_)
  have g12 := ((g9.tr f10).tr f11).tr f12
  rw [m_checkOf hN (mmbW hm g12) (by omega), bnd_some]
  refine MP.bnd_ (MP.four r12 (by simp [le_len]; omega) rfl) (fun c13 r13 f13 => ?_)
  have g13 := g12.tr f13
  rw [j_in_nI (show m < ln 218 from hm16) (by decide), cond_true, g13.1 _ _ (nw _ _ (by decide) (by decide)), h8]
  refine MP.bnd_ (MP.four r13 (by simp [le_len]; omega) (u32_n b8')) (fun c14 r14 f14 => ?_)
  have g14 := g13.tr f14
  rw [j_in_nI (show m < ln 206 from (by show m < 34; omega)) (by decide), cond_true, (mmbW hm g14).2.1.1]
  refine MP.bnd_ (MP.four r14 (by simp [le_len]; omega) (u32_n (by omega))) (fun c15 r15 f15 => ?_)
  rw [m_namedSize (mmbW hm (g14.tr f15)) (by omega), bnd_some]
  refine MP.bnd_ (MP.two r15 (by simp [le_len]; omega) (u32_n (by omega))) (fun c18 r18 f18 => ?_)
  have g18 := (g14.tr f15).tr f18
  obtain ⟨n, hn⟩ : ∃ n, N = n + 5 := ⟨N - 5, by omega⟩
  have run : MP (f_X12_writeEntry_100 N (nI m) (n + 5) c18 0) c18 (t ++ [80] ++ [75] ++ [1] ++ [2] ++ le 20 2 ++ le 20 2 ++ le 0 2 ++ le way 2 ++ le 0 2 ++ le 33 2 ++ le (u32 (crc x.2.1)) 4 ++ le size 4 ++ le x.2.1.length 4 ++ le (nmS x).length 2) (List.replicate 12 0 ++ (le hd 4 ++ nmS x)) := by
    rw [show List.replicate 12 0 ++ (le hd 4 ++ nmS x) = le 0 2 ++ (le 0 2 ++ (le 0 2 ++ (le 0 2 ++ (le 0 4 ++ (le hd 4 ++ nmS x))))) from rfl]
    rw [f_X12_writeEntry_100, if_neg (by decide)]
    refine MP.bnd_ (MP.two r18 (by simp [le_len]; omega) rfl) (fun c19 r19 f19 => ?_)
    rw [f_X12_writeEntry_100, if_neg (by decide)]
    refine MP.bnd_ (MP.two r19 (by simp [le_len]; omega) rfl) (fun c20 r20 f20 => ?_)
    rw [f_X12_writeEntry_100, if_neg (by decide)]
    refine MP.bnd_ (MP.two r20 (by simp [le_len]; omega) rfl) (fun c21 r21 f21 => ?_)
    rw [f_X12_writeEntry_100, if_neg (by decide)]
    refine MP.bnd_ (MP.two r21 (by simp [le_len]; omega) rfl) (fun c22 r22 f22 => ?_)
    rw [f_X12_writeEntry_100, if_pos (by decide)]
    refine MP.bnd_ (MP.four r22 (by simp [le_len]; omega) rfl) (fun c23 r23 f23 => ?_)
    have g23 := ((((g18.tr f19).tr f20).tr f21).tr f22).tr f23
    rw [j_in_nI (show m < ln 216 from hm16) (by decide), cond_true, nI_clamp (by omega), g23.1 _ _ (nw _ _ (by decide) (by decide)), h6]
    refine MP.bnd_ (MP.four r23 (by simp [le_len]; omega) (u32_n b6)) (fun c24 r24 f24 => ?_)
    exact MP.last_ (MP.name1 hN r24 (mmbW hm (g23.tr f24)) (by omega) (by simp [le_len]; omega))
  rw [← hn] at run
  exact run
theorem fl_take {pk : Bool} {ms : List Mb} {i : Nat} (h : i < ms.length) : ((ms.take (i + 1)).flatMap (lo2 pk)) = (ms.take i).flatMap (lo2 pk) ++ lo2 pk ms[i] := by
  rw [List.take_succ_eq_append_getElem h, List.flatMap_append]
  simp
theorem m_write2 {N : Nat} {c : hS} {ms : List Mb} {pk : Bool} (hN : 1000000 ≤ N) (h : mrw c 4 203 []) (hs : msh c 0 ms) (h7 : c.1 201 7 = nI ms.length) (h16 : ms.length ≤ 16) : ∃ c', f_X12_writeDirectory N c (bI pk) = some ((), c') ∧ mrw c' 4 203 (w2 pk ms) ∧ fm (fun o i => PK o i ∨ o = 215 ∨ (o = 201 ∧ i = 32) ∨ o = 216 ∨ o = 217 ∨ o = 218) c c' := by
  have ll : ∀ i (hi : i < ms.length), (lo2 pk ms[i]).length ≤ 925 := fun i hi => by
    have a := (hs i hi).1.2.2.1
    have b := (hs i hi).2.1.2.2.1
    have := nmS_len a
    have := dat_len (pk := pk) b
    rw [lo2_len]
    omega
  -- what entries need of the locals
  have LFn : ∀ {m o i : Nat}, LF m o i → PK o i ∨ o = 215 ∨ (o = 201 ∧ i = 32) ∨ ((o = 216 ∨ o = 217 ∨ o = 218) ∧ i = m) := fun z => z
  have PKn : ∀ {o i : Nat}, PK o i → o = 203 ∨ (o = 201 ∧ (i = 4 ∨ i = 30 ∨ i = 33 ∨ i = 34 ∨ i = 35)) ∨ o = 212 ∨ o = 213 := fun z => by unfold PK PQ at z; omega
  have ents_run : ∀ d n i c t, i + d = ms.length → d < n → msh c 0 ms → c.1 201 7 = nI ms.length → mrw c 4 203 t → t.length ≤ 925 * ms.length + 137 * i → (∀ j (hj : j < ms.length), c.1 216 j = nI ((ms.take j).flatMap (lo2 pk)).length ∧ c.1 217 j = nI (way2 pk ms[j]) ∧ c.1 218 j = nI (dat pk ms[j]).length) → (∀ j, j ≤ ms.length → ((ms.take j).flatMap (lo2 pk)).length ≤ 925 * j) → ((ms.flatMap (lo2 pk)).length + (ents pk ms 0).length = t.length + (ents pk (ms.drop i) ((ms.take i).flatMap (lo2 pk)).length).length) → MP (f_X12_writeDirectory_29 N (bI pk) n c (nI (ms.flatMap (lo2 pk)).length) (nI i)) c t (ents pk (ms.drop i) ((ms.take i).flatMap (lo2 pk)).length ++ end2 ms.length (ms.flatMap (lo2 pk)).length (ents pk ms 0).length) := by
    intro d
    induction d with
    | zero =>
      intro n i c t hi hn hs h7 h hl hv hb hsum
      obtain ⟨n, rfl⟩ : ∃ m, n = m + 1 := ⟨n - 1, by omega⟩
      have nw7 : ∀ {c1 c2 : hS}, fm W1 c1 c2 → c2.1 201 7 = c1.1 201 7 := fun f => f.1 _ _ (nW1 (by decide) (fun _ => by decide))
      have ml := hb ms.length (Nat.le_refl _)
      rw [List.take_length] at ml
      rw [List.drop_eq_nil_of_le (by omega)] at hsum ⊢
      have et : t.length = (ms.flatMap (lo2 pk)).length + (ents pk ms 0).length := by
        have : (ents pk [] ((ms.take i).flatMap (lo2 pk)).length).length = 0 := rfl
        omega
      rw [f_X12_writeDirectory_29, h7, if_pos (nI_le (by omega) (by omega))]
      show MP _ c t ([80] ++ ([75] ++ ([5] ++ ([6] ++ (le 0 2 ++ (le 0 2 ++ (le ms.length 2 ++ (le ms.length 2 ++ (le (ents pk ms 0).length 4 ++ (le (ms.flatMap (lo2 pk)).length 4 ++ le 0 2))))))))))
      refine MP.bnd_ (MP.put h (by omega) rfl) (fun c3 r3 f3 => ?_)
      refine MP.bnd_ (MP.put r3 (by simp; omega) rfl) (fun c4 r4 f4 => ?_)
      refine MP.bnd_ (MP.put r4 (by simp; omega) rfl) (fun c5 r5 f5 => ?_)
      refine MP.bnd_ (MP.put r5 (by simp; omega) rfl) (fun c6 r6 f6 => ?_)
      refine MP.bnd_ (MP.two r6 (by simp; omega) rfl) (fun c7 r7 f7 => ?_)
      refine MP.bnd_ (MP.two r7 (by simp [le_len]; omega) rfl) (fun c8 r8 f8 => ?_)
      have e8 : c8.1 201 7 = nI ms.length := by rw [nw7 f8, nw7 f7, nw7 f6, nw7 f5, nw7 f4, nw7 f3, h7]
      rw [e8]
      refine MP.bnd_ (MP.two r8 (by simp [le_len]; omega) (u32_n (by omega))) (fun c9 r9 f9 => ?_)
      rw [nw7 f9, e8]
      refine MP.bnd_ (MP.two r9 (by simp [le_len]; omega) (u32_n (by omega))) (fun c10 r10 f10 => ?_)
      refine MP.bnd_ (MP.four (v := (ents pk ms 0).length) r10 (by simp [le_len]; omega) ?_) (fun c11 r11 f11 => ?_)
      · rw [h.2.1, subI (by omega), show t.length - (ms.flatMap (lo2 pk)).length = (ents pk ms 0).length by omega]
        exact u32_n (by omega)
      refine MP.bnd_ (MP.four r11 (by simp [le_len]; omega) (u32_n (by omega))) (fun c12 r12 f12 => ?_)
      exact MP.last_ (MP.two r12 (by simp [le_len]; omega) rfl)
    | succ d ih =>
      intro n i c t hi hn hs h7 h hl hv hb hsum
      obtain ⟨n, rfl⟩ : ∃ m, n = m + 1 := ⟨n - 1, by omega⟩
      have hil : i < ms.length := by omega
      have hm := hs i hil
      rw [Nat.zero_add] at hm
      have nl := nmS_len hm.1.2.2.1
      obtain ⟨v6, v7, v8⟩ := hv i hil
      have bi := hb i (by omega)
      have dl := dat_len (pk := pk) hm.2.1.2.2.1
      have wl : way2 pk ms[i] ≤ 8 := by unfold way2; split <;> decide
      rw [f_X12_writeDirectory_29, h7, if_neg (nI_ge hil (by omega))]
      have ed : ents pk (ms.drop i) ((ms.take i).flatMap (lo2 pk)).length = ent ms[i] (way2 pk ms[i]) (dat pk ms[i]).length ((ms.take i).flatMap (lo2 pk)).length ++ ents pk (ms.drop (i + 1)) ((ms.take (i + 1)).flatMap (lo2 pk)).length := by
        rw [List.drop_eq_getElem_cons hil, fl_take hil, List.length_append]
        rfl
      rw [ed] at hsum ⊢
      rw [List.append_assoc]
      have el := ent_len ms[i] (way2 pk ms[i]) (dat pk ms[i]).length ((ms.take i).flatMap (lo2 pk)).length
      refine MP.bnd_ (m_entry hN h hm (by omega) (by omega) v6 v7 v8 (by omega) (by omega) (by omega)) (fun c12 r12 f12 => ?_)
      have nw : ∀ o i, o ≠ 203 → o ≠ 201 → ¬ W1 o i := fun o i a b => by unfold W1; omega
      rw [nI_1]
      refine ih n (i + 1) c12 _ (by omega) (by omega) (fun j hj => mmbW (hs j hj) f12) ((f12.1 _ _ (nW1 (by decide) (fun _ => by decide))).trans h7) r12 (by rw [List.length_append, el]; omega) (fun j hj => ?_) hb (by rw [List.length_append] at hsum ⊢; omega)
      rw [f12.1 _ _ (nw _ _ (by decide) (by decide)), f12.1 _ _ (nw _ _ (by decide) (by decide)), f12.1 _ _ (nw _ _ (by decide) (by decide))]
      exact hv j hj
  have hb : ∀ j, j ≤ ms.length → ((ms.take j).flatMap (lo2 pk)).length ≤ 925 * j := by
    intro j
    induction j with
    | zero => intro _; simp
    | succ j ih =>
      intro hj
      rw [fl_take (by omega), List.length_append]
      have := ih (by omega)
      have := ll j (by omega)
      omega
  have locs : ∀ d n i c, i + d = ms.length → d < n → msh c 0 ms → c.1 201 7 = nI ms.length → mrw c 4 203 ((ms.take i).flatMap (lo2 pk)) → (∀ j (hj : j < ms.length), j < i → c.1 216 j = nI ((ms.take j).flatMap (lo2 pk)).length ∧ c.1 217 j = nI (way2 pk ms[j]) ∧ c.1 218 j = nI (dat pk ms[j]).length) → ∃ c', f_X12_writeDirectory_2 N (bI pk) n c (nI i) = some ((), c') ∧ mrw c' 4 203 (w2 pk ms) ∧ fm (fun o i => PK o i ∨ o = 215 ∨ (o = 201 ∧ i = 32) ∨ o = 216 ∨ o = 217 ∨ o = 218) c c' := by
    intro d
    induction d with
    | zero =>
      intro n i c hi hn hs h7 h hv
      obtain ⟨n, rfl⟩ : ∃ m, n = m + 1 := ⟨n - 1, by omega⟩
      have ei : i = ms.length := by omega
      subst ei
      rw [List.take_length] at h
      have ml := hb ms.length (Nat.le_refl _)
      rw [List.take_length] at ml
      rw [f_X12_writeDirectory_2, h7, if_pos (nI_le (Nat.le_refl _) (by omega)), h.2.1]
      obtain ⟨c', e', r', f'⟩ := ents_run ms.length N 0 c _ (by omega) (by omega) hs h7 h (by omega) (fun j hj => hv j hj hj) hb (by simp)
      refine ⟨c', e', ?_, f'.mono (fun o i z => by unfold W1 at z; unfold PK PQ; omega)⟩
      unfold w2
      simpa using r'
    | succ d ih =>
      intro n i c hi hn hs h7 h hv
      obtain ⟨n, rfl⟩ : ∃ m, n = m + 1 := ⟨n - 1, by omega⟩
      have hil : i < ms.length := by omega
      have hm := hs i hil
      rw [Nat.zero_add] at hm
      have bi := hb i (by omega)
      obtain ⟨c1, e1, r1, v1, f1⟩ := m_local (pk := pk) hN h hm (by omega) (by omega)
      have f1' : fm (fun o j => o = 203 ∨ (o = 201 ∧ (j = 4 ∨ 30 ≤ j)) ∨ o = 212 ∨ o = 213 ∨ o = 215 ∨ ((o = 216 ∨ o = 217 ∨ o = 218) ∧ j = i)) c c1 := f1.mono (fun o j z => by
        rcases LFn z with q | q | q | q
        · have := PKn q; omega
        · omega
        · omega
        · omega)
      rw [← fl_take hil] at r1
      obtain ⟨c', e', r', f'⟩ := ih n (i + 1) c1 (by omega) (by omega) (fun j hj => (hs j hj).fm f1' (fun o k a b => by omega)) ((f1'.1 _ _ (by omega)).trans h7) r1 (fun j hj hji => by
        by_cases q : j = i
        · subst q; exact v1
        · rw [f1'.1 _ _ (by omega), f1'.1 _ _ (by omega), f1'.1 _ _ (by omega)]
          exact hv j hj (by omega))
      rw [f_X12_writeDirectory_2, h7, if_neg (nI_ge hil (by omega)), e1, bnd_some, nI_1]
      refine ⟨c', e', r', (f1.mono (fun o j z => ?_)).tr f'⟩
      rcases LFn z with q | q | q | q
      · exact Or.inl q
      · exact Or.inr (Or.inl q)
      · exact Or.inr (Or.inr (Or.inl q))
      · exact Or.inr (Or.inr (Or.inr (by omega)))
  exact locs ms.length N 0 c (by omega) (by omega) hs h7 h (fun j hj a => by omega)
theorem in_02 {w : Int32} : (decide ((0 : Int32) ≤ w) && decide (w ≤ 2)) = decide (w = 0 ∨ w = 1 ∨ w = 2) := by
  rcases i_cases w with q | ⟨k, hk, rfl⟩
  · rw [decide_eq_false (Int32.not_le.mpr q), Bool.false_and, eq_comm, decide_eq_false_iff_not]
    rintro (z | z | z) <;> (rw [z] at q; exact absurd q (by decide))
  · rw [decide_eq_true (Int32.not_lt.mp (nI_pos hk)), Bool.true_and]
    by_cases k2 : k ≤ 2
    · rw [decide_eq_true (show nI k ≤ 2 from nI_le (b := 2) k2 (by decide))]
      exact ((by decide : ∀ k, k ≤ 2 → true = decide (nI k = 0 ∨ nI k = 1 ∨ nI k = 2)) k k2)
    · rw [decide_eq_false (show ¬ nI k ≤ 2 from nI_ge (show 2 < k by omega) hk), eq_comm, decide_eq_false_iff_not]
      rintro (z | z | z)
      · have := (nI_eq hk (show 0 < 2 ^ 31 by decide)).mp z; omega
      · have := (nI_eq hk (show 1 < 2 ^ 31 by decide)).mp z; omega
      · have := (nI_eq hk (show 2 < 2 ^ 31 by decide)).mp z; omega
theorem m_write {N : Nat} {c : hS} {b t : List Nat} {ms : List Mb} {w : Int32} {pk : Bool} (hN : 1000000 ≤ N) (h : PM c b t ms) : MN (f_X12_write N c w (bI pk)) c (wrK w) (nI (wrT t ms w pk).length) b (wrT t ms w pk) ms := by
  obtain ⟨c1, e1, h1, z1, f1⟩ := m_zero h
  have h16 := h.2.2.2.1
  unfold f_X12_write wrK wrT
  rw [e1]
  dsimp only [st1]
  rw [m_in (a := 0) (b := 2) (a' := 0) (b' := 2) (by decide) (by decide), bnd_some, in_02]
  unfold f_X12_write_23
  by_cases o : w = 0 ∨ w = 1 ∨ w = 2
  · rw [decide_eq_true o, if_neg (by decide), if_pos o, m_ref0 z1, bnd_some, if_pos rfl]
    dsimp only [st1]
    have f2 : fm (fun o i => o = 201 ∧ i = 4) c1 (sI c1 201 4 0) := fm.sI ⟨rfl, rfl⟩
    have t2 : mrw (sI c1 201 4 0) 4 203 [] := ⟨Nat.zero_le _, sI_s _ _ _ _, fun i hi => absurd hi (Nat.not_lt_zero i), fun x hx => by cases hx⟩
    have h2 := h1.tp f2 (fun o i z => by omega) t2
    have z2 : (sI c1 201 4 0).1 201 0 = 0 := (f2.1 _ _ (by omega)).trans z1
    have fz : fm (fun o _ => 201 ≤ o ∧ o < 219) c (sI c1 201 4 0) := f1.tr (f2.mono (fun o i z => by omega))
    revert h2 z2 fz t2
    generalize sI c1 201 4 0 = c2
    intro t2 h2 z2 fz
    by_cases w0 : w = 0
    · rw [if_pos w0, if_pos w0]
      have key : ∀ d n i c t', i + d = ms.length → d < n → PM c b t' ms → c.1 201 0 = 0 → t'.length ≤ 1024 * i → t'.length % 512 = 0 → ∃ c', f_X12_write_43 N w (bI pk) n c (nI i) = some (nI (t' ++ ((ms.drop i).flatMap out0 ++ List.replicate 1024 0)).length, c') ∧ c'.1 201 0 = 0 ∧ PM c' b (t' ++ ((ms.drop i).flatMap out0 ++ List.replicate 1024 0)) ms ∧ fm (fun o _ => 201 ≤ o ∧ o < 219) c c' := by
        intro d
        induction d with
        | zero =>
          intro n i c t' hi hn hc hz hl hm
          obtain ⟨n, rfl⟩ : ∃ m, n = m + 1 := ⟨n - 1, by omega⟩
          obtain ⟨c3, e3, r3, f3⟩ := MP.zeros (m := 1024) (x := nI t'.length + 1024) hN hc.2.1 (by omega) (nI_add _ 1024)
          rw [f_X12_write_43, hc.2.2.1, if_pos (nI_le (by omega) (by omega)), hc.2.1.2.1, e3, bnd_some, List.drop_eq_nil_of_le (by omega), r3.2.1]
          refine ⟨c3, rfl, (f3.1 _ _ (nW1 (by decide) (fun _ => by decide))).trans hz, hc.tp f3 (fun o i z => by unfold W1 at z; omega) r3, f3.mono (fun o i z => by unfold W1 at z; omega)⟩
        | succ d ih =>
          intro n i c t' hi hn hc hz hl hm
          obtain ⟨n, rfl⟩ : ∃ m, n = m + 1 := ⟨n - 1, by omega⟩
          have hil : i < ms.length := by omega
          have hmi := hc.2.2.2.2.1 i hil
          rw [Nat.zero_add] at hmi
          have ol := out0_len hmi.1.2.2.1 hmi.2.1.2.2.1
          have om := out0_md hmi.1.2.2.1 hmi.2.1.2.2.1
          obtain ⟨c3, e3, r3, f3⟩ := m_writeBlock hN hc.2.1 hmi (by omega) (by omega) hm
          obtain ⟨c', a1, a2, a3, a4⟩ := ih n (i + 1) c3 _ (by omega) (by omega) (hc.tp f3 (fun o i z => by unfold W1 at z; omega) r3) ((f3.1 _ _ (nW1 (by decide) (fun _ => by decide))).trans hz) (by rw [List.length_append]; omega) (by rw [List.length_append]; omega)
          rw [f_X12_write_43, hc.2.2.1, if_neg (nI_ge hil (by omega)), e3, bnd_some, nI_1, a1]
          have ea : t' ++ out0 ms[i] ++ ((ms.drop (i + 1)).flatMap out0 ++ List.replicate 1024 0) = t' ++ ((ms.drop i).flatMap out0 ++ List.replicate 1024 0) := by
            rw [List.drop_eq_getElem_cons hil, List.flatMap_cons]
            simp only [List.append_assoc]
          rw [ea] at a3 ⊢
          exact ⟨c', rfl, a2, a3, (f3.mono (fun o i z => by unfold W1 at z; omega)).tr a4⟩
      obtain ⟨c', a1, a2, a3, a4⟩ := key ms.length N 0 c2 [] (by omega) (by omega) h2 z2 (by simp) rfl
      exact ⟨_, c', a1, a2, fun _ => rfl, a3, fz.tr a4⟩
    · rw [if_neg w0, if_neg w0]
      by_cases w1' : w = 1
      · rw [if_pos w1', if_pos w1']
        obtain ⟨c3, e3, r3, f3⟩ := m_write1 hN t2 h2.2.2.2.2.1 h2.2.2.1 h16
        rw [List.nil_append] at r3
        rw [e3, bnd_some, r3.2.1]
        exact ⟨_, c3, rfl, (f3.1 _ _ (nW1 (by decide) (fun _ => by decide))).trans z2, fun _ => rfl, h2.tp f3 (fun o i z => by unfold W1 at z; omega) r3, fz.tr (f3.mono (fun o i z => by unfold W1 at z; omega))⟩
      · have w2' : w = 2 := by rcases o with q | q | q; exact absurd q w0; exact absurd q w1'; exact q
        rw [if_neg w1', if_neg w1', if_pos w2']
        obtain ⟨c3, e3, r3, f3⟩ := m_write2 (pk := pk) hN t2 h2.2.2.2.2.1 h2.2.2.1 h16
        have f3' : fm (fun o i => o = 203 ∨ (o = 201 ∧ (i = 4 ∨ 30 ≤ i)) ∨ (208 < o ∧ o < 219)) c2 c3 := f3.mono (fun o i z => by unfold PK PQ at z; omega)
        rw [e3, bnd_some, r3.2.1]
        exact ⟨_, c3, rfl, (f3'.1 _ _ (by omega)).trans z2, fun _ => rfl, h2.tp f3' (fun o i z => by omega) r3, fz.tr (f3'.mono (fun o i z => by omega))⟩
  · have o0 : ¬ w = 0 := fun z => o (Or.inl z)
    have o1 : ¬ w = 1 := fun z => o (Or.inr (Or.inl z))
    have o2 : ¬ w = 2 := fun z => o (Or.inr (Or.inr z))
    rw [decide_eq_false o, if_pos (show bI false = 0 from rfl), if_neg o, if_neg o0, if_neg o1, if_neg o2, m_ref1 z1 (by decide), bnd_some, if_neg (by decide)]
    exact m_no h1 f1 (by decide) rfl
