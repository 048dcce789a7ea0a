/-! PURE: the reference: kind, child -/
theorem eq_299 {x b : List Nat} (hx : x.length ≤ 90) : (x = b.take 299) ↔ (x = b) := by
  by_cases w : b.length ≤ 299
  · rw [List.take_of_length_le w]
  · constructor
    · intro z; have := congrArg List.length z; simp at this; omega
    · intro z; have := congrArg List.length z; omega
theorem und_299 {x b : List Nat} (hx : x.length ≤ 90) : und x (b.take 299) = und x b := by
  by_cases w : b.length ≤ 299
  · rw [List.take_of_length_le w]
  · unfold und
    rw [decide_eq_false (show ¬ (b.take 299).length + 1 < x.length by simp; omega), decide_eq_false (show ¬ b.length + 1 < x.length by omega)]
    rfl
theorem m_takePath {N : Nat} {c : hS} {b t : List Nat} {ms : List Mb} (hN : 1000000 ≤ N) (h : PM c b t ms) : ∃ c', f_X12_takePath N c = some ((), c') ∧ mrw c' 14 209 (b.take 299) ∧ fm (fun o i => (o = 201 ∧ i = 14) ∨ o = 209) c c' := by
  have hbl : b.length ≤ 512 := h.1.1
  unfold f_X12_takePath
  rw [h.1.2.1, min_I h.1.lt]
  obtain ⟨j, hj⟩ : ∃ j, min b.length 299 = j := ⟨_, rfl⟩
  rw [hj]
  obtain ⟨c2, e2⟩ : ∃ c2, sI c 201 14 (nI j) = c2 := ⟨_, rfl⟩
  rw [e2]
  have f2 : fm (fun o i => o = 201 ∧ i = 14) c c2 := by rw [← e2]; exact fm.sI ⟨rfl, rfl⟩
  have v2 : c2.1 201 14 = nI j := by rw [← e2, sI_s]
  obtain ⟨c3, e3, i3, w3, f3⟩ := cp_loop (F := f_X12_takePath_26 N) (X := fun c => some ((), c)) (o := 209) (o' := 202) (a := 0) (b := 0) (len := j) (fun c => c.1 201 14 = nI j) (fun c i x q => by rw [sI_o (by decide)]; exact q) (fun n c i hi q => by
    rw [f_X12_takePath_26, q, if_neg (nI_ge hi (by omega)), j_in_nI (show i < ln 202 from (by show i < 512; omega)) (by decide), cond_true, j_in_nI (show i < ln 209 from (by show i < 300; omega)) (by decide), cond_true, nI_clamp (by omega), Nat.zero_add]
    rfl) (fun n c q => by rw [f_X12_takePath_26, q, if_pos (nI_le (Nat.le_refl _) (by omega))]) (by omega) j N c2 0 (by omega) (by omega) v2
  refine ⟨c3, e3, ?_, (f2.mono (fun o i z => Or.inl z)).tr (f3.mono (fun o i z => Or.inr z.1))⟩
  have := mrw.cp (c := c2) (c' := c3) (j := 14) (o := 209) (o' := 202) (a := 0) (len := j) (l := b) (by omega) (fun i hi => (f2.1 _ _ (by omega)).trans (h.1.2.2.1 i hi)) w3 i3 (show j ≤ 300 by omega) h.1.2.2.2
  rw [List.drop_zero, ← hj] at this
  rwa [show b.take (min b.length 299) = b.take 299 by rw [Nat.min_comm, ← List.take_take, List.take_length]] at this
theorem fnI_299 {b : List Nat} : ∀ {ms : List Mb} {i : Nat}, (∀ x ∈ ms, x.1.length ≤ 90) → fnI (b.take 299) ms i = fnI b ms i
  | [], _, _ => rfl
  | x :: r, i, h => by
    have h1 := eq_299 (b := b) (h x (List.mem_cons_self ..))
    unfold fnI
    rw [fnI_299 (fun y hy => h y (List.mem_cons_of_mem _ hy))]
    by_cases q : x.1 = b
    · rw [if_pos q, if_pos (h1.mpr q)]
    · rw [if_neg q, if_neg (fun z => q (h1.mp z))]
theorem PM.l90 {c : hS} {b t : List Nat} {ms : List Mb} (h : PM c b t ms) : ∀ x ∈ ms, x.1.length ≤ 90 := fun x hx => nameB_90 (h.2.2.2.2.2 x hx)
theorem m_kind {N : Nat} {c : hS} {b t : List Nat} {ms : List Mb} (hN : 1000000 ≤ N) (h : PM c b t ms) : MN (f_X12_kind N c) c 0 (kiV b ms) b t ms := by
  obtain ⟨c1, e1, h1, z1, f1⟩ := m_zero h
  have h16 := h.2.2.2.1
  unfold f_X12_kind kiV
  rw [e1]
  dsimp only [st1]
  obtain ⟨c2, e2, n2, f2⟩ := m_takePath hN h1
  have h2 := h1.mv f2 (fun o i z => by omega)
  have z2 : c2.1 201 0 = 0 := (f2.1 _ _ (by omega)).trans z1
  have fz : fm (fun o _ => 201 ≤ o ∧ o < 219) c c2 := f1.tr (f2.mono (fun o i z => by omega))
  rw [e2, bnd_some, h2.1.2.1]
  by_cases b0 : b.length = 0
  · rw [if_pos (by rw [b0]; rfl), if_pos b0]
    exact ⟨_, c2, rfl, z2, fun _ => rfl, h2, fz⟩
  · have es := m_seek (base := 0) hN h2.2.2.2.2.1 (by omega) n2
    rw [nI_0, fnI_299 h2.l90] at es
    rw [if_neg (nI_ne0 (by omega) h2.1.lt), if_neg b0, h2.2.2.1, es, bnd_some]
    rcases fnI_fi (t := b) (ms := ms) (i := 0) with ⟨a1, a2⟩ | ⟨k, hk, a1, a2⟩
    · rw [a1, a2, if_pos (by decide)]
      have key : ∀ d n i, i + d = ms.length → d < n → f_X12_kind_49 N n c2 (nI i) = some (bI ((ms.drop i).any fun x => lu x.1 b), c2) := by
        intro d
        induction d with
        | zero =>
          intro n i hi hn
          obtain ⟨n, rfl⟩ : ∃ m, n = m + 1 := ⟨n - 1, by omega⟩
          rw [f_X12_kind_49, h2.2.2.1, if_pos (nI_le (by omega) (by omega)), List.drop_eq_nil_of_le (by omega)]
          rfl
        | succ d ih =>
          intro n i hi hn'
          obtain ⟨n, rfl⟩ : ∃ m, n = m + 1 := ⟨n - 1, by omega⟩
          have hil : i < ms.length := by omega
          have hm := h2.2.2.2.2.1 i hil
          rw [Nat.zero_add] at hm
          rw [f_X12_kind_49, h2.2.2.1, if_neg (nI_ge hil (by omega)), m_isUnderNew hN hm (by omega) n2, bnd_some, und_299 hm.1.2.2.1, List.drop_eq_getElem_cons hil, List.any_cons, lu_und b0]
          cases und ms[i].1 b with
          | true => rw [if_neg (by decide)]; rfl
          | false =>
            rw [if_pos (show bI false = 0 from rfl), nI_1, Bool.false_or]
            exact ih n (i + 1) (by omega) (by omega)
      exact ⟨_, c2, key ms.length N 0 (by omega) (by omega), z2, fun _ => rfl, h2, fz⟩
    · have hm := h2.2.2.2.2.1 k hk
      rw [Nat.zero_add] at hm a1
      rw [a1, a2, if_neg (nI_pos (by omega)), j_in_nI (show k < ln 208 from (by show k < 34; omega)) (by decide), cond_true, nI_clamp (by omega), hm.2.2]
      dsimp only
      cases ms[k].2.2 with
      | true => rw [if_neg (by decide), if_pos rfl]; exact ⟨_, c2, rfl, z2, fun _ => rfl, h2, fz⟩
      | false => rw [if_pos (show bI false = 0 from rfl), if_neg (by decide)]; exact ⟨_, c2, rfl, z2, fun _ => rfl, h2, fz⟩
theorem part_0 {x : List Nat} {j : Nat} (h : x.length ≤ j ∨ gt x j = 47) : part x j = [] := by
  unfold part
  rcases Nat.lt_or_ge j x.length with q | q
  · rcases h with w | w
    · omega
    · rw [List.drop_eq_getElem_cons q, List.takeWhile_cons_of_neg]
      rw [gt_lt q] at w
      simp [w]
  · rw [List.drop_eq_nil_of_le q]; rfl
theorem part_s {x : List Nat} {j : Nat} (h : j < x.length) (h2 : gt x j ≠ 47) : part x j = gt x j :: part x (j + 1) := by
  unfold part
  rw [gt_lt h] at h2
  rw [List.drop_eq_getElem_cons h, List.takeWhile_cons_of_pos (by simp [h2]), gt_lt h]
theorem nmB_bg {l : List Nat} (h : nmB l 0 true = true) : l ≠ [] ∧ gt l 0 ≠ 47 := by
  cases l with
  | nil => exact absurd h (by decide)
  | cons x r =>
    refine ⟨by simp, fun z => ?_⟩
    have z : x = 47 := z
    unfold nmB at h
    rw [if_pos z] at h
    simp at h
theorem nmB_sl : ∀ {l : List Nat} {n : Nat} {d : Bool} {i : Nat}, nmB l n d = true → i < l.length → gt l i = 47 → nmB (l.drop (i + 1)) 0 true = true
  | [], _, _, i, _, h, _ => absurd h (Nat.not_lt_zero i)
  | x :: r, n, d, 0, h, _, e => by
    have e : x = 47 := e
    unfold nmB at h
    rw [if_pos e] at h
    rw [Bool.and_eq_true] at h
    exact h.2
  | x :: r, n, d, i + 1, h, hi, e => by
    have e : gt r i = 47 := e
    have hi : i < r.length := by simpa using hi
    unfold nmB at h
    rw [List.drop_succ_cons]
    by_cases q : x = 47
    · rw [if_pos q, Bool.and_eq_true] at h
      exact nmB_sl h.2 hi e
    · rw [if_neg q, Bool.and_eq_true] at h
      exact nmB_sl h.2 hi e
theorem part_pos {x b : List Nat} (hx : nameB x = true) (h : lu x b = true) : 0 < (part x (pbh b)).length := by
  have hn : nmB x 0 true = true := by unfold nameB at hx; rw [Bool.and_eq_true] at hx; exact hx.2
  have go : ∀ j, nmB (x.drop j) 0 true = true → 0 < (part x j).length := fun j hj => by
    obtain ⟨a1, a2⟩ := nmB_bg hj
    have jl : j < x.length := by
      rcases Nat.lt_or_ge j x.length with q | q
      · exact q
      · exact absurd (List.drop_eq_nil_of_le q) a1
    rw [gt_drop, Nat.add_zero] at a2
    rw [part_s jl a2]
    simp
  unfold pbh
  split
  · exact go 0 (by rw [List.drop_zero]; exact hn)
  · rename_i q
    unfold lu und at h
    rw [decide_eq_false q, Bool.false_or] at h
    simp only [Bool.and_eq_true, decide_eq_true_eq] at h
    exact go _ (nmB_sl hn (by omega) h.1.2)
theorem m_findPart {N m : Nat} {c : hS} {x : Mb} {b : List Nat} (hN : 1000000 ≤ N) (h : mmb c m x) (hm : m < 34) (hn : mrw c 14 209 (b.take 299)) : ∃ c', f_X12_findPart N c (nI m) = some ((), c') ∧ (if lu x.1 b = true then c'.1 201 19 = nI (pbh b) ∧ c'.1 201 20 = nI (part x.1 (pbh b)).length else c'.1 201 20 = 0) ∧ fm (fun o i => o = 201 ∧ (i = 19 ∨ i = 20)) c c' := by
  have hx := h.1.2.2.1
  have hP : ∀ {P : Nat → Nat → Prop} {c c1 : hS}, (∀ o i, P o i → o = 201 ∧ (i = 19 ∨ i = 20)) → mmb c m x → fm P c c1 → mmb c1 m x := fun hP h hf => h.fm hf (fun o i a b z => by have := hP o i z; omega)
  have key : ∀ d n p s c, p + s + d = x.1.length → d < n → mmb c m x → c.1 201 19 = nI p → c.1 201 20 = nI s → ∃ c', f_X12_findPart_42 N (nI m) n c = some ((), c') ∧ c'.1 201 19 = nI p ∧ c'.1 201 20 = nI (s + (part x.1 (p + s)).length) ∧ fm (fun o i => o = 201 ∧ (i = 19 ∨ i = 20)) c c' := by
    intro d
    induction d with
    | zero =>
      intro n p s c hps hn' hc h19 h20
      obtain ⟨n, rfl⟩ : ∃ m, n = m + 1 := ⟨n - 1, by omega⟩
      rw [f_X12_findPart_42, j_in_nI (show m < ln 204 from hm) (by decide), cond_true, nI_clamp (by omega), hc.1.1, h19, h20, nI_add, if_pos (nI_le (by omega) (by omega)), part_0 (Or.inl (by omega))]
      exact ⟨c, rfl, h19, h20, fm.rf⟩
    | succ d ih =>
      intro n p s c hps hn' hc h19 h20
      obtain ⟨n, rfl⟩ : ∃ m, n = m + 1 := ⟨n - 1, by omega⟩
      have bb := h.1.2.2.2.gt (p + s)
      rw [f_X12_findPart_42, j_in_nI (show m < ln 204 from hm) (by decide), cond_true, nI_clamp (by omega), hc.1.1, h19, h20, nI_add, if_neg (nI_ge (by omega) (by omega)), m_nameAt hc hm (by omega), bnd_some]
      by_cases q : gt x.1 (p + s) = 47
      · rw [if_pos (show nI (gt x.1 (p + s)) = 47 by rw [q]; rfl), part_0 (Or.inr q)]
        exact ⟨c, rfl, h19, h20, fm.rf⟩
      · rw [if_neg (show ¬ nI (gt x.1 (p + s)) = 47 from fun z => q ((nI_eq (b := 47) (by omega) (by decide)).mp z)), h20, nI_1]
        dsimp only [st1]
        have f2 : fm (fun o i => o = 201 ∧ (i = 19 ∨ i = 20)) c (sI c 201 20 (nI (s + 1))) := fm.sI (by omega)
        obtain ⟨c', w1, w2, w3, w4⟩ := ih n p (s + 1) _ (by omega) (by omega) (hP (fun o i z => z) hc f2) (by rw [sI_j (by decide)]; exact h19) (sI_s _ _ _ _)
        refine ⟨c', w1, w2, ?_, f2.tr w4⟩
        rw [w3, part_s (by omega) q, List.length_cons]
        congr 1
        rw [show p + (s + 1) = p + s + 1 by omega]
        omega
  unfold f_X12_findPart
  dsimp only [st1]
  have f1 : fm (fun o i => o = 201 ∧ (i = 19 ∨ i = 20)) c (sI c 201 20 0) := fm.sI (by omega)
  obtain ⟨c1, e1⟩ : ∃ c1, sI c 201 20 0 = c1 := ⟨_, rfl⟩
  have v20 : c1.1 201 20 = nI 0 := by rw [← e1, sI_s]; rfl
  rw [e1] at f1 ⊢
  have h1 := hP (fun o i z => z) h f1
  have n1 : mrw c1 14 209 (b.take 299) := hn.fm f1 (by omega) (fun i => by omega)
  have go : lu x.1 b = true → ∃ c', f_X12_findPart_21 N (nI m) c1 = some ((), c') ∧ (c'.1 201 19 = nI (pbh b) ∧ c'.1 201 20 = nI (part x.1 (pbh b)).length) ∧ fm (fun o i => o = 201 ∧ (i = 19 ∨ i = 20)) c1 c' := by
    intro hl
    have hp := lu_pbh hl
    have b90 : b.length ≤ 90 := by unfold pbh at hp; split at hp <;> omega
    have e9 : b.take 299 = b := List.take_of_length_le (by omega)
    unfold f_X12_findPart_21
    rw [n1.2.1, e9]
    dsimp only [st1]
    have run : ∀ y, y = nI (pbh b) → ∃ c', f_X12_findPart_42 N (nI m) N (sI c1 201 19 y) = some ((), c') ∧ (c'.1 201 19 = nI (pbh b) ∧ c'.1 201 20 = nI (part x.1 (pbh b)).length) ∧ fm (fun o i => o = 201 ∧ (i = 19 ∨ i = 20)) c1 c' := by
      intro y hy
      subst hy
      have f2 : fm (fun o i => o = 201 ∧ (i = 19 ∨ i = 20)) c1 (sI c1 201 19 (nI (pbh b))) := fm.sI (by omega)
      obtain ⟨c', w1, w2, w3, w4⟩ := key (x.1.length - pbh b) N (pbh b) 0 _ (by omega) (by omega) (hP (fun o i z => z) h1 f2) (sI_s _ _ _ _) (by rw [sI_j (by decide)]; exact v20)
      rw [Nat.zero_add, Nat.add_zero] at w3
      exact ⟨c', w1, ⟨w2, w3⟩, f2.tr w4⟩
    by_cases b0 : b.length = 0
    · rw [if_pos (by rw [b0]; rfl)]
      exact run 0 (by unfold pbh; rw [if_pos b0]; rfl)
    · rw [if_neg (nI_ne0 (by omega) (by omega)), nI_1]
      exact run _ (by unfold pbh; rw [if_neg b0])
  rw [n1.2.1]
  by_cases b0 : b.length = 0
  · have hl : lu x.1 b = true := by unfold lu; rw [decide_eq_true b0]; rfl
    rw [if_pos (show nI (b.take 299).length ≤ 0 from by rw [List.length_take, b0]; decide)]
    obtain ⟨c', w1, w2, w3⟩ := go hl
    exact ⟨c', w1, by rw [if_pos hl]; exact w2, f1.tr w3⟩
  · have tl : 0 < (b.take 299).length ∧ (b.take 299).length ≤ 299 := by simp; omega
    rw [if_neg (nI_nle tl.1 (by omega)), m_isUnderNew hN h1 hm n1, bnd_some, und_299 hx]
    cases hu : und x.1 b with
    | false =>
      rw [if_pos (show bI false = 0 from rfl)]
      exact ⟨c1, rfl, by rw [lu_und b0, hu, if_neg (by decide)]; exact v20, f1⟩
    | true =>
      rw [if_neg (by decide)]
      obtain ⟨c', w1, w2, w3⟩ := go (by rw [lu_und b0, hu])
      exact ⟨c', w1, by rw [lu_und b0, hu, if_pos rfl]; exact w2, f1.tr w3⟩
theorem m_isSamePart {N m o : Nat} {c : hS} {x y : Mb} {b : List Nat} (hN : 1000000 ≤ N) (h : mmb c m x) (hm : m < 34) (ho : o < 34) (h' : mmb c o y) (hn : mrw c 14 209 (b.take 299)) (hx : nameB x.1 = true) (hl : lu x.1 b = true) : ∃ c', f_X12_isSamePart N c (nI m) (nI (pbh b)) (nI (part x.1 (pbh b)).length) (nI o) = some (bI (lu y.1 b && decide (part y.1 (pbh b) = part x.1 (pbh b))), c') ∧ fm (fun o i => o = 201 ∧ (i = 19 ∨ i = 20)) c c' := by
  obtain ⟨c1, e1, w, f1⟩ := m_findPart hN h' ho hn
  have pos := part_pos hx hl
  have l1 := part_len x.1 (pbh b)
  have l2 := part_len y.1 (pbh b)
  have x90 := h.1.2.2.1
  have y90 := h'.1.2.2.1
  have hp := lu_pbh hl
  have hx1 : mmb c1 m x := h.fm f1 (fun o i a b => by omega)
  have hy1 : mmb c1 o y := h'.fm f1 (fun o i a b => by omega)
  unfold f_X12_isSamePart
  rw [e1, bnd_some]
  have z : ∀ n k, k ≤ (part x.1 (pbh b)).length → f_X12_isSamePart_24 N (nI m) (nI (pbh b)) (nI (part x.1 (pbh b)).length) (nI o) (n + 1) c1 0 (nI k) = some (0, c1) := fun n k hk => by
    rw [f_X12_isSamePart_24]
    by_cases q : nI (part x.1 (pbh b)).length ≤ nI k
    · rw [if_pos q]; rfl
    · rw [if_neg q, if_pos rfl]; rfl
  obtain ⟨n, hn1⟩ : ∃ n, N = n + 1 := ⟨N - 1, by omega⟩
  cases hu : lu y.1 b with
  | false =>
    rw [hu, if_neg (by decide)] at w
    rw [w, if_neg (show ¬ (0 : Int32) = nI (part x.1 (pbh b)).length from fun q => nI_ne0 (by omega) (by omega) q.symm)]
    refine ⟨c1, ?_, f1⟩
    have := z n 0 (Nat.zero_le _)
    rw [← hn1] at this
    exact this
  | true =>
    rw [hu, if_pos rfl] at w
    rw [w.2]
    by_cases e : (part y.1 (pbh b)).length = (part x.1 (pbh b)).length
    · rw [if_pos (by rw [e])]
      have key := same_loop (F := f_X12_isSamePart_24 N (nI m) (nI (pbh b)) (nI (part x.1 (pbh b)).length) (nI o)) (c := c1) (j := (part x.1 (pbh b)).length) (P := fun k => decide (gt x.1 (pbh b + k) = gt y.1 (pbh b + k))) (fun n k hk => by
        rw [f_X12_isSamePart_24, if_neg (nI_ge hk (by omega)), if_neg (by decide), nI_add, m_nameAt hx1 hm (by omega), bnd_some, w.1, nI_add, m_nameAt hy1 ho (by omega), bnd_some]
        have b1 := h.1.2.2.2.gt (pbh b + k)
        have b2 := h'.1.2.2.2.gt (pbh b + k)
        by_cases q : gt x.1 (pbh b + k) = gt y.1 (pbh b + k)
        · rw [if_pos (by rw [q]), decide_eq_true q]; rfl
        · rw [if_neg (fun z => q ((nI_eq (by omega) (by omega)).mp z)), decide_eq_false q]; rfl) (fun n => by rw [f_X12_isSamePart_24, if_pos (nI_le (Nat.le_refl _) (by omega))]; rfl) z (part x.1 (pbh b)).length N 0 true (by omega) (by omega)
      refine ⟨c1, key.trans ?_, f1⟩
      congr 2
      congr 1
      rw [Bool.true_and, Bool.true_and]
      apply bool_eq
      rw [all_range, decide_eq_true_eq]
      exact ⟨fun q => (part_ext e (fun i hi => of_decide_eq_true (q i hi))).symm, fun q i hi => decide_eq_true (by rw [← part_gt hi, ← part_gt (by rw [q]; exact hi), q])⟩
    · rw [if_neg (fun q => e ((nI_eq (by omega) (by omega)).mp q)), decide_eq_false (fun q => e (by rw [q]))]
      refine ⟨c1, ?_, f1⟩
      have := z n 0 (Nat.zero_le _)
      rw [← hn1] at this
      exact this
theorem m_isFresh {N i : Nat} {c : hS} {b t : List Nat} {ms : List Mb} (hN : 1000000 ≤ N) (h : PM c b t ms) (hi : i < ms.length) (hn : mrw c 14 209 (b.take 299)) : ∃ c', f_X12_isFresh N c (nI i) = some (bI (frs b ms i), c') ∧ (frs b ms i = true → c'.1 201 19 = nI (pbh b) ∧ c'.1 201 20 = nI (part (tt ms i) (pbh b)).length) ∧ fm (fun o i => o = 201 ∧ (i = 19 ∨ i = 20)) c c' := by
  have h16 := h.2.2.2.1
  have hm := h.2.2.2.2.1 i hi
  rw [Nat.zero_add] at hm
  have hnm := h.2.2.2.2.2 _ (List.getElem_mem hi)
  have x90 := hm.1.2.2.1
  obtain ⟨c1, e1, w, f1⟩ := m_findPart hN hm (by omega) hn
  have hp1 := h.mv f1 (fun o i z => by omega)
  have n1 : mrw c1 14 209 (b.take 299) := hn.fm f1 (by omega) (fun i => by omega)
  unfold f_X12_isFresh frs
  rw [e1, bnd_some, tt_at hi]
  cases hu : lu ms[i].1 b with
  | false =>
    rw [hu, if_neg (by decide)] at w
    rw [w, if_pos (by decide), Bool.false_and]
    obtain ⟨n, hn1⟩ : ∃ n, N = n + 1 := ⟨N - 1, by omega⟩
    have f2 : fm (fun o i => o = 201 ∧ (i = 19 ∨ i = 20)) c1 (sI (sI c1 201 19 (c1.1 201 19)) 201 20 0) := (fm.sI (by omega)).tr (fm.sI (by omega))
    refine ⟨_, ?_, (fun z => by cases z), f1.tr f2⟩
    have : f_X12_isFresh_29 (n + 1) (nI i) (n + 1) c1 (c1.1 201 19) 0 0 0 = some (bI false, sI (sI c1 201 19 (c1.1 201 19)) 201 20 0) := by
      rw [f_X12_isFresh_29]
      by_cases q : nI i ≤ 0
      · rw [if_pos q]; rfl
      · rw [if_neg q, if_pos rfl]; rfl
    rw [← hn1] at this
    exact this
  | true =>
    have pos := part_pos hnm hu
    have lp := part_len ms[i].1 (pbh b)
    rw [hu, if_pos rfl] at w
    rw [w.1, w.2, if_neg (nI_nle pos (by omega)), Bool.true_and]
    have key : ∀ d n j v c, j + d = i → d < n → PM c b t ms → mrw c 14 209 (b.take 299) → ∃ c', f_X12_isFresh_29 N (nI i) n c (nI (pbh b)) (nI (part ms[i].1 (pbh b)).length) (bI v) (nI j) = some (bI (v && (List.range' j d).all fun j => !otB b ms i j), c') ∧ (c'.1 201 19 = nI (pbh b) ∧ c'.1 201 20 = nI (part ms[i].1 (pbh b)).length) ∧ fm (fun o i => o = 201 ∧ (i = 19 ∨ i = 20)) c c' := by
      have fin : ∀ c (v : Bool), (bif j_b (bI v) then some (bI v, sI (sI c 201 19 (nI (pbh b))) 201 20 (nI (part ms[i].1 (pbh b)).length)) else none) = some (bI v, sI (sI c 201 19 (nI (pbh b))) 201 20 (nI (part ms[i].1 (pbh b)).length)) := fun c v => by cases v <;> rfl
      have st : ∀ c, (∃ c', c' = sI (sI c 201 19 (nI (pbh b))) 201 20 (nI (part ms[i].1 (pbh b)).length) ∧ (c'.1 201 19 = nI (pbh b) ∧ c'.1 201 20 = nI (part ms[i].1 (pbh b)).length) ∧ fm (fun o i => o = 201 ∧ (i = 19 ∨ i = 20)) c c') := fun c => ⟨_, rfl, ⟨by rw [sI_j (by decide), sI_s], sI_s _ _ _ _⟩, (fm.sI (by omega)).tr (fm.sI (by omega))⟩
      intro d
      induction d with
      | zero =>
        intro n j v c hj hn' hc hcn
        obtain ⟨n, rfl⟩ : ∃ m, n = m + 1 := ⟨n - 1, by omega⟩
        obtain ⟨c', r1, r2, r3⟩ := st c
        rw [f_X12_isFresh_29, if_pos (nI_le (by omega) (by omega))]
        dsimp only [st1]
        rw [fin, ← r1]
        exact ⟨c', by cases v <;> rfl, r2, r3⟩
      | succ d ih =>
        intro n j v c hj hn' hc hcn
        obtain ⟨n, rfl⟩ : ∃ m, n = m + 1 := ⟨n - 1, by omega⟩
        rw [f_X12_isFresh_29, if_neg (nI_ge (by omega) (by omega))]
        cases v with
        | false =>
          obtain ⟨c', r1, r2, r3⟩ := st c
          rw [if_pos (show bI false = 0 from rfl)]
          dsimp only [st1]
          rw [fin, ← r1]
          exact ⟨c', rfl, r2, r3⟩
        | true =>
          have hjl : j < ms.length := by omega
          have hmj := hc.2.2.2.2.1 j hjl
          have hmi := hc.2.2.2.2.1 i hi
          rw [Nat.zero_add] at hmj hmi
          obtain ⟨c2, e2, f2⟩ := m_isSamePart hN hmi (by omega) (by omega) hmj hcn hnm hu
          have hc2 := hc.mv f2 (fun o i z => by omega)
          have hcn2 : mrw c2 14 209 (b.take 299) := hcn.fm f2 (by omega) (fun i => by omega)
          rw [if_neg (by decide), e2, bnd_some, List.range'_succ, List.all_cons]
          have eo : otB b ms i j = (lu ms[j].1 b && decide (part ms[j].1 (pbh b) = part ms[i].1 (pbh b))) := by unfold otB; rw [tt_at hjl, tt_at hi]
          rw [← eo]
          cases otB b ms i j with
          | false =>
            obtain ⟨c', r1, r2, r3⟩ := ih n (j + 1) true c2 (by omega) (by omega) hc2 hcn2
            rw [if_pos (show bI false = 0 from rfl), nI_1]
            exact ⟨c', r1, r2, f2.tr r3⟩
          | true =>
            obtain ⟨c', r1, r2, r3⟩ := ih n (j + 1) false c2 (by omega) (by omega) hc2 hcn2
            rw [if_neg (by decide), nI_1]
            exact ⟨c', r1, r2, f2.tr r3⟩
    obtain ⟨c', r1, r2, r3⟩ := key i N 0 true c1 (by omega) (by omega) hp1 n1
    exact ⟨c', r1, fun _ => r2, f1.tr r3⟩
theorem in_m1 {l : List Nat} {i : Int32} (hl : l.length < 2 ^ 31) : (decide ((-1 : Int32) ≤ i) && decide (i ≤ nI l.length - 1)) = decide (i = -1 ∨ haB l i = true) := by
  have h3 := in_m3 (l := l) (i := i) hl
  by_cases w : (-1 : Int32) ≤ i
  · have w3 : (-3 : Int32) ≤ i := Int32.le_trans (by decide) w
    rw [decide_eq_true w3] at h3
    rw [decide_eq_true w, h3]
    by_cases q : i = -1 ∨ haB l i = true
    · rw [decide_eq_true q, decide_eq_true (Or.inr (Or.inr q))]
    · rw [decide_eq_false q, decide_eq_false]
      rintro (z | z | z)
      · rw [z] at w; exact absurd w (by decide)
      · rw [z] at w; exact absurd w (by decide)
      · exact q z
  · rw [decide_eq_false w, Bool.false_and, eq_comm, decide_eq_false_iff_not]
    rintro (z | z)
    · rw [z] at w; exact w (by decide)
    · obtain ⟨k, hk, rfl, _⟩ := haB_so z
      exact w (Int32.le_of_lt (Int32.lt_of_lt_of_le (by decide) (nI_pos'' hk)))
theorem m_child {N : Nat} {c : hS} {b t : List Nat} {ms : List Mb} {k i : Int32} (hN : 1000000 ≤ N) (h : PM c b t ms) : MN (f_X12_child N c k i) c (chK b ms k i) (chV b ms k i) b t ms := by
  obtain ⟨c1, e1, h1, z1, f1⟩ := m_zero h
  have h16 := h.2.2.2.1
  unfold f_X12_child
  rw [e1]
  dsimp only [st1]
  have go : (k = -1 → i = -1) → MN (f_X12_child_20 N k i c1) c (chK b ms k i) (chV b ms k i) b t ms := by
    intro hki
    unfold f_X12_child_20 f_X12_child_21
    obtain ⟨c2, e2, n2, f2⟩ := m_takePath hN h1
    have h2 := h1.mv f2 (fun o i z => by omega)
    have z2 : c2.1 201 0 = 0 := (f2.1 _ _ (by omega)).trans z1
    have fz : fm (fun o _ => 201 ≤ o ∧ o < 219) c c2 := f1.tr (f2.mono (fun o i z => by omega))
    rw [m_ref0 z1, bnd_some, if_pos rfl, e2, bnd_some]
    have stp : ∀ {c3 : hS}, PM c3 b t ms → mrw c3 14 209 (b.take 299) → c3.1 201 0 = 0 → ∀ {c4 : hS}, fm (fun o i => o = 201 ∧ (i = 19 ∨ i = 20)) c3 c4 → PM c4 b t ms ∧ mrw c4 14 209 (b.take 299) ∧ c4.1 201 0 = 0 := fun a1 a2 a3 _ f => ⟨a1.mv f (fun o i z => by omega), a2.fm f (by omega) (fun i => by omega), (f.1 _ _ (by omega)).trans a3⟩
    rcases i_cases k with q | ⟨kk, hk, rfl⟩
    · have key : ∀ d m j a c, j + d = ms.length → d < m → a ≤ j → PM c b t ms → mrw c 14 209 (b.take 299) → c.1 201 0 = 0 → ∃ c', f_X12_child_39 N k i m c (nI a) (nI j) = (if k = -1 then f_X12_child_145 N k i c' (nI (a + ((List.range' j d).filter (frs b ms)).length)) 0 else f_X12_child_145 N k i c' (nI (a + ((List.range' j d).filter (frs b ms)).length)) 1) ∧ PM c' b t ms ∧ c'.1 201 0 = 0 ∧ fm (fun o i => o = 201 ∧ (i = 19 ∨ i = 20)) c c' := by
        intro d
        induction d with
        | zero =>
          intro m j a c hj hm _ hc hn hz
          obtain ⟨m, rfl⟩ : ∃ m', m = m' + 1 := ⟨m - 1, by omega⟩
          rw [f_X12_child_39, hc.2.2.1, if_pos (nI_le (by omega) (by omega))]
          exact ⟨c, rfl, hc, hz, fm.rf⟩
        | succ d ih =>
          intro m j a c hj hm ha hc hn hz
          obtain ⟨m, rfl⟩ : ∃ m', m = m' + 1 := ⟨m - 1, by omega⟩
          obtain ⟨c3, e3, v3, f3⟩ := m_isFresh (i := j) hN hc (by omega) hn
          obtain ⟨a1, a2, a3⟩ := stp hc hn hz f3
          rw [f_X12_child_39, hc.2.2.1, if_neg (nI_ge (by omega) (by omega)), e3, bnd_some, List.range'_succ]
          cases hf : frs b ms j with
          | false =>
            obtain ⟨c', r1, r2, r3, r4⟩ := ih m (j + 1) a c3 (by omega) (by omega) (by omega) a1 a2 a3
            rw [if_pos (show bI false = 0 from rfl), nI_1, r1, List.filter_cons_of_neg (by rw [hf]; decide)]
            exact ⟨c', rfl, r2, r3, f3.tr r4⟩
          | true =>
            obtain ⟨c', r1, r2, r3, r4⟩ := ih m (j + 1) (a + 1) c3 (by omega) (by omega) (by omega) a1 a2 a3
            rw [if_neg (by decide), if_neg (show ¬ nI a = k from fun z => by rw [← z] at q; exact nI_pos (by omega) q), nI_1, nI_1, r1, List.filter_cons_of_pos hf, List.length_cons, show a + 1 + ((List.range' (j + 1) d).filter (frs b ms)).length = a + (((List.range' (j + 1) d).filter (frs b ms)).length + 1) by omega]
            exact ⟨c', rfl, r2, r3, f3.tr r4⟩
      obtain ⟨c', r1, r2, r3, r4⟩ := key ms.length N 0 0 c2 (by omega) (by omega) (by omega) h2 n2 z2
      have r1' : f_X12_child_39 N k i N c2 0 0 = _ := r1
      have fz' := fz.tr (r4.mono (fun o i z => by omega) (Q := fun o _ => 201 ≤ o ∧ o < 219))
      rw [r1', Nat.zero_add]
      unfold chK chV f_X12_child_145
      by_cases k1 : k = -1
      · rw [if_pos k1, if_pos k1, if_pos k1, if_pos (hki k1), m_ref0 r3, bnd_some, if_pos rfl]
        exact ⟨_, c', rfl, r3, fun _ => rfl, r2, fz'⟩
      · have cn : chF b ms k = none := by unfold chF; rw [if_pos q]
        rw [if_neg k1, if_neg k1, if_neg k1, cn, m_ref1 r3 (by decide), bnd_some, if_neg (by decide)]
        exact m_no (k := 1) r2 fz' (by decide) rfl
    · have k1 : nI kk ≠ -1 := fun z => nI_pos hk (by rw [z]; decide)
      have key : ∀ d m j a c, j + d = ms.length → d < m → a ≤ j → a ≤ kk → PM c b t ms → mrw c 14 209 (b.take 299) → c.1 201 0 = 0 → ∃ c', PM c' b t ms ∧ c'.1 201 0 = 0 ∧ fm (fun o i => o = 201 ∧ (i = 19 ∨ i = 20)) c c' ∧ (match ((List.range' j d).filter (frs b ms))[kk - a]? with
        | none => ∃ y, f_X12_child_39 N (nI kk) i m c (nI a) (nI j) = f_X12_child_145 N (nI kk) i c' y 1
        | some e => e < ms.length ∧ frs b ms e = true ∧ c'.1 201 19 = nI (pbh b) ∧ c'.1 201 20 = nI (part (tt ms e) (pbh b)).length ∧ f_X12_child_39 N (nI kk) i m c (nI a) (nI j) = bnd (f_X12_in c' i.toInt64 (-1) ((nI (part (tt ms e) (pbh b)).length - 1).toInt64)) fun x3 c4 => if x3 = 0 then f_X12_child_89 N (nI kk) i c4 (nI e) 1 else f_X12_child_89 N (nI kk) i c4 (nI e) 0) := by
        intro d
        induction d with
        | zero =>
          intro m j a c hj hm _ _ hc hn hz
          obtain ⟨m, rfl⟩ : ∃ m', m = m' + 1 := ⟨m - 1, by omega⟩
          refine ⟨c, hc, hz, fm.rf, nI a, ?_⟩
          rw [f_X12_child_39, hc.2.2.1, if_pos (nI_le (by omega) (by omega)), if_neg k1]
        | succ d ih =>
          intro m j a c hj hm ha hak hc hn hz
          obtain ⟨m, rfl⟩ : ∃ m', m = m' + 1 := ⟨m - 1, by omega⟩
          obtain ⟨c3, e3, v3, f3⟩ := m_isFresh (i := j) hN hc (by omega) hn
          obtain ⟨a1, a2, a3⟩ := stp hc hn hz f3
          have ex : f_X12_child_39 N (nI kk) i (m + 1) c (nI a) (nI j) = if bI (frs b ms j) = 0 then f_X12_child_39 N (nI kk) i m c3 (nI a) (nI (j + 1)) else if nI a = nI kk then bnd (f_X12_in c3 i.toInt64 (-1) (((c3.1 201 20) - 1).toInt64)) fun x3 c4 => (if x3 = 0 then f_X12_child_89 N (nI kk) i c4 (nI j) 1 else f_X12_child_89 N (nI kk) i c4 (nI j) 0) else f_X12_child_39 N (nI kk) i m c3 (nI (a + 1)) (nI (j + 1)) := by
            rw [f_X12_child_39, hc.2.2.1, if_neg (nI_ge (by omega) (by omega)), e3, bnd_some, nI_1, nI_1]
          rw [ex, List.range'_succ]
          cases hf : frs b ms j with
          | false =>
            obtain ⟨c', r1, r2, r3, r4⟩ := ih m (j + 1) a c3 (by omega) (by omega) (by omega) hak a1 a2 a3
            rw [if_pos (show bI false = 0 from rfl), List.filter_cons_of_neg (by rw [hf]; decide)]
            exact ⟨c', r1, r2, f3.tr r3, r4⟩
          | true =>
            rw [if_neg (by decide), List.filter_cons_of_pos hf]
            by_cases e : a = kk
            · rw [if_pos (by rw [e]), e, Nat.sub_self, List.getElem?_cons_zero]
              have v := v3 hf
              rw [v.2]
              exact ⟨c3, a1, a3, f3, by omega, hf, v.1, v.2, rfl⟩
            · obtain ⟨c', r1, r2, r3, r4⟩ := ih m (j + 1) (a + 1) c3 (by omega) (by omega) (by omega) (by omega) a1 a2 a3
              rw [if_neg (fun z => e ((nI_eq (by omega) hk).mp z)), show kk - a = kk - (a + 1) + 1 by omega, List.getElem?_cons_succ]
              exact ⟨c', r1, r2, f3.tr r3, r4⟩
      obtain ⟨c', r1, r2, r3, r4⟩ := key ms.length N 0 0 c2 (by omega) (by omega) (by omega) (by omega) h2 n2 z2
      have fz' := fz.tr (r3.mono (fun o i z => by omega) (Q := fun o _ => 201 ≤ o ∧ o < 219))
      have cf : chF b ms (nI kk) = ((List.range' 0 ms.length).filter (frs b ms))[kk - 0]? := by unfold chF fsL; rw [if_neg (nI_pos hk), nI_clamp hk, Nat.sub_zero]
      unfold chK chV
      rw [if_neg k1, if_neg k1, cf]
      cases hc : ((List.range' 0 ms.length).filter (frs b ms))[kk - 0]? with
      | none =>
        rw [hc] at r4
        obtain ⟨y, r4⟩ := r4
        have r4' : f_X12_child_39 N (nI kk) i N c2 0 0 = _ := r4
        rw [r4']
        unfold f_X12_child_145
        rw [m_ref1 r2 (by decide), bnd_some, if_neg (by decide)]
        exact m_no (k := 1) r1 fz' (by decide) rfl
      | some e =>
        rw [hc] at r4
        obtain ⟨el, ef, v19, v20, r4⟩ := r4
        have r4' : f_X12_child_39 N (nI kk) i N c2 0 0 = _ := r4
        rw [r4']
        have hm := r1.2.2.2.2.1 e el
        rw [Nat.zero_add] at hm
        have x90 := hm.1.2.2.1
        have lp := part_len (tt ms e) (pbh b)
        have te := tt_at el
        rw [← te] at x90
        have hp : pbh b ≤ (tt ms e).length := by
          unfold frs at ef
          rw [Bool.and_eq_true] at ef
          exact lu_pbh ef.1
        have z1' := r2
        show MN _ c (if i = -1 ∨ haB (part (tt ms e) (pbh b)) i = true then 0 else 1) (if i = -1 then nI (part (tt ms e) (pbh b)).length else tdV (part (tt ms e) (pbh b)) i) b t ms
        rw [m_in (a := -1) (a' := -1) (by decide) rfl, bnd_some, in_m1 (by omega)]
        unfold f_X12_child_89
        by_cases w : i = -1 ∨ haB (part (tt ms e) (pbh b)) i = true
        · rw [decide_eq_true w, if_neg (by decide), if_pos w, m_ref0 r2, bnd_some, if_pos rfl, v20, v19]
          by_cases i1 : i = -1
          · rw [if_pos i1, if_pos i1]
            exact ⟨_, c', rfl, r2, fun _ => rfl, r1, fz'⟩
          · have hh : haB (part (tt ms e) (pbh b)) i = true := w.elim (fun z => absurd z i1) id
            obtain ⟨q, hq, rfl, hql⟩ := haB_so hh
            rw [if_neg i1, if_neg i1, nI_add, m_nameAt hm (by omega) (by rw [← te]; omega), bnd_some, ← te]
            unfold tdV
            rw [nI_clamp hq, part_gt hql]
            exact ⟨_, c', rfl, r2, fun _ => rfl, r1, fz'⟩
        · rw [decide_eq_false w, if_pos (show bI false = 0 from rfl), if_neg w, m_ref1 r2 (by decide), bnd_some, if_neg (by decide)]
          exact m_no r1 fz' (by decide) rfl
  by_cases k1 : k = -1
  · rw [if_pos k1]
    by_cases i1 : i = -1
    · rw [if_pos i1]; exact go (fun _ => i1)
    · rw [if_neg i1]
      unfold f_X12_child_21 chK
      rw [if_pos k1, if_neg i1, m_ref1 z1 (by decide), bnd_some, if_neg (by decide)]
      exact m_no h1 f1 (by decide) rfl
  · rw [if_neg k1]
    exact go (fun z => absurd z k1)
