section
/-! PURE: the reference: kind, child -/
theorem eq_299 {x b : List Nat} (hx : x.length ≤ 90) : (x = b.take 299) ↔ (x = b) := by
  by_cases w : b.length ≤ 299
  · rw [List.take_of_length_le w]
  · constructor
    · intro z; have := congrArg List.length z; simp at this; omega
    · intro z; have := congrArg List.length z; omega
theorem und_299 {x b : List Nat} (hx : x.length ≤ 90) : und x (b.take 299) = und x b := by
  by_cases w : b.length ≤ 299
  · rw [List.take_of_length_le w]
  · unfold und
    rw [decide_eq_false (show ¬ (b.take 299).length + 1 < x.length by simp; omega), decide_eq_false (show ¬ b.length + 1 < x.length by omega)]
    rfl
theorem m_takePath {N : Nat} {c : hS} {b t : List Nat} {ms : List Mb} (hN : 1000000 ≤ N) (h : PM c b t ms) : ∃ c', f_X12_takePath N c = some ((), c') ∧ mrw c' 14 209 (b.take 299) ∧ fm (fun o i => (o = 201 ∧ i = 14) ∨ o = 209) c c' := by
  have hbl : b.length ≤ 512 := h.1.1
  unfold f_X12_takePath
  rw [h.1.2.1, min_I h.1.lt]
  obtain ⟨j, hj⟩ : ∃ j, min b.length 299 = j := ⟨_, rfl⟩
  rw [hj]
  obtain ⟨c2, e2⟩ : ∃ c2, sI c 201 14 (nI j) = c2 := ⟨_, rfl⟩
  rw [e2]
  have f2 : fm (fun o i => o = 201 ∧ i = 14) c c2 := by rw [← e2]; exact fm.sI ⟨rfl, rfl⟩
  have v2 : c2.1 201 14 = nI j := by rw [← e2, sI_s]
  obtain ⟨c3, e3, i3, w3, f3⟩ := cp_loop (F := f_X12_takePath_26 N) (X := fun c => some ((), c)) (o := 209) (o' := 202) (a := 0) (b := 0) (len := j) (fun c => c.1 201 14 = nI j) (fun c i x q => by rw [sI_o (by decide)]; exact q) (fun n c i hi q => by
    rw [f_X12_takePath_26, q, if_neg (nI_ge hi (by omega)), j_in_nI (show i < ln 202 from (by show i < 512; omega)) (by decide), cond_true, j_in_nI (show i < ln 209 from (by show i < 300; omega)) (by decide), cond_true, nI_clamp (by omega), Nat.zero_add]
    rfl) (fun n c q => by rw [f_X12_takePath_26, q, if_pos (nI_le (Nat.le_refl _) (by omega))]) (by omega) j N c2 0 (by omega) (by omega) v2
  refine ⟨c3, e3, ?_, (f2.mono (fun o i z => Or.inl z)).tr (f3.mono (fun o i z => Or.inr z.1))⟩
  have := mrw.cp (c := c2) (c' := c3) (j := 14) (o := 209) (o' := 202) (a := 0) (len := j) (l := b) (by omega) (fun i hi => (f2.1 _ _ (by omega)).trans (h.1.2.2.1 i hi)) w3 i3 (show j ≤ 300 by omega) h.1.2.2.2
  rw [List.drop_zero, ← hj] at this
  rwa [show b.take (min b.length 299) = b.take 299 by rw [Nat.min_comm, ← List.take_take, List.take_length]] at this
theorem fnI_299 {b : List Nat} : ∀ {ms : List Mb} {i : Nat}, (∀ x ∈ ms, x.1.length ≤ 90) → fnI (b.take 299) ms i = fnI b ms i
  | [], _, _ => rfl
  | x :: r, i, h => by
    have h1 := eq_299 (b := b) (h x (List.mem_cons_self ..))
    unfold fnI
    rw [fnI_299 (fun y hy => h y (List.mem_cons_of_mem _ hy))]
    by_cases q : x.1 = b
    · rw [if_pos q, if_pos (h1.mpr q)]
    · rw [if_neg q, if_neg (fun z => q (h1.mp z))]
theorem PM.l90 {c : hS} {b t : List Nat} {ms : List Mb} (h : PM c b t ms) : ∀ x ∈ ms, x.1.length ≤ 90 := fun x hx => nameB_90 (h.2.2.2.2.2 x hx)
theorem m_kind {N : Nat} {c : hS} {b t : List Nat} {ms : List Mb} (hN : 1000000 ≤ N) (h : PM c b t ms) : MN (f_X12_kind N c) c 0 (kiV b ms) b t ms := by
  obtain ⟨c1, e1, h1, z1, f1⟩ := m_zero h
  have h16 := h.2.2.2.1
  unfold f_X12_kind kiV
  rw [e1]
  dsimp only [st1]
  obtain ⟨c2, e2, n2, f2⟩ := m_takePath hN h1
  have h2 := h1.mv f2 (fun o i z => by omega)
  have z2 : c2.1 201 0 = 0 := (f2.1 _ _ (by omega)).trans z1
  have fz : fm (fun o _ => 201 ≤ o ∧ o < 219) c c2 := f1.tr (f2.mono (fun o i z => by omega))
  rw [e2, bnd_some, h2.1.2.1]
  by_cases b0 : b.length = 0
  · rw [if_pos (by rw [b0]; rfl), if_pos b0]
    exact ⟨_, c2, rfl, z2, fun _ => rfl, h2, fz⟩
  · have es := m_seek (base := 0) hN h2.2.2.2.2.1 (by omega) n2
    rw [nI_0, fnI_299 h2.l90] at es
    rw [if_neg (nI_ne0 (by omega) h2.1.lt), if_neg b0, h2.2.2.1, es, bnd_some]
    rcases fnI_fi (t := b) (ms := ms) (i := 0) with ⟨a1, a2⟩ | ⟨k, hk, a1, a2⟩
    · rw [a1, a2, if_pos (by decide)]
      have key : ∀ d n i, i + d = ms.length → d < n → f_X12_kind_49 N n c2 (nI i) = some (bI ((ms.drop i).any fun x => lu x.1 b), c2) := by
        intro d
        induction d with
        | zero =>
          intro n i hi hn
          obtain ⟨n, rfl⟩ : ∃ m, n = m + 1 := ⟨n - 1, by omega⟩
          rw [f_X12_kind_49, h2.2.2.1, if_pos (nI_le (by omega) (by omega)), List.drop_eq_nil_of_le (by omega)]
          rfl
        | succ d ih =>
          intro n i hi hn'
          obtain ⟨n, rfl⟩ : ∃ m, n = m + 1 := ⟨n - 1, by omega⟩
          have hil : i < ms.length := by omega
          have hm := h2.2.2.2.2.1 i hil
          rw [Nat.zero_add] at hm
          rw [f_X12_kind_49, h2.2.2.1, if_neg (nI_ge hil (by omega)), m_isUnderNew hN hm (by omega) n2, bnd_some, und_299 hm.1.2.2.1, List.drop_eq_getElem_cons hil, List.any_cons, lu_und b0]
          cases und ms[i].1 b with
          | true => rw [if_neg (by decide)]; rfl
          | false =>
            rw [if_pos (show bI false = 0 from rfl), nI_1, Bool.false_or]
            exact ih n (i + 1) (by omega) (by omega)
      exact ⟨_, c2, key ms.length N 0 (by omega) (by omega), z2, fun _ => rfl, h2, fz⟩
    · have hm := h2.2.2.2.2.1 k hk
      rw [Nat.zero_add] at hm a1
      rw [a1, a2, if_neg (nI_pos (by omega)), j_in_nI (show k < ln 208 from (by show k < 34; omega)) (by decide), cond_true, nI_clamp (by omega), hm.2.2]
      dsimp only
      cases ms[k].2.2 with
      | true => rw [if_neg (by decide), if_pos rfl]; exact ⟨_, c2, rfl, z2, fun _ => rfl, h2, fz⟩
      | false => rw [if_pos (show bI false = 0 from rfl), if_neg (by decide)]; exact ⟨_, c2, rfl, z2, fun _ => rfl, h2, fz⟩
theorem part_0 {x : List Nat} {j : Nat} (h : x.length ≤ j ∨ gt x j = 47) : part x j = [] := by
  unfold part
  rcases Nat.lt_or_ge j x.length with q | q
  · rcases h with w | w
    · omega
    · rw [List.drop_eq_getElem_cons q, List.takeWhile_cons_of_neg]
      rw [gt_lt q] at w
      simp [w]
  · rw [List.drop_eq_nil_of_le q]; rfl
theorem part_s {x : List Nat} {j : Nat} (h : j < x.length) (h2 : gt x j ≠ 47) : part x j = gt x j :: part x (j + 1) := by
  unfold part
  rw [gt_lt h] at h2
  rw [List.drop_eq_getElem_cons h, List.takeWhile_cons_of_pos (by simp [h2]), gt_lt h]
theorem nmB_bg {l : List Nat} (h : nmB l 0 true = true) : l ≠ [] ∧ gt l 0 ≠ 47 := by
  cases l with
  | nil => exact absurd h (by decide)
  | cons x r =>
    refine ⟨by simp, fun z => ?_⟩
    have z : x = 47 := z
    unfold nmB at h
    rw [if_pos z] at h
    simp at h
theorem nmB_sl : ∀ {l : List Nat} {n : Nat} {d : Bool} {i : Nat}, nmB l n d = true → i < l.length → gt l i = 47 → nmB (l.drop (i + 1)) 0 true = true
  | [], _, _, i, _, h, _ => absurd h (Nat.not_lt_zero i)
  | x :: r, n, d, 0, h, _, e => by
    have e : x = 47 := e
    unfold nmB at h
    rw [if_pos e] at h
    rw [Bool.and_eq_true] at h
    exact h.2
  | x :: r, n, d, i + 1, h, hi, e => by
    have e : gt r i = 47 := e
    have hi : i < r.length := by simpa using hi
    unfold nmB at h
    rw [List.drop_succ_cons]
    by_cases q : x = 47
    · rw [if_pos q, Bool.and_eq_true] at h
      exact nmB_sl h.2 hi e
    · rw [if_neg q, Bool.and_eq_true] at h
      exact nmB_sl h.2 hi e
theorem part_pos {x b : List Nat} (hx : nameB x = true) (h : lu x b = true) : 0 < (part x (pbh b)).length := by
  have hn : nmB x 0 true = true := by unfold nameB at hx; rw [Bool.and_eq_true] at hx; exact hx.2
  have go : ∀ j, nmB (x.drop j) 0 true = true → 0 < (part x j).length := fun j hj => by
    obtain ⟨a1, a2⟩ := nmB_bg hj
    have jl : j < x.length := by
      rcases Nat.lt_or_ge j x.length with q | q
      · exact q
      · exact absurd (List.drop_eq_nil_of_le q) a1
    rw [gt_drop, Nat.add_zero] at a2
    rw [part_s jl a2]
    simp
  unfold pbh
  split
  · exact go 0 (by rw [List.drop_zero]; exact hn)
  · rename_i q
    unfold lu und at h
    rw [decide_eq_false q, Bool.false_or] at h
    simp only [Bool.and_eq_true, decide_eq_true_eq] at h
    exact go _ (nmB_sl hn (by omega) h.1.2)
theorem m_findPart {N m : Nat} {c : hS} {x : Mb} {b : List Nat} (hN : 1000000 ≤ N) (h : mmb c m x) (hm : m < 34) (hn : mrw c 14 209 (b.take 299)) : ∃ c', f_X12_findPart N c (nI m) = some ((), c') ∧ (if lu x.1 b = true then c'.1 201 19 = nI (pbh b) ∧ c'.1 201 20 = nI (part x.1 (pbh b)).length else c'.1 201 20 = 0) ∧ fm (fun o i => o = 201 ∧ (i = 19 ∨ i = 20)) c c' := by
  have hx := h.1.2.2.1
  have hP : ∀ {P : Nat → Nat → Prop} {c c1 : hS}, (∀ o i, P o i → o = 201 ∧ (i = 19 ∨ i = 20)) → mmb c m x → fm P c c1 → mmb c1 m x := fun hP h hf => h.fm hf (fun o i a b z => by have := hP o i z; omega)
  have key : ∀ d n p s c, p + s + d = x.1.length → d < n → mmb c m x → c.1 201 19 = nI p → c.1 201 20 = nI s → ∃ c', f_X12_findPart_42 N (nI m) n c = some ((), c') ∧ c'.1 201 19 = nI p ∧ c'.1 201 20 = nI (s + (part x.1 (p + s)).length) ∧ fm (fun o i => o = 201 ∧ (i = 19 ∨ i = 20)) c c' := by
    intro d
    induction d with
    | zero =>
      intro n p s c hps hn' hc h19 h20
      obtain ⟨n, rfl⟩ : ∃ m, n = m + 1 := ⟨n - 1, by omega⟩
      rw [f_X12_findPart_42, j_in_nI (show m < ln 204 from hm) (by decide), cond_true, nI_clamp (by omega), hc.1.1, h19, h20, nI_add, if_pos (nI_le (by omega) (by omega)), part_0 (Or.inl (by omega))]
      exact ⟨c, rfl, h19, h20, fm.rf⟩
    | succ d ih =>
      intro n p s c hps hn' hc h19 h20
      obtain ⟨n, rfl⟩ : ∃ m, n = m + 1 := ⟨n - 1, by omega⟩
      have bb := h.1.2.2.2.gt (p + s)
      rw [f_X12_findPart_42, j_in_nI (show m < ln 204 from hm) (by decide), cond_true, nI_clamp (by omega), hc.1.1, h19, h20, nI_add, if_neg (nI_ge (by omega) (by omega)), m_nameAt hc hm (by omega), bnd_some]
      by_cases q : gt x.1 (p + s) = 47
      · rw [if_pos (show nI (gt x.1 (p + s)) = 47 by rw [q]; rfl), part_0 (Or.inr q)]
        exact ⟨c, rfl, h19, h20, fm.rf⟩
      · rw [if_neg (show ¬ nI (gt x.1 (p + s)) = 47 from fun z => q ((nI_eq (b := 47) (by omega) (by decide)).mp z)), h20, nI_1]
        dsimp only [st1]
        have f2 : fm (fun o i => o = 201 ∧ (i = 19 ∨ i = 20)) c (sI c 201 20 (nI (s + 1))) := fm.sI (by omega)
        obtain ⟨c', w1, w2, w3, w4⟩ := ih n p (s + 1) _ (by omega) (by omega) (hP (fun o i z => z) hc f2) (by rw [sI_j (by decide)]; exact h19) (sI_s _ _ _ _)
        refine ⟨c', w1, w2, ?_, f2.tr w4⟩
        rw [w3, part_s (by omega) q, List.length_cons]
        congr 1
        rw [show p + (s + 1) = p + s + 1 by omega]
        omega
  unfold f_X12_findPart
  dsimp only [st1]
  have f1 : fm (fun o i => o = 201 ∧ (i = 19 ∨ i = 20)) c (sI c 201 20 0) := fm.sI (by omega)
  obtain ⟨c1, e1⟩ : ∃ c1, sI c 201 20 0 = c1 := ⟨_, rfl⟩
  have v20 : c1.1 201 20 = nI 0 := by rw [← e1, sI_s]; rfl
  rw [e1] at f1 ⊢
  have h1 := hP (fun o i z => z) h f1
  have n1 : mrw c1 14 209 (b.take 299) := hn.fm f1 (by omega) (fun i => by omega)
  have go : lu x.1 b = true → ∃ c', f_X12_findPart_21 N (nI m) c1 = some ((), c') ∧ (c'.1 201 19 = nI (pbh b) ∧ c'.1 201 20 = nI (part x.1 (pbh b)).length) ∧ fm (fun o i => o = 201 ∧ (i = 19 ∨ i = 20)) c1 c' := by
    intro hl
    have hp := lu_pbh hl
    have b90 : b.length ≤ 90 := by unfold pbh at hp; split at hp <;> omega
    have e9 : b.take 299 = b := List.take_of_length_le (by omega)
    unfold f_X12_findPart_21
    rw [n1.2.1, e9]
    dsimp only [st1]
    have run : ∀ y, y = nI (pbh b) → ∃ c', f_X12_findPart_42 N (nI m) N (sI c1 201 19 y) = some ((), c') ∧ (c'.1 201 19 = nI (pbh b) ∧ c'.1 201 20 = nI (part x.1 (pbh b)).length) ∧ fm (fun o i => o = 201 ∧ (i = 19 ∨ i = 20)) c1 c' := by
      intro y hy
      subst hy
      have f2 : fm (fun o i => o = 201 ∧ (i = 19 ∨ i = 20)) c1 (sI c1 201 19 (nI (pbh b))) := fm.sI (by omega)
      obtain ⟨c', w1, w2, w3, w4⟩ := key (x.1.length - pbh b) N (pbh b) 0 _ (by omega) (by omega) (hP (fun o i z => z) h1 f2) (sI_s _ _ _ _) (by rw [sI_j (by decide)]; exact v20)
      rw [Nat.zero_add, Nat.add_zero] at w3
      exact ⟨c', w1, ⟨w2, w3⟩, f2.tr w4⟩
    by_cases b0 : b.length = 0
    · rw [if_pos (by rw [b0]; rfl)]
      exact run 0 (by unfold pbh; rw [if_pos b0]; rfl)
    · rw [if_neg (nI_ne0 (by omega) (by omega)), nI_1]
      exact run _ (by unfold pbh; rw [if_neg b0])
  rw [n1.2.1]
  by_cases b0 : b.length = 0
  · have hl : lu x.1 b = true := by unfold lu; rw [decide_eq_true b0]; rfl
    rw [if_pos (show nI (b.take 299).length ≤ 0 from by rw [List.length_take, b0]; decide)]
    obtain ⟨c', w1, w2, w3⟩ := go hl
    exact ⟨c', w1, by rw [if_pos hl]; exact w2, f1.tr w3⟩
  · have tl : 0 < (b.take 299).length ∧ (b.take 299).length ≤ 299 := by simp; omega
    rw [if_neg (nI_nle tl.1 (by omega)), m_isUnderNew hN h1 hm n1, bnd_some, und_299 hx]
    cases hu : und x.1 b with
    | false =>
      rw [if_pos (show bI false = 0 from rfl)]
      exact ⟨c1, rfl, by rw [lu_und b0, hu, if_neg (by decide)]; exact v20, f1⟩
    | true =>
      rw [if_neg (by decide)]
      obtain ⟨c', w1, w2, w3⟩ := go (by rw [lu_und b0, hu])
      exact ⟨c', w1, by rw [lu_und b0, hu, if_pos rfl]; exact w2, f1.tr w3⟩
theorem m_isSamePart {N m o : Nat} {c : hS} {x y : Mb} {b : List Nat} (hN : 1000000 ≤ N) (h : mmb c m x) (hm : m < 34) (ho : o < 34) (h' : mmb c o y) (hn : mrw c 14 209 (b.take 299)) (hx : nameB x.1 = true) (hl : lu x.1 b = true) : ∃ c', f_X12_isSamePart N c (nI m) (nI (pbh b)) (nI (part x.1 (pbh b)).length) (nI o) = some (bI (lu y.1 b && decide (part y.1 (pbh b) = part x.1 (pbh b))), c') ∧ fm (fun o i => o = 201 ∧ (i = 19 ∨ i = 20)) c c' := by
  obtain ⟨c1, e1, w, f1⟩ := m_findPart hN h' ho hn
  have pos := part_pos hx hl
  have l1 := part_len x.1 (pbh b)
  have l2 := part_len y.1 (pbh b)
  have x90 := h.1.2.2.1
  have y90 := h'.1.2.2.1
  have hp := lu_pbh hl
  have hx1 : mmb c1 m x := h.fm f1 (fun o i a b => by omega)
  have hy1 : mmb c1 o y := h'.fm f1 (fun o i a b => by omega)
  unfold f_X12_isSamePart
  rw [e1, bnd_some]
  have z : ∀ n k, k ≤ (part x.1 (pbh b)).length → f_X12_isSamePart_24 N (nI m) (nI (pbh b)) (nI (part x.1 (pbh b)).length) (nI o) (n + 1) c1 0 (nI k) = some (0, c1) := fun n k hk => by
    rw [f_X12_isSamePart_24]
    by_cases q : nI (part x.1 (pbh b)).length ≤ nI k
    · rw [if_pos q]; rfl
    · rw [if_neg q, if_pos rfl]; rfl
  obtain ⟨n, hn1⟩ : ∃ n, N = n + 1 := ⟨N - 1, by omega⟩
  cases hu : lu y.1 b with
  | false =>
    rw [hu, if_neg (by decide)] at w
    rw [w, if_neg (show ¬ (0 : Int32) = nI (part x.1 (pbh b)).length from fun q => nI_ne0 (by omega) (by omega) q.symm)]
    refine ⟨c1, ?_, f1⟩
    have := z n 0 (Nat.zero_le _)
    rw [← hn1] at this
    exact this
  | true =>
    rw [hu, if_pos rfl] at w
    rw [w.2]
    by_cases e : (part y.1 (pbh b)).length = (part x.1 (pbh b)).length
    · rw [if_pos (by rw [e])]
      have key := same_loop (F := f_X12_isSamePart_24 N (nI m) (nI (pbh b)) (nI (part x.1 (pbh b)).length) (nI o)) (c := c1) (j := (part x.1 (pbh b)).length) (P := fun k => decide (gt x.1 (pbh b + k) = gt y.1 (pbh b + k))) (fun n k hk => by
        rw [f_X12_isSamePart_24, if_neg (nI_ge hk (by omega)), if_neg (by decide), nI_add, m_nameAt hx1 hm (by omega), bnd_some, w.1, nI_add, m_nameAt hy1 ho (by omega), bnd_some]
        have b1 := h.1.2.2.2.gt (pbh b + k)
        have b2 := h'.1.2.2.2.gt (pbh b + k)
        by_cases q : gt x.1 (pbh b + k) = gt y.1 (pbh b + k)
        · rw [if_pos (by rw [q]), decide_eq_true q]; rfl
        · rw [if_neg (fun z => q ((nI_eq (by omega) (by omega)).mp z)), decide_eq_false q]; rfl) (fun n => by rw [f_X12_isSamePart_24, if_pos (nI_le (Nat.le_refl _) (by omega))]; rfl) z (part x.1 (pbh b)).length N 0 true (by omega) (by omega)
      refine ⟨c1, key.trans ?_, f1⟩
      congr 2
      congr 1
      rw [Bool.true_and, Bool.true_and]
      apply bool_eq
      rw [all_range, decide_eq_true_eq]
      exact ⟨fun q => (part_ext e (fun i hi => of_decide_eq_true (q i hi))).symm, fun q i hi => decide_eq_true (by rw [← part_gt hi, ← part_gt (by rw [q]; exact hi), q])⟩
    · rw [if_neg (fun q => e ((nI_eq (by omega) (by omega)).mp q)), decide_eq_false (fun q => e (by rw [q]))]
      refine ⟨c1, ?_, f1⟩
      have := z n 0 (Nat.zero_le _)
      rw [← hn1] at this
      exact this
theorem m_isFresh {N i : Nat} {c : hS} {b t : List Nat} {ms : List Mb} (hN : 1000000 ≤ N) (h : PM c b t ms) (hi : i < ms.length) (hn : mrw c 14 209 (b.take 299)) : ∃ c', f_X12_isFresh N c (nI i) = some (bI (frs b ms i), c') ∧ (frs b ms i = true → c'.1 201 19 = nI (pbh b) ∧ c'.1 201 20 = nI (part (tt ms i) (pbh b)).length) ∧ fm (fun o i => o = 201 ∧ (i = 19 ∨ i = 20)) c c' := by
  have h16 := h.2.2.2.1
  have hm := h.2.2.2.2.1 i hi
  rw [Nat.zero_add] at hm
  have hnm := h.2.2.2.2.2 _ (List.getElem_mem hi)
  have x90 := hm.1.2.2.1
  obtain ⟨c1, e1, w, f1⟩ := m_findPart hN hm (by omega) hn
  have hp1 := h.mv f1 (fun o i z => by omega)
  have n1 : mrw c1 14 209 (b.take 299) := hn.fm f1 (by omega) (fun i => by omega)
  unfold f_X12_isFresh frs
  rw [e1, bnd_some, tt_at hi]
  cases hu : lu ms[i].1 b with
  | false =>
    rw [hu, if_neg (by decide)] at w
    rw [w, if_pos (by decide), Bool.false_and]
    obtain ⟨n, hn1⟩ : ∃ n, N = n + 1 := ⟨N - 1, by omega⟩
    have f2 : fm (fun o i => o = 201 ∧ (i = 19 ∨ i = 20)) c1 (sI (sI c1 201 19 (c1.1 201 19)) 201 20 0) := (fm.sI (by omega)).tr (fm.sI (by omega))
    refine ⟨_, ?_, (fun z => by cases z), f1.tr f2⟩
    have : f_X12_isFresh_29 (n + 1) (nI i) (n + 1) c1 (c1.1 201 19) 0 0 0 = some (bI false, sI (sI c1 201 19 (c1.1 201 19)) 201 20 0) := by
      rw [f_X12_isFresh_29]
      by_cases q : nI i ≤ 0
      · rw [if_pos q]; rfl
      · rw [if_neg q, if_pos rfl]; rfl
    rw [← hn1] at this
    exact this
  | true =>
    have pos := part_pos hnm hu
    have lp := part_len ms[i].1 (pbh b)
    rw [hu, if_pos rfl] at w
    rw [w.1, w.2, if_neg (nI_nle pos (by omega)), Bool.true_and]
    have key : ∀ d n j v c, j + d = i → d < n → PM c b t ms → mrw c 14 209 (b.take 299) → ∃ c', f_X12_isFresh_29 N (nI i) n c (nI (pbh b)) (nI (part ms[i].1 (pbh b)).length) (bI v) (nI j) = some (bI (v && (List.range' j d).all fun j => !otB b ms i j), c') ∧ (c'.1 201 19 = nI (pbh b) ∧ c'.1 201 20 = nI (part ms[i].1 (pbh b)).length) ∧ fm (fun o i => o = 201 ∧ (i = 19 ∨ i = 20)) c c' := by
      have fin : ∀ c (v : Bool), (bif j_b (bI v) then some (bI v, sI (sI c 201 19 (nI (pbh b))) 201 20 (nI (part ms[i].1 (pbh b)).length)) else none) = some (bI v, sI (sI c 201 19 (nI (pbh b))) 201 20 (nI (part ms[i].1 (pbh b)).length)) := fun c v => by cases v <;> rfl
      have st : ∀ c, (∃ c', c' = sI (sI c 201 19 (nI (pbh b))) 201 20 (nI (part ms[i].1 (pbh b)).length) ∧ (c'.1 201 19 = nI (pbh b) ∧ c'.1 201 20 = nI (part ms[i].1 (pbh b)).length) ∧ fm (fun o i => o = 201 ∧ (i = 19 ∨ i = 20)) c c') := fun c => ⟨_, rfl, ⟨by rw [sI_j (by decide), sI_s], sI_s _ _ _ _⟩, (fm.sI (by omega)).tr (fm.sI (by omega))⟩
      intro d
      induction d with
      | zero =>
        intro n j v c hj hn' hc hcn
        obtain ⟨n, rfl⟩ : ∃ m, n = m + 1 := ⟨n - 1, by omega⟩
        obtain ⟨c', r1, r2, r3⟩ := st c
        rw [f_X12_isFresh_29, if_pos (nI_le (by omega) (by omega))]
        dsimp only [st1]
        rw [fin, ← r1]
        exact ⟨c', by cases v <;> rfl, r2, r3⟩
      | succ d ih =>
        intro n j v c hj hn' hc hcn
        obtain ⟨n, rfl⟩ : ∃ m, n = m + 1 := ⟨n - 1, by omega⟩
        rw [f_X12_isFresh_29, if_neg (nI_ge (by omega) (by omega))]
        cases v with
        | false =>
          obtain ⟨c', r1, r2, r3⟩ := st c
          rw [if_pos (show bI false = 0 from rfl)]
          dsimp only [st1]
          rw [fin, ← r1]
          exact ⟨c', rfl, r2, r3⟩
        | true =>
          have hjl : j < ms.length := by omega
          have hmj := hc.2.2.2.2.1 j hjl
          have hmi := hc.2.2.2.2.1 i hi
          rw [Nat.zero_add] at hmj hmi
          obtain ⟨c2, e2, f2⟩ := m_isSamePart hN hmi (by omega) (by omega) hmj hcn hnm hu
          have hc2 := hc.mv f2 (fun o i z => by omega)
          have hcn2 : mrw c2 14 209 (b.take 299) := hcn.fm f2 (by omega) (fun i => by omega)
          rw [if_neg (by decide), e2, bnd_some, List.range'_succ, List.all_cons]
          have eo : otB b ms i j = (lu ms[j].1 b && decide (part ms[j].1 (pbh b) = part ms[i].1 (pbh b))) := by unfold otB; rw [tt_at hjl, tt_at hi]
          rw [← eo]
          cases otB b ms i j with
          | false =>
            obtain ⟨c', r1, r2, r3⟩ := ih n (j + 1) true c2 (by omega) (by omega) hc2 hcn2
            rw [if_pos (show bI false = 0 from rfl), nI_1]
            exact ⟨c', r1, r2, f2.tr r3⟩
          | true =>
            obtain ⟨c', r1, r2, r3⟩ := ih n (j + 1) false c2 (by omega) (by omega) hc2 hcn2
            rw [if_neg (by decide), nI_1]
            exact ⟨c', r1, r2, f2.tr r3⟩
    obtain ⟨c', r1, r2, r3⟩ := key i N 0 true c1 (by omega) (by omega) hp1 n1
    exact ⟨c', r1, fun _ => r2, f1.tr r3⟩
theorem in_m1 {l : List Nat} {i : Int32} (hl : l.length < 2 ^ 31) : (decide ((-1 : Int32) ≤ i) && decide (i ≤ nI l.length - 1)) = decide (i = -1 ∨ haB l i = true) := by
  have h3 := in_m3 (l := l) (i := i) hl
  by_cases w : (-1 : Int32) ≤ i
  · have w3 : (-3 : Int32) ≤ i := Int32.le_trans (by decide) w
    rw [decide_eq_true w3] at h3
    rw [decide_eq_true w, h3]
    by_cases q : i = -1 ∨ haB l i = true
    · rw [decide_eq_true q, decide_eq_true (Or.inr (Or.inr q))]
    · rw [decide_eq_false q, decide_eq_false]
      rintro (z | z | z)
      · rw [z] at w; exact absurd w (by decide)
      · rw [z] at w; exact absurd w (by decide)
      · exact q z
  · rw [decide_eq_false w, Bool.false_and, eq_comm, decide_eq_false_iff_not]
    rintro (z | z)
    · rw [z] at w; exact w (by decide)
    · obtain ⟨k, hk, rfl, _⟩ := haB_so z
      exact w (Int32.le_of_lt (Int32.lt_of_lt_of_le (by decide) (nI_pos'' hk)))
theorem m_child {N : Nat} {c : hS} {b t : List Nat} {ms : List Mb} {k i : Int32} (hN : 1000000 ≤ N) (h : PM c b t ms) : MN (f_X12_child N c k i) c (chK b ms k i) (chV b ms k i) b t ms := by
  obtain ⟨c1, e1, h1, z1, f1⟩ := m_zero h
  have h16 := h.2.2.2.1
  unfold f_X12_child
  rw [e1]
  dsimp only [st1]
  have go : (k = -1 → i = -1) → MN (f_X12_child_20 N k i c1) c (chK b ms k i) (chV b ms k i) b t ms := by
    intro hki
    unfold f_X12_child_20 f_X12_child_21
    obtain ⟨c2, e2, n2, f2⟩ := m_takePath hN h1
    have h2 := h1.mv f2 (fun o i z => by omega)
    have z2 : c2.1 201 0 = 0 := (f2.1 _ _ (by omega)).trans z1
    have fz : fm (fun o _ => 201 ≤ o ∧ o < 219) c c2 := f1.tr (f2.mono (fun o i z => by omega))
    rw [m_ref0 z1, bnd_some, if_pos rfl, e2, bnd_some]
    have stp : ∀ {c3 : hS}, PM c3 b t ms → mrw c3 14 209 (b.take 299) → c3.1 201 0 = 0 → ∀ {c4 : hS}, fm (fun o i => o = 201 ∧ (i = 19 ∨ i = 20)) c3 c4 → PM c4 b t ms ∧ mrw c4 14 209 (b.take 299) ∧ c4.1 201 0 = 0 := fun a1 a2 a3 _ f => ⟨a1.mv f (fun o i z => by omega), a2.fm f (by omega) (fun i => by omega), (f.1 _ _ (by omega)).trans a3⟩
    rcases i_cases k with q | ⟨kk, hk, rfl⟩
    · have key : ∀ d m j a c, j + d = ms.length → d < m → a ≤ j → PM c b t ms → mrw c 14 209 (b.take 299) → c.1 201 0 = 0 → ∃ c', f_X12_child_39 N k i m c (nI a) (nI j) = (if k = -1 then f_X12_child_145 N k i c' (nI (a + ((List.range' j d).filter (frs b ms)).length)) 0 else f_X12_child_145 N k i c' (nI (a + ((List.range' j d).filter (frs b ms)).length)) 1) ∧ PM c' b t ms ∧ c'.1 201 0 = 0 ∧ fm (fun o i => o = 201 ∧ (i = 19 ∨ i = 20)) c c' := by
        intro d
        induction d with
        | zero =>
          intro m j a c hj hm _ hc hn hz
          obtain ⟨m, rfl⟩ : ∃ m', m = m' + 1 := ⟨m - 1, by omega⟩
          rw [f_X12_child_39, hc.2.2.1, if_pos (nI_le (by omega) (by omega))]
          exact ⟨c, rfl, hc, hz, fm.rf⟩
        | succ d ih =>
          intro m j a c hj hm ha hc hn hz
          obtain ⟨m, rfl⟩ : ∃ m', m = m' + 1 := ⟨m - 1, by omega⟩
          obtain ⟨c3, e3, v3, f3⟩ := m_isFresh (i := j) hN hc (by omega) hn
          obtain ⟨a1, a2, a3⟩ := stp hc hn hz f3
          rw [f_X12_child_39, hc.2.2.1, if_neg (nI_ge (by omega) (by omega)), e3, bnd_some, List.range'_succ]
          cases hf : frs b ms j with
          | false =>
            obtain ⟨c', r1, r2, r3, r4⟩ := ih m (j + 1) a c3 (by omega) (by omega) (by omega) a1 a2 a3
            rw [if_pos (show bI false = 0 from rfl), nI_1, r1, List.filter_cons_of_neg (by rw [hf]; decide)]
            exact ⟨c', rfl, r2, r3, f3.tr r4⟩
          | true =>
            obtain ⟨c', r1, r2, r3, r4⟩ := ih m (j + 1) (a + 1) c3 (by omega) (by omega) (by omega) a1 a2 a3
            rw [if_neg (by decide), if_neg (show ¬ nI a = k from fun z => by rw [← z] at q; exact nI_pos (by omega) q), nI_1, nI_1, r1, List.filter_cons_of_pos hf, List.length_cons, show a + 1 + ((List.range' (j + 1) d).filter (frs b ms)).length = a + (((List.range' (j + 1) d).filter (frs b ms)).length + 1) by omega]
            exact ⟨c', rfl, r2, r3, f3.tr r4⟩
      obtain ⟨c', r1, r2, r3, r4⟩ := key ms.length N 0 0 c2 (by omega) (by omega) (by omega) h2 n2 z2
      have r1' : f_X12_child_39 N k i N c2 0 0 = _ := r1
      have fz' := fz.tr (r4.mono (fun o i z => by omega) (Q := fun o _ => 201 ≤ o ∧ o < 219))
      rw [r1', Nat.zero_add]
      unfold chK chV f_X12_child_145
      by_cases k1 : k = -1
      · rw [if_pos k1, if_pos k1, if_pos k1, if_pos (hki k1), m_ref0 r3, bnd_some, if_pos rfl]
        exact ⟨_, c', rfl, r3, fun _ => rfl, r2, fz'⟩
      · have cn : chF b ms k = none := by unfold chF; rw [if_pos q]
        rw [if_neg k1, if_neg k1, if_neg k1, cn, m_ref1 r3 (by decide), bnd_some, if_neg (by decide)]
        exact m_no (k := 1) r2 fz' (by decide) rfl
    · have k1 : nI kk ≠ -1 := fun z => nI_pos hk (by rw [z]; decide)
      have key : ∀ d m j a c, j + d = ms.length → d < m → a ≤ j → a ≤ kk → PM c b t ms → mrw c 14 209 (b.take 299) → c.1 201 0 = 0 → ∃ c', PM c' b t ms ∧ c'.1 201 0 = 0 ∧ fm (fun o i => o = 201 ∧ (i = 19 ∨ i = 20)) c c' ∧ (match ((List.range' j d).filter (frs b ms))[kk - a]? with
        | none => ∃ y, f_X12_child_39 N (nI kk) i m c (nI a) (nI j) = f_X12_child_145 N (nI kk) i c' y 1
        | some e => e < ms.length ∧ frs b ms e = true ∧ c'.1 201 19 = nI (pbh b) ∧ c'.1 201 20 = nI (part (tt ms e) (pbh b)).length ∧ f_X12_child_39 N (nI kk) i m c (nI a) (nI j) = bnd (f_X12_in c' i.toInt64 (-1) ((nI (part (tt ms e) (pbh b)).length - 1).toInt64)) fun x3 c4 => if x3 = 0 then f_X12_child_89 N (nI kk) i c4 (nI e) 1 else f_X12_child_89 N (nI kk) i c4 (nI e) 0) := by
        intro d
        induction d with
        | zero =>
          intro m j a c hj hm _ _ hc hn hz
          obtain ⟨m, rfl⟩ : ∃ m', m = m' + 1 := ⟨m - 1, by omega⟩
          refine ⟨c, hc, hz, fm.rf, nI a, ?_⟩
          rw [f_X12_child_39, hc.2.2.1, if_pos (nI_le (by omega) (by omega)), if_neg k1]
        | succ d ih =>
          intro m j a c hj hm ha hak hc hn hz
          obtain ⟨m, rfl⟩ : ∃ m', m = m' + 1 := ⟨m - 1, by omega⟩
          obtain ⟨c3, e3, v3, f3⟩ := m_isFresh (i := j) hN hc (by omega) hn
          obtain ⟨a1, a2, a3⟩ := stp hc hn hz f3
          have ex : f_X12_child_39 N (nI kk) i (m + 1) c (nI a) (nI j) = if bI (frs b ms j) = 0 then f_X12_child_39 N (nI kk) i m c3 (nI a) (nI (j + 1)) else if nI a = nI kk then bnd (f_X12_in c3 i.toInt64 (-1) (((c3.1 201 20) - 1).toInt64)) fun x3 c4 => (if x3 = 0 then f_X12_child_89 N (nI kk) i c4 (nI j) 1 else f_X12_child_89 N (nI kk) i c4 (nI j) 0) else f_X12_child_39 N (nI kk) i m c3 (nI (a + 1)) (nI (j + 1)) := by
            rw [f_X12_child_39, hc.2.2.1, if_neg (nI_ge (by omega) (by omega)), e3, bnd_some, nI_1, nI_1]
          rw [ex, List.range'_succ]
          cases hf : frs b ms j with
          | false =>
            obtain ⟨c', r1, r2, r3, r4⟩ := ih m (j + 1) a c3 (by omega) (by omega) (by omega) hak a1 a2 a3
            rw [if_pos (show bI false = 0 from rfl), List.filter_cons_of_neg (by rw [hf]; decide)]
            exact ⟨c', r1, r2, f3.tr r3, r4⟩
          | true =>
            rw [if_neg (by decide), List.filter_cons_of_pos hf]
            by_cases e : a = kk
            · rw [if_pos (by rw [e]), e, Nat.sub_self, List.getElem?_cons_zero]
              have v := v3 hf
              rw [v.2]
              exact ⟨c3, a1, a3, f3, by omega, hf, v.1, v.2, rfl⟩
            · obtain ⟨c', r1, r2, r3, r4⟩ := ih m (j + 1) (a + 1) c3 (by omega) (by omega) (by omega) (by omega) a1 a2 a3
              rw [if_neg (fun z => e ((nI_eq (by omega) hk).mp z)), show kk - a = kk - (a + 1) + 1 by omega, List.getElem?_cons_succ]
              exact ⟨c', r1, r2, f3.tr r3, r4⟩
      obtain ⟨c', r1, r2, r3, r4⟩ := key ms.length N 0 0 c2 (by omega) (by omega) (by omega) (by omega) h2 n2 z2
      have fz' := fz.tr (r3.mono (fun o i z => by omega) (Q := fun o _ => 201 ≤ o ∧ o < 219))
      have cf : chF b ms (nI kk) = ((List.range' 0 ms.length).filter (frs b ms))[kk - 0]? := by unfold chF fsL; rw [if_neg (nI_pos hk), nI_clamp hk, Nat.sub_zero]
      unfold chK chV
      rw [if_neg k1, if_neg k1, cf]
      cases hc : ((List.range' 0 ms.length).filter (frs b ms))[kk - 0]? with
      | none =>
        rw [hc] at r4
        obtain ⟨y, r4⟩ := r4
        have r4' : f_X12_child_39 N (nI kk) i N c2 0 0 = _ := r4
        rw [r4']
        unfold f_X12_child_145
        rw [m_ref1 r2 (by decide), bnd_some, if_neg (by decide)]
        exact m_no (k := 1) r1 fz' (by decide) rfl
      | some e =>
        rw [hc] at r4
        obtain ⟨el, ef, v19, v20, r4⟩ := r4
        have r4' : f_X12_child_39 N (nI kk) i N c2 0 0 = _ := r4
        rw [r4']
        have hm := r1.2.2.2.2.1 e el
        rw [Nat.zero_add] at hm
        have x90 := hm.1.2.2.1
        have lp := part_len (tt ms e) (pbh b)
        have te := tt_at el
        rw [← te] at x90
        have hp : pbh b ≤ (tt ms e).length := by
          unfold frs at ef
          rw [Bool.and_eq_true] at ef
          exact lu_pbh ef.1
        have z1' := r2
        show MN _ c (if i = -1 ∨ haB (part (tt ms e) (pbh b)) i = true then 0 else 1) (if i = -1 then nI (part (tt ms e) (pbh b)).length else tdV (part (tt ms e) (pbh b)) i) b t ms
        rw [m_in (a := -1) (a' := -1) (by decide) rfl, bnd_some, in_m1 (by omega)]
        unfold f_X12_child_89
        by_cases w : i = -1 ∨ haB (part (tt ms e) (pbh b)) i = true
        · rw [decide_eq_true w, if_neg (by decide), if_pos w, m_ref0 r2, bnd_some, if_pos rfl, v20, v19]
          by_cases i1 : i = -1
          · rw [if_pos i1, if_pos i1]
            exact ⟨_, c', rfl, r2, fun _ => rfl, r1, fz'⟩
          · have hh : haB (part (tt ms e) (pbh b)) i = true := w.elim (fun z => absurd z i1) id
            obtain ⟨q, hq, rfl, hql⟩ := haB_so hh
            rw [if_neg i1, if_neg i1, nI_add, m_nameAt hm (by omega) (by rw [← te]; omega), bnd_some, ← te]
            unfold tdV
            rw [nI_clamp hq, part_gt hql]
            exact ⟨_, c', rfl, r2, fun _ => rfl, r1, fz'⟩
        · rw [decide_eq_false w, if_pos (show bI false = 0 from rfl), if_neg w, m_ref1 r2 (by decide), bnd_some, if_neg (by decide)]
          exact m_no r1 fz' (by decide) rfl
  by_cases k1 : k = -1
  · rw [if_pos k1]
    by_cases i1 : i = -1
    · rw [if_pos i1]; exact go (fun _ => i1)
    · rw [if_neg i1]
      unfold f_X12_child_21 chK
      rw [if_pos k1, if_neg i1, m_ref1 z1 (by decide), bnd_some, if_neg (by decide)]
      exact m_no h1 f1 (by decide) rfl
  · rw [if_neg k1]
    exact go (fun z => absurd z k1)
end
section
/-! PURE: the reference: check; bytes behind the tape; kind 1 written -/
theorem m_checkMore {N : Nat} {c : hS} {v : Int32} {b : Nat} (hN : 1000000 ≤ N) : f_X12_checkMore N c v (nI b) = some (crcN 8 (v ^^^ nI b), c) := by
  have key : ∀ d n j v p0 p1, j + d = 8 → d < n → f_X12_checkMore_6 N p0 p1 n c v (nI j) = some (crcN d v, c) := by
    intro d
    induction d with
    | zero =>
      intro n j v p0 p1 hj hn
      obtain ⟨n, rfl⟩ : ∃ m, n = m + 1 := ⟨n - 1, by omega⟩
      rw [f_X12_checkMore_6, if_pos (show (8 : Int32) ≤ nI j from nI_le (a := 8) (by omega) (by omega))]
      rfl
    | succ d ih =>
      intro n j v p0 p1 hj hn
      obtain ⟨n, rfl⟩ : ∃ m, n = m + 1 := ⟨n - 1, by omega⟩
      rw [f_X12_checkMore_6, if_neg (show ¬ (8 : Int32) ≤ nI j from nI_ge (b := 8) (by omega) (by decide)), nI_1]
      unfold crcN crcS
      by_cases q : v &&& 1 = 1
      · rw [if_pos q, if_pos q]; exact ih n (j + 1) _ p0 p1 (by omega) (by omega)
      · rw [if_neg q, if_neg q]; exact ih n (j + 1) _ p0 p1 (by omega) (by omega)
  unfold f_X12_checkMore
  exact key 8 N 0 _ _ _ (by omega) (by omega)
theorem crcL_s {l : List Nat} {j : Nat} {v : Int32} (h : j < l.length) : crcL v (l.drop j) = crcL (crcN 8 (v ^^^ nI (gt l j))) (l.drop (j + 1)) := by
  rw [List.drop_eq_getElem_cons h, gt_lt h]
  rfl
theorem m_check {N : Nat} {c : hS} {b t : List Nat} {ms : List Mb} (hN : 1000000 ≤ N) (h : PM c b t ms) : MN (f_X12_check N c) c 0 (crc b) b t ms := by
  obtain ⟨c1, e1, h1, z1, f1⟩ := m_zero h
  have hbl : b.length ≤ 512 := h.1.1
  unfold f_X12_check
  rw [e1]
  dsimp only [st1]
  have key : ∀ d n j v, j + d = b.length → d < n → f_X12_check_9 N n c1 v (nI j) = some (crcL v (b.drop j) ^^^ (-1), c1) := by
    intro d
    induction d with
    | zero =>
      intro n j v hj hn
      obtain ⟨n, rfl⟩ : ∃ m, n = m + 1 := ⟨n - 1, by omega⟩
      rw [f_X12_check_9, h1.1.2.1, if_pos (nI_le (by omega) (by omega)), List.drop_eq_nil_of_le (by omega)]
      rfl
    | succ d ih =>
      intro n j v hj hn
      obtain ⟨n, rfl⟩ : ∃ m, n = m + 1 := ⟨n - 1, by omega⟩
      rw [f_X12_check_9, h1.1.2.1, if_neg (nI_ge (by omega) (by omega)), j_in_nI (show j < ln 202 from (by show j < 512; omega)) (by decide), cond_true, nI_clamp (by omega), h1.1.2.2.1 j (by omega), m_checkMore hN, bnd_some, nI_1, ih n (j + 1) _ (by omega) (by omega), crcL_s (l := b) (j := j) (by omega)]
  refine ⟨_, c1, key b.length N 0 (-1) (by omega) (by omega), z1, fun _ => ?_, h1, f1⟩
  rw [List.drop_zero]
  rfl
/-- the tape and its length -/
noncomputable def W1 (o i : Nat) : Prop := o = 203 ∨ (o = 201 ∧ i = 4)
noncomputable def MP (X : Option (Unit × hS)) (c : hS) (t r : List Nat) : Prop := ∃ c', X = some ((), c') ∧ mrw c' 4 203 (t ++ r) ∧ fm W1 c c'
theorem MP.end_ {c : hS} {t : List Nat} (h : mrw c 4 203 t) : MP (some ((), c)) c t [] := ⟨c, rfl, by simpa using h, fm.rf⟩
theorem MP.bnd_ {X : Option (Unit × hS)} {K : Unit → hS → Option (Unit × hS)} {c : hS} {t p r : List Nat} (hX : MP X c t p) (hK : ∀ c1, mrw c1 4 203 (t ++ p) → fm W1 c c1 → MP (K () c1) c1 (t ++ p) r) : MP (bnd X K) c t (p ++ r) := by
  obtain ⟨c1, e1, r1, f1⟩ := hX
  obtain ⟨c2, e2, r2, f2⟩ := hK c1 r1 f1
  refine ⟨c2, ?_, by rw [← List.append_assoc]; exact r2, f1.tr f2⟩
  rw [e1, bnd_some]
  exact e2
theorem MP.last_ {X : Option (Unit × hS)} {c : hS} {t p : List Nat} (hX : MP X c t p) : MP (bnd X fun _ c1 => some ((), c1)) c t p := by
  have := MP.bnd_ (K := fun _ c1 => some ((), c1)) hX (fun c1 r1 _ => MP.end_ r1)
  rwa [List.append_nil] at this
theorem mmbW {c c1 : hS} {m : Nat} {x : Mb} (h : mmb c m x) (f : fm W1 c c1) : mmb c1 m x := h.fm f (fun o i a b => by unfold W1; omega)
theorem nW1 {o i : Nat} (h : o ≠ 203) (h2 : o = 201 → i ≠ 4) : ¬ W1 o i := by unfold W1; omega
theorem MP.put {c : hS} {t : List Nat} {x : Int32} {v : Nat} (h : mrw c 4 203 t) (hl : t.length + 1 ≤ 20000) (hv : b8 x = v) : MP (f_X12_put c x) c t [v] := by
  subst hv
  unfold f_X12_put
  rw [h.2.1, j_in_nI (show t.length < ln 203 from (by show t.length < 20000; omega)) (by decide), cond_true, nI_clamp (by omega)]
  dsimp only [st1]
  rw [b8_and, sI_o (by decide), h.2.1, nI_1]
  exact ⟨_, rfl, h.add (x := b8 x) (by decide) (show t.length < 20000 by omega) (b8_lt x), (fm.sI (Or.inl rfl)).tr (fm.sI (Or.inr ⟨rfl, rfl⟩))⟩
theorem MP.putN {c : hS} {t : List Nat} {x : Int32} {v : Nat} (h : mrw c 4 203 t) (hl : t.length + 1 ≤ 20000) (hx : x = nI v) (hv : v < 256) : MP (f_X12_put c x) c t [v] := MP.put h hl (by rw [hx]; exact b8_nI' hv)
theorem MP.zeros {N : Nat} {c : hS} {t : List Nat} {x : Int32} {m : Nat} (hN : 1000000 ≤ N) (h : mrw c 4 203 t) (hl : t.length + m ≤ 20000) (hx : x = nI (t.length + m)) : MP (f_X12_putZeros N c x) c t (List.replicate m 0) := by
  have key : ∀ d n c t, t.length + d ≤ 20000 → d < n → x = nI (t.length + d) → mrw c 4 203 t → MP (f_X12_putZeros_0 N x n c) c t (List.replicate d 0) := by
    intro d
    induction d with
    | zero =>
      intro n c t hl hn hx h
      obtain ⟨n, rfl⟩ : ∃ m, n = m + 1 := ⟨n - 1, by omega⟩
      rw [f_X12_putZeros_0, h.2.1, hx, if_pos (nI_le (by omega) (by omega))]
      exact MP.end_ h
    | succ d ih =>
      intro n c t hl hn hx h
      obtain ⟨n, rfl⟩ : ∃ m, n = m + 1 := ⟨n - 1, by omega⟩
      rw [f_X12_putZeros_0, h.2.1, if_neg (by rw [hx]; exact nI_ge (by omega) (by omega)), List.replicate_succ]
      exact MP.bnd_ (p := [0]) (MP.put h (by omega) rfl) (fun c1 r1 f1 => ih n c1 _ (by simp; omega) (by omega) (by rw [hx]; simp; congr 1; omega) r1)
  exact key m N c t hl (by omega) hx h
theorem MP.name {N m : Nat} {c : hS} {t : List Nat} {x : Mb} {s : Bool} (hN : 1000000 ≤ N) (h : mrw c 4 203 t) (hm : mmb c m x) (hm34 : m < 34) (hl : t.length + x.1.length + 1 ≤ 20000) : MP (f_X12_putName N c (nI m) (bI s)) c t (x.1 ++ (if (s && x.2.2) = true then [47] else [])) := by
  have hx := hm.1.2.2.1
  have key : ∀ d n i c t, i + d = x.1.length → d < n → t.length + d + 1 ≤ 20000 → mmb c m x → mrw c 4 203 t → MP (f_X12_putName_2 N (nI m) (bI s) n c (nI i)) c t (x.1.drop i ++ (if (s && x.2.2) = true then [47] else [])) := by
    intro d
    induction d with
    | zero =>
      intro n i c t hi hn hl hm h
      obtain ⟨n, rfl⟩ : ∃ m, n = m + 1 := ⟨n - 1, by omega⟩
      rw [f_X12_putName_2, j_in_nI (show m < ln 204 from hm34) (by decide), cond_true, nI_clamp (by omega), hm.1.1, if_pos (nI_le (by omega) (by omega)), List.drop_eq_nil_of_le (by omega), List.nil_append]
      cases s with
      | false => rw [if_pos (show bI false = 0 from rfl)]; exact MP.end_ h
      | true =>
        rw [if_neg (by decide), j_in_nI (show m < ln 208 from hm34) (by decide), cond_true, hm.2.2]
        cases x.2.2 with
        | false => rw [if_pos (show bI false = 0 from rfl)]; exact MP.end_ h
        | true => rw [if_neg (by decide)]; exact MP.last_ (MP.put h (by omega) rfl)
    | succ d ih =>
      intro n i c t hi hn hl hm h
      obtain ⟨n, rfl⟩ : ∃ m, n = m + 1 := ⟨n - 1, by omega⟩
      have hil : i < x.1.length := by omega
      rw [f_X12_putName_2, j_in_nI (show m < ln 204 from hm34) (by decide), cond_true, nI_clamp (by omega), hm.1.1, if_neg (nI_ge hil (by omega)), m_nameAt hm hm34 hil, bnd_some, List.drop_eq_getElem_cons hil, gt_lt hil, List.cons_append]
      refine MP.bnd_ (p := [x.1[i]]) (MP.putN h (by omega) rfl (hm.1.2.2.2 _ (List.getElem_mem hil))) (fun c1 r1 f1 => ?_)
      rw [nI_1]
      exact ih n (i + 1) c1 _ (by omega) (by omega) (by simp; omega) (mmbW hm f1) r1
  exact key x.1.length N 0 c t (by omega) (by omega) hl hm h
theorem MP.name1 {N m : Nat} {c : hS} {t : List Nat} {x : Mb} (hN : 1000000 ≤ N) (h : mrw c 4 203 t) (hm : mmb c m x) (hm34 : m < 34) (hl : t.length + x.1.length + 1 ≤ 20000) : MP (f_X12_putName N c (nI m) 1) c t (nmS x) := by
  have := MP.name (s := true) hN h hm hm34 hl
  rwa [Bool.true_and] at this
theorem MP.name0 {N m : Nat} {c : hS} {t : List Nat} {x : Mb} (hN : 1000000 ≤ N) (h : mrw c 4 203 t) (hm : mmb c m x) (hm34 : m < 34) (hl : t.length + x.1.length + 1 ≤ 20000) : MP (f_X12_putName N c (nI m) 0) c t x.1 := by
  have := MP.name (s := false) hN h hm hm34 hl
  rwa [Bool.false_and, if_neg (by decide), List.append_nil] at this
theorem MP.bytes {N m : Nat} {c : hS} {t : List Nat} {x : Mb} (hN : 1000000 ≤ N) (h : mrw c 4 203 t) (hm : mmb c m x) (hm34 : m < 34) (hl : t.length + x.2.1.length ≤ 20000) : MP (f_X12_putBytes N c (nI m)) c t x.2.1 := by
  have hx := hm.2.1.2.2.1
  have key : ∀ d n i c t, i + d = x.2.1.length → d < n → t.length + d ≤ 20000 → mmb c m x → mrw c 4 203 t → MP (f_X12_putBytes_2 N (nI m) n c (nI i)) c t (x.2.1.drop i) := by
    intro d
    induction d with
    | zero =>
      intro n i c t hi hn hl hm h
      obtain ⟨n, rfl⟩ : ∃ m, n = m + 1 := ⟨n - 1, by omega⟩
      rw [f_X12_putBytes_2, j_in_nI (show m < ln 206 from hm34) (by decide), cond_true, nI_clamp (by omega), hm.2.1.1, if_pos (nI_le (by omega) (by omega)), List.drop_eq_nil_of_le (by omega)]
      exact MP.end_ h
    | succ d ih =>
      intro n i c t hi hn hl hm h
      obtain ⟨n, rfl⟩ : ∃ m, n = m + 1 := ⟨n - 1, by omega⟩
      have hil : i < x.2.1.length := by omega
      rw [f_X12_putBytes_2, j_in_nI (show m < ln 206 from hm34) (by decide), cond_true, nI_clamp (show m < 2 ^ 31 by omega), hm.2.1.1, if_neg (nI_ge hil (by omega)), mul400 m i, j_in_nI (show 400 * m + i < ln 207 from (by show 400 * m + i < 13600; omega)) (by decide), cond_true, nI_clamp (by omega), hm.2.1.2.1 i hil, List.drop_eq_getElem_cons hil, gt_lt hil]
      refine MP.bnd_ (p := [x.2.1[i]]) (MP.putN h (by omega) rfl (hm.2.1.2.2.2 _ (List.getElem_mem hil))) (fun c1 r1 f1 => ?_)
      rw [nI_1]
      exact ih n (i + 1) c1 _ (by omega) (by omega) (by simp; omega) (mmbW hm f1) r1
  exact key x.2.1.length N 0 c t (by omega) (by omega) hl hm h
theorem MP.hex {N : Nat} {c : hS} {t : List Nat} {x : Int32} {v : Nat} (hN : 1000000 ≤ N) (h : mrw c 4 203 t) (hl : t.length + 8 ≤ 20000) (hx : x = nI v) (hv : v < 2 ^ 31) : MP (f_X12_putHex N c x) c t (hexs v) := by
  subst hx
  unfold f_X12_putHex hexs
  have key : ∀ d n' c t, d ≤ 8 → d < n' → mrw c 4 203 t → t.length + d ≤ 20000 → MP (f_X12_putHex_3 N (nI v) n' c (nI (4 * d) - 4)) c t (hexn v d) := by
    intro d
    induction d with
    | zero =>
      intro n' c t _ hn' hr hl
      obtain ⟨n', rfl⟩ : ∃ k, n' = k + 1 := ⟨n' - 1, by omega⟩
      rw [f_X12_putHex_3, if_pos (by decide)]
      exact MP.end_ hr
    | succ d ih =>
      intro n' c t hd hn' hr hl
      obtain ⟨n', rfl⟩ : ∃ k, n' = k + 1 := ⟨n' - 1, by omega⟩
      have e4 : nI (4 * (d + 1)) - 4 = nI (4 * d) := by
        rw [show (4 : Int32) = nI 4 from rfl, subI (by omega)]; congr 1
      rw [e4, f_X12_putHex_3, if_neg (nI_pos (by omega)), shr_nI hv (by omega), and15, show hexn v (d + 1) = [hd16 v d] ++ hexn v d by simp [hexn, List.range_succ]]
      have ep : (2 : Nat) ^ (4 * d) = 16 ^ d := by rw [Nat.pow_mul]
      rw [ep]
      have hm := Nat.mod_lt (v / 16 ^ d) (show 0 < 16 by decide)
      have nx : nI (4 * d) + (-4) = nI (4 * d) - 4 := (Int32.sub_eq_add_neg _ _).symm
      rw [nx]
      unfold hd16
      by_cases e : v / 16 ^ d % 16 < 10
      · rw [if_neg (show ¬ (10 : Int32) ≤ nI (v / 16 ^ d % 16) from nI_ge (b := 10) e (by decide)), if_pos e, show (48 : Int32) = nI 48 from rfl, nI_add]
        refine MP.bnd_ (MP.put hr (by omega) (b8_nI' (by omega))) (fun c1 r1 f1 => ?_)
        exact ih n' c1 _ (by omega) (by omega) r1 (by simp; omega)
      · rw [if_pos (show (10 : Int32) ≤ nI (v / 16 ^ d % 16) from nI_le (a := 10) (by omega) (by omega)), if_neg e, show (87 : Int32) = nI 87 from rfl, nI_add]
        refine MP.bnd_ (MP.put hr (by omega) (b8_nI' (by omega))) (fun c1 r1 f1 => ?_)
        exact ih n' c1 _ (by omega) (by omega) r1 (by simp; omega)
  exact key 8 N c t (by decide) (by omega) h hl
theorem MP.hd1 {N : Nat} {c : hS} {t : List Nat} {p1 p2 p3 p4 : Int32} {a b d e : Nat} (hN : 1000000 ≤ N) (h : mrw c 4 203 t) (hl : t.length + 110 ≤ 20000) (h1 : p1 = nI a) (h2 : p2 = nI b) (h3 : p3 = nI d) (h4 : p4 = nI e) (ha : a < 2 ^ 31) (hb : b < 2 ^ 31) (hd : d < 2 ^ 31) (he : e < 2 ^ 31) : MP (f_X12_putDigitsHead N c p1 p2 p3 p4) c t (head1 a b d e) := by
  have hx := fun v => hexs_len v
  have k93 : ∀ n c t, t.length + 48 ≤ 20000 → mrw c 4 203 t → MP (f_X12_putDigitsHead_93 N p1 p2 p3 p4 (n + 5) c 0) c t (hexs 0 ++ (hexs 0 ++ (hexs 0 ++ (hexs 0 ++ (hexs e ++ hexs 0))))) := by
    intro n c t hl h
    rw [f_X12_putDigitsHead_93, if_neg (by decide)]
    refine MP.bnd_ (MP.hex hN h (by omega) rfl (by decide)) (fun c1 r1 _ => ?_)
    rw [f_X12_putDigitsHead_93, if_neg (by decide)]
    refine MP.bnd_ (MP.hex hN r1 (by rw [List.length_append, hx]; omega) rfl (by decide)) (fun c2 r2 _ => ?_)
    rw [f_X12_putDigitsHead_93, if_neg (by decide)]
    refine MP.bnd_ (MP.hex hN r2 (by rw [List.length_append, List.length_append, hx]; omega) rfl (by decide)) (fun c3 r3 _ => ?_)
    rw [f_X12_putDigitsHead_93, if_neg (by decide)]
    refine MP.bnd_ (MP.hex hN r3 (by rw [List.length_append, List.length_append, List.length_append, hx]; omega) rfl (by decide)) (fun c4 r4 _ => ?_)
    rw [f_X12_putDigitsHead_93, if_pos (by decide)]
    refine MP.bnd_ (MP.hex hN r4 (by simp only [List.length_append, hx]; omega) h4 he) (fun c5 r5 _ => ?_)
    exact MP.last_ (MP.hex hN r5 (by simp only [List.length_append, hx]; omega) rfl (by decide))
  have k68 : ∀ n c t, t.length + 80 ≤ 20000 → mrw c 4 203 t → MP (f_X12_putDigitsHead_68 N p1 p2 p3 p4 (n + 4) c 0) c t (hexs 0 ++ (hexs 0 ++ (hexs 0 ++ (hexs d ++ (hexs 0 ++ (hexs 0 ++ (hexs 0 ++ (hexs 0 ++ (hexs e ++ hexs 0))))))))) := by
    intro n c t hl h
    rw [f_X12_putDigitsHead_68, if_neg (by decide)]
    refine MP.bnd_ (MP.hex hN h (by omega) rfl (by decide)) (fun c1 r1 _ => ?_)
    rw [f_X12_putDigitsHead_68, if_neg (by decide)]
    refine MP.bnd_ (MP.hex hN r1 (by simp only [List.length_append, hx]; omega) rfl (by decide)) (fun c2 r2 _ => ?_)
    rw [f_X12_putDigitsHead_68, if_neg (by decide)]
    refine MP.bnd_ (MP.hex hN r2 (by simp only [List.length_append, hx]; omega) rfl (by decide)) (fun c3 r3 _ => ?_)
    rw [f_X12_putDigitsHead_68, if_pos (by decide)]
    refine MP.bnd_ (MP.hex hN r3 (by simp only [List.length_append, hx]; omega) h3 hd) (fun c4 r4 _ => ?_)
    have := k93 (N - 5) c4 _ (by simp only [List.length_append, hx]; omega) r4
    rwa [show N - 5 + 5 = N by omega] at this
  have k3 : ∀ n c t, t.length + 110 ≤ 20000 → mrw c 4 203 t → MP (f_X12_putDigitsHead_3 N p1 p2 p3 p4 (n + 7) c 0) c t (head1 a b d e) := by
    intro n c t hl h
    show MP _ c t ([48] ++ ([55] ++ ([48] ++ ([55] ++ ([48] ++ ([49] ++ (hexs a ++ (hexs b ++ (hexs 1 ++ (hexs 0 ++ (hexs 0 ++ (hexs 0 ++ (hexs d ++ (hexs 0 ++ (hexs 0 ++ (hexs 0 ++ (hexs 0 ++ (hexs e ++ hexs 0))))))))))))))))))
    rw [f_X12_putDigitsHead_3, if_neg (by decide), if_neg (by decide), if_neg (by decide), if_neg (by decide)]
    refine MP.bnd_ (MP.put h (by omega) rfl) (fun c1 r1 _ => ?_)
    rw [f_X12_putDigitsHead_3, if_neg (by decide), if_pos (by decide)]
    refine MP.bnd_ (MP.put r1 (by simp; omega) rfl) (fun c2 r2 _ => ?_)
    rw [f_X12_putDigitsHead_3, if_neg (by decide), if_neg (by decide), if_neg (by decide), if_neg (by decide)]
    refine MP.bnd_ (MP.put r2 (by simp; omega) rfl) (fun c3 r3 _ => ?_)
    rw [f_X12_putDigitsHead_3, if_neg (by decide), if_neg (by decide), if_pos (by decide)]
    refine MP.bnd_ (MP.put r3 (by simp; omega) rfl) (fun c4 r4 _ => ?_)
    rw [f_X12_putDigitsHead_3, if_neg (by decide), if_neg (by decide), if_neg (by decide), if_neg (by decide)]
    refine MP.bnd_ (MP.put r4 (by simp; omega) rfl) (fun c5 r5 _ => ?_)
    rw [f_X12_putDigitsHead_3, if_neg (by decide), if_neg (by decide), if_neg (by decide), if_pos (by decide)]
    refine MP.bnd_ (MP.put r5 (by simp; omega) rfl) (fun c6 r6 _ => ?_)
    rw [f_X12_putDigitsHead_3, if_pos (by decide)]
    refine MP.bnd_ (MP.hex hN r6 (by simp; omega) h1 ha) (fun c7 r7 _ => ?_)
    refine MP.bnd_ (MP.hex hN r7 (by simp [hx]; omega) h2 hb) (fun c8 r8 _ => ?_)
    refine MP.bnd_ (MP.hex (v := 1) hN r8 (by simp [hx]; omega) rfl (by decide)) (fun c9 r9 _ => ?_)
    have := k68 (N - 4) c9 _ (by simp [hx]; omega) r9
    rwa [show N - 4 + 4 = N by omega] at this
  unfold f_X12_putDigitsHead
  have := k3 (N - 7) c t hl h
  rwa [show N - 7 + 7 = N by omega] at this
theorem div_nI {a b : Nat} (ha : a < 2 ^ 31) (hb : b < 2 ^ 31) : nI a / nI b = nI (a / b) := by
  apply Int32.toInt_inj.mp
  rw [Int32.toInt_div, nI_toInt ha, nI_toInt hb, nI_toInt (Nat.lt_of_le_of_lt (Nat.div_le_self _ _) ha)]
  have e : ((a : Int).tdiv (b : Int)) = ((a / b : Nat) : Int) := by
    rw [Int.tdiv_eq_ediv_of_nonneg (by omega)]
    rfl
  rw [e]
  have := Nat.div_le_self a b
  generalize a / b = q at this ⊢
  apply Int.bmod_eq_of_le <;> omega
theorem up4 {p : Nat} (h : p < 2 ^ 30) : (nI p + 3) / 4 * 4 = nI (upTo p 4) := by
  rw [show nI p + 3 = nI (p + 3) from nI_add p 3, show (4 : Int32) = nI 4 from rfl, div_nI (by omega) (by decide), nI_mul]
  rfl
theorem up512 {p : Nat} (h : p < 2 ^ 30) : (nI p + 511) / 512 * 512 = nI (upTo p 512) := by
  rw [show nI p + 511 = nI (p + 511) from nI_add p 511, show (512 : Int32) = nI 512 from rfl, div_nI (by omega) (by decide), nI_mul]
  rfl
theorem r4_eq (p : Nat) : p + r4 p = upTo p 4 := by
  have := upTo_le (a := p) (b := 4) (by decide)
  unfold r4; omega
theorem MP.rest {N : Nat} {c : hS} {t p : List Nat} {K : Unit → hS → Option (Unit × hS)} (hN : 1000000 ≤ N) (h : mrw c 4 203 t) (hl : t.length + 3 ≤ 20000) (hK : ∀ c1, mrw c1 4 203 (t ++ List.replicate (r4 t.length) 0) → fm W1 c c1 → MP (K () c1) c1 (t ++ List.replicate (r4 t.length) 0) p) : MP (bnd (f_X12_upToFour c (c.1 201 4)) fun x4 c5 => bnd (f_X12_putZeros N c5 x4) K) c t (List.replicate (r4 t.length) 0 ++ p) := by
  have := r4_lt t.length
  unfold f_X12_upToFour
  rw [bnd_some, h.2.1, up4 (by omega), ← r4_eq]
  exact MP.bnd_ (MP.zeros hN h (by omega) rfl) hK
theorem m_out1 {N i md : Nat} {wd w1' : Int32} {c : hS} {t r : List Nat} {x : Mb} {k2 : hS → Int32 → Option (Unit × hS)} (hN : 1000000 ≤ N) (h : mrw c 4 203 t) (hm : mmb c i x) (hl : t.length + 607 ≤ 20000) (hi : i < 16) (hwd : wd = nI md) (hw1 : w1' = nI (i + 1)) (hmd : md = if x.2.2 then 16877 else 33188) (hK : ∀ c', mrw c' 4 203 (t ++ out1 t.length (i + 1) x) → fm W1 c c' → MP (k2 c' (nI i + 1)) c' (t ++ out1 t.length (i + 1) x) r) : MP (f_X12_writeDigits_32 N k2 c (nI i) wd w1') c t (out1 t.length (i + 1) x ++ r) := by
  have hx := hm.1.2.2.1
  have hb := hm.2.1.2.2.1
  have tl := ttl1_len (i + 1) x
  have hmd2 : md < 2 ^ 31 := by rw [hmd]; cases x.2.2 <;> decide
  have eo : out1 t.length (i + 1) x = head1 (i + 1) md x.2.1.length (x.1.length + 1) ++ (x.1 ++ ([0] ++ (List.replicate (r4 (t.length + (ttl1 (i + 1) x).length)) 0 ++ (x.2.1 ++ List.replicate (r4 (t.length + (ttl1 (i + 1) x).length + r4 (t.length + (ttl1 (i + 1) x).length) + x.2.1.length)) 0)))) := by
    rw [hmd]
    simp only [out1, ttl1, List.append_assoc]
  have q1 := r4_lt (t.length + (ttl1 (i + 1) x).length)
  have q2 := r4_lt (t.length + (ttl1 (i + 1) x).length + r4 (t.length + (ttl1 (i + 1) x).length) + x.2.1.length)
  rw [eo] at hK ⊢
  simp only [List.append_assoc]
  unfold f_X12_writeDigits_32
  rw [j_in_nI (show i < ln 206 from (by show i < 34; omega)) (by decide), cond_true, j_in_nI (show i < ln 204 from (by show i < 34; omega)) (by decide), cond_true, nI_clamp (by omega), hm.2.1.1, hm.1.1]
  refine MP.bnd_ (MP.hd1 hN h (by omega) hw1 hwd rfl (nI_1 _) (by omega) hmd2 (by omega) (by omega)) (fun c1 r1 f1 => ?_)
  refine MP.bnd_ (MP.name0 hN r1 (mmbW hm f1) (by omega) (by simp only [List.length_append, head1_len]; omega)) (fun c2 r2 f2 => ?_)
  refine MP.bnd_ (MP.put (v := 0) r2 (by simp only [List.length_append, head1_len]; omega) rfl) (fun c3 r3 f3 => ?_)
  have e3 : (t ++ head1 (i + 1) md x.2.1.length (x.1.length + 1) ++ x.1 ++ [0]).length = t.length + (ttl1 (i + 1) x).length := by
    simp only [List.length_append, head1_len, List.length_cons, List.length_nil, tl]; omega
  rw [← e3]
  refine MP.rest hN r3 (by rw [e3]; omega) (fun c4 r4' f4 => ?_)
  have m4 := mmbW (mmbW (mmbW (mmbW hm f1) f2) f3) f4
  refine MP.bnd_ (MP.bytes hN r4' m4 (by omega) (by rw [List.length_append, e3, List.length_replicate]; omega)) (fun c5 r5 f5 => ?_)
  have e5 : (t ++ head1 (i + 1) md x.2.1.length (x.1.length + 1) ++ x.1 ++ [0] ++ List.replicate (r4 (t ++ head1 (i + 1) md x.2.1.length (x.1.length + 1) ++ x.1 ++ [0]).length) 0 ++ x.2.1).length = (t ++ head1 (i + 1) md x.2.1.length (x.1.length + 1) ++ x.1 ++ [0]).length + r4 (t ++ head1 (i + 1) md x.2.1.length (x.1.length + 1) ++ x.1 ++ [0]).length + x.2.1.length := by
    rw [List.length_append, List.length_append, List.length_replicate]
  rw [← e5]
  refine MP.rest hN r5 (by rw [e5, e3]; omega) (fun c6 r6 f6 => ?_)
  have ff := ((((f1.tr f2).tr f3).tr f4).tr f5).tr f6
  rw [← e3, ← e5] at hK
  simp only [List.append_assoc] at r6 hK ⊢
  exact hK c6 r6 ff
theorem trl_at {c : hS} : ∀ i, i < 10 → f_X12_trailerAt c (nI i) = some (nI (gt trl i), c) := by
  intro i hi
  have : i = 0 ∨ i = 1 ∨ i = 2 ∨ i = 3 ∨ i = 4 ∨ i = 5 ∨ i = 6 ∨ i = 7 ∨ i = 8 ∨ i = 9 := by omega
  rcases this with rfl | rfl | rfl | rfl | rfl | rfl | rfl | rfl | rfl | rfl <;> rfl
theorem m_write1 {N : Nat} {c : hS} {ms : List Mb} (hN : 1000000 ≤ N) (h : mrw c 4 203 []) (hs : msh c 0 ms) (h7 : c.1 201 7 = nI ms.length) (h16 : ms.length ≤ 16) : MP (f_X12_writeDigits N c) c [] (w1 ms 1 0) := by
  have key : ∀ d n i c t, i + d = ms.length → d < n → msh c 0 ms → c.1 201 7 = nI ms.length → mrw c 4 203 t → t.length ≤ 607 * i → MP (f_X12_writeDigits_2 N n c (nI i)) c t (w1 (ms.drop i) (i + 1) t.length) := by
    intro d
    induction d with
    | zero =>
      intro n i c t hi hn hs h7 h hl
      obtain ⟨n, rfl⟩ : ∃ m, n = m + 1 := ⟨n - 1, by omega⟩
      rw [f_X12_writeDigits_2, h7, if_pos (nI_le (by omega) (by omega)), List.drop_eq_nil_of_le (by omega)]
      unfold w1 end1
      refine MP.bnd_ (MP.hd1 hN h (by omega) rfl rfl rfl rfl (by decide) (by decide) (by decide) (by decide)) (fun c1 r1 f1 => ?_)
      have k104 : ∀ d n j c t, j + d = 10 → d < n → t.length + d + 4 ≤ 20000 → mrw c 4 203 t → MP (f_X12_writeDigits_104 N n c (nI j)) c t (trl.drop j ++ ([0] ++ List.replicate (r4 (t.length + d + 1)) 0)) := by
        intro d
        induction d with
        | zero =>
          intro n j c t hj hn hl h
          obtain ⟨n, rfl⟩ : ∃ m, n = m + 1 := ⟨n - 1, by omega⟩
          rw [f_X12_writeDigits_104, if_pos (show (10 : Int32) ≤ nI j from nI_le (a := 10) (by omega) (by omega)), List.drop_eq_nil_of_le (by show 10 ≤ j; omega), List.nil_append]
          refine MP.bnd_ (MP.put h (by omega) rfl) (fun c1 r1 f1 => ?_)
          have e : (t ++ [0]).length = t.length + 0 + 1 := by simp
          have := MP.rest (K := fun _ c4 => some ((), c4)) hN r1 (by rw [e]; omega) (fun c4 r4' _ => MP.end_ r4')
          rw [List.append_nil] at this
          rw [← e]
          exact this
        | succ d ih =>
          intro n j c t hj hn hl h
          obtain ⟨n, rfl⟩ : ∃ m, n = m + 1 := ⟨n - 1, by omega⟩
          have hjl : j < trl.length := by show j < 10; omega
          rw [f_X12_writeDigits_104, if_neg (show ¬ (10 : Int32) ≤ nI j from nI_ge (b := 10) (by omega) (by decide)), trl_at j (by omega), bnd_some, List.drop_eq_getElem_cons hjl, gt_lt hjl, List.cons_append]
          have tb : trl[j] < 256 := (by decide : ∀ y ∈ trl, y < 256) _ (List.getElem_mem hjl)
          refine MP.bnd_ (p := [trl[j]]) (MP.putN h (by omega) rfl tb) (fun c1 r1 f1 => ?_)
          have := ih n (j + 1) c1 _ (by omega) (by omega) (by simp; omega) r1
          rw [nI_1]
          rwa [show (t ++ [trl[j]]).length + d + 1 = t.length + (d + 1) + 1 by simp; omega] at this
      have := k104 10 N 0 c1 _ (by omega) (by omega) (by simp only [List.length_append, head1_len]; omega) r1
      rwa [show (t ++ head1 0 0 0 11).length + 10 + 1 = t.length + 121 by simp only [List.length_append, head1_len]] at this
    | succ d ih =>
      intro n i c t hi hn hs h7 h hl
      obtain ⟨n, rfl⟩ : ∃ m, n = m + 1 := ⟨n - 1, by omega⟩
      have hil : i < ms.length := by omega
      have hm := hs i hil
      rw [Nat.zero_add] at hm
      have hol := out1_len (p := t.length) (k := i + 1) hm.1.2.2.1 hm.2.1.2.2.1
      rw [f_X12_writeDigits_2, h7, if_neg (nI_ge hil (by omega)), j_in_nI (show i < ln 208 from (by show i < 34; omega)) (by decide), cond_true, nI_clamp (by omega), hm.2.2, List.drop_eq_getElem_cons hil, nI_1]
      have nxt : ∀ c', mrw c' 4 203 (t ++ out1 t.length (i + 1) ms[i]) → fm W1 c c' → MP (f_X12_writeDigits_2 N n c' (nI i + 1)) c' (t ++ out1 t.length (i + 1) ms[i]) (w1 (ms.drop (i + 1)) (i + 1 + 1) (t.length + (out1 t.length (i + 1) ms[i]).length)) := by
        intro c' r' f'
        rw [nI_1, ← List.length_append]
        exact ih n (i + 1) c' _ (by omega) (by omega) (fun j hj => mmbW (hs j hj) f') ((f'.1 _ _ (nW1 (by decide) (fun _ => by decide))).trans h7) r' (by rw [List.length_append]; omega)
      unfold w1
      cases hd : ms[i].2.2 with
      | false => rw [if_pos (show bI false = 0 from rfl)]; exact m_out1 (md := 33188) hN h hm (by omega) (by omega) rfl rfl (by rw [hd]; rfl) nxt
      | true => rw [if_neg (by decide)]; exact m_out1 (md := 16877) hN h hm (by omega) (by omega) rfl rfl (by rw [hd]; rfl) nxt
  exact key ms.length N 0 c [] (by omega) (by omega) hs h7 h (by simp)
end
section
/-! PURE: the reference: kind 0 written -/
noncomputable def H0 (x : Mb) (a b d e f g h i j k l m : List Nat) : List Nat := nmS x ++ (List.replicate (100 - (nmS x).length) 0 ++ (a ++ ([0] ++ (b ++ ([0] ++ (d ++ ([0] ++ (e ++ ([0] ++ (f ++ ([0] ++ (g ++ (h ++ (i ++ (j ++ (List.replicate 100 0 ++ (k ++ (List.replicate 64 0 ++ (l ++ ([0] ++ (m ++ (List.replicate 168 0))))))))))))))))))))))
theorem setL_at {A X B ds T : List Nat} {q : Nat} (hT : T = A ++ (X ++ B)) (hq : q = A.length) (hl : X.length = ds.length) : setL T q ds = A ++ (ds ++ B) := by
  subst hT hq
  exact setL_mid hl
theorem h0_a {x : Mb} {t a b d e f g h i j k l m v' : List Nat} (hx : (nmS x).length ≤ 100)  (hv : a.length = v'.length) : setL (t ++ H0 x a b d e f g h i j k l m) (t.length + 100) v' = t ++ H0 x v' b d e f g h i j k l m := by
  rw [setL_at (A := t ++ (nmS x ++ (List.replicate (100 - (nmS x).length) 0))) (X := a) (B := [0] ++ (b ++ ([0] ++ (d ++ ([0] ++ (e ++ ([0] ++ (f ++ ([0] ++ (g ++ (h ++ (i ++ (j ++ (List.replicate 100 0 ++ (k ++ (List.replicate 64 0 ++ (l ++ ([0] ++ (m ++ (List.replicate 168 0)))))))))))))))))))) (by simp only [H0, List.append_assoc]) (by simp only [List.length_append, List.length_replicate, List.length_cons, List.length_nil]; omega) hv]
  simp only [H0, List.append_assoc]
theorem h0_b {x : Mb} {t a b d e f g h i j k l m v' : List Nat} (hx : (nmS x).length ≤ 100) (ha : a.length = 7) (hv : b.length = v'.length) : setL (t ++ H0 x a b d e f g h i j k l m) (t.length + 108) v' = t ++ H0 x a v' d e f g h i j k l m := by
  rw [setL_at (A := t ++ (nmS x ++ (List.replicate (100 - (nmS x).length) 0 ++ (a ++ ([0]))))) (X := b) (B := [0] ++ (d ++ ([0] ++ (e ++ ([0] ++ (f ++ ([0] ++ (g ++ (h ++ (i ++ (j ++ (List.replicate 100 0 ++ (k ++ (List.replicate 64 0 ++ (l ++ ([0] ++ (m ++ (List.replicate 168 0)))))))))))))))))) (by simp only [H0, List.append_assoc]) (by simp only [List.length_append, List.length_replicate, List.length_cons, List.length_nil, ha]; omega) hv]
  simp only [H0, List.append_assoc]
theorem h0_d {x : Mb} {t a b d e f g h i j k l m v' : List Nat} (hx : (nmS x).length ≤ 100) (ha : a.length = 7) (hb : b.length = 7) (hv : d.length = v'.length) : setL (t ++ H0 x a b d e f g h i j k l m) (t.length + 116) v' = t ++ H0 x a b v' e f g h i j k l m := by
  rw [setL_at (A := t ++ (nmS x ++ (List.replicate (100 - (nmS x).length) 0 ++ (a ++ ([0] ++ (b ++ ([0]))))))) (X := d) (B := [0] ++ (e ++ ([0] ++ (f ++ ([0] ++ (g ++ (h ++ (i ++ (j ++ (List.replicate 100 0 ++ (k ++ (List.replicate 64 0 ++ (l ++ ([0] ++ (m ++ (List.replicate 168 0)))))))))))))))) (by simp only [H0, List.append_assoc]) (by simp only [List.length_append, List.length_replicate, List.length_cons, List.length_nil, ha, hb]; omega) hv]
  simp only [H0, List.append_assoc]
theorem h0_e {x : Mb} {t a b d e f g h i j k l m v' : List Nat} (hx : (nmS x).length ≤ 100) (ha : a.length = 7) (hb : b.length = 7) (hd : d.length = 7) (hv : e.length = v'.length) : setL (t ++ H0 x a b d e f g h i j k l m) (t.length + 124) v' = t ++ H0 x a b d v' f g h i j k l m := by
  rw [setL_at (A := t ++ (nmS x ++ (List.replicate (100 - (nmS x).length) 0 ++ (a ++ ([0] ++ (b ++ ([0] ++ (d ++ ([0]))))))))) (X := e) (B := [0] ++ (f ++ ([0] ++ (g ++ (h ++ (i ++ (j ++ (List.replicate 100 0 ++ (k ++ (List.replicate 64 0 ++ (l ++ ([0] ++ (m ++ (List.replicate 168 0)))))))))))))) (by simp only [H0, List.append_assoc]) (by simp only [List.length_append, List.length_replicate, List.length_cons, List.length_nil, ha, hb, hd]; omega) hv]
  simp only [H0, List.append_assoc]
theorem h0_f {x : Mb} {t a b d e f g h i j k l m v' : List Nat} (hx : (nmS x).length ≤ 100) (ha : a.length = 7) (hb : b.length = 7) (hd : d.length = 7) (he : e.length = 11) (hv : f.length = v'.length) : setL (t ++ H0 x a b d e f g h i j k l m) (t.length + 136) v' = t ++ H0 x a b d e v' g h i j k l m := by
  rw [setL_at (A := t ++ (nmS x ++ (List.replicate (100 - (nmS x).length) 0 ++ (a ++ ([0] ++ (b ++ ([0] ++ (d ++ ([0] ++ (e ++ ([0]))))))))))) (X := f) (B := [0] ++ (g ++ (h ++ (i ++ (j ++ (List.replicate 100 0 ++ (k ++ (List.replicate 64 0 ++ (l ++ ([0] ++ (m ++ (List.replicate 168 0)))))))))))) (by simp only [H0, List.append_assoc]) (by simp only [List.length_append, List.length_replicate, List.length_cons, List.length_nil, ha, hb, hd, he]; omega) hv]
  simp only [H0, List.append_assoc]
theorem h0_g {x : Mb} {t a b d e f g h i j k l m v' : List Nat} (hx : (nmS x).length ≤ 100) (ha : a.length = 7) (hb : b.length = 7) (hd : d.length = 7) (he : e.length = 11) (hf : f.length = 11) (hv : g.length = v'.length) : setL (t ++ H0 x a b d e f g h i j k l m) (t.length + 148) v' = t ++ H0 x a b d e f v' h i j k l m := by
  rw [setL_at (A := t ++ (nmS x ++ (List.replicate (100 - (nmS x).length) 0 ++ (a ++ ([0] ++ (b ++ ([0] ++ (d ++ ([0] ++ (e ++ ([0] ++ (f ++ ([0]))))))))))))) (X := g) (B := h ++ (i ++ (j ++ (List.replicate 100 0 ++ (k ++ (List.replicate 64 0 ++ (l ++ ([0] ++ (m ++ (List.replicate 168 0)))))))))) (by simp only [H0, List.append_assoc]) (by simp only [List.length_append, List.length_replicate, List.length_cons, List.length_nil, ha, hb, hd, he, hf]; omega) hv]
  simp only [H0, List.append_assoc]
theorem h0_h {x : Mb} {t a b d e f g h i j k l m v' : List Nat} (hx : (nmS x).length ≤ 100) (ha : a.length = 7) (hb : b.length = 7) (hd : d.length = 7) (he : e.length = 11) (hf : f.length = 11) (hg : g.length = 6) (hv : h.length = v'.length) : setL (t ++ H0 x a b d e f g h i j k l m) (t.length + 154) v' = t ++ H0 x a b d e f g v' i j k l m := by
  rw [setL_at (A := t ++ (nmS x ++ (List.replicate (100 - (nmS x).length) 0 ++ (a ++ ([0] ++ (b ++ ([0] ++ (d ++ ([0] ++ (e ++ ([0] ++ (f ++ ([0] ++ (g)))))))))))))) (X := h) (B := i ++ (j ++ (List.replicate 100 0 ++ (k ++ (List.replicate 64 0 ++ (l ++ ([0] ++ (m ++ (List.replicate 168 0))))))))) (by simp only [H0, List.append_assoc]) (by simp only [List.length_append, List.length_replicate, List.length_cons, List.length_nil, ha, hb, hd, he, hf, hg]; omega) hv]
  simp only [H0, List.append_assoc]
theorem h0_i {x : Mb} {t a b d e f g h i j k l m v' : List Nat} (hx : (nmS x).length ≤ 100) (ha : a.length = 7) (hb : b.length = 7) (hd : d.length = 7) (he : e.length = 11) (hf : f.length = 11) (hg : g.length = 6) (hh : h.length = 1) (hv : i.length = v'.length) : setL (t ++ H0 x a b d e f g h i j k l m) (t.length + 155) v' = t ++ H0 x a b d e f g h v' j k l m := by
  rw [setL_at (A := t ++ (nmS x ++ (List.replicate (100 - (nmS x).length) 0 ++ (a ++ ([0] ++ (b ++ ([0] ++ (d ++ ([0] ++ (e ++ ([0] ++ (f ++ ([0] ++ (g ++ (h))))))))))))))) (X := i) (B := j ++ (List.replicate 100 0 ++ (k ++ (List.replicate 64 0 ++ (l ++ ([0] ++ (m ++ (List.replicate 168 0)))))))) (by simp only [H0, List.append_assoc]) (by simp only [List.length_append, List.length_replicate, List.length_cons, List.length_nil, ha, hb, hd, he, hf, hg, hh]; omega) hv]
  simp only [H0, List.append_assoc]
theorem h0_j {x : Mb} {t a b d e f g h i j k l m v' : List Nat} (hx : (nmS x).length ≤ 100) (ha : a.length = 7) (hb : b.length = 7) (hd : d.length = 7) (he : e.length = 11) (hf : f.length = 11) (hg : g.length = 6) (hh : h.length = 1) (hi : i.length = 1) (hv : j.length = v'.length) : setL (t ++ H0 x a b d e f g h i j k l m) (t.length + 156) v' = t ++ H0 x a b d e f g h i v' k l m := by
  rw [setL_at (A := t ++ (nmS x ++ (List.replicate (100 - (nmS x).length) 0 ++ (a ++ ([0] ++ (b ++ ([0] ++ (d ++ ([0] ++ (e ++ ([0] ++ (f ++ ([0] ++ (g ++ (h ++ (i)))))))))))))))) (X := j) (B := List.replicate 100 0 ++ (k ++ (List.replicate 64 0 ++ (l ++ ([0] ++ (m ++ (List.replicate 168 0))))))) (by simp only [H0, List.append_assoc]) (by simp only [List.length_append, List.length_replicate, List.length_cons, List.length_nil, ha, hb, hd, he, hf, hg, hh, hi]; omega) hv]
  simp only [H0, List.append_assoc]
theorem h0_k {x : Mb} {t a b d e f g h i j k l m v' : List Nat} (hx : (nmS x).length ≤ 100) (ha : a.length = 7) (hb : b.length = 7) (hd : d.length = 7) (he : e.length = 11) (hf : f.length = 11) (hg : g.length = 6) (hh : h.length = 1) (hi : i.length = 1) (hj : j.length = 1) (hv : k.length = v'.length) : setL (t ++ H0 x a b d e f g h i j k l m) (t.length + 257) v' = t ++ H0 x a b d e f g h i j v' l m := by
  rw [setL_at (A := t ++ (nmS x ++ (List.replicate (100 - (nmS x).length) 0 ++ (a ++ ([0] ++ (b ++ ([0] ++ (d ++ ([0] ++ (e ++ ([0] ++ (f ++ ([0] ++ (g ++ (h ++ (i ++ (j ++ (List.replicate 100 0)))))))))))))))))) (X := k) (B := List.replicate 64 0 ++ (l ++ ([0] ++ (m ++ (List.replicate 168 0))))) (by simp only [H0, List.append_assoc]) (by simp only [List.length_append, List.length_replicate, List.length_cons, List.length_nil, ha, hb, hd, he, hf, hg, hh, hi, hj]; omega) hv]
  simp only [H0, List.append_assoc]
theorem h0_l {x : Mb} {t a b d e f g h i j k l m v' : List Nat} (hx : (nmS x).length ≤ 100) (ha : a.length = 7) (hb : b.length = 7) (hd : d.length = 7) (he : e.length = 11) (hf : f.length = 11) (hg : g.length = 6) (hh : h.length = 1) (hi : i.length = 1) (hj : j.length = 1) (hk : k.length = 8) (hv : l.length = v'.length) : setL (t ++ H0 x a b d e f g h i j k l m) (t.length + 329) v' = t ++ H0 x a b d e f g h i j k v' m := by
  rw [setL_at (A := t ++ (nmS x ++ (List.replicate (100 - (nmS x).length) 0 ++ (a ++ ([0] ++ (b ++ ([0] ++ (d ++ ([0] ++ (e ++ ([0] ++ (f ++ ([0] ++ (g ++ (h ++ (i ++ (j ++ (List.replicate 100 0 ++ (k ++ (List.replicate 64 0)))))))))))))))))))) (X := l) (B := [0] ++ (m ++ (List.replicate 168 0))) (by simp only [H0, List.append_assoc]) (by simp only [List.length_append, List.length_replicate, List.length_cons, List.length_nil, ha, hb, hd, he, hf, hg, hh, hi, hj, hk]; omega) hv]
  simp only [H0, List.append_assoc]
theorem h0_m {x : Mb} {t a b d e f g h i j k l m v' : List Nat} (hx : (nmS x).length ≤ 100) (ha : a.length = 7) (hb : b.length = 7) (hd : d.length = 7) (he : e.length = 11) (hf : f.length = 11) (hg : g.length = 6) (hh : h.length = 1) (hi : i.length = 1) (hj : j.length = 1) (hk : k.length = 8) (hl : l.length = 7) (hv : m.length = v'.length) : setL (t ++ H0 x a b d e f g h i j k l m) (t.length + 337) v' = t ++ H0 x a b d e f g h i j k l v' := by
  rw [setL_at (A := t ++ (nmS x ++ (List.replicate (100 - (nmS x).length) 0 ++ (a ++ ([0] ++ (b ++ ([0] ++ (d ++ ([0] ++ (e ++ ([0] ++ (f ++ ([0] ++ (g ++ (h ++ (i ++ (j ++ (List.replicate 100 0 ++ (k ++ (List.replicate 64 0 ++ (l ++ ([0])))))))))))))))))))))) (X := m) (B := List.replicate 168 0) (by simp only [H0, List.append_assoc]) (by simp only [List.length_append, List.length_replicate, List.length_cons, List.length_nil, ha, hb, hd, he, hf, hg, hh, hi, hj, hk, hl]; omega) hv]
  simp only [H0, List.append_assoc]
theorem H0_bl {x : Mb} (hx : (nmS x).length ≤ 100) : H0 x (List.replicate 7 0) (List.replicate 7 0) (List.replicate 7 0) (List.replicate 11 0) (List.replicate 11 0) (List.replicate 6 0) (List.replicate 1 0) (List.replicate 1 0) (List.replicate 1 0) (List.replicate 8 0) (List.replicate 7 0) (List.replicate 7 0) = nmS x ++ List.replicate (512 - (nmS x).length) 0 := by
  unfold H0
  rw [show ([0] : List Nat) = List.replicate 1 0 from rfl]
  simp only [List.replicate_append_replicate]
  congr 2
  omega
theorem H0_hd (x : Mb) (sd : List Nat) : head0 x sd = H0 x (if x.2.2 then [48, 48, 48, 48, 55, 53, 53] else [48, 48, 48, 48, 54, 52, 52]) z7 z7 (octs x.2.1.length 11) (octs 0 11) sd [0] [32] [if x.2.2 then 53 else 48] [117, 115, 116, 97, 114, 0, 48, 48] z7 z7 := rfl
noncomputable def MO (X : Option (Unit × hS)) (c : hS) (t' : List Nat) : Prop := ∃ c', X = some ((), c') ∧ mrw c' 4 203 t' ∧ fm W1 c c'
theorem MO.bnd_ {X : Option (Unit × hS)} {K : Unit → hS → Option (Unit × hS)} {c : hS} {t1 t2 : List Nat} (hX : MO X c t1) (hK : ∀ c1, mrw c1 4 203 t1 → fm W1 c c1 → MO (K () c1) c1 t2) : MO (bnd X K) c t2 := by
  obtain ⟨c1, e1, r1, f1⟩ := hX
  obtain ⟨c2, e2, r2, f2⟩ := hK c1 r1 f1
  exact ⟨c2, by rw [e1, bnd_some]; exact e2, r2, f1.tr f2⟩
theorem od_eq' {v i : Nat} (hv : v < 2 ^ 31) (hi : i ≤ 10) : (48 : Int32) + ((j_shr (nI v) (nI (3 * i))) &&& 7) = nI (od v i) := by
  rw [shr_nI hv (by omega), and7, show (48 : Int32) = nI 48 from rfl, nI_add]
  unfold od
  rw [show (8 : Nat) ^ i = 2 ^ (3 * i) by rw [Nat.pow_mul]]
theorem m_octalAt {N p v n : Nat} {c : hS} {t : List Nat} {p1 p2 p3 : Int32} (hN : 1000000 ≤ N) (h : mrw c 4 203 t) (hp : p + n ≤ t.length) (hv : v < 2 ^ 31) (hn : n ≤ 11) (h1 : p1 = nI p) (h2 : p2 = nI v) (h3 : p3 = nI n) : MO (f_X12_octalAt N c p1 p2 p3) c (setL t p (octs v n)) := by
  subst h1 h2 h3
  have ht : t.length ≤ 20000 := h.1
  have key : ∀ d m i c u, i + d = n → d < m → mrw c 4 203 u → u.length = t.length → MO (f_X12_octalAt_3 N (nI p) (nI v) (nI n) m c (nI i)) c (setL u (p + i) ((octs v n).drop i)) := by
    intro d
    induction d with
    | zero =>
      intro m i c u hi hm hu hl
      obtain ⟨m, rfl⟩ : ∃ k, m = k + 1 := ⟨m - 1, by omega⟩
      rw [f_X12_octalAt_3, if_pos (nI_le (by omega) (by omega)), List.drop_eq_nil_of_le (by rw [octs_len]; omega)]
      exact ⟨c, rfl, hu, fm.rf⟩
    | succ d ih =>
      intro m i c u hi hm hu hl
      obtain ⟨m, rfl⟩ : ∃ k, m = k + 1 := ⟨m - 1, by omega⟩
      have e1 : (3 : Int32) * (nI n - 1 - nI i) = nI (3 * (n - 1 - i)) := by
        rw [show nI n - 1 = nI (n - 1) from subI (b := 1) (by omega), subI (by omega), show (3 : Int32) = nI 3 from rfl, nI_mul]
      have r1 := hu.set (k := p + i) (x := od v (n - 1 - i)) (by decide) (by omega) (by have := od_lt v (n - 1 - i); omega)
      obtain ⟨c2, e2, r2, f2⟩ := ih m (i + 1) _ _ (by omega) (by omega) r1 (by simpa using hl)
      refine ⟨c2, ?_, ?_, (fm.sI (Or.inl rfl)).tr f2⟩
      · rw [f_X12_octalAt_3, if_neg (nI_ge (by omega) (by omega)), e1, if_pos (show nI (3 * (n - 1 - i)) ≤ 30 from nI_le (b := 30) (by omega) (by decide)), nI_add, j_in_nI (show p + i < ln 203 from (by show p + i < 20000; omega)) (by decide), cond_true, nI_clamp (by omega), od_eq' hv (by omega), nI_1]
        exact e2
      · rw [octs_get (by omega)]
        exact r2
  have := key n N 0 c t (by omega) (by omega) h rfl
  rwa [List.drop_zero, Nat.add_zero] at this
theorem setL_1 (t : List Nat) (q x : Nat) : setL t q [x] = t.set q x := rfl
noncomputable def sumZ (t : List Nat) (p n : Nat) : Nat := ((List.range n).map fun i => gt t (p + i)).sum
theorem sumZ_s (t : List Nat) (p n : Nat) : sumZ t p (n + 1) = sumZ t p n + gt t (p + n) := by
  unfold sumZ
  rw [List.range_succ]
  simp
theorem sumW_Z {t : List Nat} {p : Nat} (h : ∀ i, 148 ≤ i → i < 156 → gt t (p + i) = 0) : ∀ n, sumW t p n = sumZ t p n + 32 * (min n 156 - min n 148) := by
  intro n
  induction n with
  | zero => rfl
  | succ n ih =>
    rw [sumW_s, sumZ_s, ih]
    by_cases q : 148 ≤ n ∧ n < 156
    · rw [if_pos q, h n q.1 q.2]; omega
    · rw [if_neg q]; omega
theorem sumW_cg {t u : List Nat} {p q : Nat} : ∀ n, (∀ i, i < n → ¬ (148 ≤ i ∧ i < 156) → gt t (p + i) = gt u (q + i)) → sumW t p n = sumW u q n := by
  intro n
  induction n with
  | zero => intro _; rfl
  | succ n ih =>
    intro h
    rw [sumW_s, sumW_s, ih (fun i hi z => h i (by omega) z)]
    by_cases w : 148 ≤ n ∧ n < 156
    · rw [if_pos w, if_pos w]
    · rw [if_neg w, if_neg w, h n (by omega) w]
theorem sumZ_le {t : List Nat} (h : byt t) (p n : Nat) : sumZ t p n ≤ 255 * n := by
  induction n with
  | zero => exact Nat.zero_le _
  | succ n ih =>
    rw [sumZ_s]
    have := h.gt (p + n)
    omega
theorem gt_mid {A X B : List Nat} {k : Nat} (h1 : A.length ≤ k) (h2 : k < A.length + X.length) : gt (A ++ (X ++ B)) k = gt X (k - A.length) := by
  rw [gt_app_r h1, gt_app_l (by omega)]
theorem gt_out {A X Y B : List Nat} {k : Nat} (hl : X.length = Y.length) (h : ¬ (A.length ≤ k ∧ k < A.length + X.length)) : gt (A ++ (X ++ B)) k = gt (A ++ (Y ++ B)) k := by
  by_cases q : k < A.length
  · rw [gt_app_l q, gt_app_l q]
  · rw [gt_app_r (by omega), gt_app_r (by omega), gt_app_r (by omega), gt_app_r (by omega), hl]
/-- what is behind a head's eight bytes of the sum -/
noncomputable def tl0 (x : Mb) : List Nat := [if x.2.2 then 53 else 48] ++ (List.replicate 100 0 ++ ([117, 115, 116, 97, 114, 0, 48, 48] ++ (List.replicate 64 0 ++ (z7 ++ ([0] ++ (z7 ++ List.replicate 168 0))))))
theorem head_8 (x : Mb) (g h i : List Nat) : H0 x (if x.2.2 then [48, 48, 48, 48, 55, 53, 53] else [48, 48, 48, 48, 54, 52, 52]) z7 z7 (octs x.2.1.length 11) (octs 0 11) g h i [if x.2.2 then 53 else 48] [117, 115, 116, 97, 114, 0, 48, 48] z7 z7 = front0 x ++ ((g ++ (h ++ i)) ++ tl0 x) := by
  simp only [H0, front0, tl0, List.append_assoc]
theorem sum_eq {x : Mb} {t : List Nat} (hx : x.1.length ≤ 90) : 256 + sumZ (t ++ (front0 x ++ ((List.replicate 6 0 ++ (List.replicate 1 0 ++ List.replicate 1 0)) ++ tl0 x))) t.length 512 = sumW (head0 x sd0) 0 512 := by
  have fl := front0_len hx
  have e8 : (List.replicate 6 0 ++ (List.replicate 1 0 ++ List.replicate 1 0) : List Nat) = List.replicate 8 0 := rfl
  rw [e8]
  have h1 := sumW_Z (t := t ++ (front0 x ++ (List.replicate 8 0 ++ tl0 x))) (p := t.length) (fun i a b => by
    rw [gt_app_r (by omega), Nat.add_sub_cancel_left, gt_mid (by omega) (by rw [fl, List.length_replicate]; omega), fl]
    exact (by decide : ∀ j, j < 8 → gt (List.replicate 8 0) j = 0) _ (by omega)) 512
  have h2 := sumW_cg (t := t ++ (front0 x ++ (List.replicate 8 0 ++ tl0 x))) (p := t.length) (u := head0 x sd0) (q := 0) 512 (fun i a b => by
    rw [gt_app_r (by omega), Nat.add_sub_cancel_left, Nat.zero_add, H0_hd, head_8]
    exact gt_out rfl (by rw [fl, List.length_replicate]; omega))
  rw [← h2, h1]
  omega
end
section
/-! PURE: the reference: kind 0 written, whole -/
theorem m_sum {N p i : Nat} {c : hS} {t : List Nat} {p1 : Int32} (hN : 1000000 ≤ N) (h : mrw c 4 203 t) (hp : p + 512 ≤ t.length) : f_X12_writeBlock_241 N p1 N c (nI p) 256 0 = f_X12_writeBlock_241 N p1 (0 + 1) c (nI p) (nI (256 + sumZ t p 512)) (nI 512) := by
  have ht : t.length ≤ 20000 := h.1
  have key : ∀ d n i, i + d = 512 → d < n → f_X12_writeBlock_241 N p1 n c (nI p) (nI (256 + sumZ t p i)) (nI i) = f_X12_writeBlock_241 N p1 (0 + 1) c (nI p) (nI (256 + sumZ t p 512)) (nI 512) := by
    intro d
    induction d with
    | zero =>
      intro n i hi hn
      obtain ⟨n, rfl⟩ : ∃ m, n = m + 1 := ⟨n - 1, by omega⟩
      have : i = 512 := by omega
      subst this
      rw [f_X12_writeBlock_241, f_X12_writeBlock_241, if_pos (by decide), if_pos (by decide)]
    | succ d ih =>
      intro n i hi hn
      obtain ⟨n, rfl⟩ : ∃ m, n = m + 1 := ⟨n - 1, by omega⟩
      rw [f_X12_writeBlock_241, if_neg (show ¬ (512 : Int32) ≤ nI i from nI_ge (b := 512) (by omega) (by decide)), nI_add, j_in_nI (show p + i < ln 203 from (by show p + i < 20000; omega)) (by decide), cond_true, nI_clamp (by omega), h.2.2.1 (p + i) (by omega), nI_add, nI_1, Nat.add_assoc 256, ← sumZ_s]
      exact ih n (i + 1) (by omega) (by omega)
  exact key 512 N 0 (by omega) (by omega)
theorem m_set1 {c : hS} {t : List Nat} {p x : Nat} {y z : Int32} {K : hS → Option (Unit × hS)} {t2 : List Nat} (h : mrw c 4 203 t) (hp : p < t.length) (hx : x < 256) (hy : y = nI p) (hz : z = nI x) (hK : ∀ c1, mrw c1 4 203 (setL t p [x]) → fm W1 c c1 → MO (K c1) c1 t2) : MO (bif j_in y (ln 203) then st1 (sI c 203 y.toNatClampNeg z) K else none) c t2 := by
  subst hy hz
  have ht : t.length ≤ 20000 := h.1
  rw [j_in_nI (show p < ln 203 from (by show p < 20000; omega)) (by decide), cond_true, nI_clamp (by omega)]
  have f1 : fm W1 c (sI c 203 p (nI x)) := fm.sI (Or.inl rfl)
  obtain ⟨c', e, r, f⟩ := hK _ (h.set (k := p) (x := x) (by decide) hp hx) f1
  exact ⟨c', e, r, f1.tr f⟩
theorem MO.of {X : Option (Unit × hS)} {c : hS} {t r t2 : List Nat} (h : MP X c t r) (e : t ++ r = t2) : MO X c t2 := by subst e; exact h
theorem add_lit (p k : Nat) {x : Int32} (hx : x = nI k) : nI p + x = nI (p + k) := by rw [hx, nI_add]
theorem z7_o : octs 0 7 = z7 := by decide
theorem m_wb126 {N m : Nat} {c : hS} {t : List Nat} {x : Mb} {a b d e f j : List Nat} (hN : 1000000 ≤ N) (h : mrw c 4 203 (t ++ H0 x a b d e f (List.replicate 6 0) (List.replicate 1 0) (List.replicate 1 0) j (List.replicate 8 0) (List.replicate 7 0) (List.replicate 7 0))) (hm : mmb c m x) (hm34 : m < 34) (hl : t.length + 1024 ≤ 20000) (ht : t.length % 512 = 0) (h4 : a = (if x.2.2 then [48, 48, 48, 48, 55, 53, 53] else [48, 48, 48, 48, 54, 52, 52]) ∧ b = z7 ∧ d = z7 ∧ e = octs x.2.1.length 11 ∧ f = octs 0 11 ∧ j = [if x.2.2 then 53 else 48]) : MO (f_X12_writeBlock_126 N (nI m) N c (nI t.length) 0) c (t ++ out0 x) := by
  have hx := hm.1.2.2.1
  have hb := hm.2.1.2.2.1
  have nl := nmS_len hx
  obtain ⟨ea, eb, ed, ee, ef, ej⟩ := h4
  have la : a.length = 7 := by rw [ea]; cases x.2.2 <;> rfl
  have lb : b.length = 7 := by rw [eb]; rfl
  have ld : d.length = 7 := by rw [ed]; rfl
  have le : e.length = 11 := by rw [ee, octs_len]
  have lf : f.length = 11 := by rw [ef, octs_len]
  have lj : j.length = 1 := by rw [ej]; rfl
  have hlen : ∀ g h' i' k l m', g.length = 6 → h'.length = 1 → i'.length = 1 → k.length = 8 → l.length = 7 → m'.length = 7 → (H0 x a b d e f g h' i' j k l m').length = 512 := by
    intro g h' i' k l m' q1 q2 q3 q4 q5 q6
    unfold H0
    simp only [List.length_append, List.length_replicate, List.length_cons, List.length_nil, la, lb, ld, le, lf, lj, q1, q2, q3, q4, q5, q6]
    omega
  have z := fun n => List.length_replicate (n := n) (a := (0 : Nat))
  obtain ⟨n, hn⟩ : ∃ n, N = n + 9 := ⟨N - 9, by omega⟩
  -- the mark
  have mark : ∀ v, v = [117, 115, 116, 97, 114, 0, 48, 48] → MO (f_X12_writeBlock_126 N (nI m) (n + 9) c (nI t.length) 0) c (t ++ out0 x) := by
    intro mk emk
    have lt : (t ++ H0 x a b d e f (List.replicate 6 0) (List.replicate 1 0) (List.replicate 1 0) j (List.replicate 8 0) (List.replicate 7 0) (List.replicate 7 0)).length = t.length + 512 := by rw [List.length_append, hlen _ _ _ _ _ _ rfl rfl rfl rfl rfl rfl]
    obtain ⟨T, eT⟩ : ∃ T, T = t ++ H0 x a b d e f (List.replicate 6 0) (List.replicate 1 0) (List.replicate 1 0) j (List.replicate 8 0) (List.replicate 7 0) (List.replicate 7 0) := ⟨_, rfl⟩
    rw [← eT] at h lt
    have stp : ∀ (i v : Nat) (w y : Int32) (k : hS → Option (Unit × hS)) (u : List Nat) (c : hS), i < 8 → v < 256 → w = nI v → y = nI i → u.length = t.length + 512 → mrw c 4 203 u → (∀ c1, mrw c1 4 203 (setL u (t.length + 257 + i) [v]) → fm W1 c c1 → MO (k c1) c1 (t ++ out0 x)) → MO (bif j_in (nI t.length + 257 + y) (ln 203) then st1 (sI c 203 (nI t.length + 257 + y).toNatClampNeg w) k else none) c (t ++ out0 x) := by
      intro i v w y k u c hi hv hw hy hu hr hK
      subst hy
      rw [show nI t.length + 257 + nI i = nI (t.length + 257 + i) from by rw [show nI t.length + 257 = nI (t.length + 257) from nI_add _ 257, nI_add]]
      exact m_set1 hr (by omega) hv rfl hw hK
    have sl : ∀ (u : List Nat) q v, (setL u q [v]).length = u.length := fun u q v => setL_len
    rw [f_X12_writeBlock_126, if_neg (by decide), if_pos (by decide)]
    refine stp 0 117 _ _ _ T c (by decide) (by decide) rfl rfl lt h (fun c1 r1 f1 => ?_)
    rw [f_X12_writeBlock_126, if_neg (by decide), if_neg (by decide), if_pos (by decide)]
    refine stp 1 115 _ _ _ _ c1 (by decide) (by decide) rfl rfl (by rw [sl, lt]) r1 (fun c2 r2 f2 => ?_)
    rw [f_X12_writeBlock_126, if_neg (by decide), if_neg (by decide), if_neg (by decide), if_pos (by decide)]
    refine stp 2 116 _ _ _ _ c2 (by decide) (by decide) rfl rfl (by rw [sl, sl, lt]) r2 (fun c3 r3 f3 => ?_)
    rw [f_X12_writeBlock_126, if_neg (by decide), if_neg (by decide), if_neg (by decide), if_neg (by decide), if_pos (by decide)]
    refine stp 3 97 _ _ _ _ c3 (by decide) (by decide) rfl rfl (by rw [sl, sl, sl, lt]) r3 (fun c4 r4 f4 => ?_)
    rw [f_X12_writeBlock_126, if_neg (by decide), if_neg (by decide), if_neg (by decide), if_neg (by decide), if_neg (by decide), if_pos (by decide)]
    refine stp 4 114 _ _ _ _ c4 (by decide) (by decide) rfl rfl (by rw [sl, sl, sl, sl, lt]) r4 (fun c5 r5 f5 => ?_)
    rw [f_X12_writeBlock_126, if_neg (by decide), if_neg (by decide), if_neg (by decide), if_neg (by decide), if_neg (by decide), if_neg (by decide), if_pos (by decide)]
    refine stp 5 0 _ _ _ _ c5 (by decide) (by decide) rfl rfl (by rw [sl, sl, sl, sl, sl, lt]) r5 (fun c6 r6 f6 => ?_)
    rw [f_X12_writeBlock_126, if_neg (by decide), if_neg (by decide), if_neg (by decide), if_neg (by decide), if_neg (by decide), if_neg (by decide), if_neg (by decide)]
    refine stp 6 48 _ _ _ _ c6 (by decide) (by decide) rfl rfl (by rw [sl, sl, sl, sl, sl, sl, lt]) r6 (fun c7 r7 f7 => ?_)
    rw [f_X12_writeBlock_126, if_neg (by decide), if_neg (by decide), if_neg (by decide), if_neg (by decide), if_neg (by decide), if_neg (by decide), if_neg (by decide)]
    refine stp 7 48 _ _ _ _ c7 (by decide) (by decide) rfl rfl (by rw [sl, sl, sl, sl, sl, sl, sl, lt]) r7 (fun c8 r8 f8 => ?_)
    have r8' : mrw c8 4 203 (setL T (t.length + 257) mk) := by rw [emk]; exact r8
    rw [eT, h0_k (by omega) la lb ld le lf (z 6) (z 1) (z 1) lj (by rw [emk]; rfl)] at r8'
    have lmk : mk.length = 8 := by rw [emk]; rfl
    have m8 := mmbW (mmbW (mmbW (mmbW (mmbW (mmbW (mmbW (mmbW hm f1) f2) f3) f4) f5) f6) f7) f8
    rw [f_X12_writeBlock_126, if_pos (by decide)]
    refine MO.bnd_ (m_octalAt (p := t.length + 329) (v := 0) (n := 7) hN r8' (by rw [List.length_append, hlen _ _ _ _ _ _ rfl rfl rfl lmk rfl rfl]; omega) (by decide) (by decide) (add_lit _ 329 rfl) rfl rfl) (fun c9 r9 f9 => ?_)
    rw [h0_l (by omega) la lb ld le lf (z 6) (z 1) (z 1) lj lmk (by rw [octs_len]; rfl), z7_o] at r9
    refine MO.bnd_ (m_octalAt (p := t.length + 337) (v := 0) (n := 7) hN r9 (by rw [List.length_append, hlen _ _ _ _ _ _ rfl rfl rfl lmk rfl rfl]; omega) (by decide) (by decide) (add_lit _ 337 rfl) rfl rfl) (fun c10 r10 f10 => ?_)
    rw [h0_m (by omega) la lb ld le lf (z 6) (z 1) (z 1) lj lmk rfl (by rw [octs_len]; rfl), z7_o] at r10
    have m10 := mmbW (mmbW m8 f9) f10
    rw [m_sum (i := 0) hN r10 (by rw [List.length_append, hlen _ _ _ _ _ _ rfl rfl rfl lmk rfl rfl]; exact Nat.le_refl _)]
    have es : 256 + sumZ (t ++ H0 x a b d e f (List.replicate 6 0) (List.replicate 1 0) (List.replicate 1 0) j mk z7 z7) t.length 512 = sumW (head0 x sd0) 0 512 := by
      rw [ea, eb, ed, ee, ef, ej, emk, head_8]
      exact sum_eq hx
    rw [es]
    obtain ⟨S, eS⟩ : ∃ S, S = sumW (head0 x sd0) 0 512 := ⟨_, rfl⟩
    have hS : S < 2 ^ 31 := by
      rw [eS, ← es]
      have := sumZ_le r10.2.2.2 t.length 512
      omega
    rw [← eS, f_X12_writeBlock_241, if_pos (by decide)]
    refine MO.bnd_ (m_octalAt (p := t.length + 148) (v := S) (n := 6) hN r10 (by rw [List.length_append, hlen _ _ _ _ _ _ rfl rfl rfl lmk rfl rfl]; omega) hS (by decide) (add_lit _ 148 rfl) rfl rfl) (fun c11 r11 f11 => ?_)
    rw [h0_g (by omega) la lb ld le lf (by rw [octs_len]; rfl)] at r11
    have ol := octs_len S 6
    refine m_set1 (p := t.length + 154) (x := 0) r11 (by rw [List.length_append, hlen _ _ _ _ _ _ ol rfl rfl lmk rfl rfl]; omega) (by decide) (add_lit _ 154 rfl) rfl (fun c12 r12 f12 => ?_)
    rw [h0_h (v' := [0]) (by omega) la lb ld le lf ol (by rfl)] at r12
    refine m_set1 (p := t.length + 155) (x := 32) r12 (by rw [List.length_append, hlen _ _ _ _ _ _ ol rfl rfl lmk rfl rfl]; omega) (by decide) (add_lit _ 155 rfl) rfl (fun c13 r13 f13 => ?_)
    rw [h0_i (v' := [32]) (by omega) la lb ld le lf ol rfl (by rfl)] at r13
    have m13 := mmbW (mmbW (mmbW m10 f11) f12) f13
    have eh : H0 x a b d e f (octs S 6) [0] [32] j mk z7 z7 = head0 x (octs S 6) := by rw [H0_hd, ea, eb, ed, ee, ef, ej, emk]
    rw [eh] at r13
    have hh := head0_len (sd := octs S 6) hx ol
    have hu := upTo_le (a := x.2.1.length) (b := 512) (by decide)
    have hu2 : upTo x.2.1.length 512 ≤ 512 := by unfold upTo; omega
    refine MO.of (t := t ++ head0 x (octs S 6)) (r := x.2.1 ++ List.replicate (upTo x.2.1.length 512 - x.2.1.length) 0) ?_ (by unfold out0; rw [← eS, List.append_assoc])
    refine MP.bnd_ (MP.bytes hN r13 m13 hm34 (by rw [List.length_append, hh]; omega)) (fun c14 r14 f14 => ?_)
    have e14 : (t ++ head0 x (octs S 6) ++ x.2.1).length = t.length + 512 + x.2.1.length := by rw [List.length_append, List.length_append, hh]
    refine MP.last_ (MP.zeros hN r14 (by rw [e14]; omega) ?_)
    rw [r14.2.1, e14, up512 (by omega)]
    exact congrArg nI (by unfold upTo at *; omega)
  have := mark _ rfl
  rw [← hn] at this
  exact this
theorem m_writeBlock {N m : Nat} {c : hS} {t : List Nat} {x : Mb} (hN : 1000000 ≤ N) (h : mrw c 4 203 t) (hm : mmb c m x) (hm34 : m < 34) (hl : t.length + 1024 ≤ 20000) (ht : t.length % 512 = 0) : MO (f_X12_writeBlock N c (nI m)) c (t ++ out0 x) := by
  have hx := hm.1.2.2.1
  have hb := hm.2.1.2.2.1
  have nl := nmS_len hx
  have z := fun n => List.length_replicate (n := n) (a := (0 : Nat))
  unfold f_X12_writeBlock
  refine MO.bnd_ (MP.name1 hN h hm hm34 (by omega)) (fun c1 r1 f1 => ?_)
  rw [h.2.1]
  refine MO.bnd_ (MP.zeros (m := 512 - (nmS x).length) hN r1 (by rw [List.length_append]; omega) ?_) (fun c2 r2 f2 => ?_)
  · rw [show nI t.length + 512 = nI (t.length + 512) from nI_add _ 512, List.length_append]
    congr 1
    omega
  rw [List.append_assoc, ← H0_bl (by omega)] at r2
  have m2 := mmbW (mmbW hm f1) f2
  rw [j_in_nI (show m < ln 208 from hm34) (by decide), cond_true, nI_clamp (by omega), m2.2.2]
  have go : ∀ (w : Int32) (v : Nat) (a : List Nat), w = nI v → v < 2 ^ 31 → octs v 7 = a → a = (if x.2.2 then [48, 48, 48, 48, 55, 53, 53] else [48, 48, 48, 48, 54, 52, 52]) → MO (f_X12_writeBlock_43 N (nI m) c2 (nI t.length) w (nI t.length + 100)) c2 (t ++ out0 x) := by
    intro w v a hw hv ho ha
    have la : a.length = 7 := by rw [← ho, octs_len]
    have hlen : ∀ a b d e f j, a.length = 7 → b.length = 7 → d.length = 7 → e.length = 11 → f.length = 11 → j.length = 1 → (H0 x a b d e f (List.replicate 6 0) (List.replicate 1 0) (List.replicate 1 0) j (List.replicate 8 0) (List.replicate 7 0) (List.replicate 7 0)).length = 512 := by
      intro a b d e f j q1 q2 q3 q4 q5 q6
      unfold H0
      simp only [List.length_append, List.length_replicate, List.length_cons, List.length_nil, q1, q2, q3, q4, q5, q6]
      omega
    unfold f_X12_writeBlock_43
    refine MO.bnd_ (m_octalAt (p := t.length + 100) (v := v) (n := 7) hN r2 (by rw [List.length_append, hlen _ _ _ _ _ _ rfl rfl rfl rfl rfl rfl]; omega) hv (by decide) (add_lit _ 100 rfl) hw rfl) (fun c3 r3 f3 => ?_)
    rw [h0_a (by omega) (by rw [octs_len]; rfl), ho] at r3
    refine MO.bnd_ (m_octalAt (p := t.length + 108) (v := 0) (n := 7) hN r3 (by rw [List.length_append, hlen _ _ _ _ _ _ la rfl rfl rfl rfl rfl]; omega) (by decide) (by decide) (add_lit _ 108 rfl) rfl rfl) (fun c4 r4 f4 => ?_)
    rw [h0_b (by omega) la (by rw [octs_len]; rfl), z7_o] at r4
    refine MO.bnd_ (m_octalAt (p := t.length + 116) (v := 0) (n := 7) hN r4 (by rw [List.length_append, hlen _ _ _ _ _ _ la rfl rfl rfl rfl rfl]; omega) (by decide) (by decide) (add_lit _ 116 rfl) rfl rfl) (fun c5 r5 f5 => ?_)
    rw [h0_d (by omega) la rfl (by rw [octs_len]; rfl), z7_o] at r5
    have m5 := mmbW (mmbW (mmbW m2 f3) f4) f5
    rw [j_in_nI (show m < ln 206 from hm34) (by decide), cond_true, nI_clamp (by omega), m5.2.1.1]
    refine MO.bnd_ (m_octalAt (p := t.length + 124) (v := x.2.1.length) (n := 11) hN r5 (by rw [List.length_append, hlen _ _ _ _ _ _ la rfl rfl rfl rfl rfl]; omega) (by omega) (by decide) (add_lit _ 124 rfl) rfl rfl) (fun c6 r6 f6 => ?_)
    have l11 := octs_len x.2.1.length 11
    rw [h0_e (by omega) la rfl rfl (by rw [octs_len]; rfl)] at r6
    refine MO.bnd_ (m_octalAt (p := t.length + 136) (v := 0) (n := 11) hN r6 (by rw [List.length_append, hlen _ _ _ _ _ _ la rfl rfl l11 rfl rfl]; omega) (by decide) (by decide) (add_lit _ 136 rfl) rfl rfl) (fun c7 r7 f7 => ?_)
    rw [h0_f (by omega) la rfl rfl l11 (by rw [octs_len]; rfl)] at r7
    have m7 := mmbW (mmbW m5 f6) f7
    rw [j_in_nI (show m < ln 208 from hm34) (by decide), cond_true, m7.2.2]
    cases hd : x.2.2 with
    | false =>
      rw [if_pos (show bI false = 0 from rfl)]
      refine m_set1 (p := t.length + 156) (x := 48) r7 (by rw [List.length_append, hlen _ _ _ _ _ _ la rfl rfl l11 (octs_len 0 11) rfl]; omega) (by decide) (add_lit _ 156 rfl) rfl (fun c8 r8 f8 => ?_)
      rw [h0_j (v' := [48]) (by omega) la rfl rfl l11 (octs_len 0 11) (z 6) (z 1) (z 1) (by rfl)] at r8
      exact m_wb126 hN r8 (mmbW m7 f8) hm34 hl ht ⟨ha, rfl, rfl, rfl, rfl, by rw [hd]; rfl⟩
    | true =>
      rw [if_neg (by decide)]
      refine m_set1 (p := t.length + 156) (x := 53) r7 (by rw [List.length_append, hlen _ _ _ _ _ _ la rfl rfl l11 (octs_len 0 11) rfl]; omega) (by decide) (add_lit _ 156 rfl) rfl (fun c8 r8 f8 => ?_)
      rw [h0_j (v' := [53]) (by omega) la rfl rfl l11 (octs_len 0 11) (z 6) (z 1) (z 1) (by rfl)] at r8
      exact m_wb126 hN r8 (mmbW m7 f8) hm34 hl ht ⟨ha, rfl, rfl, rfl, rfl, by rw [hd]; rfl⟩
  cases hd : x.2.2 with
  | false => rw [if_pos (show bI false = 0 from rfl)]; exact go _ 420 [48, 48, 48, 48, 54, 52, 52] rfl (by decide) (by decide) (by rw [hd]; rfl)
  | true => rw [if_neg (by decide)]; exact go _ 493 [48, 48, 48, 48, 55, 53, 53] rfl (by decide) (by decide) (by rw [hd]; rfl)
theorem out0_md {x : Mb} (hx : x.1.length ≤ 90) (hb : x.2.1.length ≤ 400) : (out0 x).length % 512 = 0 := by
  have hu := upTo_le (a := x.2.1.length) (b := 512) (by decide)
  unfold out0
  rw [List.length_append, head0_len hx (octs_len _ _), List.length_append, List.length_replicate]
  unfold upTo at *
  omega
end
section
/-! PURE: the reference: codes -/
noncomputable def fc (lens : List Nat) : Nat → Nat
  | 0 => 0
  | 1 => 0
  | l + 2 => 2 * (fc lens (l + 1) + cnt lens (l + 1))
theorem fc_s {lens : List Nat} {l : Nat} (h : 1 ≤ l) : fc lens (l + 1) = 2 * (fc lens l + cnt lens l) := by
  obtain ⟨l, rfl⟩ : ∃ k, l = k + 1 := ⟨l - 1, by omega⟩
  rfl
noncomputable def cod (lens : List Nat) (i : Nat) : Nat := fc lens (gt lens i) + cntN lens (gt lens i) i
theorem cnt_le (lens : List Nat) (l : Nat) : cnt lens l ≤ lens.length := cntN_le _ _ _
theorem fc_le (lens : List Nat) : ∀ l, fc lens (l + 1) + 3 * lens.length ≤ 3 * lens.length * 2 ^ (l + 1)
  | 0 => by show 0 + _ ≤ _; rw [show (2 : Nat) ^ (0 + 1) = 2 from rfl]; omega
  | l + 1 => by
    have h1 := fc_le lens l
    have h2 := cnt_le lens (l + 1)
    rw [fc_s (by omega), show 3 * lens.length * 2 ^ (l + 1 + 1) = 2 * (3 * lens.length * 2 ^ (l + 1)) by rw [Nat.pow_succ 2 (l + 1)]; rw [Nat.mul_comm (2 ^ (l + 1)) 2]; rw [Nat.mul_left_comm]]
    omega
theorem fc_lt {lens : List Nat} {l : Nat} (h : lens.length ≤ 320) (hl : l < 16) : fc lens l ≤ 3 * 320 * 2 ^ 15 := by
  cases l with
  | zero => exact Nat.zero_le _
  | succ l =>
    have h1 := fc_le lens l
    have h2 : 2 ^ (l + 1) ≤ 2 ^ 15 := Nat.pow_le_pow_right (by decide) (by omega)
    have h3 : 3 * lens.length * 2 ^ (l + 1) ≤ 3 * 320 * 2 ^ 15 := Nat.mul_le_mul (by omega) h2
    omega
/-- the reference's row of lengths, from base on -/
noncomputable def mln (c : hS) (base : Nat) (lens : List Nat) : Prop := base + lens.length ≤ 360 ∧ ∀ i, i < lens.length → c.1 212 (base + i) = nI (gt lens i) ∧ gt lens i < 16
/-- and of codes -/
noncomputable def mcd (c : hS) (base : Nat) (lens : List Nat) : Prop := mln c base lens ∧ ∀ i, i < lens.length → 0 < gt lens i → c.1 213 (base + i) = nI (cod lens i)
theorem m_layCodes {N base : Nat} {c : hS} {lens : List Nat} {p1 p2 : Int32} (hN : 1000000 ≤ N) (h : mln c base lens) (h1 : p1 = nI base) (h2 : p2 = nI lens.length) : ∃ c', f_X12_layCodes N c p1 p2 = some ((), c') ∧ mcd c' base lens ∧ fm (fun o j => o = 213 ∧ base ≤ j ∧ j < base + lens.length) c c' := by
  subst h1 h2
  have hb := h.1
  have inn : ∀ d m l i c (k5 : hS → Int32 → Int32 → Option (Unit × hS)), i + d = lens.length → d < m → l < 16 → mln c base lens → ∃ c', f_X12_layCodes_19 N (nI base) (nI lens.length) k5 m c (nI (fc lens l + cntN lens l i)) (nI l) (nI (base + i)) = k5 c' (nI (fc lens l + cnt lens l)) (nI l + 1) ∧ (∀ k, i ≤ k → k < lens.length → gt lens k = l → c'.1 213 (base + k) = nI (cod lens k)) ∧ fm (fun o j => o = 213 ∧ base + i ≤ j ∧ j < base + lens.length ∧ gt lens (j - base) = l) c c' := by
    intro d
    induction d with
    | zero =>
      intro m l i c k5 hi hm hl hc
      obtain ⟨m, rfl⟩ : ∃ k, m = k + 1 := ⟨m - 1, by omega⟩
      have : i = lens.length := by omega
      subst this
      rw [f_X12_layCodes_19, nI_add, if_pos (nI_le (Nat.le_refl _) (by omega))]
      exact ⟨c, rfl, fun k a b => by omega, fm.rf⟩
    | succ d ih =>
      intro m l i c k5 hi hm hl hc
      obtain ⟨m, rfl⟩ : ∃ k, m = k + 1 := ⟨m - 1, by omega⟩
      have hv := hc.2 i (by omega)
      rw [f_X12_layCodes_19, nI_add, if_neg (nI_ge (by omega) (by omega)), j_in_nI (show base + i < ln 212 from (by show base + i < 360; omega)) (by decide), cond_true, nI_clamp (by omega), hv.1]
      have cs := cntN_s lens l i
      by_cases q : gt lens i = l
      · rw [if_pos q] at cs
        rw [if_pos (by rw [q]), j_in_nI (show base + i < ln 213 from (by show base + i < 360; omega)) (by decide), cond_true, nI_1, nI_1]
        dsimp only [st1]
        have f1 : fm (fun o j => o = 213 ∧ base + i ≤ j ∧ j < base + lens.length ∧ gt lens (j - base) = l) c (sI c 213 (base + i) (nI (fc lens l + cntN lens l i))) := fm.sI ⟨rfl, by omega, by omega, by rw [Nat.add_sub_cancel_left]; exact q⟩
        obtain ⟨c', w1, w2, w3⟩ := ih m l (i + 1) _ k5 (by omega) (by omega) hl ⟨hc.1, fun k hk => ⟨(f1.1 _ _ (by omega)).trans (hc.2 k hk).1, (hc.2 k hk).2⟩⟩
        rw [cs, ← Nat.add_assoc] at w1
        refine ⟨c', w1, fun k a b e => ?_, f1.tr (w3.mono (fun o j z => ⟨z.1, by omega, z.2.2⟩))⟩
        by_cases ek : k = i
        · rw [ek, w3.1 _ _ (by omega), sI_s]
          unfold cod
          rw [q]
        · exact w2 k (by omega) b e
      · rw [if_neg q, Nat.add_zero] at cs
        rw [if_neg (fun z => q ((nI_eq (by omega) (by omega)).mp z)), nI_1]
        obtain ⟨c', w1, w2, w3⟩ := ih m l (i + 1) c k5 (by omega) (by omega) hl hc
        rw [cs] at w1
        refine ⟨c', w1, fun k a b e => ?_, w3.mono (fun o j z => ⟨z.1, by omega, z.2.2⟩)⟩
        by_cases ek : k = i
        · rw [ek] at e; exact absurd e q
        · exact w2 k (by omega) b e
  have out : ∀ d m l c x, l + d = 16 → 1 ≤ l → d < m → mln c base lens → (2 : Int32) * x = nI (fc lens l) → (∀ k, k < lens.length → 0 < gt lens k → gt lens k < l → c.1 213 (base + k) = nI (cod lens k)) → ∃ c', f_X12_layCodes_5 N (nI base) (nI lens.length) m c x (nI l) = some ((), c') ∧ mcd c' base lens ∧ fm (fun o j => o = 213 ∧ base ≤ j ∧ j < base + lens.length) c c' := by
    intro d
    induction d with
    | zero =>
      intro m l c x hl h1 hm hc hx hk
      obtain ⟨m, rfl⟩ : ∃ k, m = k + 1 := ⟨m - 1, by omega⟩
      rw [f_X12_layCodes_5, if_pos (show (16 : Int32) ≤ nI l from nI_le (a := 16) (by omega) (by omega))]
      exact ⟨c, rfl, ⟨hc, fun i hi h0 => hk i hi h0 (by have := (hc.2 i hi).2; omega)⟩, fm.rf⟩
    | succ d ih =>
      intro m l c x hl h1 hm hc hx hk
      obtain ⟨m, rfl⟩ : ∃ k, m = k + 1 := ⟨m - 1, by omega⟩
      rw [f_X12_layCodes_5, if_neg (show ¬ (16 : Int32) ≤ nI l from nI_ge (b := 16) (by omega) (by decide)), hx]
      obtain ⟨c1, w1, w2, w3⟩ := inn lens.length N l 0 c (f_X12_layCodes_5 N (nI base) (nI lens.length) m) (by omega) (by omega) (by omega) hc
      have w1' : f_X12_layCodes_19 N (nI base) (nI lens.length) (f_X12_layCodes_5 N (nI base) (nI lens.length) m) N c (nI (fc lens l)) (nI l) (nI base) = _ := w1
      rw [w1', nI_1]
      obtain ⟨c', r1, r2, r3⟩ := ih m (l + 1) c1 _ (by omega) (by omega) (by omega) ⟨hc.1, fun k hk => ⟨(w3.1 _ _ (by omega)).trans (hc.2 k hk).1, (hc.2 k hk).2⟩⟩ (by rw [fc_s h1, show (2 : Int32) = nI 2 from rfl, nI_mul]) (fun k hkl h0 hlt => by
        by_cases e : gt lens k = l
        · exact w2 k (Nat.zero_le _) hkl e
        · rw [w3.1 _ _ (fun z => by have z4 := z.2.2.2; rw [Nat.add_sub_cancel_left] at z4; exact e z4)]
          exact hk k hkl h0 (by omega))
      exact ⟨c', r1, r2, (w3.mono (fun o j z => ⟨z.1, by omega, z.2.2.1⟩)).tr r3⟩
  unfold f_X12_layCodes
  exact out 15 N 1 c 0 (by omega) (by omega) (by omega) h rfl (fun k hk a b => by omega)
theorem fxS_gt {i : Nat} (h : i < 288) : gt fxS i = fxL i := by
  rw [gt_lt (by rw [fxS_len]; exact h)]
  simp [fxS]
theorem fxD_gt {i : Nat} (h : i < 32) : gt fxD i = 5 := (by decide : ∀ i, i < 32 → gt fxD i = 5) i h
theorem m_layFixed {N : Nat} {c : hS} (hN : 1000000 ≤ N) : ∃ c', f_X12_layFixed N c = some ((), c') ∧ mcd c' 0 fxS ∧ mcd c' 300 fxD ∧ fm (fun o j => o = 212 ∨ o = 213) c c' := by
  have k2 : ∀ d n i c, i + d = 288 → d < n → (∀ k, k < i → c.1 212 k = nI (fxL k)) → ∃ c', f_X12_layFixed_2 N n c (nI i) = f_X12_layFixed_61 N N c' 0 ∧ (∀ k, k < 288 → c'.1 212 k = nI (fxL k)) ∧ fm (fun o j => o = 212) c c' := by
    intro d
    induction d with
    | zero =>
      intro n i c hi hn hk
      obtain ⟨n, rfl⟩ : ∃ k, n = k + 1 := ⟨n - 1, by omega⟩
      rw [f_X12_layFixed_2, if_pos (show (288 : Int32) ≤ nI i from nI_le (a := 288) (by omega) (by omega))]
      exact ⟨c, rfl, fun k a => hk k (by omega), fm.rf⟩
    | succ d ih =>
      intro n i c hi hn hk
      obtain ⟨n, rfl⟩ : ∃ k, n = k + 1 := ⟨n - 1, by omega⟩
      have ex : f_X12_layFixed_2 N (n + 1) c (nI i) = f_X12_layFixed_2 N n (sI c 212 i (nI (fxL i))) (nI (i + 1)) := by
        have jn := j_in_nI (show i < ln 212 from (by show i < 360; omega)) (by decide : ln 212 < 2 ^ 31)
        have nc := nI_clamp (show i < 2 ^ 31 by omega)
        rw [f_X12_layFixed_2, if_neg (show ¬ (288 : Int32) ≤ nI i from nI_ge (b := 288) (by omega) (by decide)), jn, cond_true, cond_true, cond_true, nc, nI_1]
        dsimp only [st1]
        unfold fxL
        by_cases a1 : i < 144
        · rw [if_neg (show ¬ (144 : Int32) ≤ nI i from nI_ge (b := 144) a1 (by decide)), if_pos a1]; rfl
        · rw [if_pos (show (144 : Int32) ≤ nI i from nI_le (a := 144) (by omega) (by omega)), if_neg a1]
          by_cases a2 : i < 256
          · rw [if_neg (show ¬ (256 : Int32) ≤ nI i from nI_ge (b := 256) a2 (by decide)), if_pos a2]; rfl
          · rw [if_pos (show (256 : Int32) ≤ nI i from nI_le (a := 256) (by omega) (by omega)), if_neg a2]
            by_cases a3 : i < 280
            · rw [if_neg (show ¬ (280 : Int32) ≤ nI i from nI_ge (b := 280) a3 (by decide)), if_pos a3]; rfl
            · rw [if_pos (show (280 : Int32) ≤ nI i from nI_le (a := 280) (by omega) (by omega)), if_neg a3]; rfl
      obtain ⟨c', w1, w2, w3⟩ := ih n (i + 1) (sI c 212 i (nI (fxL i))) (by omega) (by omega) (fun k hk' => by
        by_cases e : k = i
        · rw [e, sI_s]
        · rw [sI_j e]; exact hk k (by omega))
      exact ⟨c', by rw [ex, w1], w2, (fm.sI (P := fun o j => o = 212) rfl).tr w3⟩
  have k61 : ∀ d n i c, i + d = 32 → d < n → (∀ k, k < i → c.1 212 (300 + k) = 5) → ∃ c', f_X12_layFixed_61 N n c (nI i) = (bnd (f_X12_layCodes N c' 0 288) fun _ c1 => bnd (f_X12_layCodes N c1 300 32) fun _ c2 => some ((), c2)) ∧ (∀ k, k < 32 → c'.1 212 (300 + k) = 5) ∧ fm (fun o j => o = 212 ∧ 300 ≤ j) c c' := by
    intro d
    induction d with
    | zero =>
      intro n i c hi hn hk
      obtain ⟨n, rfl⟩ : ∃ k, n = k + 1 := ⟨n - 1, by omega⟩
      rw [f_X12_layFixed_61, if_pos (show (32 : Int32) ≤ nI i from nI_le (a := 32) (by omega) (by omega))]
      exact ⟨c, rfl, fun k a => hk k (by omega), fm.rf⟩
    | succ d ih =>
      intro n i c hi hn hk
      obtain ⟨n, rfl⟩ : ∃ k, n = k + 1 := ⟨n - 1, by omega⟩
      obtain ⟨c', w1, w2, w3⟩ := ih n (i + 1) (sI c 212 (300 + i) 5) (by omega) (by omega) (fun k hk' => by
        by_cases e : k = i
        · rw [e, sI_s]
        · rw [sI_j (by omega)]; exact hk k (by omega))
      refine ⟨c', ?_, w2, (fm.sI (by omega)).tr w3⟩
      rw [f_X12_layFixed_61, if_neg (show ¬ (32 : Int32) ≤ nI i from nI_ge (b := 32) (by omega) (by decide)), show (300 : Int32) + nI i = nI (300 + i) from nI_add 300 i, j_in_nI (show 300 + i < ln 212 from (by show 300 + i < 360; omega)) (by decide), cond_true, nI_clamp (by omega), nI_1]
      exact w1
  unfold f_X12_layFixed
  obtain ⟨c1, a1, a2, a3⟩ := k2 288 N 0 c (by omega) (by omega) (fun k hk => by omega)
  obtain ⟨c2, b1, b2, b3⟩ := k61 32 N 0 c1 (by omega) (by omega) (fun k hk => by omega)
  have a1' : f_X12_layFixed_2 N N c 0 = _ := a1
  have b1' : f_X12_layFixed_61 N N c1 0 = _ := b1
  have l9 : ∀ s, fxL s < 16 := fun s => by have := fxL_le s; omega
  have m1 : mln c2 0 fxS := ⟨by rw [fxS_len]; decide, fun i hi => by
    rw [fxS_len] at hi
    rw [fxS_gt hi, Nat.zero_add, b3.1 _ _ (by omega)]
    exact ⟨a2 i hi, l9 i⟩⟩
  obtain ⟨c3, d1, d2, d3⟩ := m_layCodes (p1 := 0) (p2 := 288) hN m1 rfl (by rw [fxS_len]; rfl)
  have m2 : mln c3 300 fxD := ⟨by show 300 + 32 ≤ 360; decide, fun i hi => by
    have hi : i < 32 := hi
    rw [fxD_gt hi, d3.1 _ _ (by omega)]
    exact ⟨b2 i hi, by decide⟩⟩
  obtain ⟨c4, e1, e2, e3⟩ := m_layCodes (p1 := 300) (p2 := 32) hN m2 rfl rfl
  refine ⟨c4, by rw [a1', b1', d1, bnd_some, e1, bnd_some], ⟨⟨d2.1.1, fun i hi => ⟨(e3.1 _ _ (by omega)).trans (d2.1.2 i hi).1, (d2.1.2 i hi).2⟩⟩, fun i hi h0 => (e3.1 _ _ (by rw [fxS_len] at hi; omega)).trans (d2.2 i hi h0)⟩, e2, ?_⟩
  exact (((a3.mono (fun o j z => by omega)).tr (b3.mono (fun o j z => by omega))).tr (d3.mono (fun o j z => by omega))).tr (e3.mono (fun o j z => by omega))
theorem fx_code : ∀ s, s < 288 → cod fxS s = fxC s := by decide +kernel
theorem fx_dist : ∀ s, s < 32 → cod fxD s = s := by decide +kernel
end
section
/-! PURE: the reference: packing -/
noncomputable def mkC (c : hS) (t : List Nat) (s : Pk) : Prop := mrw c 4 203 (t ++ s.1) ∧ c.1 201 33 = nI s.2.1 ∧ c.1 201 34 = nI s.2.2 ∧ pkOk s
noncomputable def QF (o i : Nat) : Prop := o = 203 ∨ (o = 201 ∧ (i = 4 ∨ i = 33 ∨ i = 34))
noncomputable def PQ (o i : Nat) : Prop := o = 203 ∨ (o = 201 ∧ (i = 4 ∨ i = 30 ∨ i = 33 ∨ i = 34 ∨ i = 35))
theorem QF_PQ {o i : Nat} (h : QF o i) : PQ o i := by unfold QF at h; unfold PQ; omega
noncomputable def MB (X : Option (Unit × hS)) (c : hS) (t : List Nat) (s : Pk) (bs : List Nat) : Prop := ∃ c', X = some ((), c') ∧ mkC c' t (psL s bs) ∧ fm QF c c'
theorem MB.end_ {c : hS} {t : List Nat} {s : Pk} (h : mkC c t s) : MB (some ((), c)) c t s [] := ⟨c, rfl, h, fm.rf⟩
theorem MB.bnd_ {X : Option (Unit × hS)} {K : Unit → hS → Option (Unit × hS)} {c : hS} {t : List Nat} {s : Pk} {p r : List Nat} (hX : MB X c t s p) (hK : ∀ c1, mkC c1 t (psL s p) → fm QF c c1 → MB (K () c1) c1 t (psL s p) r) : MB (bnd X K) c t s (p ++ r) := by
  obtain ⟨c1, e1, r1, f1⟩ := hX
  obtain ⟨c2, e2, r2, f2⟩ := hK c1 r1 f1
  exact ⟨c2, by rw [e1, bnd_some]; exact e2, by rw [psL_app]; exact r2, f1.tr f2⟩
theorem m_putBit {c : hS} {t : List Nat} {s : Pk} {b : Nat} (h : mkC c t s) (hb : b < 2) (hl : t.length + s.1.length + 1 ≤ 20000) : MB (f_X12_putBit c (nI b)) c t s [b] := by
  obtain ⟨h1, h2, h3, h4⟩ := h
  unfold f_X12_putBit
  rw [h2, h3, held_or h4.2 h4.1]
  dsimp only [st1]
  have e2 : (sI c 201 33 (nI (s.2.1 + b * 2 ^ s.2.2))).1 201 34 = nI s.2.2 := by rw [sI_j (by decide)]; exact h3
  rw [e2, nI_1, sI_s, sI_j (show (33 : Nat) ≠ 34 by decide), sI_s]
  have ok := psh_ok h4 hb
  have f12 : fm (fun o i => o = 201 ∧ (i = 33 ∨ i = 34)) c (sI (sI c 201 33 (nI (s.2.1 + b * 2 ^ s.2.2))) 201 34 (nI (s.2.2 + 1))) := (fm.sI (by omega)).tr (fm.sI (by omega))
  have f12' : fm QF c (sI (sI c 201 33 (nI (s.2.1 + b * 2 ^ s.2.2))) 201 34 (nI (s.2.2 + 1))) := f12.mono (fun o i z => by unfold QF; omega)
  have r12 := h1.fm f12 (by omega) (fun i => by omega)
  show MB _ c t s [b]
  by_cases e : s.2.2 + 1 = 8
  · have hlt : s.2.1 + b * 2 ^ s.2.2 < 256 := by
      have a1 := h4.2
      have e7 : s.2.2 = 7 := by omega
      rw [e7] at a1 ⊢
      omega
    rw [e, if_pos (show nI 8 = 8 from rfl)]
    rw [e] at r12 f12'
    obtain ⟨c3, e3, r3, f3⟩ := MP.putN r12 (by rw [List.length_append]; omega) rfl hlt
    rw [e3, bnd_some]
    have f5 : fm (fun o i => o = 201 ∧ (i = 33 ∨ i = 34)) c3 (sI (sI c3 201 33 0) 201 34 0) := (fm.sI (by omega)).tr (fm.sI (by omega))
    have eq : psL s [b] = (s.1 ++ [s.2.1 + b * 2 ^ s.2.2], 0, 0) := by show psh s b = _; unfold psh; rw [if_pos e]
    refine ⟨_, rfl, ⟨?_, ?_, ?_, ok⟩, (f12'.tr (f3.mono (fun o i z => by unfold W1 at z; unfold QF; omega))).tr (f5.mono (fun o i z => by unfold QF; omega))⟩
    · rw [eq]
      have := r3.fm f5 (by omega) (fun i => by omega)
      rwa [List.append_assoc] at this
    · rw [eq, sI_j (by decide), sI_s]; rfl
    · rw [eq, sI_s]; rfl
  · have h7 : s.2.2 + 1 < 8 := by have := h4.1; omega
    rw [if_neg (show ¬ nI (s.2.2 + 1) = 8 from fun q => e ((nI_eq (b := 8) (by omega) (by decide)).mp q))]
    have eq : psL s [b] = (s.1, s.2.1 + b * 2 ^ s.2.2, s.2.2 + 1) := by show psh s b = _; unfold psh; rw [if_neg e]
    refine ⟨_, rfl, ⟨?_, ?_, ?_, ok⟩, f12'⟩
    · rw [eq]; exact r12
    · rw [eq, sI_j (by decide), sI_s]
    · rw [eq, sI_s]
theorem mk_grow {c : hS} {t : List Nat} {s : Pk} (h : mkC c t s) (bs : List Nat) : (psL s bs).1.length ≤ s.1.length + bs.length := by
  have h1 := psL_len (s := s) (bs := bs) h.2.2.2.1
  have h2 := h.2.2.2.1
  omega
theorem MB.bits {N : Nat} {c : hS} {t : List Nat} {s : Pk} {x m : Int32} {v n : Nat} (hN : 1000000 ≤ N) (h : mkC c t s) (hl : t.length + s.1.length + n ≤ 20000) (hx : x = nI v) (hv : v < 2 ^ 31) (hn : n ≤ 16) (hm : m = nI n) : MB (f_X12_putBits N c x m) c t s (bLE v n) := by
  subst hx hm
  unfold f_X12_putBits
  have key : ∀ d n' i c s, i + d = n → d < n' → mkC c t s → t.length + s.1.length + d ≤ 20000 → MB (f_X12_putBits_2 N (nI v) (nI n) n' c (nI i)) c t s ((List.range' i d).map fun i => v / 2 ^ i % 2) := by
    intro d
    induction d with
    | zero =>
      intro n' i c s hi hn' h hl
      obtain ⟨n', rfl⟩ : ∃ k, n' = k + 1 := ⟨n' - 1, by omega⟩
      rw [f_X12_putBits_2, if_pos (nI_le (by omega) (by omega))]
      exact MB.end_ h
    | succ d ih =>
      intro n' i c s hi hn' h hl
      obtain ⟨n', rfl⟩ : ∃ k, n' = k + 1 := ⟨n' - 1, by omega⟩
      rw [f_X12_putBits_2, if_neg (nI_ge (by omega) (by omega)), shr_nI hv (by omega), and1, List.range'_succ, List.map_cons]
      refine MB.bnd_ (p := [v / 2 ^ i % 2]) (m_putBit h (Nat.mod_lt _ (by decide)) (by omega)) (fun c1 r1 f1 => ?_)
      have g := mk_grow h [v / 2 ^ i % 2]
      simp only [List.length_cons, List.length_nil] at g
      rw [nI_1]
      exact ih n' (i + 1) c1 _ (by omega) (by omega) r1 (by omega)
  have := key n N 0 c s (by omega) (by omega) h hl
  rw [bLE, List.range_eq_range']
  exact this
theorem MB.code {N : Nat} {c : hS} {t : List Nat} {s : Pk} {x : Int32} {i v n : Nat} (hN : 1000000 ≤ N) (h : mkC c t s) (hl : t.length + s.1.length + n ≤ 20000) (hx : x = nI i) (hi : i < 360) (hv : v < 2 ^ 31) (hn : n ≤ 16) (h2 : c.1 212 i = nI n) (h3 : c.1 213 i = nI v) : MB (f_X12_putCode N c x) c t s (bBE v n) := by
  subst hx
  unfold f_X12_putCode
  rw [j_in_nI (show i < ln 212 from hi) (by decide), cond_true, nI_clamp (by omega), h2]
  have key : ∀ d n' c s, d ≤ n → d < n' → mkC c t s → c.1 213 i = nI v → t.length + s.1.length + d ≤ 20000 → MB (f_X12_putCode_9 N (nI i) n' c (nI d - 1)) c t s (bBE v d) := by
    intro d
    induction d with
    | zero =>
      intro n' c s _ hn' h h3 hl
      obtain ⟨n', rfl⟩ : ∃ k, n' = k + 1 := ⟨n' - 1, by omega⟩
      rw [f_X12_putCode_9, if_pos (by decide)]
      exact MB.end_ h
    | succ d ih =>
      intro n' c s hd hn' h h3 hl
      obtain ⟨n', rfl⟩ : ∃ k, n' = k + 1 := ⟨n' - 1, by omega⟩
      rw [nI_pred, f_X12_putCode_9, if_neg (nI_pos (by omega)), j_in_nI (show i < ln 213 from hi) (by decide), cond_true, nI_clamp (show i < 2 ^ 31 by omega), h3, shr_nI hv (by omega), and1, show bBE v (d + 1) = [v / 2 ^ d % 2] ++ bBE v d by simp [bBE, List.range_succ]]
      refine MB.bnd_ (m_putBit h (Nat.mod_lt _ (by decide)) (by omega)) (fun c1 r1 f1 => ?_)
      have g := mk_grow h [v / 2 ^ d % 2]
      simp only [List.length_cons, List.length_nil] at g
      rw [show nI d + -1 = nI d - 1 from (Int32.sub_eq_add_neg _ _).symm]
      exact ih n' c1 _ (by omega) (by omega) r1 ((f1.1 _ _ (by unfold QF; omega)).trans h3) (by omega)
  exact key n N c s (by omega) (by omega) h h3 hl
/-- the codes that packing uses -/
noncomputable def fxM (c : hS) : Prop := mcd c 0 fxS ∧ mcd c 300 fxD
theorem mcd_fm {P : Nat → Nat → Prop} {c c1 : hS} {base : Nat} {lens : List Nat} (h : mcd c base lens) (hf : fm P c c1) (hP : ∀ o i, P o i → o ≠ 212 ∧ o ≠ 213) : mcd c1 base lens := ⟨⟨h.1.1, fun i hi => ⟨(hf.1 _ _ (fun z => (hP _ _ z).1 rfl)).trans (h.1.2 i hi).1, (h.1.2 i hi).2⟩⟩, fun i hi h0 => (hf.1 _ _ (fun z => (hP _ _ z).2 rfl)).trans (h.2 i hi h0)⟩
theorem fxM_fm {P : Nat → Nat → Prop} {c c1 : hS} (h : fxM c) (hf : fm P c c1) (hP : ∀ o i, P o i → o ≠ 212 ∧ o ≠ 213) : fxM c1 := ⟨mcd_fm h.1 hf hP, mcd_fm h.2 hf hP⟩
theorem QF_n {o i : Nat} (h : QF o i) : o ≠ 212 ∧ o ≠ 213 := by unfold QF at h; omega
theorem PQ_n {o i : Nat} (h : PQ o i) : o ≠ 212 ∧ o ≠ 213 := by unfold PQ at h; omega
theorem MB.symbol {N : Nat} {c : hS} {t : List Nat} {s : Pk} {x : Int32} {v : Nat} (hN : 1000000 ≤ N) (h : mkC c t s) (hc : fxM c) (hl : t.length + s.1.length + 9 ≤ 20000) (hx : x = nI v) (hv : v < 288) : MB (f_X12_putCode N c x) c t s (symB v) := by
  have a := hc.1.1.2 v (by rw [fxS_len]; exact hv)
  have h9 := fxL_le v
  rw [Nat.zero_add, fxS_gt hv] at a
  have b := hc.1.2 v (by rw [fxS_len]; exact hv) (by rw [fxS_gt hv]; unfold fxL; split <;> (try split) <;> (try split) <;> decide)
  rw [Nat.zero_add, fx_code v hv] at b
  have hc' : fxC v < 1000 := by unfold fxC; split <;> (try split) <;> (try split) <;> omega
  exact MB.code hN h (by omega) hx (by omega) (by omega) (by omega) a.1 b
theorem MB.dist {N : Nat} {c : hS} {t : List Nat} {s : Pk} {x : Int32} {v : Nat} (hN : 1000000 ≤ N) (h : mkC c t s) (hc : fxM c) (hl : t.length + s.1.length + 5 ≤ 20000) (hx : x = nI (300 + v)) (hv : v < 32) : MB (f_X12_putCode N c x) c t s (bBE v 5) := by
  have a := hc.2.1.2 v hv
  rw [fxD_gt hv] at a
  have b := hc.2.2 v hv (by rw [fxD_gt hv]; decide)
  rw [fx_dist v hv] at b
  exact MB.code hN h (by omega) hx (by omega) (by omega) (by decide) a.1 b
theorem m_lengthOf {c : hS} {s : Nat} (hs : s < 29) : ∃ c', f_X12_lengthOf c (nI s) = some (nI (lbase s), c') ∧ c'.1 201 30 = nI (lbits s) ∧ fm (fun o i => o = 201 ∧ i = 30) c c' := by
  unfold f_X12_lengthOf
  dsimp only [st1]
  have f1 : fm (fun o i => o = 201 ∧ i = 30) c (sI c 201 30 0) := fm.sI ⟨rfl, rfl⟩
  by_cases e : s = 28
  · subst e
    rw [if_pos (by decide)]
    exact ⟨_, rfl, sI_s _ _ _ _, f1⟩
  · rw [if_neg (show ¬ nI s = 28 from fun q => e ((nI_eq (b := 28) (by omega) (by decide)).mp q))]
    by_cases e8 : s < 8
    · rw [if_neg (show ¬ (8 : Int32) ≤ nI s from nI_ge (b := 8) e8 (by decide))]
      exact ⟨_, by rw [(by decide +kernel : ∀ s, s < 8 → (3 : Int32) + nI s = nI (lbase s)) s e8], by rw [sI_s, (by decide : ∀ s, s < 8 → lbits s = 0) s e8]; rfl, f1⟩
    · have h1 := (by decide +kernel : ∀ s, s < 28 → 8 ≤ s → nI s / 4 - 1 = nI (lbits s) ∧ 3 + j_shl (4 + j_rem (nI s) 4) (nI (lbits s)) = nI (lbase s)) s (by omega) (by omega)
      rw [if_pos (show (8 : Int32) ≤ nI s from nI_le (a := 8) (by omega) (by omega)), h1.1, sI_s, h1.2]
      exact ⟨_, rfl, sI_s _ _ _ _, f1.tr (fm.sI ⟨rfl, rfl⟩)⟩
theorem m_distanceOf {c : hS} {s : Nat} (hs : s < 30) : ∃ c', f_X12_distanceOf c (nI s) = some (nI (dbase s), c') ∧ c'.1 201 30 = nI (dbits s) ∧ fm (fun o i => o = 201 ∧ i = 30) c c' := by
  unfold f_X12_distanceOf
  dsimp only [st1]
  have f1 : fm (fun o i => o = 201 ∧ i = 30) c (sI c 201 30 0) := fm.sI ⟨rfl, rfl⟩
  by_cases e4 : s < 4
  · rw [if_neg (show ¬ (4 : Int32) ≤ nI s from nI_ge (b := 4) e4 (by decide))]
    exact ⟨_, by rw [(by decide +kernel : ∀ s, s < 4 → (1 : Int32) + nI s = nI (dbase s)) s e4], by rw [sI_s, (by decide : ∀ s, s < 4 → dbits s = 0) s e4]; rfl, f1⟩
  · have h1 := (by decide +kernel : ∀ s, s < 30 → 4 ≤ s → nI s / 2 - 1 = nI (dbits s) ∧ 1 + j_shl (2 + j_rem (nI s) 2) (nI (dbits s)) = nI (dbase s)) s (by omega) (by omega)
    rw [if_pos (show (4 : Int32) ≤ nI s from nI_le (a := 4) (by omega) (by omega)), h1.1, sI_s, h1.2]
    exact ⟨_, rfl, sI_s _ _ _ _, f1.tr (fm.sI ⟨rfl, rfl⟩)⟩
theorem m_match {N p : Nat} {c : hS} {l : List Nat} (hN : 1000000 ≤ N) (h : mrw c 32 215 l) (hp : p < l.length) : ∃ c', f_X12_match N c (nI p) = some (nI (bst l p p (0, 0)).1, c') ∧ ((bst l p p (0, 0)).1 = 0 ∨ c'.1 201 35 = nI (bst l p p (0, 0)).2) ∧ fm (fun o i => o = 201 ∧ i = 35) c c' := by
  have hl : l.length ≤ 512 := h.1
  have inn : ∀ r m n q c v2 (k6 : hS → Int32 → Int32 → Option (Int32 × hS)), n + r = mst l p → r < m → q < p → mrw c 32 215 l → f_X12_match_13 N (nI p) k6 m c v2 (nI q) (nI n) = f_X12_match_59 N (nI p) k6 c v2 (nI q) (nI (mlf l q p r n)) := by
    have mm : mst l p = min 258 (l.length - p) := rfl
    intro r
    induction r with
    | zero =>
      intro m n q c v2 k6 hn hm hq h
      obtain ⟨m, rfl⟩ : ∃ k, m = k + 1 := ⟨m - 1, by omega⟩
      unfold mlf
      rw [f_X12_match_13]
      by_cases e : 258 ≤ n
      · rw [if_pos (show (258 : Int32) ≤ nI n from nI_le (a := 258) e (by omega))]
      · rw [if_neg (show ¬ (258 : Int32) ≤ nI n from nI_ge (b := 258) (by omega) (by decide)), h.2.1, nI_add, if_pos (nI_le (by omega) (by omega))]
    | succ r ih =>
      intro m n q c v2 k6 hn hm hq h
      obtain ⟨m, rfl⟩ : ∃ k, m = k + 1 := ⟨m - 1, by omega⟩
      unfold mlf
      rw [f_X12_match_13, if_neg (show ¬ (258 : Int32) ≤ nI n from nI_ge (b := 258) (by omega) (by decide)), h.2.1, nI_add, nI_add, if_neg (nI_ge (by omega) (by omega)), j_in_nI (show q + n < ln 215 from (by show q + n < 512; omega)) (by decide), cond_true, j_in_nI (show p + n < ln 215 from (by show p + n < 512; omega)) (by decide), cond_true, nI_clamp (by omega), nI_clamp (by omega), h.2.2.1 _ (by omega), h.2.2.1 _ (by omega), nI_1]
      have b1 := h.2.2.2.gt (q + n)
      have b2 := h.2.2.2.gt (p + n)
      by_cases e : gt l (q + n) = gt l (p + n)
      · rw [if_pos (by rw [e]), if_pos e]
        exact ih m (n + 1) q c v2 k6 (by omega) (by omega) hq h
      · rw [if_neg (fun z => e ((nI_eq (by omega) (by omega)).mp z)), if_neg e]
  have key : ∀ q m c b, q ≤ p → q < m → mrw c 32 215 l → b.1 ≤ mst l p → (b.1 = 0 ∨ c.1 201 35 = nI b.2) → ∃ c', f_X12_match_6 N (nI p) m c (nI b.1) (nI q - 1) = some (nI (bst l p q b).1, c') ∧ ((bst l p q b).1 = 0 ∨ c'.1 201 35 = nI (bst l p q b).2) ∧ fm (fun o i => o = 201 ∧ i = 35) c c' := by
    have m8 : mst l p ≤ 258 := Nat.min_le_left _ _
    intro q
    induction q with
    | zero =>
      intro m c b hq hm h hb hv
      obtain ⟨m, rfl⟩ : ∃ k, m = k + 1 := ⟨m - 1, by omega⟩
      rw [f_X12_match_6, if_pos (by decide)]
      exact ⟨c, rfl, hv, fm.rf⟩
    | succ q ih =>
      intro m c b hq hm h hb hv
      obtain ⟨m, rfl⟩ : ∃ k, m = k + 1 := ⟨m - 1, by omega⟩
      have hle := mlf_le l q p (mst l p) 0
      have ei := inn (mst l p) N 0 q c (nI b.1) (f_X12_match_6 N (nI p) m) (by omega) (by omega) (by omega) h
      have ei' : f_X12_match_13 N (nI p) (f_X12_match_6 N (nI p) m) N c (nI b.1) (nI q) 0 = _ := ei
      rw [nI_pred, f_X12_match_6, if_neg (nI_pos (by omega)), ei']
      unfold f_X12_match_59 bst
      rw [show nI q + -1 = nI q - 1 from (Int32.sub_eq_add_neg _ _).symm]
      by_cases e : b.1 < mlf l q p (mst l p) 0
      · rw [if_neg (nI_ge e (by omega)), if_pos e, subI (by omega)]
        dsimp only [st1]
        have f1 : fm (fun o i => o = 201 ∧ i = 35) c (sI c 201 35 (nI (p - q))) := fm.sI ⟨rfl, rfl⟩
        obtain ⟨c', w1, w2, w3⟩ := ih m _ (mlf l q p (mst l p) 0, p - q) (by omega) (by omega) (h.fm f1 (by omega) (fun i => by omega)) (by show mlf l q p (mst l p) 0 ≤ mst l p; omega) (Or.inr (sI_s _ _ _ _))
        exact ⟨c', w1, w2, f1.tr w3⟩
      · rw [if_pos (nI_le (by omega) (by omega)), if_neg e]
        exact ih m c b (by omega) (by omega) h hb hv
  unfold f_X12_match
  exact key p N c (0, 0) (Nat.le_refl _) (by omega) h (Nat.zero_le _) (Or.inl rfl)
end
