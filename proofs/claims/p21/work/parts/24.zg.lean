/-! PURE: the class's public methods: child -/
noncomputable def part (x : List Nat) (p : Nat) : List Nat := (x.drop p).takeWhile fun k => decide (k ≠ 47)
theorem part_eq (x : List Nat) (p : Nat) : part x p = (x.drop p).take (part x p).length := by
  unfold part
  exact List.prefix_iff_eq_take.mp (List.takeWhile_prefix _)
theorem part_len (x : List Nat) (p : Nat) : (part x p).length ≤ x.length - p := by
  have := congrArg List.length (part_eq x p)
  rw [List.length_take, List.length_drop] at this
  omega
theorem part_gt {x : List Nat} {p i : Nat} (h : i < (part x p).length) : gt (part x p) i = gt x (p + i) := by
  rw [part_eq, gt_take h, gt_drop]
theorem part_ext {x y : List Nat} {p : Nat} (hl : (part y p).length = (part x p).length) (h : ∀ i, i < (part x p).length → gt x (p + i) = gt y (p + i)) : part x p = part y p := by
  apply gt_ext hl.symm
  intro k hk
  rw [part_gt hk, part_gt (by omega), h k hk]
theorem f_partLength {N : Nat} {c : hS} {r p : Nat} {x : List Nat} (hN : 1000000 ≤ N) (h : row c r x) (hp : p ≤ x.length) : f_X11_partLength N c r (nI p) = some (nI (part x p).length, c) := by
  have hx := h.1
  have hx2 := ln_le (r + 1)
  have key : ∀ d m j, j + d = x.length → d < m → p ≤ j → f_X11_partLength_2 N r (nI p) m c (nI j) = some (nI (j - p + (part x j).length), c) := by
    intro d
    induction d with
    | zero =>
      intro m j hj hm hpj
      obtain ⟨m, rfl⟩ : ∃ m', m = m' + 1 := ⟨m - 1, by omega⟩
      have := part_len x j
      rw [f_X11_partLength_2, f_size h, bnd_some, if_pos (nI_le (by omega) (by omega)), f_size h, bnd_some, subI (by omega)]
      congr 3
      omega
    | succ d ih =>
      intro m j hj hm hpj
      obtain ⟨m, rfl⟩ : ∃ m', m = m' + 1 := ⟨m - 1, by omega⟩
      have bb := h.2.2.2.gt j
      rw [f_X11_partLength_2, f_size h, bnd_some, if_neg (nI_ge (by omega) (by omega)), f_get h (by omega), bnd_some]
      have hc : x.drop j = gt x j :: x.drop (j + 1) := by rw [gt_lt (show j < x.length by omega)]; exact List.drop_eq_getElem_cons (by omega)
      by_cases q : gt x j = 47
      · have e0 : part x j = [] := by unfold part; rw [hc, List.takeWhile_cons_of_neg (by simp [q])]
        rw [if_pos (show nI (gt x j) = 47 by rw [q]; rfl), subI hpj, e0]
        rfl
      · have e1 : part x j = gt x j :: part x (j + 1) := by unfold part; rw [hc, List.takeWhile_cons_of_pos (by simp [q])]
        rw [if_neg (show ¬ nI (gt x j) = 47 from fun z => q ((nI_eq (by omega) (show 47 < 2 ^ 31 by decide)).mp z)), nI_1, ih m (j + 1) (by omega) (by omega) (by omega), e1, List.length_cons]
        congr 3
        omega
  unfold f_X11_partLength
  rw [key (x.length - p) N p (by omega) (by omega) (by omega)]
  congr 3
  omega
theorem f_isSamePart {N : Nat} {c : hS} {r r2 p : Nat} {x y : List Nat} (hN : 1000000 ≤ N) (h : row c r x) (h2 : row c r2 y) (hp : p ≤ x.length) (hp2 : p ≤ y.length) : f_X9_isSamePart N c r r2 (nI p) = some (bI (decide (part x p = part y p)), c) := by
  have hx := h.1
  have hx2 := ln_le (r + 1)
  have l1 := part_len x p
  have l2 := part_len y p
  have hy := h2.lt
  unfold f_X9_isSamePart
  rw [f_partLength hN h hp, bnd_some, f_partLength hN h2 hp2, bnd_some]
  by_cases q : (part y p).length = (part x p).length
  · rw [if_pos (by rw [q])]
    have key : ∀ d m j, j + d = (part x p).length → d < m → (∀ i, i < j → gt x (p + i) = gt y (p + i)) → f_X9_isSamePart_20 N r r2 (nI p) m c (nI (part x p).length) (nI (p + j)) = some (bI (decide (part x p = part y p)), c) := by
      intro d
      induction d with
      | zero =>
        intro m j hj hm hi
        obtain ⟨m, rfl⟩ : ∃ m', m = m' + 1 := ⟨m - 1, by omega⟩
        have : j = (part x p).length := by omega
        subst this
        rw [f_X9_isSamePart_20, nI_add, if_pos (nI_le (by omega) (by omega)), decide_eq_true (part_ext q hi)]
        rfl
      | succ d ih =>
        intro m j hj hm hi
        obtain ⟨m, rfl⟩ : ∃ m', m = m' + 1 := ⟨m - 1, by omega⟩
        have b1 := h.2.2.2.gt (p + j)
        have b2 := h2.2.2.2.gt (p + j)
        rw [f_X9_isSamePart_20, nI_add, if_neg (nI_ge (by omega) (by omega)), f_get h (by omega), bnd_some, f_get h2 (by omega), bnd_some]
        by_cases w : gt x (p + j) = gt y (p + j)
        · rw [if_pos (by rw [w]), nI_1, show p + j + 1 = p + (j + 1) by omega]
          exact ih m (j + 1) (by omega) (by omega) (fun i hij => if e : i = j then by rw [e]; exact w else hi i (by omega))
        · rw [if_neg (fun z => w ((nI_eq (by omega) (by omega)).mp z)), decide_eq_false (fun z => w ?_)]
          · rfl
          · rw [← part_gt (show j < (part x p).length by omega), ← part_gt (show j < (part y p).length by omega), z]
    exact key (part x p).length N 0 (by omega) (by omega) (fun i hi => absurd hi (Nat.not_lt_zero i))
  · rw [if_neg (fun z => q ((nI_eq (by omega) (by omega)).mp z)), decide_eq_false (fun z => q (by rw [z]))]
    rfl
noncomputable def pbh (b : List Nat) : Nat := if b.length = 0 then 0 else b.length + 1
theorem f_partBehind {c : hS} {b : List Nat} {r : Nat} (h : row c r b) : f_X11_partBehind c r = some (nI (pbh b), c) := by
  unfold f_X11_partBehind pbh
  rw [f_size h, bnd_some]
  by_cases q : b.length = 0
  · rw [if_pos (by rw [q]; rfl), if_pos q]; rfl
  · rw [if_neg (nI_ne0 (by omega) h.lt), if_neg q, f_size h, bnd_some, nI_1]
theorem lu_pbh {x b : List Nat} (h : lu x b = true) : pbh b ≤ x.length := by
  unfold pbh
  split
  · omega
  · rename_i q
    unfold lu und at h
    rw [decide_eq_false q, Bool.false_or] at h
    simp only [Bool.and_eq_true, decide_eq_true_eq] at h
    omega
/-- the name at place j -/
noncomputable def tt (ms : List Mb) (j : Nat) : List Nat := (ms.getD j ([], [], false)).1
theorem tt_at {ms : List Mb} {j : Nat} (h : j < ms.length) : tt ms j = ms[j].1 := by
  unfold tt
  rw [List.getD_eq_getElem?_getD, List.getElem?_eq_getElem h]
  rfl
noncomputable def otB (b : List Nat) (ms : List Mb) (i j : Nat) : Bool := lu (tt ms j) b && decide (part (tt ms j) (pbh b) = part (tt ms i) (pbh b))
noncomputable def frs (b : List Nat) (ms : List Mb) (i : Nat) : Bool := lu (tt ms i) b && (List.range' 0 i).all fun j => !otB b ms i j
theorem f_isFirstOfChild {N : Nat} {c : hS} {s i : Nat} {b : List Nat} {ms : List Mb} (hN : 1000000 ≤ N) (h : shf c s ms) (hs : s = 37 ∨ s = 119) (hb : row c 1 b) (hi : i < ms.length) : f_X9_isFirstOfChild N c s 1 (nI i) = some (bI (frs b ms i), c) := by
  have hl := h.1
  have hm := (h.mb hi).1
  rw [← tt_at hi] at hm
  unfold f_X9_isFirstOfChild frs
  rw [f_member h hs hi, bnd_some]
  dsimp only [opt]
  rw [beq6 (h.kc6 hs (by omega)), cond_true, f_liesUnder hN hm hb, bnd_some, show (decide (b.length = 0) || und (tt ms i) b) = lu (tt ms i) b from rfl]
  cases hlu : lu (tt ms i) b with
  | false => rw [if_pos (show bI false = 0 from rfl)]; rfl
  | true =>
    rw [if_neg (by decide), Bool.true_and]
    have key : ∀ d m j, j + d = i → d < m → f_X9_isFirstOfChild_26 N s 1 (nI i) m c (c.2.2 (s + 1) i) (nI j) = some (bI ((List.range' j d).all fun j => !otB b ms i j), c) := by
      intro d
      induction d with
      | zero =>
        intro m j hj hmm
        obtain ⟨m, rfl⟩ : ∃ m', m = m' + 1 := ⟨m - 1, by omega⟩
        rw [f_X9_isFirstOfChild_26, if_pos (nI_le (by omega) (by omega))]
        rfl
      | succ d ih =>
        intro m j hj hmm
        obtain ⟨m, rfl⟩ : ∃ m', m = m' + 1 := ⟨m - 1, by omega⟩
        have hjl : j < ms.length := by omega
        have hm2 := (h.mb hjl).1
        rw [← tt_at hjl] at hm2
        rw [f_X9_isFirstOfChild_26, if_neg (nI_ge (by omega) (by omega)), f_member h hs hjl, bnd_some]
        dsimp only [opt]
        rw [beq6 (h.kc6 hs (by omega)), cond_true, f_liesUnder hN hm2 hb, bnd_some, show (decide (b.length = 0) || und (tt ms j) b) = lu (tt ms j) b from rfl, nI_1, ih m (j + 1) (by omega) (by omega), List.range'_succ, List.all_cons]
        unfold otB
        cases hlj : lu (tt ms j) b with
        | false => rw [if_pos (show bI false = 0 from rfl), Bool.false_and, Bool.not_false, Bool.true_and]
        | true =>
          rw [if_neg (by decide), Bool.true_and, f_partBehind hb, bnd_some, f_isSamePart hN hm2 hm (lu_pbh hlj) (lu_pbh hlu), bnd_some]
          cases decide (part (tt ms j) (pbh b) = part (tt ms i) (pbh b)) with
          | false =>
            rw [if_pos (show bI false = 0 from rfl), Bool.not_false, Bool.true_and]
            exact ih m (j + 1) (by omega) (by omega)
          | true => rw [if_neg (by decide)]; rfl
    exact key i N 0 (by omega) (by omega)
noncomputable def fsL (b : List Nat) (ms : List Mb) : List Nat := (List.range' 0 ms.length).filter (frs b ms)
theorem f_children {N : Nat} {c : hS} {s : Nat} {b : List Nat} {ms : List Mb} (hN : 1000000 ≤ N) (h : shf c s ms) (hs : s = 37 ∨ s = 119) (hb : row c 1 b) : f_X9_children N c s 1 = some (nI (fsL b ms).length, c) := by
  have hl := h.1
  have key : ∀ d m j a, j + d = ms.length → d < m → f_X9_children_4 N s 1 m c (nI a) (nI j) = some (nI (a + ((List.range' j d).filter (frs b ms)).length), c) := by
    intro d
    induction d with
    | zero =>
      intro m j a hj hm
      obtain ⟨m, rfl⟩ : ∃ m', m = m' + 1 := ⟨m - 1, by omega⟩
      rw [f_X9_children_4, h.2.1, if_pos (nI_le (by omega) (by omega))]
      rfl
    | succ d ih =>
      intro m j a hj hm
      obtain ⟨m, rfl⟩ : ∃ m', m = m' + 1 := ⟨m - 1, by omega⟩
      rw [f_X9_children_4, h.2.1, if_neg (nI_ge (by omega) (by omega)), f_isFirstOfChild hN h hs hb (by omega), bnd_some, List.range'_succ]
      cases hf : frs b ms j with
      | false => rw [if_pos (show bI false = 0 from rfl), nI_1, ih m (j + 1) a (by omega) (by omega), List.filter_cons_of_neg (by rw [hf]; decide)]
      | true =>
        rw [if_neg (by decide), nI_1, nI_1, ih m (j + 1) (a + 1) (by omega) (by omega), List.filter_cons_of_pos hf, List.length_cons]
        congr 3
        omega
  have := key ms.length N 0 0 (by omega) (by omega)
  rw [Nat.zero_add] at this
  exact this
noncomputable def chF (b : List Nat) (ms : List Mb) (k : Int32) : Option Nat := if k < 0 then none else (fsL b ms)[k.toNatClampNeg]?
noncomputable def oI (o : Option Nat) : Int32 := match o with
  | none => -1
  | some m => nI m
theorem f_firstOfChild {N : Nat} {c : hS} {s : Nat} {b : List Nat} {ms : List Mb} {k : Int32} (hN : 1000000 ≤ N) (h : shf c s ms) (hs : s = 37 ∨ s = 119) (hb : row c 1 b) : f_X9_firstOfChild N c s 1 k = some (oI (chF b ms k), c) := by
  have hl := h.1
  unfold chF
  rcases i_cases k with q | ⟨kk, hk, rfl⟩
  · have key : ∀ d m j a, j + d = ms.length → d < m → a ≤ j → f_X9_firstOfChild_5 N s 1 k m c (nI a) (nI j) = some (-1, c) := by
      intro d
      induction d with
      | zero =>
        intro m j a hj hm _
        obtain ⟨m, rfl⟩ : ∃ m', m = m' + 1 := ⟨m - 1, by omega⟩
        rw [f_X9_firstOfChild_5, h.2.1, if_pos (nI_le (by omega) (by omega))]
      | succ d ih =>
        intro m j a hj hm ha
        obtain ⟨m, rfl⟩ : ∃ m', m = m' + 1 := ⟨m - 1, by omega⟩
        rw [f_X9_firstOfChild_5, h.2.1, if_neg (nI_ge (by omega) (by omega)), f_isFirstOfChild hN h hs hb (by omega), bnd_some]
        cases hf : frs b ms j with
        | false => rw [if_pos (show bI false = 0 from rfl), nI_1, ih m (j + 1) a (by omega) (by omega) (by omega)]
        | true =>
          rw [if_neg (by decide), if_neg (show ¬ nI a = k from fun z => by rw [← z] at q; exact nI_pos (by omega) q), nI_1, nI_1, ih m (j + 1) (a + 1) (by omega) (by omega) (by omega)]
    rw [if_pos q]
    exact key ms.length N 0 0 (by omega) (by omega) (by omega)
  · have key : ∀ d m j a, j + d = ms.length → d < m → a ≤ j → a ≤ kk → f_X9_firstOfChild_5 N s 1 (nI kk) m c (nI a) (nI j) = some (oI ((List.range' j d).filter (frs b ms))[kk - a]?, c) := by
      intro d
      induction d with
      | zero =>
        intro m j a hj hm _ _
        obtain ⟨m, rfl⟩ : ∃ m', m = m' + 1 := ⟨m - 1, by omega⟩
        rw [f_X9_firstOfChild_5, h.2.1, if_pos (nI_le (by omega) (by omega))]
        rfl
      | succ d ih =>
        intro m j a hj hm ha hak
        obtain ⟨m, rfl⟩ : ∃ m', m = m' + 1 := ⟨m - 1, by omega⟩
        rw [f_X9_firstOfChild_5, h.2.1, if_neg (nI_ge (by omega) (by omega)), f_isFirstOfChild hN h hs hb (by omega), bnd_some, List.range'_succ]
        cases hf : frs b ms j with
        | false => rw [if_pos (show bI false = 0 from rfl), nI_1, ih m (j + 1) a (by omega) (by omega) (by omega) hak, List.filter_cons_of_neg (by rw [hf]; decide)]
        | true =>
          rw [if_neg (by decide), List.filter_cons_of_pos hf]
          by_cases e : a = kk
          · rw [if_pos (by rw [e]), e, Nat.sub_self, List.getElem?_cons_zero]
            rfl
          · rw [if_neg (fun z => e ((nI_eq (by omega) hk).mp z)), nI_1, nI_1, ih m (j + 1) (a + 1) (by omega) (by omega) (by omega) (by omega), show kk - a = kk - (a + 1) + 1 by omega, List.getElem?_cons_succ]
    rw [if_neg (nI_pos hk), nI_clamp hk]
    exact key ms.length N 0 0 (by omega) (by omega) (by omega) (by omega)
noncomputable def chK (b : List Nat) (ms : List Mb) (k i : Int32) : Nat := if k = -1 then (if i = -1 then 0 else 1) else match chF b ms k with
  | none => 1
  | some m => if i = -1 ∨ haB (part (tt ms m) (pbh b)) i = true then 0 else 1
noncomputable def chV (b : List Nat) (ms : List Mb) (k i : Int32) : Int32 := if k = -1 then nI (fsL b ms).length else match chF b ms k with
  | none => 0
  | some m => if i = -1 then nI (part (tt ms m) (pbh b)).length else tdV (part (tt ms m) (pbh b)) i
theorem c_child {N : Nat} {g c : hS} {b t : List Nat} {ms : List Mb} {k i : Int32} (hN : 1000000 ≤ N) (h : PC g c b t ms) : AN g (f_X11_child N c k i) onM (chK b ms k i) (chV b ms k i) b t ms := by
  obtain ⟨s, s1, s2, s3, s4⟩ := h.sh
  have hl := s3.1
  unfold f_X11_child chK chV
  by_cases k1 : k = -1
  · rw [if_pos k1, if_pos k1, if_pos k1]
    by_cases i1 : i = -1
    · rw [if_pos i1, if_pos i1, s1, s4, cond_true, f_children hN s3 s2 h.1, bnd_some]
      exact AN.ok rfl rfl h
    · rw [if_neg i1, if_neg i1]
      exact AN.no rfl rfl (by decide) h
  · rw [if_neg k1, if_neg k1, if_neg k1, s1, s4, cond_true, cond_true, f_firstOfChild hN s3 s2 h.1, bnd_some]
    cases hc : chF b ms k with
    | none =>
      rw [show oI none = -1 from rfl, f_member_neg (by decide), bnd_some]
      exact AN.no (k := 1) rfl rfl (by decide) h
    | some m =>
      have hmem : m ∈ fsL b ms := by
        unfold chF at hc
        split at hc
        · cases hc
        · exact List.mem_of_getElem? hc
      unfold fsL at hmem
      rw [List.mem_filter, List.mem_range'_1] at hmem
      have hml : m < ms.length := by omega
      have hlu : lu (tt ms m) b = true := by
        have := hmem.2
        unfold frs at this
        simp only [Bool.and_eq_true] at this
        exact this.1
      have hp := lu_pbh hlu
      have hm := (s3.mb hml).1
      rw [← tt_at hml] at hm
      have hml' := hm.lt
      have lp := part_len (tt ms m) (pbh b)
      rw [show oI (some m) = nI m from rfl, f_member s3 s2 hml, bnd_some]
      dsimp only [opt]
      rw [beq6 (s3.kc6 s2 (by omega)), cond_true, f_partBehind h.1, bnd_some, f_partLength hN hm hp, bnd_some]
      by_cases i1 : i = -1
      · rw [if_pos i1, if_pos (Or.inl i1), if_pos i1]
        exact AN.ok rfl rfl h
      · rw [if_neg i1, if_neg i1]
        rcases i_cases i with q | ⟨j, hj, rfl⟩
        · have hh : haB (part (tt ms m) (pbh b)) i = false := by unfold haB; rw [decide_eq_true q]; rfl
          rw [if_pos q, hh, if_neg (by rintro (z | z) <;> first | exact i1 z | cases z)]
          exact AN.no rfl rfl (by decide) h
        · rw [if_neg (nI_pos hj)]
          by_cases w : j < (part (tt ms m) (pbh b)).length
          · have hh : haB (part (tt ms m) (pbh b)) (nI j) = true := by unfold haB; rw [decide_eq_false (nI_pos hj), nI_clamp hj, decide_eq_true w]; rfl
            rw [if_pos (nI_lt w (by omega)), if_pos (Or.inr hh), nI_add, f_get hm (by omega), bnd_some]
            unfold tdV
            rw [nI_clamp hj, part_gt w]
            exact AN.ok rfl rfl h
          · have hh : haB (part (tt ms m) (pbh b)) (nI j) = false := by unfold haB; rw [nI_clamp hj, decide_eq_false w, Bool.and_false]
            rw [if_neg (nI_nlt (by omega) hj), hh, if_neg (by rintro (z | z) <;> first | exact i1 z | cases z)]
            exact AN.no rfl rfl (by decide) h
