/-! PURE: the class's public methods: members -/
theorem shf.ok {c : hS} {s : Nat} {ms : List Mb} (h : shf c s ms) (hs : s = 37 ∨ s = 119) : okM ms := by
  refine ⟨h.1, fun x hx => ?_⟩
  obtain ⟨i, hi, rfl⟩ := List.getElem_of_mem hx
  obtain ⟨k, hk, e⟩ := h.2.2.1 i (Nat.lt_of_lt_of_le hi h.1)
  have hm := h.mb hi
  rw [e] at hm
  have l1 := hm.1.1
  have l2 := hm.2.1.1
  have z : ln (s + 2 + 5 * k + 1 + 1) = 90 ∧ ln (s + 2 + 5 * k + 3 + 1) = 400 := by
    rcases hs with rfl | rfl
    · exact (by decide +kernel : ∀ k, k < 16 → ln (37 + 2 + 5 * k + 1 + 1) = 90 ∧ ln (37 + 2 + 5 * k + 3 + 1) = 400) k hk
    · exact (by decide +kernel : ∀ k, k < 16 → ln (119 + 2 + 5 * k + 1 + 1) = 90 ∧ ln (119 + 2 + 5 * k + 3 + 1) = 400) k hk
  rw [z.1] at l1
  rw [z.2] at l2
  exact ⟨l1, l2⟩
/-- the shelf has other members -/
theorem PC.mem {g c c1 : hS} {b t : List Nat} {ms ms1 : List Mb} {s : Nat} (h : PC g c b t ms) (hs : c.2.2 0 8 = s) (hf : fr (shR s) c c1) (hm : shf c1 s ms1) : PC g c1 b t ms1 := by
  obtain ⟨r1, r3, r5, r7, fx, ok, s0, s', ms', e1, e2, e3, e4, e5⟩ := h
  have es : s0 = s := e1.symm.trans hs
  subst es
  have ns : ∀ o, o < 37 → o ∉ shR s0 := fun o ho q => by rw [shR_mem] at q; omega
  refine ⟨r1.fr hf (ns _ (by omega)) (ns _ (by omega)), r3.fr hf (ns _ (by omega)) (ns _ (by omega)), hf.2.1 r5, hf.2.2 r7, fx.fr hf (fun o ho => by rw [shR_mem] at ho; omega), ⟨hm.ok (by omega), ok.2.mv hf (fun o ho => by rw [shR_mem] at ho; omega)⟩, s0, s', ms', (hf.r (ns _ (by omega)) 8).trans e1, (hf.r (ns _ (by omega)) 9).trans e2, e3, hm, e5.fr hf (fun o ho => by rw [shR_mem] at ho; omega)⟩
noncomputable def moB (ms : List Mb) (k : Int32) : Bool := !decide (k < 0) && decide (k.toNatClampNeg < ms.length)
noncomputable def mbA (ms : List Mb) (k : Int32) : Mb := ms.getD k.toNatClampNeg ([], [], false)
theorem moB_no {c : hS} {s : Nat} {ms : List Mb} {k : Int32} (h : shf c s ms) (hk : moB ms k = false) : f_X9_member c s k = some (none, c) := by
  unfold moB at hk
  rcases i_cases k with q | ⟨p, hp, rfl⟩
  · exact f_member_neg q
  · rw [nI_clamp hp, decide_eq_false (nI_pos hp)] at hk
    exact f_member_no h (by simpa using hk) hp
theorem moB_so {ms : List Mb} {k : Int32} (hk : moB ms k = true) : ∃ p, p < 2 ^ 31 ∧ k = nI p ∧ ∃ hp : p < ms.length, mbA ms k = ms[p] := by
  unfold moB at hk
  rcases i_cases k with q | ⟨p, hp, rfl⟩
  · rw [decide_eq_true q] at hk; cases hk
  · rw [nI_clamp hp] at hk
    simp only [Bool.and_eq_true, decide_eq_true_eq] at hk
    refine ⟨p, hp, rfl, hk.2, ?_⟩
    unfold mbA
    rw [nI_clamp hp, List.getD_eq_getElem?_getD, List.getElem?_eq_getElem hk.2]
    rfl
noncomputable def goK (ms : List Mb) (k : Int32) : Nat := if moB ms k = true then 0 else 1
noncomputable def goM (ms : List Mb) (k : Int32) : List Mb := if moB ms k = true then ms.eraseIdx k.toNatClampNeg else ms
theorem c_go {N : Nat} {g c : hS} {b t : List Nat} {ms : List Mb} {k : Int32} (hN : 1000000 ≤ N) (h : PC g c b t ms) : AN g (f_X11_go N c k) onM (goK ms k) (nI (goM ms k).length) b t (goM ms k) := by
  obtain ⟨s, s1, s2, s3, s4⟩ := h.sh
  unfold f_X11_go goK goM
  rw [s1, s4, cond_true]
  cases z : moB ms k with
  | false =>
    rw [moB_no s3 z, bnd_some, if_neg (by decide), if_neg (by decide)]
    exact AN.no rfl rfl (by decide) h
  | true =>
    obtain ⟨p, hp, rfl, hpl, _⟩ := moB_so z
    have hl := s3.1
    rw [f_member s3 s2 hpl, bnd_some, if_pos rfl, if_pos rfl]
    dsimp only [opt]
    rw [beq6 (s3.kc6 s2 (by omega)), cond_true, s1, s4, cond_true, f_drop hN s3 s2 hpl, bnd_some, nI_clamp hp]
    have hf : fr [s, s + 1] c (dropC c s p ms.length) := dropC_fr c s2
    have hd := shf_drop s3 s2 hpl
    have h1 := h.mem s1 (hf.mono (fun o ho => by rw [shR_mem]; simp at ho; omega)) hd
    rw [(hf.r (show 0 ∉ [s, s + 1] by simp; omega) 8).trans s1, s4, cond_true]
    unfold f_X9_size
    rw [bnd_some, hd.2.1]
    exact AN.ok rfl rfl h1
noncomputable def naK (ms : List Mb) (k i : Int32) : Nat := if moB ms k = true then (if i = -3 ∨ i = -2 ∨ i = -1 ∨ haB (mbA ms k).1 i = true then 0 else 1) else 1
noncomputable def naV (ms : List Mb) (k i : Int32) : Int32 := if i = -3 then bI (mbA ms k).2.2 else if i = -2 then nI (mbA ms k).2.1.length else if i = -1 then nI (mbA ms k).1.length else tdV (mbA ms k).1 i
theorem c_name {g c : hS} {b t : List Nat} {ms : List Mb} {k i : Int32} (h : PC g c b t ms) : AN g (f_X11_name c k i) onM (naK ms k i) (naV ms k i) b t ms := by
  obtain ⟨s, s1, s2, s3, s4⟩ := h.sh
  unfold f_X11_name naK
  rw [s1, s4, cond_true]
  cases z : moB ms k with
  | false =>
    rw [moB_no s3 z, bnd_some, if_neg (by decide)]
    exact AN.no rfl rfl (by decide) h
  | true =>
    obtain ⟨p, hp, rfl, hpl, em⟩ := moB_so z
    have hl := s3.1
    have hm := s3.mb hpl
    rw [f_member s3 s2 hpl, bnd_some, if_pos rfl, em]
    dsimp only [opt]
    rw [beq6 (s3.kc6 s2 (by omega)), cond_true]
    unfold naV
    rw [em]
    by_cases w3 : i = -3
    · rw [if_pos w3, if_pos (Or.inl w3), if_pos w3, hm.2.2]
      cases ms[p].2.2 with
      | false => rw [if_pos (show bI false = 0 from rfl)]; exact AN.ok rfl rfl h
      | true => rw [if_neg (by decide)]; exact AN.ok rfl rfl h
    · by_cases w2 : i = -2
      · rw [if_neg w3, if_pos w2, if_pos (Or.inr (Or.inl w2)), if_neg w3, if_pos w2, f_size hm.2.1, bnd_some]
        exact AN.ok rfl rfl h
      · by_cases w1 : i = -1
        · rw [if_neg w3, if_neg w2, if_pos w1, if_pos (Or.inr (Or.inr (Or.inl w1))), if_neg w3, if_neg w2, if_pos w1, f_size hm.1, bnd_some]
          exact AN.ok rfl rfl h
        · rw [if_neg w3, if_neg w2, if_neg w1, if_neg w3, if_neg w2, if_neg w1, f_has' hm.1, bnd_some]
          cases y : haB ms[p].1 i with
          | false =>
            rw [if_pos (show bI false = 0 from rfl), if_neg (by rintro (q | q | q | q) <;> first | contradiction | cases q)]
            exact AN.no rfl rfl (by decide) h
          | true =>
            obtain ⟨j, hj, rfl, _⟩ := haB_so y
            rw [if_neg (by decide), if_pos (Or.inr (Or.inr (Or.inr rfl))), f_get hm.1 hj, bnd_some]
            unfold tdV
            rw [nI_clamp hj]
            exact AN.ok rfl rfl h
noncomputable def byK (ms : List Mb) (k i : Int32) : Nat := if moB ms k = true ∧ haB (mbA ms k).2.1 i = true then 0 else 1
theorem c_byteAt {g c : hS} {b t : List Nat} {ms : List Mb} {k i : Int32} (h : PC g c b t ms) : AN g (f_X11_byteAt c k i) onM (byK ms k i) (tdV (mbA ms k).2.1 i) b t ms := by
  obtain ⟨s, s1, s2, s3, s4⟩ := h.sh
  unfold f_X11_byteAt byK
  rw [s1, s4, cond_true]
  cases z : moB ms k with
  | false =>
    rw [moB_no s3 z, bnd_some, if_neg (by simp)]
    exact AN.no rfl rfl (by decide) h
  | true =>
    obtain ⟨p, hp, rfl, hpl, em⟩ := moB_so z
    have hl := s3.1
    have hm := s3.mb hpl
    rw [f_member s3 s2 hpl, bnd_some, em]
    dsimp only [opt]
    rw [beq6 (s3.kc6 s2 (by omega)), cond_true, f_has' hm.2.1, bnd_some]
    cases y : haB ms[p].2.1 i with
    | false =>
      rw [if_pos (show bI false = 0 from rfl), if_neg (by simp)]
      exact AN.no rfl rfl (by decide) h
    | true =>
      obtain ⟨j, hj, rfl, _⟩ := haB_so y
      rw [if_neg (by decide), if_pos ⟨rfl, rfl⟩, f_get hm.2.1 hj, bnd_some]
      unfold tdV
      rw [nI_clamp hj]
      exact AN.ok rfl rfl h
theorem fnI_fi {t : List Nat} : ∀ {ms : List Mb} {i : Nat}, (fnI t ms i = -1 ∧ ms.find? (fun y => decide (y.1 = t)) = none) ∨ ∃ k, ∃ hk : k < ms.length, fnI t ms i = nI (i + k) ∧ ms.find? (fun y => decide (y.1 = t)) = some ms[k]
  | [], _ => Or.inl ⟨rfl, rfl⟩
  | x :: r, i => by
    by_cases e : x.1 = t
    · refine Or.inr ⟨0, by simp, ?_, ?_⟩
      · unfold fnI; rw [if_pos e]; rfl
      · rw [List.find?_cons_of_pos (by simpa using e)]; rfl
    · rcases fnI_fi (t := t) (ms := r) (i := i + 1) with ⟨a, b⟩ | ⟨k, hk, a, b⟩
      · refine Or.inl ⟨?_, ?_⟩
        · unfold fnI; rw [if_neg e]; exact a
        · rw [List.find?_cons_of_neg (by simpa using e)]; exact b
      · refine Or.inr ⟨k + 1, by simp; omega, ?_, ?_⟩
        · unfold fnI; rw [if_neg e, a]; congr 1; omega
        · rw [List.find?_cons_of_neg (by simpa using e), b]; rfl
noncomputable def kiV (b : List Nat) (ms : List Mb) : Int32 := if b.length = 0 then 1 else match ms.find? (fun y => decide (y.1 = b)) with
  | some x => if x.2.2 = true then 1 else 2
  | none => bI (ms.any fun x => lu x.1 b)
theorem c_kind {N : Nat} {g c : hS} {b t : List Nat} {ms : List Mb} (hN : 1000000 ≤ N) (h : PC g c b t ms) : f_X11_kind N c = some (kiV b ms, c) := by
  obtain ⟨s, s1, s2, s3, s4⟩ := h.sh
  have hl := s3.1
  unfold f_X11_kind kiV
  rw [f_size h.1, bnd_some]
  by_cases b0 : b.length = 0
  · rw [if_pos (by rw [b0]; rfl), if_pos b0]
  · rw [if_neg (nI_ne0 (by omega) h.1.lt), if_neg b0, s1, s4, cond_true, cond_true, f_find hN s3 s2 h.1, bnd_some]
    rcases fnI_fi (t := b) (ms := ms) (i := 0) with ⟨a1, a2⟩ | ⟨k, hk, a1, a2⟩
    · rw [a1, a2, f_member_neg (by decide), bnd_some]
      dsimp only [opt]
      rw [s1, s4, cond_true, f_hasUnder hN s3 s2 h.1, bnd_some]
      cases (ms.any fun x => lu x.1 b) <;> rfl
    · rw [a1, a2, Nat.zero_add, f_member s3 s2 hk, bnd_some]
      dsimp only [opt]
      rw [beq6 (s3.kc6 s2 (by omega)), cond_true, (s3.mb hk).2.2]
      cases ms[k].2.2 <;> rfl
