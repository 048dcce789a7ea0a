/-! PURE: the reference: names; come, go, name, byteAt -/
theorem dle {a b : Nat} (ha : a < 2 ^ 31) (hb : b < 2 ^ 31) : decide (nI a ≤ nI b) = decide (a ≤ b) := by
  by_cases q : a ≤ b
  · rw [decide_eq_true q, decide_eq_true ((nI_leI ha hb).mpr q)]
  · rw [decide_eq_false q, decide_eq_false (fun z => q ((nI_leI ha hb).mp z))]
theorem m_inN {c : hS} {w a b : Nat} {a' b' : Int64} (hw : w < 2 ^ 31) (ha : a < 2 ^ 31) (hb : b < 2 ^ 31) (h1 : a' = (nI a).toInt64) (h2 : b' = (nI b).toInt64) : f_X12_in c (nI w).toInt64 a' b' = some (bI (decide (a ≤ w) && decide (w ≤ b)), c) := by
  rw [m_in h1 h2, dle ha hw, dle hw hb]
theorem m_n50 {N : Nat} {k23 : hS → Int32 → Int32 → Int32 → Option (Int32 × hS)} {c : hS} {part w : Nat} {v : Int32} {dots : Bool} (hp : part < 2 ^ 31 - 1) (hw : w < 256) : f_X12_isName_50 N k23 c (nI part) (bI dots) v (nI w) = if w = 47 then (if (decide (part = 0) || (dots && decide (part < 3))) = true then some (0, c) else k23 c 0 1 (v + 1)) else if (decide (33 ≤ w) && decide (w ≤ 126)) = true then k23 c (nI (part + 1)) (bI (dots && decide (w = 46))) (v + 1) else some (0, c) := by
  unfold f_X12_isName_50
  by_cases e : w = 47
  · rw [if_pos (show nI w = 47 by rw [e]; rfl), if_pos e]
    by_cases p0 : part = 0
    · rw [if_pos (show nI part = 0 by rw [p0]; rfl), decide_eq_true p0, Bool.true_or, if_pos rfl]
    · rw [if_neg (nI_ne0 (by omega) (by omega)), decide_eq_false p0, Bool.false_or]
      cases dots with
      | false => rw [if_pos (show bI false = 0 from rfl), Bool.false_and, if_neg (by decide)]
      | true =>
        rw [if_neg (by decide), Bool.true_and]
        by_cases p3 : part < 3
        · rw [if_neg (show ¬ (3 : Int32) ≤ nI part from nI_ge (b := 3) p3 (by decide)), decide_eq_true p3, if_pos rfl]
        · rw [if_pos (show (3 : Int32) ≤ nI part from nI_le (a := 3) (by omega) (by omega)), decide_eq_false p3, if_neg (by decide)]
  · rw [if_neg (show ¬ nI w = 47 from fun q => e ((nI_eq (b := 47) (by omega) (by decide)).mp q)), if_neg e, m_inN (a := 33) (b := 126) (by omega) (by decide) (by decide) (by decide) (by decide), bnd_some]
    cases z : (decide (33 ≤ w) && decide (w ≤ 126)) with
    | false => rw [if_pos (show bI false = 0 from rfl), if_neg (by decide)]
    | true =>
      rw [if_neg (by decide), if_pos rfl, nI_1]
      cases dots with
      | false => rw [if_pos (show bI false = 0 from rfl)]; rfl
      | true =>
        rw [if_neg (by decide), Bool.true_and]
        by_cases q : w = 46
        · rw [if_pos (show nI w = 46 by rw [q]; rfl), decide_eq_true q]; rfl
        · rw [if_neg (show ¬ nI w = 46 from fun z => q ((nI_eq (b := 46) (by omega) (by decide)).mp z)), decide_eq_false q]; rfl
theorem m_isName {N : Nat} {c : hS} {t : List Nat} (hN : 1000000 ≤ N) (hn : mrw c 14 209 t) : f_X12_isName N c = some (bI (nameB t), c) := by
  have ht : t.length ≤ 300 := hn.1
  have key : ∀ d n i part dots, i + d = t.length → d + 1 < n → part ≤ i → f_X12_isName_23 N n c (nI part) (bI dots) (nI i) = some (bI (nmB (t.drop i) part dots), c) := by
    intro d
    induction d with
    | zero =>
      intro n i part dots hi hm hp
      obtain ⟨n, rfl⟩ : ∃ m, n = m + 2 := ⟨n - 2, by omega⟩
      rw [f_X12_isName_23, hn.2.1, if_neg (nI_nlt (by omega) (by omega)), if_pos (nI_le (by omega) (by omega)), show (47 : Int32) = nI 47 from rfl, m_n50 (by omega) (by decide), if_pos rfl, List.drop_eq_nil_of_le (by omega)]
      unfold nmB
      cases (decide (part = 0) || (dots && decide (part < 3))) with
      | true => rw [if_pos rfl]; rfl
      | false => rw [if_neg (by decide), f_X12_isName_23, hn.2.1, nI_1, if_pos (nI_lt (by omega) (by omega))]; rfl
    | succ d ih =>
      intro n i part dots hi hm hp
      obtain ⟨n, rfl⟩ : ∃ m, n = m + 1 := ⟨n - 1, by omega⟩
      have hil : i < t.length := by omega
      rw [f_X12_isName_23, hn.2.1, if_neg (nI_nlt (by omega) (by omega)), if_neg (nI_ge hil (by omega)), j_in_nI (show i < ln 209 from (by show i < 300; omega)) (by decide), cond_true, nI_clamp (by omega), hn.2.2.1 i hil, m_n50 (by omega) (hn.2.2.2.gt i), List.drop_eq_getElem_cons hil, gt_lt hil]
      unfold nmB
      by_cases e : t[i] = 47
      · rw [if_pos e, if_pos e]
        cases (decide (part = 0) || (dots && decide (part < 3))) with
        | true => rw [if_pos rfl]; rfl
        | false =>
          rw [if_neg (by decide), nI_1]
          exact ih n (i + 1) 0 true (by omega) (by omega) (by omega)
      · rw [if_neg e, if_neg e]
        cases (decide (33 ≤ t[i]) && decide (t[i] ≤ 126)) with
        | false => rw [if_neg (by decide)]; rfl
        | true =>
          rw [if_pos rfl, nI_1]
          exact ih n (i + 1) (part + 1) (dots && decide (t[i] = 46)) (by omega) (by omega) (by omega)
  unfold f_X12_isName nameB
  rw [hn.2.1, m_inN (a := 1) (b := 90) (by omega) (by decide) (by decide) (by decide) (by decide), bnd_some]
  cases (decide (1 ≤ t.length) && decide (t.length ≤ 90)) with
  | false => rw [if_pos (show bI false = 0 from rfl)]; rfl
  | true => rw [if_neg (by decide)]; exact key t.length N 0 0 true (by omega) (by omega) (by omega)
theorem PM.sh {P : Nat → Nat → Prop} {c c1 : hS} {b b' t : List Nat} {ms ms' : List Mb} (h : PM c b t ms) (hf : fm P c c1) (h1 : ∀ o i, P o i → (o = 201 ∧ i ≠ 4) ∨ o = 202 ∨ 203 < o) (hb : mrw c1 2 202 b') (h7 : c1.1 201 7 = nI ms'.length) (hl : ms'.length ≤ 16) (hs : msh c1 0 ms') (hm : ∀ x ∈ ms', nameB x.1 = true) : PM c1 b' t ms' := by
  have n : ∀ o i, ¬ ((o = 201 ∧ i ≠ 4) ∨ o = 202 ∨ 203 < o) → ¬ P o i := fun o i q z => q (h1 o i z)
  exact ⟨hb, h.2.1.fm hf (n _ _ (by omega)) (fun i => n _ _ (by omega)), h7, hl, hs, hm⟩
theorem mrw.cp {c c' : hS} {j o o' a len : Nat} {l : List Nat} (hl : a + len ≤ l.length) (hs : ∀ i, i < l.length → c.1 o' i = nI (gt l i)) (hv : ∀ i, 0 ≤ i → i < len → c'.1 o (0 + i) = c.1 o' (a + i)) (hj : c'.1 201 j = nI len) (ho : len ≤ ln o) (hb : byt l) : mrw c' j o ((l.drop a).take len) := by
  have e : ((l.drop a).take len).length = len := by simp; omega
  refine ⟨by omega, by rw [e]; exact hj, fun i hi => ?_, (hb.drop a).take len⟩
  rw [e] at hi
  have := hv i (Nat.zero_le _) hi
  rw [Nat.zero_add] at this
  rw [this, hs _ (by omega), gt_take hi, gt_drop]
theorem nameB_pos {l : List Nat} (h : nameB l = true) : l.length ≠ 0 := by
  unfold nameB at h
  simp at h
  intro z
  simp [z] at h
theorem nameB_no {l : List Nat} (h : 90 < l.length) : nameB l = false := by
  cases z : nameB l with
  | false => rfl
  | true => have := nameB_90 z; omega
theorem comeM_mem {ms : List Mb} {x y : Mb} (h : y ∈ comeM ms x) : y ∈ ms ∨ y = x := by
  unfold comeM at h
  rcases List.mem_append.mp h with q | q
  · exact Or.inl (List.mem_of_mem_eraseP q)
  · exact Or.inr (by simpa using q)
theorem moB_in {ms : List Mb} {k : Int32} (h : ms.length ≤ 16) : (decide ((0 : Int32) ≤ k) && decide (k ≤ nI ms.length - 1)) = moB ms k := by
  have := in_has (l := List.replicate ms.length 0) (n := k) (by simp; omega)
  unfold haB at this
  unfold moB
  simpa only [List.length_replicate] using this
theorem m_go {N : Nat} {c : hS} {b t : List Nat} {ms : List Mb} {k : Int32} (hN : 1000000 ≤ N) (h : PM c b t ms) : MN (f_X12_go N c k) c (goK ms k) (nI (goM ms k).length) b t (goM ms k) := by
  obtain ⟨c1, e1, h1, z1, f1⟩ := m_zero h
  have h16 := h.2.2.2.1
  unfold f_X12_go goK goM
  rw [e1]
  dsimp only [st1]
  rw [h1.2.2.1, m_in (a := 0) (a' := 0) (by decide) rfl, bnd_some, moB_in h16]
  unfold f_X12_go_27
  cases z : moB ms k with
  | false =>
    rw [if_pos (show bI false = 0 from rfl), if_neg (by decide), if_neg (by decide), m_ref1 z1 (by decide), bnd_some, if_neg (by decide)]
    exact m_no h1 f1 (by decide) rfl
  | true =>
    obtain ⟨p, hp, rfl, hpl, -⟩ := moB_so z
    rw [if_neg (by decide), if_pos rfl, if_pos rfl, m_ref0 z1, bnd_some, if_pos rfl, h1.2.2.1, show nI ms.length - 1 = nI (ms.length - 1) from subI (b := 1) (by omega), nI_clamp hp]
    dsimp only [st1]
    have f2 : fm (fun o i => o = 201 ∧ i = 7) c1 (sI c1 201 7 (nI (ms.length - 1))) := fm.sI ⟨rfl, rfl⟩
    have s2 : msh (sI c1 201 7 (nI (ms.length - 1))) 0 ms := fun i hi => (h1.2.2.2.2.1 i hi).fm f2 (fun o j a b => by omega)
    have key : ∀ r n m c, m + r + 1 = ms.length → r < n → p ≤ m → hol c 0 ms p m → c.1 201 7 = nI (ms.length - 1) → ∃ c', f_X12_go_48 N (nI p) n c (nI (0 + m)) = some (nI (ms.length - 1), c') ∧ msh c' 0 (ms.eraseIdx p) ∧ fm (rg 0) c c' := by
      intro r
      induction r with
      | zero =>
        intro n m c hm hn' hkm hh h7
        obtain ⟨n, rfl⟩ : ∃ m, n = m + 1 := ⟨n - 1, by omega⟩
        rw [f_X12_go_48, h7, if_pos (nI_le (by omega) (by omega))]
        exact ⟨c, rfl, hh.nd (by omega) hpl, fm.rf⟩
      | succ r ih =>
        intro n m c hm hn' hkm hh h7
        obtain ⟨n, rfl⟩ : ∃ m, n = m + 1 := ⟨n - 1, by omega⟩
        obtain ⟨c1, a1, a2, a3⟩ := hh.st hN (by omega) hkm (by omega)
        obtain ⟨c', b1, b2, b3⟩ := ih n (m + 1) c1 (by omega) (by omega) (by omega) a2 ((a3.1 _ _ (by unfold msl; omega)).trans h7)
        rw [f_X12_go_48, h7, if_neg (nI_ge (by omega) (by omega)), a1, bnd_some, nI_1]
        exact ⟨c', b1, b2, (a3.mono (fun o i z => msl_rg z (by omega) (by omega))).tr b3⟩
    obtain ⟨c', w1, w2, w3⟩ := key (ms.length - 1 - p) N p _ (by omega) (by omega) (Nat.le_refl _) (hol.bg s2) (sI_s _ _ _ _)
    rw [Nat.zero_add] at w1
    have ll : (ms.eraseIdx p).length = ms.length - 1 := List.length_eraseIdx_of_lt hpl
    have fa : fm (fun o i => (o = 201 ∧ i = 7) ∨ (204 ≤ o ∧ o ≤ 208)) c1 c' := (f2.mono (fun o i z => Or.inl z)).tr (w3.mono (fun o i z => by unfold rg at z; omega))
    rw [ll]
    refine ⟨_, c', w1, (fa.1 _ _ (by omega)).trans z1, fun _ => rfl, ?_, f1.tr (fa.mono (fun o i z => by omega))⟩
    exact h1.sh fa (fun o i z => by omega) (h1.1.fm fa (by omega) (fun i => by omega)) (by rw [w3.1 _ _ (by unfold rg; omega), sI_s, ll]) (by omega) w2 (fun x hx => h1.2.2.2.2.2 x (List.mem_of_mem_eraseIdx hx))
theorem in_m3 {l : List Nat} {i : Int32} (hl : l.length < 2 ^ 31) : (decide ((-3 : Int32) ≤ i) && decide (i ≤ nI l.length - 1)) = decide (i = -3 ∨ i = -2 ∨ i = -1 ∨ haB l i = true) := by
  rcases i_cases i with q | ⟨k, hk, rfl⟩
  · have h1 : haB l i = false := by unfold haB; rw [decide_eq_true q]; rfl
    have h2 : i ≤ nI l.length - 1 := by
      have a : i ≤ -1 := by rw [Int32.le_iff_toInt_le]; rw [Int32.lt_iff_toInt_lt] at q; have e : (-1 : Int32).toInt = -1 := rfl; have e0 : (0 : Int32).toInt = 0 := rfl; omega
      by_cases e0 : l.length = 0
      · rw [e0]; exact a
      · rw [show nI l.length - 1 = nI (l.length - 1) from subI (b := 1) (by omega)]
        exact Int32.le_trans a (Int32.le_of_lt (Int32.lt_of_lt_of_le (by decide) (nI_pos'' (by omega))))
    rw [decide_eq_true h2, Bool.and_true, h1]
    have e3 : (-3 : Int32).toInt = -3 := rfl
    have e2 : (-2 : Int32).toInt = -2 := rfl
    have e1 : (-1 : Int32).toInt = -1 := rfl
    have e0 : (0 : Int32).toInt = 0 := rfl
    by_cases w : (-3 : Int32) ≤ i
    · rw [decide_eq_true w, eq_comm, decide_eq_true_eq]
      rw [Int32.le_iff_toInt_le] at w
      rw [Int32.lt_iff_toInt_lt] at q
      have : i.toInt = -3 ∨ i.toInt = -2 ∨ i.toInt = -1 := by omega
      rcases this with z | z | z
      · exact Or.inl (Int32.toInt_inj.mp (by rw [z]; rfl))
      · exact Or.inr (Or.inl (Int32.toInt_inj.mp (by rw [z]; rfl)))
      · exact Or.inr (Or.inr (Or.inl (Int32.toInt_inj.mp (by rw [z]; rfl))))
    · rw [decide_eq_false w, eq_comm, decide_eq_false_iff_not]
      rintro (z | z | z | z)
      · exact w (by rw [z]; decide)
      · exact w (by rw [z]; decide)
      · exact w (by rw [z]; decide)
      · cases z
  · have h3 : (-3 : Int32) ≤ nI k := Int32.le_of_lt (Int32.lt_of_lt_of_le (by decide) (nI_pos'' hk))
    have h0 := in_has (l := l) (n := nI k) hl
    rw [decide_eq_true (nI_pos'' hk), Bool.true_and] at h0
    rw [decide_eq_true h3, Bool.true_and, h0]
    have ne : ∀ x : Int32, x < 0 → nI k ≠ x := fun x hx z => nI_pos hk (by rw [z]; exact hx)
    cases z : haB l (nI k) with
    | true => rw [eq_comm, decide_eq_true_eq]; exact Or.inr (Or.inr (Or.inr rfl))
    | false =>
      rw [eq_comm, decide_eq_false_iff_not]
      rintro (z | z | z | z)
      · exact ne _ (by decide) z
      · exact ne _ (by decide) z
      · exact ne _ (by decide) z
      · cases z
theorem m_name {c : hS} {b t : List Nat} {ms : List Mb} {k i : Int32} (h : PM c b t ms) : MN (f_X12_name c k i) c (naK ms k i) (naV ms k i) b t ms := by
  obtain ⟨c1, e1, h1, z1, f1⟩ := m_zero h
  have h16 := h.2.2.2.1
  unfold f_X12_name naK
  rw [e1]
  dsimp only [st1]
  rw [h1.2.2.1, m_in (a := 0) (a' := 0) (by decide) rfl, bnd_some, moB_in h16]
  unfold f_X12_name_42 f_X12_name_47
  cases z : moB ms k with
  | false =>
    rw [if_pos (show bI false = 0 from rfl), if_neg (by decide), m_ref1 z1 (by decide), bnd_some, if_neg (by decide)]
    exact m_no h1 f1 (by decide) rfl
  | true =>
    obtain ⟨p, hp, rfl, hpl, ea⟩ := moB_so z
    have hm := h1.2.2.2.2.1 p hpl
    rw [Nat.zero_add] at hm
    have l1 := hm.1.2.2.1
    rw [if_neg (by decide), if_pos rfl, j_in_nI (show p < ln 204 from (by show p < 34; omega)) (by decide), cond_true, nI_clamp hp, hm.1.1, m_in (a := -3) (a' := -3) (by decide) rfl, bnd_some, in_m3 (by omega), ea]
    by_cases w : i = -3 ∨ i = -2 ∨ i = -1 ∨ haB ms[p].1 i = true
    · rw [decide_eq_true w, if_neg (by decide), if_pos w, m_ref0 z1, bnd_some, if_pos rfl, cond_true]
      unfold naV
      rw [ea]
      by_cases i1 : i = -1
      · subst i1
        rw [if_pos rfl, if_neg (by decide), if_neg (by decide), if_pos rfl, hm.1.1]
        exact ⟨_, c1, rfl, z1, fun _ => rfl, h1, f1⟩
      · rw [if_neg i1]
        by_cases i2 : i = -2
        · subst i2
          rw [if_pos rfl, if_neg (by decide), if_pos rfl, j_in_nI (show p < ln 206 from (by show p < 34; omega)) (by decide), cond_true, hm.2.1.1]
          exact ⟨_, c1, rfl, z1, fun _ => rfl, h1, f1⟩
        · rw [if_neg i2]
          by_cases i3 : i = -3
          · subst i3
            rw [if_pos rfl, if_pos rfl, j_in_nI (show p < ln 208 from (by show p < 34; omega)) (by decide), cond_true, hm.2.2]
            cases ms[p].2.2 with
            | true => rw [if_neg (by decide)]; exact ⟨_, c1, rfl, z1, fun _ => rfl, h1, f1⟩
            | false => rw [if_pos (show bI false = 0 from rfl)]; exact ⟨_, c1, rfl, z1, fun _ => rfl, h1, f1⟩
          · have hh : haB ms[p].1 i = true := by
              rcases w with q | q | q | q
              · exact absurd q i3
              · exact absurd q i2
              · exact absurd q i1
              · exact q
            obtain ⟨q, hq, rfl, hql⟩ := haB_so hh
            rw [if_neg i3, if_neg i3, if_neg i2, if_neg i1, m_nameAt hm (by omega) hql, bnd_some]
            unfold tdV
            rw [nI_clamp hq]
            exact ⟨_, c1, rfl, z1, fun _ => rfl, h1, f1⟩
    · rw [decide_eq_false w, if_pos (show bI false = 0 from rfl), if_neg w, m_ref1 z1 (by decide), bnd_some, if_neg (by decide)]
      exact m_no h1 f1 (by decide) rfl
theorem m_byteAt {c : hS} {b t : List Nat} {ms : List Mb} {k i : Int32} (h : PM c b t ms) : MN (f_X12_byteAt c k i) c (byK ms k i) (tdV (mbA ms k).2.1 i) b t ms := by
  obtain ⟨c1, e1, h1, z1, f1⟩ := m_zero h
  have h16 := h.2.2.2.1
  unfold f_X12_byteAt byK
  rw [e1]
  dsimp only [st1]
  rw [h1.2.2.1, m_in (a := 0) (a' := 0) (by decide) rfl, bnd_some, moB_in h16]
  unfold f_X12_byteAt_40 f_X12_byteAt_45
  cases z : moB ms k with
  | false =>
    rw [if_pos (show bI false = 0 from rfl), if_neg (fun z => by cases z.1), m_ref1 z1 (by decide), bnd_some, if_neg (by decide)]
    exact m_no h1 f1 (by decide) rfl
  | true =>
    obtain ⟨p, hp, rfl, hpl, ea⟩ := moB_so z
    have hm := h1.2.2.2.2.1 p hpl
    rw [Nat.zero_add] at hm
    have l1 := hm.2.1.2.2.1
    rw [if_neg (by decide), j_in_nI (show p < ln 206 from (by show p < 34; omega)) (by decide), cond_true, nI_clamp hp, hm.2.1.1, m_in (a := 0) (a' := 0) (by decide) rfl, bnd_some, in_has (by omega), ea]
    cases w : haB ms[p].2.1 i with
    | true =>
      obtain ⟨q, hq, rfl, hql⟩ := haB_so w
      rw [if_neg (by decide), if_pos ⟨rfl, rfl⟩, m_ref0 z1, bnd_some, if_pos rfl, mul400 p q, j_in_nI (show 400 * p + q < ln 207 from (by show 400 * p + q < 13600; omega)) (by decide), cond_true, nI_clamp (by omega), hm.2.1.2.1 q hql]
      unfold tdV
      rw [nI_clamp hq]
      exact ⟨_, c1, rfl, z1, fun _ => rfl, h1, f1⟩
    | false =>
      rw [if_pos (show bI false = 0 from rfl), if_neg (fun z => by cases z.2), m_ref1 z1 (by decide), bnd_some, if_neg (by decide)]
      exact m_no h1 f1 (by decide) rfl
