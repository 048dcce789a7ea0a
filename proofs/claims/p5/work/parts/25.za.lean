/-! PURE: the reference: kind 2 read, whole -/
noncomputable def LQ (o i : Nat) : Prop := UF o i ∨ (o = 201 ∧ i = 16) ∨ o = 210
theorem LQ_RQ {o i : Nat} (h : LQ o i) : RQ o i := by unfold LQ UF at h; unfold RQ; omega
theorem RQ_FM {c c1 : hS} (h : fm FQ c c1) : fm RQ c c1 := h.mono (fun o i z => RQ_F z)
noncomputable def bdO (t : List Nat) (q : Nat) : Option (List Nat) := match by2 t q with
  | none => none
  | some out => if bdB t q out = true then some out else none
/-- the bytes of a member, with their check -/
theorem m_check112 {N q : Nat} {c : hS} {t out : List Nat} {p2 p3 : Int32} (hN : 1000000 ≤ N) (h : mrw c 4 203 t) (hq : q + 46 ≤ t.length) (hg : mrw c 16 210 out) : MT (f_X12_readContent_112 N (nI q) p2 p3 N c (-1) 0) c (decide (crc out = nI (le4 t (q + 16)))) := by
  have hl : out.length ≤ 600 := hg.1
  have key : ∀ d n j v, j + d = out.length → d < n → f_X12_readContent_112 N (nI q) p2 p3 n c v (nI j) = f_X12_readContent_112 N (nI q) p2 p3 (0 + 1) c (crcL v (out.drop j)) (nI out.length) := by
    intro d
    induction d with
    | zero =>
      intro n j v hj hn
      obtain ⟨n, rfl⟩ : ∃ m, n = m + 1 := ⟨n - 1, by omega⟩
      have : j = out.length := by omega
      subst this
      rw [List.drop_eq_nil_of_le (Nat.le_refl _), f_X12_readContent_112, f_X12_readContent_112, hg.2.1, if_pos (nI_le (Nat.le_refl _) (by omega)), if_pos (nI_le (Nat.le_refl _) (by omega))]
      rfl
    | succ d ih =>
      intro n j v hj hn
      obtain ⟨n, rfl⟩ : ∃ m, n = m + 1 := ⟨n - 1, by omega⟩
      rw [f_X12_readContent_112, hg.2.1, if_neg (nI_ge (by omega) (by omega)), j_in_nI (show j < ln 210 from (by show j < 600; omega)) (by decide), cond_true, nI_clamp (by omega), hg.2.2.1 j (by omega), m_checkMore hN, bnd_some, nI_1, ih n (j + 1) _ (by omega) (by omega), crcL_s (l := out) (j := j) (by omega)]
  have e0 : f_X12_readContent_112 N (nI q) p2 p3 N c (-1) 0 = _ := key out.length N 0 (-1) (by omega) (by omega)
  rw [e0, List.drop_zero, f_X12_readContent_112, hg.2.1, if_pos (nI_le (Nat.le_refl _) (by omega)), m_fourAt (x := nI q + 16) (p := q + 16) h (by omega) (nI_add q 16), bnd_some, lN_i]
  exact MT.if1 Iff.rfl MT.fail2
theorem m_content {N q : Nat} {c : hS} {t : List Nat} {p2 p3 : Int32} (hN : 1000000 ≤ N) (h : mrw c 4 203 t) (h5 : c.1 201 5 = 0) (hq : q + 46 ≤ t.length) (hsz : szB t q = true) (hdt : dt2 t q + le4 t (q + 20) ≤ t.length) (h2 : p2 = nI (dt2 t q)) (h3 : p3 = nI (le4 t (q + 20))) : ∃ c', f_X12_readContent N c (nI q) p2 p3 = some (bI (bdO t q).isSome, c') ∧ fm LQ c c' ∧ ∀ out, bdO t q = some out → mrw c' 16 210 out ∧ out.length ≤ 400 ∧ c'.1 201 5 = 0 := by
  subst h2 h3
  have ht : t.length ≤ 20000 := h.1
  have h10 := le2_lt h.2.2.2 (q + 10)
  have h24 : le4 t (q + 24) ≤ 400 := by
    unfold szB at hsz
    exact of_decide_eq_true (Bool.and_eq_true_iff.mp hsz).1
  unfold f_X12_readContent
  rw [m_fourAt (x := nI q + 24) (p := q + 24) h (by omega) (nI_add q 24), bnd_some, m_twoAt (x := nI q + 10) (p := q + 10) h (by omega) (nI_add q 10), bnd_some, lN_i]
  -- the check, behind the bytes
  have fin : ∀ (c1 : hS) (out : List Nat), by2 t q = some out → out.length = le4 t (q + 24) → mrw c1 4 203 t → mrw c1 16 210 out → c1.1 201 5 = 0 → fm LQ c c1 → ∃ c', f_X12_readContent_112 N (nI q) (nI (dt2 t q)) (nI (le4 t (q + 20))) N c1 (-1) 0 = some (bI (bdO t q).isSome, c') ∧ fm LQ c c' ∧ ∀ out, bdO t q = some out → mrw c' 16 210 out ∧ out.length ≤ 400 ∧ c'.1 201 5 = 0 := by
    intro c1 out hb hl r1 g1 v1 f1
    obtain ⟨c2, e2, f2, k2⟩ := m_check112 (p2 := nI (dt2 t q)) (p3 := nI (le4 t (q + 20))) hN r1 hq g1
    have eb : bdO t q = if crc out = nI (le4 t (q + 16)) then some out else none := by
      unfold bdO
      rw [hb]
      dsimp only
      unfold bdB
      rw [decide_eq_true hl, Bool.true_and]
      by_cases z : crc out = nI (le4 t (q + 16))
      · rw [decide_eq_true z, if_pos rfl, if_pos z]
      · rw [decide_eq_false z, if_neg (by decide), if_neg z]
    rw [e2, eb]
    by_cases z : crc out = nI (le4 t (q + 16))
    · rw [decide_eq_true z] at k2 ⊢
      rw [if_pos z, k2 rfl]
      exact ⟨c1, rfl, f1, fun o ho => by cases ho; exact ⟨g1, by omega, v1⟩⟩
    · rw [decide_eq_false z, if_neg z]
      exact ⟨c2, rfl, f1.tr (f2.mono (fun o i z => by unfold FQ at z; unfold LQ UF; omega)), fun o ho => by cases ho⟩
  by_cases w0 : le2 t (q + 10) = 0
  · have e20 : le4 t (q + 20) = le4 t (q + 24) := by
      unfold szB at hsz
      have := (Bool.and_eq_true_iff.mp hsz).2
      rw [if_pos w0] at this
      exact of_decide_eq_true this
    rw [if_pos (show nI (le2 t (q + 10)) = 0 by rw [w0]; rfl)]
    obtain ⟨c1, e1, r1, f1⟩ := m_takeBytes (p := dt2 t q) (n := le4 t (q + 20)) hN h hdt (by omega) rfl rfl
    rw [e1, bnd_some]
    exact fin c1 _ (by unfold by2; rw [if_pos w0]) (by rw [List.length_take, List.length_drop]; omega) (h.fm f1 (by omega) (fun i => by omega)) r1 ((f1.1 _ _ (by omega)).trans h5) (f1.mono (fun o i z => by unfold LQ; omega))
  · rw [if_neg (nI_ne0 (by omega) (by omega)), nI_add]
    obtain ⟨c1, e1, f1, g1⟩ := m_unpackFrom (a := dt2 t q) (behind := dt2 t q + le4 t (q + 20)) (most := le4 t (q + 24)) hN h h5 (by omega) hdt (by omega) rfl rfl rfl
    have f1' : fm LQ c c1 := f1.mono (fun o i z => Or.inl z)
    have eby : by2 t q = opn t (dt2 t q) (dt2 t q + le4 t (q + 20)) (le4 t (q + 24)) := by unfold by2; rw [if_neg w0]
    rw [e1, bnd_some, ← eby]
    rw [← eby] at g1
    cases hb : by2 t q with
    | none =>
      have eb : bdO t q = none := by unfold bdO; rw [hb]
      rw [if_pos (show bI (none : Option (List Nat)).isSome = 0 from rfl), eb]
      exact ⟨c1, rfl, f1', fun o ho => by cases ho⟩
    | some out =>
      obtain ⟨r1, l1, v1⟩ := g1 out hb
      rw [if_neg (show ¬ bI (some out).isSome = 0 from (by decide : ¬ bI true = 0)), r1.2.1]
      have t1 : mrw c1 4 203 t := h.fm f1 (by unfold UF; omega) (fun i => by unfold UF; omega)
      by_cases w1 : out.length = le4 t (q + 24)
      · rw [if_pos (by rw [w1])]
        dsimp only [st1]
        have f2 : fm (fun o i => o = 201 ∧ i = 16) c1 (sI c1 201 16 (nI out.length)) := fm.sI ⟨rfl, rfl⟩
        obtain ⟨c3, e3, i3, w3, f3⟩ := cp_loop (F := f_X12_readContent_77 N (nI q) (nI (dt2 t q)) (nI (le4 t (q + 20)))) (X := fun c => f_X12_readContent_112 N (nI q) (nI (dt2 t q)) (nI (le4 t (q + 20))) N c (-1) 0) (o := 210) (o' := 211) (a := 0) (b := 0) (len := out.length) (fun c => c.1 201 23 = nI out.length) (fun c i x q => by rw [sI_o (by decide)]; exact q) (fun n c i hi z => by
          rw [f_X12_readContent_77, z, if_neg (nI_ge hi (by omega)), j_in_nI (show i < ln 211 from (by show i < 512; omega)) (by decide), cond_true, j_in_nI (show i < ln 210 from (by show i < 600; omega)) (by decide), cond_true, nI_clamp (by omega), Nat.zero_add]
          rfl) (fun n c z => by rw [f_X12_readContent_77, z, if_pos (nI_le (Nat.le_refl _) (by omega))]) (by omega) out.length N (sI c1 201 16 (nI out.length)) 0 (by omega) (by omega) ((f2.1 _ _ (by omega)).trans r1.2.1)
        have f23 : fm (fun o i => (o = 201 ∧ i = 16) ∨ o = 210) c1 c3 := (f2.mono (fun o i z => Or.inl z)).tr (f3.mono (fun o i z => Or.inr z.1))
        have e3' : f_X12_readContent_77 N (nI q) (nI (dt2 t q)) (nI (le4 t (q + 20))) N (sI c1 201 16 (nI out.length)) 0 = _ := e3
        rw [e3']
        have r3 : mrw c3 16 210 out := by
          refine ⟨show out.length ≤ 600 by omega, (f3.1 _ _ (by omega)).trans (sI_s _ _ _ _), fun i hi => ?_, r1.2.2.2⟩
          have := w3 i (Nat.zero_le _) hi
          rw [Nat.zero_add] at this
          rw [this, f2.1 _ _ (by omega)]
          exact r1.2.2.1 i hi
        exact fin c3 out hb w1 (t1.fm f23 (by omega) (fun i => by omega)) r3 ((f23.1 _ _ (by omega)).trans v1) (f1'.tr (f23.mono (fun o i z => by unfold LQ; omega)))
      · rw [if_neg (fun z => w1 ((nI_eq (by omega) (by omega)).mp z))]
        have eb : bdO t q = none := by
          unfold bdO
          rw [hb]
          dsimp only
          unfold bdB
          rw [decide_eq_false w1, Bool.false_and, if_neg (by decide)]
        rw [eb]
        obtain ⟨c2, e2, f2⟩ := b_fail (c := c1) (a := 14) (p := nI q + 24) (P := LQ) (fun i z => by unfold LQ UF; omega)
        exact ⟨c2, e2, f1'.tr f2, fun o ho => by cases ho⟩
noncomputable def loO (t : List Nat) (bg q : Nat) : Option (List Nat) := if lcB t bg q = true then bdO t q else none
theorem m_readLocal {N q bg e : Nat} {c : hS} {t : List Nat} (hN : 1000000 ≤ N) (h : mrw c 4 203 t) (h5 : c.1 201 5 = 0) (he : e + 22 ≤ t.length) (hbq : bg ≤ q) (hqe : q + 46 + eN t q ≤ e) (hsz : szB t q = true) : ∃ c', f_X12_readLocal N c (nI q) (nI bg) = some (bI (loO t bg q).isSome, c') ∧ fm LQ c c' ∧ ∀ out, loO t bg q = some out → mrw c' 16 210 out ∧ out.length ≤ 400 ∧ c'.1 201 5 = 0 := by
  have ht : t.length ≤ 20000 := h.1
  have h42 := le4_lt h.2.2.2 (q + 42)
  have h28 := le2_lt h.2.2.2 (q + 28)
  have h20 := le4_lt h.2.2.2 (q + 20)
  have bad : ∀ {X : Option (Int32 × hS)}, lcB t bg q = false → MT X c false → ∃ c', X = some (bI (loO t bg q).isSome, c') ∧ fm LQ c c' ∧ ∀ out, loO t bg q = some out → mrw c' 16 210 out ∧ out.length ≤ 400 ∧ c'.1 201 5 = 0 := by
    intro X hb ⟨c', e1, f1, _⟩
    have : loO t bg q = none := by unfold loO; rw [hb]; rfl
    rw [this]
    exact ⟨c', e1, f1.mono (fun o i z => by unfold FQ at z; unfold LQ UF; omega), fun o ho => by cases ho⟩
  -- a test before the rest
  have and_ : ∀ {X : Option (Int32 × hS)} {K : hS → Option (Int32 × hS)} {b : Bool}, MT X c b → (b = false → lcB t bg q = false) → (b = true → ∃ c', K c = some (bI (loO t bg q).isSome, c') ∧ fm LQ c c' ∧ ∀ out, loO t bg q = some out → mrw c' 16 210 out ∧ out.length ≤ 400 ∧ c'.1 201 5 = 0) → ∃ c', (bnd X fun x c1 => if x = 0 then some (0, c1) else K c1) = some (bI (loO t bg q).isSome, c') ∧ fm LQ c c' ∧ ∀ out, loO t bg q = some out → mrw c' 16 210 out ∧ out.length ≤ 400 ∧ c'.1 201 5 = 0 := by
    intro X K b hX h0 h1
    obtain ⟨c', e1, f1, g1⟩ := hX
    rw [e1, bnd_some]
    cases b with
    | false => rw [if_pos (show bI false = 0 from rfl)]; exact bad (h0 rfl) ⟨c', rfl, f1, fun z => by cases z⟩
    | true => rw [if_neg (by decide), g1 rfl]; exact h1 rfl
  unfold f_X12_readLocal
  rw [m_fourAt (x := nI q + 42) (p := q + 42) h (by omega) (nI_add q 42), bnd_some, show lN (le4 t (q + 42)) + 30 = lN (le4 t (q + 42) + 30) from lN_add _ 30, lN_i]
  have el : lcB t bg q = (decide (pl2 t q + 30 ≤ bg) && (mkB t (pl2 t q) mk3 && (saB t (pl2 t q) q && decide (dt2 t q + le4 t (q + 20) ≤ bg)))) := rfl
  have ep : pl2 t q = le4 t (q + 42) := rfl
  have en : eN t q = le2 t (q + 28) := rfl
  rw [← ep]
  rw [← ep] at h42
  by_cases w1 : pl2 t q + 30 ≤ bg
  · have ix : ∀ k, k ≤ 28 → pl2 t q + k + 2 ≤ t.length := fun k hk => by omega
    rw [decide_eq_true w1, Bool.true_and] at el
    rw [if_pos ((cmp_le' rfl (nI_l (by omega)) (by omega) (by omega)).mpr w1)]
    refine and_ (m_isRow (a := 80) (b := 75) (d := 3) (e := 4) hN h (by omega) rfl rfl rfl rfl rfl (by decide)) (fun z => by rw [el, show mkB t (pl2 t q) mk3 = false from z]; rfl) (fun z1 => ?_)
    rw [show mkB t (pl2 t q) mk3 = true from z1, Bool.true_and] at el
    unfold saB at el
    simp only [Bool.and_assoc] at el
    refine and_ (m_as2 (p := pl2 t q + 6) (q := q + 8) h (by omega) (by omega) (nI_add _ 6) (nI_add _ 8)) (fun z => by rw [el, z]; rfl) (fun z1 => ?_)
    rw [z1, Bool.true_and] at el
    refine and_ (m_as2 (p := pl2 t q + 8) (q := q + 10) h (by omega) (by omega) (nI_add _ 8) (nI_add _ 10)) (fun z => by rw [el, z]; rfl) (fun z1 => ?_)
    rw [z1, Bool.true_and] at el
    refine and_ (m_as4 (p := pl2 t q + 14) (q := q + 16) h (by omega) (by omega) (nI_add _ 14) (nI_add _ 16)) (fun z => by rw [el, z]; rfl) (fun z1 => ?_)
    rw [z1, Bool.true_and] at el
    refine and_ (m_as4 (p := pl2 t q + 18) (q := q + 20) h (by omega) (by omega) (nI_add _ 18) (nI_add _ 20)) (fun z => by rw [el, z]; rfl) (fun z1 => ?_)
    rw [z1, Bool.true_and] at el
    refine and_ (m_as4 (p := pl2 t q + 22) (q := q + 24) h (by omega) (by omega) (nI_add _ 22) (nI_add _ 24)) (fun z => by rw [el, z]; rfl) (fun z1 => ?_)
    rw [z1, Bool.true_and] at el
    refine and_ (m_as2 (p := pl2 t q + 26) (q := q + 28) h (by omega) (by omega) (nI_add _ 26) (nI_add _ 28)) (fun z => by rw [el, z]; rfl) (fun z1 => ?_)
    rw [z1, Bool.true_and] at el
    rw [m_twoAt (x := nI q + 28) (p := q + 28) h (by omega) (nI_add q 28), bnd_some, ← en]
    rw [← en] at h28
    have hp28 := le2_lt h.2.2.2 (pl2 t q + 28)
    -- the names
    have key : ∀ d m i, i + d = eN t q → d < m → (∀ j, j < i → gt t (pl2 t q + 30 + j) = gt t (q + 46 + j)) → ∃ c', f_X12_readLocal_170 N (nI q) (nI bg) m c (nI (pl2 t q)) (nI (eN t q)) (nI i) = some (bI (loO t bg q).isSome, c') ∧ fm LQ c c' ∧ ∀ out, loO t bg q = some out → mrw c' 16 210 out ∧ out.length ≤ 400 ∧ c'.1 201 5 = 0 := by
      intro d
      induction d with
      | zero =>
        intro m i hi hm hj
        obtain ⟨m, rfl⟩ : ∃ k, m = k + 1 := ⟨m - 1, by omega⟩
        have et : ttB t (pl2 t q) q (eN t q) = true := by
          unfold ttB
          rw [all_range]
          intro j hj'
          exact decide_eq_true (hj j (by omega))
        rw [et, Bool.true_and] at el
        have ed : dt2 t q = pl2 t q + 30 + eN t q + le2 t (pl2 t q + 28) := rfl
        rw [f_X12_readLocal_170, if_pos (nI_le (by omega) (by omega)), m_twoAt (x := nI (pl2 t q) + 28) (p := pl2 t q + 28) h (by omega) (nI_add _ 28), bnd_some, m_fourAt (x := nI q + 20) (p := q + 20) h (by omega) (nI_add q 20), bnd_some, nI_l (by omega), nI_l (by omega), nI_l (by omega), show lN (pl2 t q) + 30 = lN (pl2 t q + 30) from lN_add _ 30, lN_add, lN_add, lN_add, ← ed, lN_i, lN_i]
        by_cases w2 : dt2 t q + le4 t (q + 20) ≤ bg
        · rw [if_pos ((cmp_le' rfl (nI_l (by omega)) (by omega) (by omega)).mpr w2)]
          rw [decide_eq_true w2] at el
          have eo : loO t bg q = bdO t q := by unfold loO; rw [el, if_pos rfl]
          rw [eo]
          obtain ⟨c1, e1, f1, g1⟩ := m_content hN h h5 (by omega) hsz (by omega) rfl rfl
          rw [e1, bnd_some, show j_b (bI (bdO t q).isSome) = true by cases (bdO t q).isSome <;> rfl, cond_true]
          exact ⟨c1, rfl, f1, g1⟩
        · rw [if_neg (fun z => w2 ((cmp_le' rfl (nI_l (by omega)) (by omega) (by omega)).mp z))]
          exact bad (by rw [el, decide_eq_false w2]) MT.fail
      | succ d ih =>
        intro m i hi hm hj
        obtain ⟨m, rfl⟩ : ∃ k, m = k + 1 := ⟨m - 1, by omega⟩
        obtain ⟨a1, a2⟩ := tp_at h (show pl2 t q + 30 + i < t.length by omega)
        obtain ⟨b1, b2⟩ := tp_at h (show q + 46 + i < t.length by omega)
        rw [f_X12_readLocal_170, if_neg (nI_ge (by omega) (by omega)), show nI (pl2 t q) + 30 + nI i = nI (pl2 t q + 30 + i) from by rw [show nI (pl2 t q) + 30 = nI (pl2 t q + 30) from nI_add _ 30, nI_add], show nI q + 46 + nI i = nI (q + 46 + i) from by rw [show nI q + 46 = nI (q + 46) from nI_add q 46, nI_add], a1, cond_true, b1, cond_true, a2, b2]
        by_cases w2 : gt t (pl2 t q + 30 + i) = gt t (q + 46 + i)
        · rw [if_pos (by rw [w2]), nI_1]
          exact ih m (i + 1) (by omega) (by omega) (fun j hj' => by
            by_cases z : j = i
            · rw [z]; exact w2
            · exact hj j (by omega))
        · have et : ttB t (pl2 t q) q (eN t q) = false := by
            cases z : ttB t (pl2 t q) q (eN t q) with
            | false => rfl
            | true =>
              unfold ttB at z
              rw [all_range] at z
              exact absurd (of_decide_eq_true (z i (by omega))) w2
          rw [if_neg (fun z => w2 ((gt_eq h.2.2.2 (h.2.2.2.gt _)).mp z))]
          exact bad (by rw [el, et]; rfl) MT.fail
    exact key (eN t q) N 0 (by omega) (by omega) (fun j hj => by omega)
  · rw [if_neg (fun z => w1 ((cmp_le' rfl (nI_l (by omega)) (by omega) (by omega)).mp z))]
    exact bad (by rw [el, decide_eq_false w1]; rfl) MT.fail
theorem m_read2 {N : Nat} {c : hS} {t : List Nat} (hN : 1000000 ≤ N) (h : RS c t []) (h5 : c.1 201 5 = 0) : ZR (f_X12_readDirectory N c) c t (rd2 t []) := by
  have ht : t.length ≤ 20000 := h.1.1
  unfold f_X12_readDirectory rd2
  rw [h.1.2.1]
  by_cases w22 : 22 ≤ t.length
  · obtain ⟨e, ee⟩ : ∃ e, e = t.length - 22 := ⟨_, rfl⟩
    rw [if_pos (show (22 : Int32) ≤ nI t.length from nI_le (a := 22) w22 (by omega)), show nI t.length - 22 = nI e from by rw [ee]; exact subI (b := 22) w22, ← ee, decide_eq_true w22, Bool.true_and]
    have he : e + 22 = t.length := by omega
    obtain ⟨c1, e1, f1, g1⟩ := m_readEnd hN h.1 he
    rw [e1, bnd_some]
    cases hcl : clB t e with
    | false =>
      rw [if_pos (show bI false = 0 from rfl), if_neg (by decide)]
      exact ZR.no rfl ⟨c1, rfl, RQ_FM f1⟩ fm.rf
    | true =>
      rw [hcl] at g1
      rw [if_neg (by decide), if_pos rfl, g1 rfl, m_fourAt (x := nI e + 16) (p := e + 16) h.1 (by omega) (nI_add e 16), bnd_some, lN_i]
      have hbg : le4 t (e + 16) ≤ e := by
        unfold clB at hcl
        simp only [Bool.and_eq_true, decide_eq_true_eq] at hcl
        have := hcl.2.2.2.2.2.1
        omega
      have h10 := le2_lt h.1.2.2.2 (e + 10)
      obtain ⟨bg, ebg⟩ : ∃ bg, bg = le4 t (e + 16) := ⟨_, rfl⟩
      rw [← ebg] at hbg ⊢
      have key : ∀ n m i q c ms, n < m → n + i = le2 t (e + 10) → bg ≤ q → q ≤ e → RS c t ms → c.1 201 5 = 0 → ZR (f_X12_readDirectory_52 N m c (nI e) (nI bg) (nI q) (nI i)) c t (rdG (st2 t e bg) (beh2 t) e n q ms) := by
        intro n
        induction n with
        | zero =>
          intro m i q c ms hm hi hbq hqe hr h5
          obtain ⟨m, rfl⟩ : ∃ k, m = k + 1 := ⟨m - 1, by omega⟩
          rw [f_X12_readDirectory_52, m_twoAt (x := nI e + 10) (p := e + 10) hr.1 (by omega) (nI_add e 10), bnd_some, if_pos (nI_le (by omega) (by omega))]
          unfold rdG
          by_cases w : q = e
          · rw [if_pos (by rw [w]), if_pos w]
            exact ⟨c, rfl, fm.rf, fun ms' z => by cases z; exact hr⟩
          · rw [if_neg (fun z => w ((nI_eq (by omega) (by omega)).mp z)), if_neg w]
            obtain ⟨c2, e2, f2, _⟩ := MT.fail2 (c := c) (a := 12) (p := nI q)
            exact ZR.no rfl ⟨c2, e2, RQ_FM f2⟩ fm.rf
        | succ n ih =>
          intro m i q c ms hm hi hbq hqe hr h5
          obtain ⟨m, rfl⟩ : ∃ k, m = k + 1 := ⟨m - 1, by omega⟩
          rw [f_X12_readDirectory_52, m_twoAt (x := nI e + 10) (p := e + 10) hr.1 (by omega) (nI_add e 10), bnd_some, if_neg (nI_ge (by omega) (by omega)), rdG_so]
          obtain ⟨c2, e2, f2, g2⟩ := m_entryHead hN hr.1 (show e ≤ t.length by omega) hqe
          rw [e2, bnd_some]
          cases hh : (enB t e q && (mmB t q && nameB (nm2 t q))) with
          | false =>
            rw [if_pos (show bI false = 0 from rfl)]
            refine ZR.no ?_ ⟨c2, rfl, f2⟩ fm.rf
            revert hh
            cases enB t e q <;> cases mmB t q <;> cases nameB (nm2 t q) <;> intro hh <;> first | rfl | cases hh
          | true =>
            obtain ⟨n2, d2, f2'⟩ := g2 hh
            rw [Bool.and_eq_true, Bool.and_eq_true] at hh
            obtain ⟨q1, q2, q3⟩ := hh
            have hbh : beh2 t q ≤ e := by
              unfold enB at q1
              simp only [Bool.and_eq_true, decide_eq_true_eq] at q1
              exact q1.2.2.2.2.2.2
            have ebh : beh2 t q = q + 46 + eN t q + le2 t (q + 30) + le2 t (q + 32) := rfl
            have hsz : szB t q = true := by
              unfold mmB at q2
              split at q2
              · exact (Bool.and_eq_true_iff.mp q2).2
              · exact q2
            have hr2 : RS c2 t ms := hr.mv f2' (fun o i z => by unfold NF at z; omega)
            have v2 : c2.1 201 5 = 0 := (f2'.1 _ _ (by unfold NF; omega)).trans h5
            rw [if_neg (by decide), if_pos q1, if_pos q2, if_pos q3]
            refine ZR.pre ?_ f2
            obtain ⟨c3, e3, f3, g3⟩ := m_readLocal hN hr2.1 v2 (show e + 22 ≤ t.length by omega) hbq (by omega) hsz
            rw [e3, bnd_some]
            have f3' : fm RQ c2 c3 := f3.mono (fun o i z => LQ_RQ z)
            have nolo : loO t bg q = none → (if lcB t bg q = true then aft2 t q ms (rdG (st2 t e bg) (beh2 t) e n (beh2 t q)) else none) = none := by
              intro z
              unfold loO at z
              by_cases w : lcB t bg q = true
              · rw [if_pos w] at z ⊢
                unfold bdO at z
                unfold aft2
                cases hb : by2 t q with
                | none => rfl
                | some out =>
                  rw [hb] at z
                  dsimp only at z ⊢
                  unfold en2
                  by_cases w2 : bdB t q out = true
                  · rw [if_pos w2] at z; cases z
                  · rw [if_neg (fun y => w2 y.1)]
              · rw [if_neg w]
            cases hlo : loO t bg q with
            | none =>
              rw [if_pos (show bI (none : Option (List Nat)).isSome = 0 from rfl)]
              exact ZR.no (nolo hlo) ⟨c3, rfl, f3'⟩ fm.rf
            | some out =>
              obtain ⟨r3, l3, v3⟩ := g3 out hlo
              rw [if_neg (show ¬ bI (some out).isSome = 0 from (by decide : ¬ bI true = 0))]
              have nL : ∀ o i, LQ o i → (o = 201 ∧ i ≠ 4 ∧ i ≠ 8 ∧ i ≠ 14 ∧ i ≠ 18) ∨ 209 < o := fun o i z => by unfold LQ UF at z; omega
              have hr3 : RS c3 t ms := hr2.mv f3 (fun o i z => by have := nL o i z; omega)
              have n3 : mrw c3 14 209 (nm2 t q) := n2.fm f3 (fun z => by have := nL _ _ z; omega) (fun i z => by have := nL _ _ z; omega)
              have d3 : c3.1 201 18 = bI (dr2 t q) := (f3.1 _ _ (fun z => by have := nL _ _ z; omega)).trans d2
              obtain ⟨c4, e4, f4, g4⟩ := m_comes (p := nI q) (d := dr2 t q) hN hr3 n3 r3 d3 q3 l3
              rw [e4, bnd_some]
              have f34 : fm RQ c2 c4 := f3'.tr (f4.mono (fun o i z => RQ_C z))
              unfold loO at hlo
              by_cases w : lcB t bg q = true
              · rw [if_pos w] at hlo
                unfold bdO at hlo
                have ea : aft2 t q ms (rdG (st2 t e bg) (beh2 t) e n (beh2 t q)) = if mayB ms (nm2 t q) (dr2 t q) = true then rdG (st2 t e bg) (beh2 t) e n (beh2 t q) (comeM ms (nm2 t q, out, dr2 t q)) else none := by
                  unfold aft2
                  cases hb : by2 t q with
                  | none => rw [hb] at hlo; cases hlo
                  | some out' =>
                    rw [hb] at hlo
                    dsimp only at hlo ⊢
                    by_cases w2 : bdB t q out' = true
                    · rw [if_pos w2] at hlo
                      cases hlo
                      unfold en2
                      by_cases w3 : mayB ms (nm2 t q) (dr2 t q) = true
                      · rw [if_pos ⟨w2, w3⟩, if_pos w3]
                      · rw [if_neg (fun y => w3 y.2), if_neg w3]
                    · rw [if_neg w2] at hlo; cases hlo
                rw [if_pos w, ea]
                cases hmay : mayB ms (nm2 t q) (dr2 t q) with
                | false =>
                  rw [if_pos (show bI false = 0 from rfl), if_neg (by decide)]
                  exact ZR.no rfl ⟨c4, rfl, f34⟩ fm.rf
                | true =>
                  obtain ⟨hr4, v4⟩ := g4 hmay
                  rw [if_neg (by decide), if_pos rfl, m_twoAt (x := nI q + 28) (p := q + 28) hr4.1 (by omega) (nI_add q 28), bnd_some, m_twoAt (x := nI q + 30) (p := q + 30) hr4.1 (by omega) (nI_add q 30), bnd_some, m_twoAt (x := nI q + 32) (p := q + 32) hr4.1 (by omega) (nI_add q 32), bnd_some, show (46 : Int32) = nI 46 from rfl, nI_add, nI_add, nI_add, nI_add, nI_1, show q + (46 + le2 t (q + 28) + le2 t (q + 30) + le2 t (q + 32)) = beh2 t q by rw [ebh, show eN t q = le2 t (q + 28) from rfl]; omega]
                  exact ZR.pre (ih m (i + 1) (beh2 t q) c4 _ (by omega) (by omega) (by omega) hbh hr4 (v4.trans v3)) f34
              · rw [if_neg w] at hlo; cases hlo
      exact key (le2 t (e + 10)) N 0 bg c [] (by omega) (by omega) (Nat.le_refl _) hbg h h5
  · rw [if_neg (show ¬ (22 : Int32) ≤ nI t.length from nI_ge (b := 22) (by omega) (by decide)), decide_eq_false w22, Bool.false_and, if_neg (by decide)]
    exact ZR.no rfl (z_fail _ _ _) fm.rf
