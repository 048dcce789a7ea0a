/-! PURE: the reference: kind 2 read -/
theorem m_twoAt {c : hS} {t : List Nat} {p : Nat} {x : Int32} (h : mrw c 4 203 t) (hp : p + 2 ≤ t.length) (hx : x = nI p) : f_X12_twoAt c x = some (nI (le2 t p), c) := by
  subst hx
  obtain ⟨a1, a2⟩ := tp_at h (show p < t.length by omega)
  obtain ⟨b1, b2⟩ := tp_at h (show p + 1 < t.length by omega)
  have g := h.2.2.2.gt p
  unfold f_X12_twoAt le2
  rw [nI_1, a1, cond_true, b1, cond_true, a2, b2, show j_shl (nI (gt t (p + 1))) 8 = j_shl (nI (gt t (p + 1))) (nI 8) from rfl, or_bit (k := 8) (by omega) (by decide), Nat.mul_comm (gt t (p + 1))]
theorem m_fourAt {c : hS} {t : List Nat} {p : Nat} {x : Int32} (h : mrw c 4 203 t) (hp : p + 4 ≤ t.length) (hx : x = nI p) : f_X12_fourAt c x = some (lN (le4 t p), c) := by
  subst hx
  have h1 := le2_lt h.2.2.2 p
  have h2 := le2_lt h.2.2.2 (p + 2)
  unfold f_X12_fourAt le4
  rw [m_twoAt h (by omega) rfl, bnd_some, m_twoAt h (p := p + 2) (by omega) (show nI p + 2 = nI (p + 2) from nI_add p 2), bnd_some, nI_l (by omega), nI_l (by omega), show (16 : Int32) = nI 16 from rfl, lshl_lN _ (by decide), wb_or (by omega) (by omega), Nat.or_comm, or_add (k := 16) (by omega)]
  congr 3
  omega
theorem m_zero2 {c : hS} {t : List Nat} {p : Nat} {x f : Int32} (h : mrw c 4 203 t) (hp : p + 2 ≤ t.length) (hx : x = nI p) : MT (f_X12_isZeroAt c x 2 f) c (decide (le2 t p = 0)) := by
  have h1 := le2_lt h.2.2.2 p
  unfold f_X12_isZeroAt f_X12_isZeroAt_19
  rw [if_pos rfl, m_twoAt h hp hx, bnd_some]
  exact MT.if1 (cmp_eq' (nI_l (by omega)) (show (0 : Int64) = lN 0 from rfl) (by omega) (by decide)) MT.fail2
theorem m_zero4 {c : hS} {t : List Nat} {p : Nat} {x f : Int32} (h : mrw c 4 203 t) (hp : p + 4 ≤ t.length) (hx : x = nI p) : MT (f_X12_isZeroAt c x 4 f) c (decide (le4 t p = 0)) := by
  have h1 := le4_lt h.2.2.2 p
  unfold f_X12_isZeroAt f_X12_isZeroAt_19
  rw [if_neg (by decide), m_fourAt h hp hx, bnd_some]
  exact MT.if1 (cmp_eq' rfl (show (0 : Int64) = lN 0 from rfl) (by omega) (by decide)) MT.fail2
theorem m_as2 {c : hS} {t : List Nat} {p q : Nat} {x y : Int32} (h : mrw c 4 203 t) (hp : p + 2 ≤ t.length) (hq : q + 2 ≤ t.length) (hx : x = nI p) (hy : y = nI q) : MT (f_X12_isAsThere c x y 2) c (decide (le2 t p = le2 t q)) := by
  have h1 := le2_lt h.2.2.2 p
  have h2 := le2_lt h.2.2.2 q
  unfold f_X12_isAsThere f_X12_isAsThere_35
  rw [if_pos rfl, m_twoAt h hp hx, bnd_some, m_twoAt h hq hy, bnd_some]
  exact MT.if1 (nI_eq (by omega) (by omega)) MT.fail2
theorem m_as4 {c : hS} {t : List Nat} {p q : Nat} {x y : Int32} (h : mrw c 4 203 t) (hp : p + 4 ≤ t.length) (hq : q + 4 ≤ t.length) (hx : x = nI p) (hy : y = nI q) : MT (f_X12_isAsThere c x y 4) c (decide (le4 t p = le4 t q)) := by
  have h1 := le4_lt h.2.2.2 p
  have h2 := le4_lt h.2.2.2 q
  unfold f_X12_isAsThere f_X12_isAsThere_35
  rw [if_neg (by decide), m_fourAt h hp hx, bnd_some, m_fourAt h hq hy, bnd_some]
  exact MT.if1 (cmp_eq' rfl rfl (by omega) (by omega)) MT.fail2
theorem m_readEnd {N e : Nat} {c : hS} {t : List Nat} (hN : 1000000 ≤ N) (h : mrw c 4 203 t) (he : e + 22 = t.length) : MT (f_X12_readEnd N c (nI e)) c (clB t e) := by
  have ht : t.length ≤ 20000 := h.1
  have h8 := le2_lt h.2.2.2 (e + 8)
  have h10 := le2_lt h.2.2.2 (e + 10)
  have h12 := le4_lt h.2.2.2 (e + 12)
  have h16 := le4_lt h.2.2.2 (e + 16)
  unfold f_X12_readEnd clB
  refine MT.and_ (m_isRow (a := 80) (b := 75) (d := 5) (e := 6) hN h (by omega) rfl rfl rfl rfl rfl (by decide)) (fun _ => ?_)
  refine MT.and_ (m_zero2 (p := e + 4) h (by omega) (nI_add e 4)) (fun _ => ?_)
  refine MT.and_ (m_zero2 (p := e + 6) h (by omega) (nI_add e 6)) (fun _ => ?_)
  rw [m_twoAt (x := nI e + 8) (p := e + 8) h (by omega) (nI_add e 8), bnd_some, m_twoAt (x := nI e + 10) (p := e + 10) h (by omega) (nI_add e 10), bnd_some]
  refine MT.ite_ (nI_eq (by omega) (by omega)) (fun _ => ?_) MT.fail
  rw [m_twoAt (x := nI e + 10) (p := e + 10) h (by omega) (nI_add e 10), bnd_some]
  refine MT.ite_ (show nI (le2 t (e + 10)) ≤ 16 ↔ _ from nI_leI (b := 16) (by omega) (by decide)) (fun _ => ?_) MT.fail
  rw [m_fourAt (x := nI e + 12) (p := e + 12) h (by omega) (nI_add e 12), bnd_some, m_fourAt (x := nI e + 16) (p := e + 16) h (by omega) (nI_add e 16), bnd_some, lN_add]
  refine MT.ite_ (cmp_eq' rfl (nI_l (by omega)) (by omega) (by omega)) (fun _ => ?_) MT.fail
  exact MT.jb (m_zero2 (p := e + 20) h (by omega) (nI_add e 20))
/-- a test that leaves something when it holds -/
noncomputable def ME (X : Option (Int32 × hS)) (c : hS) (b : Bool) (Q : hS → Prop) : Prop := ∃ c', X = some (bI b, c') ∧ fm RQ c c' ∧ (b = true → Q c')
theorem ME.no {X : Option (Int32 × hS)} {c : hS} {b : Bool} {Q : hS → Prop} (hb : b = false) (h : MT X c false) : ME X c b Q := by
  obtain ⟨c', e1, f1, _⟩ := h
  subst hb
  exact ⟨c', e1, f1.mono (fun o i z => RQ_F z), fun z => by cases z⟩
theorem ME.and_ {X : Option (Int32 × hS)} {K : hS → Option (Int32 × hS)} {c : hS} {b b' : Bool} {Q : hS → Prop} (h : MT X c b) (hK : b = true → ME (K c) c b' Q) : ME (bnd X fun x c1 => if x = 0 then some (0, c1) else K c1) c (b && b') Q := by
  obtain ⟨c', e1, f1, g1⟩ := h
  rw [e1, bnd_some]
  cases b with
  | false => rw [if_pos (show bI false = 0 from rfl)]; exact ⟨c', rfl, f1.mono (fun o i z => RQ_F z), fun z => by cases z⟩
  | true => rw [if_neg (by decide), g1 rfl]; exact hK rfl
theorem ME.ite_ {X Y : Option (Int32 × hS)} {c : hS} {b : Bool} {p : Prop} [Decidable p] {q : Prop} [Decidable q] {Q : hS → Prop} (hp : p ↔ q) (hX : q → ME X c b Q) (hY : MT Y c false) : ME (if p then X else Y) c (decide q && b) Q := by
  by_cases w : q
  · rw [if_pos (hp.mpr w), decide_eq_true w, Bool.true_and]; exact hX w
  · rw [if_neg (fun z => w (hp.mp z)), decide_eq_false w, Bool.false_and]; exact ME.no rfl hY
theorem ME.pre {X : Option (Int32 × hS)} {c c1 : hS} {b : Bool} {Q Q' : hS → Prop} (h : ME X c1 b Q) (hf : fm RQ c c1) (hQ : ∀ c', Q c' → Q' c') : ME X c b Q' := by
  obtain ⟨c', a1, a2, a3⟩ := h
  exact ⟨c', a1, hf.tr a2, fun z => hQ c' (a3 z)⟩
noncomputable def NF (o i : Nat) : Prop := (o = 201 ∧ (i = 14 ∨ i = 18)) ∨ o = 209
theorem nm2_eq (t : List Nat) (q : Nat) : nameB ((t.drop (q + 46)).take (min (nl2 t q) 299)) = nameB (nm2 t q) ∧ (nameB (nm2 t q) = true → (t.drop (q + 46)).take (min (nl2 t q) 299) = nm2 t q) := by
  have h1 := nameB_299 (t.drop (q + 46)) (nl2 t q)
  have h2 := nameB_256 ((t.drop (q + 46)).take (nl2 t q))
  have e : nm2 t q = ((t.drop (q + 46)).take (nl2 t q)).take 256 := rfl
  rw [h1, e, h2]
  refine ⟨rfl, fun z => ?_⟩
  have l := nameB_90 z
  rw [List.length_take] at l
  rw [List.take_of_length_le (show ((t.drop (q + 46)).take (nl2 t q)).length ≤ 256 by rw [List.length_take]; omega)]
  by_cases w : nl2 t q ≤ 299
  · rw [Nat.min_eq_left w]
  · rw [List.take_of_length_le (by omega), List.take_of_length_le (by omega)]
theorem m_entryHead {N q e : Nat} {c : hS} {t : List Nat} (hN : 1000000 ≤ N) (h : mrw c 4 203 t) (he : e ≤ t.length) (hq : q ≤ e) : ME (f_X12_readEntryHead N c (nI q) (nI e)) c (enB t e q && (mmB t q && nameB (nm2 t q))) (fun c' => mrw c' 14 209 (nm2 t q) ∧ c'.1 201 18 = bI (dr2 t q) ∧ fm NF c c') := by
  have ht : t.length ≤ 20000 := h.1
  have h6 := le2_lt h.2.2.2 (q + 6)
  have h10 := le2_lt h.2.2.2 (q + 10)
  have h28 := le2_lt h.2.2.2 (q + 28)
  have h30 := le2_lt h.2.2.2 (q + 30)
  have h32 := le2_lt h.2.2.2 (q + 32)
  have h20 := le4_lt h.2.2.2 (q + 20)
  have h24 := le4_lt h.2.2.2 (q + 24)
  have eN' : eN t q = le2 t (q + 28) := rfl
  unfold f_X12_readEntryHead enB
  simp only [Bool.and_assoc]
  rw [show nI q + 46 = nI (q + 46) from nI_add q 46]
  refine ME.ite_ (nI_leI (by omega) (by omega)) (fun w46 => ?_) MT.fail
  refine ME.and_ (m_isRow (a := 80) (b := 75) (d := 1) (e := 2) hN h (by omega) rfl rfl rfl rfl rfl (by decide)) (fun _ => ?_)
  rw [m_twoAt (x := nI q + 6) (p := q + 6) h (by omega) (nI_add q 6), bnd_some]
  refine ME.ite_ (show nI (le2 t (q + 6)) ≤ 20 ↔ _ from nI_leI (b := 20) (by omega) (by decide)) (fun _ => ?_) MT.fail
  refine ME.and_ (m_zero2 (p := q + 8) h (by omega) (nI_add q 8)) (fun _ => ?_)
  rw [m_twoAt (x := nI q + 10) (p := q + 10) h (by omega) (nI_add q 10), bnd_some]
  -- behind the way
  have b103 : ME (f_X12_readEntryHead_103 N (nI q) (nI e) c (nI (le2 t (q + 10)))) c (decide (le2 t (q + 34) = 0) && (decide (beh2 t q ≤ e) && (mmB t q && nameB (nm2 t q)))) (fun c' => mrw c' 14 209 (nm2 t q) ∧ c'.1 201 18 = bI (dr2 t q) ∧ fm NF c c') := by
    unfold f_X12_readEntryHead_103
    refine ME.and_ (m_zero2 (p := q + 34) h (by omega) (nI_add q 34)) (fun _ => ?_)
    rw [m_twoAt (x := nI q + 28) (p := q + 28) h (by omega) (nI_add q 28), bnd_some, m_twoAt (x := nI q + 30) (p := q + 30) h (by omega) (nI_add q 30), bnd_some, m_twoAt (x := nI q + 32) (p := q + 32) h (by omega) (nI_add q 32), bnd_some, show nI q + 46 = nI (q + 46) from nI_add q 46, nI_add, nI_add, nI_add]
    refine ME.ite_ (show nI (q + 46 + le2 t (q + 28) + le2 t (q + 30) + le2 t (q + 32)) ≤ nI e ↔ beh2 t q ≤ e from nI_leI (by omega) (by omega)) (fun wb => ?_) MT.fail
    have wb' : q + 46 + le2 t (q + 28) + le2 t (q + 30) + le2 t (q + 32) ≤ e := wb
    have b194 : ∀ d : Bool, d = dr2 t q → ME (f_X12_readEntryHead_194 N (nI q) (nI e) c (nI (le2 t (q + 10))) (nI (le2 t (q + 28))) (bI d)) c (mmB t q && nameB (nm2 t q)) (fun c' => mrw c' 14 209 (nm2 t q) ∧ c'.1 201 18 = bI (dr2 t q) ∧ fm NF c c') := by
      intro d hd
      unfold f_X12_readEntryHead_194
      rw [show j_b (bI d) = true by cases d <;> rfl, cond_true]
      dsimp only [st1]
      have f1 : fm (fun o i => o = 201 ∧ i = 18) c (sI c 201 18 (bI d)) := fm.sI ⟨rfl, rfl⟩
      have v1 : (sI c 201 18 (bI d)).1 201 18 = bI d := sI_s _ _ _ _
      have r1 : mrw (sI c 201 18 (bI d)) 4 203 t := h.fm f1 (by omega) (fun i => by omega)
      refine ME.pre (Q := fun c' => mrw c' 14 209 (nm2 t q) ∧ c'.1 201 18 = bI (dr2 t q) ∧ fm NF (sI c 201 18 (bI d)) c') ?_ (f1.mono (fun o i z => by unfold RQ; omega)) (fun c' z => ⟨z.1, z.2.1, (f1.mono (fun o i z => by unfold NF; omega)).tr z.2.2⟩)
      revert v1 r1
      generalize sI c 201 18 (bI d) = c1
      intro v1 r1
      have b323 : ME (f_X12_readEntryHead_323 N (nI q) (nI e) c1 (nI (le2 t (q + 28)))) c1 (nameB (nm2 t q)) (fun c' => mrw c' 14 209 (nm2 t q) ∧ c'.1 201 18 = bI (dr2 t q) ∧ fm NF c1 c') := by
        have b340 : ME (f_X12_readEntryHead_340 N (nI q) (nI e) c1 (nI (nl2 t q))) c1 (nameB (nm2 t q)) (fun c' => mrw c' 14 209 (nm2 t q) ∧ c'.1 201 18 = bI (dr2 t q) ∧ fm NF c1 c') := by
          have nl : nl2 t q ≤ le2 t (q + 28) := by unfold nl2; split <;> omega
          obtain ⟨j, ej⟩ : ∃ j, j = min (nl2 t q) 299 := ⟨_, rfl⟩
          have go : ∀ c2 : hS, fm (fun o i => o = 201 ∧ i = 14) c1 c2 → c2.1 201 14 = nI j → ME (f_X12_readEntryHead_370 N (nI q) (nI e) N c2 0) c1 (nameB (nm2 t q)) (fun c' => mrw c' 14 209 (nm2 t q) ∧ c'.1 201 18 = bI (dr2 t q) ∧ fm NF c1 c') := by
            intro c2 f2 v2
            have r2 : mrw c2 4 203 t := r1.fm f2 (by omega) (fun i => by omega)
            obtain ⟨c3, e3, i3, w3, f3⟩ := cp_loop (F := f_X12_readEntryHead_370 N (nI q) (nI e)) (X := fun c => f_X12_readEntryHead_370 N (nI q) (nI e) (0 + 1) c (nI j)) (o := 209) (o' := 203) (a := q + 46) (b := 0) (len := j) (fun c => c.1 201 14 = nI j) (fun c i x q => by rw [sI_o (by decide)]; exact q) (fun m c i hi z => by
              rw [f_X12_readEntryHead_370, z, if_neg (nI_ge hi (by omega)), show nI q + 46 + nI i = nI (q + 46 + i) from by rw [show nI q + 46 = nI (q + 46) from nI_add q 46, nI_add], j_in_nI (show q + 46 + i < ln 203 from (by show q + 46 + i < 20000; omega)) (by decide), cond_true, j_in_nI (show i < ln 209 from (by show i < 300; omega)) (by decide), cond_true, nI_clamp (by omega), nI_clamp (by omega), Nat.zero_add]
              rfl) (fun m c z => by
              show _ = f_X12_readEntryHead_370 N (nI q) (nI e) (0 + 1) c (nI j)
              rw [f_X12_readEntryHead_370, f_X12_readEntryHead_370, z, if_pos (nI_le (Nat.le_refl _) (by omega)), if_pos (nI_le (Nat.le_refl _) (by omega))]) (by omega) j N c2 0 (by omega) (by omega) v2
            have fa : fm NF c1 c3 := (f2.mono (fun o i z => by unfold NF; omega)).tr (f3.mono (fun o i z => by unfold NF; omega))
            have n3 : mrw c3 14 209 ((t.drop (q + 46)).take j) := mrw.cp (c := c2) (c' := c3) (j := 14) (o := 209) (o' := 203) (a := q + 46) (len := j) (l := t) (by omega) r2.2.2.1 w3 i3 (show j ≤ 300 by omega) h.2.2.2
            have e3' : f_X12_readEntryHead_370 N (nI q) (nI e) N c2 0 = f_X12_readEntryHead_370 N (nI q) (nI e) (0 + 1) c3 (nI j) := e3
            obtain ⟨x1, x2⟩ := nm2_eq t q
            rw [← ej] at x1 x2
            rw [e3', f_X12_readEntryHead_370, i3, if_pos (nI_le (Nat.le_refl _) (by omega)), m_isName hN n3, bnd_some, x1]
            have fr : fm RQ c1 c3 := fa.mono (fun o i z => by unfold NF at z; unfold RQ; omega)
            cases hnm : nameB (nm2 t q) with
            | false =>
              rw [if_pos (show bI false = 0 from rfl)]
              obtain ⟨c4, e4, f4, _⟩ := MT.fail2 (c := c3) (a := 10) (p := nI q + 46)
              exact ⟨c4, e4, fr.tr (f4.mono (fun o i z => RQ_F z)), fun z => by cases z⟩
            | true =>
              rw [if_neg (by decide)]
              refine ⟨c3, rfl, fr, fun _ => ⟨by rw [← x2 hnm]; exact n3, ?_, fa⟩⟩
              rw [f3.1 _ _ (by omega), f2.1 _ _ (by omega), v1, hd]
          unfold f_X12_readEntryHead_340
          dsimp only [st1]
          rw [sI_s]
          by_cases w : nl2 t q ≤ 299
          · rw [if_pos (show nI (nl2 t q) ≤ 299 from nI_le (b := 299) w (by decide))]
            exact go _ ((fm.sI ⟨rfl, rfl⟩).tr (fm.sI ⟨rfl, rfl⟩)) (by rw [sI_s, ej, Nat.min_eq_left w])
          · rw [if_neg (show ¬ nI (nl2 t q) ≤ 299 from nI_ge (a := 299) (by omega) (by omega))]
            exact go _ ((fm.sI ⟨rfl, rfl⟩).tr (fm.sI ⟨rfl, rfl⟩)) (by rw [sI_s, ej, Nat.min_eq_right (by omega)]; rfl)
        unfold f_X12_readEntryHead_323
        rw [v1]
        cases hd2 : d with
        | false =>
          have : nl2 t q = le2 t (q + 28) := by unfold nl2; rw [← hd, hd2, if_neg (by decide)]; rfl
          rw [if_pos (show bI false = 0 from rfl), ← this]
          exact b340
        | true =>
          have z0 : 0 < le2 t (q + 28) := by
            rw [hd2] at hd
            unfold dr2 at hd
            have := (Bool.and_eq_true_iff.mp hd.symm).1
            exact of_decide_eq_true this
          have : nl2 t q = le2 t (q + 28) - 1 := by unfold nl2; rw [← hd, hd2, if_pos rfl]; rfl
          rw [if_neg (by decide), show nI (le2 t (q + 28)) - 1 = nI (le2 t (q + 28) - 1) from subI (b := 1) (by omega), ← this]
          exact b340
      have b262 : ME (f_X12_readEntryHead_262 N (nI q) (nI e) c1 (nI (le2 t (q + 10))) (nI (le2 t (q + 28)))) c1 (szB t q && nameB (nm2 t q)) (fun c' => mrw c' 14 209 (nm2 t q) ∧ c'.1 201 18 = bI (dr2 t q) ∧ fm NF c1 c') := by
        unfold f_X12_readEntryHead_262 szB
        rw [Bool.and_assoc, m_fourAt (x := nI q + 24) (p := q + 24) r1 (by omega) (nI_add q 24), bnd_some]
        refine ME.ite_ (cmp_le' rfl (show (400 : Int64) = lN 400 from rfl) (by omega) (by decide)) (fun _ => ?_) MT.fail
        by_cases w0 : le2 t (q + 10) = 0
        · rw [if_pos (show nI (le2 t (q + 10)) = 0 by rw [w0]; rfl), if_pos w0, m_fourAt (x := nI q + 20) (p := q + 20) r1 (by omega) (nI_add q 20), bnd_some, m_fourAt (x := nI q + 24) (p := q + 24) r1 (by omega) (nI_add q 24), bnd_some]
          exact ME.ite_ (cmp_eq' rfl rfl (by omega) (by omega)) (fun _ => b323) MT.fail
        · rw [if_neg (nI_ne0 (by omega) (by omega)), if_neg w0, Bool.true_and]
          exact b323
      rw [v1]
      unfold mmB
      rw [← hd]
      cases d with
      | false => rw [if_pos (show bI false = 0 from rfl), if_neg (by decide)]; rw [← hd] at b262; exact b262
      | true =>
        rw [if_neg (by decide), if_pos rfl]
        unfold dzB
        simp only [Bool.and_assoc]
        refine ME.and_ (m_zero2 (p := q + 10) r1 (by omega) (nI_add q 10)) (fun _ => ?_)
        refine ME.and_ (m_zero4 (p := q + 16) r1 (by omega) (nI_add q 16)) (fun _ => ?_)
        refine ME.and_ (m_zero4 (p := q + 20) r1 (by omega) (nI_add q 20)) (fun _ => ?_)
        refine ME.and_ (m_zero4 (p := q + 24) r1 (by omega) (nI_add q 24)) (fun _ => ?_)
        rw [← hd] at b262
        exact b262
    by_cases n0 : le2 t (q + 28) = 0
    · rw [if_pos (show nI (le2 t (q + 28)) ≤ 0 by rw [n0]; decide)]
      exact b194 false (by unfold dr2; rw [eN', n0]; rfl)
    · obtain ⟨a1, a2⟩ := tp_at h (show q + 45 + le2 t (q + 28) < t.length by omega)
      rw [if_neg (nI_nle (by omega) (by omega)), show nI q + 45 + nI (le2 t (q + 28)) = nI (q + 45 + le2 t (q + 28)) from by rw [show nI q + 45 = nI (q + 45) from nI_add q 45, nI_add], a1, cond_true, a2]
      have ed : dr2 t q = decide (gt t (q + 45 + le2 t (q + 28)) = 47) := by
        unfold dr2
        rw [eN', decide_eq_true (show 0 < le2 t (q + 28) by omega), Bool.true_and, show q + 46 + le2 t (q + 28) - 1 = q + 45 + le2 t (q + 28) by omega]
      by_cases g : gt t (q + 45 + le2 t (q + 28)) = 47
      · rw [if_pos (show nI (gt t (q + 45 + le2 t (q + 28))) = 47 by rw [g]; rfl)]
        exact b194 true (by rw [ed, decide_eq_true g])
      · rw [if_neg (show ¬ nI (gt t (q + 45 + le2 t (q + 28))) = 47 from fun z => g ((gt_eq (v := 47) h.2.2.2 (by decide)).mp z))]
        exact b194 false (by rw [ed, decide_eq_false g])
  by_cases w0 : le2 t (q + 10) = 0
  · rw [if_pos (show nI (le2 t (q + 10)) = 0 by rw [w0]; rfl), decide_eq_true (Or.inl w0), Bool.true_and]
    exact b103
  · rw [if_neg (nI_ne0 (by omega) (by omega))]
    by_cases w8 : le2 t (q + 10) = 8
    · rw [if_pos (show nI (le2 t (q + 10)) = 8 by rw [w8]; rfl), decide_eq_true (Or.inr w8), Bool.true_and]
      exact b103
    · rw [if_neg (show ¬ nI (le2 t (q + 10)) = 8 from fun z => w8 ((nI_eq (b := 8) (by omega) (by decide)).mp z)), decide_eq_false (fun z => z.elim w0 w8), Bool.false_and]
      exact ME.no rfl MT.fail
