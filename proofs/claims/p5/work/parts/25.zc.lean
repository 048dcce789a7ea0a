/-! PURE: the reference: kind 0 read, whole; read -/
noncomputable def GE (X : Option (Int32 × hS)) (c : hS) (b : Bool) (Q : hS → Prop) : Prop := ∃ c', X = some (bI b, c') ∧ gm RQ c c' ∧ (b = true → Q c')
theorem gRQ {c c1 : hS} (h : gm FQ c c1) : gm RQ c c1 := gm_mono h (fun o i z => RQ_F z)
theorem GE.no {X : Option (Int32 × hS)} {c : hS} {b : Bool} {Q : hS → Prop} (hb : b = false) (h : MT X c false) : GE X c b Q := by
  obtain ⟨c', e1, f1, _⟩ := h
  subst hb
  exact ⟨c', e1, gRQ (fm_g f1), fun z => by cases z⟩
theorem GE.and_ {X : Option (Int32 × hS)} {K : hS → Option (Int32 × hS)} {c : hS} {b b' : Bool} {Q : hS → Prop} (h : MT X c b) (hK : b = true → GE (K c) c b' Q) : GE (bnd X fun x c1 => if x = 0 then some (0, c1) else K c1) c (b && b') Q := by
  obtain ⟨c', e1, f1, g1⟩ := h
  rw [e1, bnd_some]
  cases b with
  | false => rw [if_pos (show bI false = 0 from rfl)]; exact ⟨c', rfl, gRQ (fm_g f1), fun z => by cases z⟩
  | true => rw [if_neg (by decide), g1 rfl]; exact hK rfl
theorem GE.oct {X : Option (Int32 × hS)} {K : hS → Option (Int32 × hS)} {c : hS} {b b' : Bool} {v : Int64} {Q : hS → Prop} (h : ∃ c', X = some (bI b, c') ∧ gm FQ c c' ∧ (b = true → c'.1 = c.1 ∧ c'.2.1 201 21 = v)) (hK : ∀ c1, c1.1 = c.1 → c1.2.1 201 21 = v → gm FQ c c1 → GE (K c1) c1 b' Q) : GE (bnd X fun x c1 => if x = 0 then some (0, c1) else K c1) c (b && b') Q := by
  obtain ⟨c', e1, f1, g1⟩ := h
  rw [e1, bnd_some]
  cases b with
  | false => rw [if_pos (show bI false = 0 from rfl)]; exact ⟨c', rfl, gRQ f1, fun z => by cases z⟩
  | true =>
    rw [if_neg (by decide), Bool.true_and]
    obtain ⟨x1, x2⟩ := g1 rfl
    obtain ⟨c2, y1, y2, y3⟩ := hK c' x1 x2 f1
    exact ⟨c2, y1, gm_tr (gRQ f1) y2, y3⟩
theorem GE.pre {X : Option (Int32 × hS)} {c c1 : hS} {b : Bool} {Q : hS → Prop} (h : GE X c1 b Q) (hf : gm RQ c c1) : GE X c b Q := by
  obtain ⟨c', a1, a2, a3⟩ := h
  exact ⟨c', a1, gm_tr hf a2, a3⟩
noncomputable def BF (o i : Nat) : Prop := (o = 201 ∧ (i = 14 ∨ i = 16 ∨ i = 18)) ∨ o = 209
theorem gm_1 {P : Nat → Nat → Prop} {c c1 : hS} (h : gm FQ c c1) (h1 : c1.1 = c.1) : gm P c c1 := ⟨fun _ _ _ => by rw [h1], h.2⟩
theorem BF_RQ {o i : Nat} (h : BF o i) : RQ o i := by unfold BF at h; unfold RQ; omega
/-- the name, behind a head's tests -/
theorem m_spell {N p n : Nat} {c : hS} {t : List Nat} {d : Bool} (hN : 1000000 ≤ N) (h : mrw c 4 203 t) (hp : p + 512 ≤ t.length) (hd : c.1 201 18 = bI d) (hn : n < 2 ^ 31) {mx : Int32} {k : Nat} (hmx : mx = nI k) (hk : k < 2 ^ 31) : ME (f_X12_readBlockHead_169 N (nI p) c (lN n) mx (lN n)) c (decide (n ≤ k) && nameB (spl t p d)) (fun c' => mrw c' 14 209 (spl t p d) ∧ c'.1 201 16 = nI n ∧ c'.1 201 18 = bI d ∧ fm BF c c') := by
  have ht : t.length ≤ 20000 := h.1
  unfold f_X12_readBlockHead_169
  refine ME.ite_ (cmp_le' rfl (by rw [hmx, nI_l hk]) (by omega) (by omega)) (fun _ => ?_) MT.fail
  dsimp only [st1]
  have f1 : fm (fun o i => (o = 201 ∧ i = 14) ∨ o = 209) c (sI c 201 14 0) := fm.sI (by omega)
  have n1 : mrw (sI c 201 14 0) 14 209 [] := ⟨Nat.zero_le _, sI_s _ _ _ _, fun i hi => absurd hi (Nat.not_lt_zero i), fun x hx => by cases hx⟩
  have cl1 := cstr_len t (p + 345) 155
  have cl2 := cstr_len t p 100
  have tk : ∀ {c1 : hS}, fm (fun o i => (o = 201 ∧ i = 14) ∨ o = 209) c c1 → mrw c1 4 203 t := fun f => h.fm f (by omega) (fun i => by omega)
  obtain ⟨c2, e2, n2, f2⟩ := m_addName (p := p + 345) (n := 155) hN (tk f1) n1 (by omega) (by simp) (show nI p + 345 = nI (p + 345) from nI_add p 345) (show (155 : Int32) = nI 155 from rfl)
  have f12 := f1.tr f2
  rw [List.nil_append] at n2
  rw [e2, bnd_some, n2.2.1]
  -- the second part
  have w230 : ∀ (c3 : hS) (nm : List Nat), nm.length ≤ 156 → nm ++ cstr t p 100 = spl0 t p → mrw c3 14 209 nm → fm (fun o i => (o = 201 ∧ i = 14) ∨ o = 209) c c3 → ME (f_X12_readBlockHead_230 N (nI p) c3 (lN n)) c (nameB (spl t p d)) (fun c' => mrw c' 14 209 (spl t p d) ∧ c'.1 201 16 = nI n ∧ c'.1 201 18 = bI d ∧ fm BF c c') := by
    intro c3 nm hl hs n3 f3
    obtain ⟨c4, e4, n4, f4⟩ := m_addName (p := p) (n := 100) hN (tk f3) n3 (by omega) (by omega) rfl (show (100 : Int32) = nI 100 from rfl)
    have f34 := f3.tr f4
    rw [hs] at n4
    have sl : (spl0 t p).length ≤ 256 := by rw [← hs, List.length_append]; omega
    have w277 : ∀ (c5 : hS), mrw c5 14 209 (spl t p d) → fm (fun o i => (o = 201 ∧ i = 14) ∨ o = 209) c c5 → ME (f_X12_readBlockHead_277 N (nI p) c5 (lN n)) c (nameB (spl t p d)) (fun c' => mrw c' 14 209 (spl t p d) ∧ c'.1 201 16 = nI n ∧ c'.1 201 18 = bI d ∧ fm BF c c') := by
      intro c5 n5 f5
      unfold f_X12_readBlockHead_277
      rw [lN_i]
      dsimp only [st1]
      have f6 : fm (fun o i => o = 201 ∧ i = 16) c5 (sI c5 201 16 (nI n)) := fm.sI ⟨rfl, rfl⟩
      have n6 : mrw (sI c5 201 16 (nI n)) 14 209 (spl t p d) := n5.fm f6 (by omega) (fun i => by omega)
      have fa : fm BF c (sI c5 201 16 (nI n)) := (f5.mono (fun o i z => by unfold BF; omega)).tr (f6.mono (fun o i z => by unfold BF; omega))
      rw [m_isName hN n6, bnd_some]
      cases hnm : nameB (spl t p d) with
      | false =>
        rw [if_pos (show bI false = 0 from rfl)]
        obtain ⟨c7, e7, f7, _⟩ := MT.fail2 (c := sI c5 201 16 (nI n)) (a := 10) (p := nI p)
        exact ⟨c7, e7, (fa.mono (fun o i z => BF_RQ z)).tr (f7.mono (fun o i z => RQ_F z)), fun z => by cases z⟩
      | true =>
        rw [if_neg (by decide)]
        refine ⟨_, rfl, fa.mono (fun o i z => BF_RQ z), fun _ => ⟨n6, sI_s _ _ _ _, ?_, fa⟩⟩
        rw [f6.1 _ _ (by omega), f5.1 _ _ (by omega), hd]
    unfold f_X12_readBlockHead_230
    rw [e4, bnd_some, f34.1 _ _ (by omega), hd]
    cases d with
    | false =>
      have es : spl t p false = spl0 t p := by unfold spl; rw [if_neg (fun z => by cases z.1)]
      rw [if_pos (show bI false = 0 from rfl)]
      exact w277 c4 (by rw [es]; exact n4) f34
    | true =>
      rw [if_neg (by decide), n4.2.1]
      by_cases l0 : (spl0 t p).length = 0
      · have es : spl t p true = spl0 t p := by
          unfold spl
          rw [if_neg]
          intro z
          have := z.2
          rw [gt_ge (by omega)] at this
          cases this
        rw [if_pos (show nI (spl0 t p).length ≤ 0 by rw [l0]; decide)]
        exact w277 c4 (by rw [es]; exact n4) f34
      · rw [if_neg (nI_nle (by omega) (by omega)), show nI (spl0 t p).length - 1 = nI ((spl0 t p).length - 1) from subI (b := 1) (by omega), j_in_nI (show (spl0 t p).length - 1 < ln 209 from (by show (spl0 t p).length - 1 < 300; omega)) (by decide), cond_true, nI_clamp (by omega), n4.2.2.1 _ (by omega)]
        by_cases g : gt (spl0 t p) ((spl0 t p).length - 1) = 47
        · have es : spl t p true = (spl0 t p).take ((spl0 t p).length - 1) := by unfold spl; rw [if_pos ⟨rfl, g⟩]
          rw [if_pos (show nI (gt (spl0 t p) ((spl0 t p).length - 1)) = 47 by rw [g]; rfl)]
          dsimp only [st1]
          have f5 : fm (fun o i => (o = 201 ∧ i = 14) ∨ o = 209) c4 (sI c4 201 14 (nI ((spl0 t p).length - 1))) := fm.sI (by omega)
          exact w277 _ (by rw [es]; exact n4.cut (by decide) (by omega)) (f34.tr f5)
        · have es : spl t p true = spl0 t p := by unfold spl; rw [if_neg (fun z => g z.2)]
          rw [if_neg (show ¬ nI (gt (spl0 t p) ((spl0 t p).length - 1)) = 47 from fun z => g ((gt_eq (v := 47) n4.2.2.2 (by decide)).mp z))]
          exact w277 c4 (by rw [es]; exact n4) f34
  by_cases l0 : (cstr t (p + 345) 155).length = 0
  · rw [if_pos (show nI (cstr t (p + 345) 155).length ≤ 0 by rw [l0]; decide)]
    have e0 : cstr t (p + 345) 155 = [] := List.eq_nil_of_length_eq_zero l0
    exact w230 c2 [] (by simp) (by unfold spl0; rw [if_pos l0]) (by rw [e0] at n2; exact n2) f12
  · rw [if_neg (nI_nle (by omega) (by omega)), j_in_nI (show (cstr t (p + 345) 155).length < ln 209 from (by show (cstr t (p + 345) 155).length < 300; omega)) (by decide), cond_true, nI_clamp (by omega)]
    try dsimp only [st1]
    rw [sI_o (by decide), n2.2.1, nI_1]
    have f3 : fm (fun o i => (o = 201 ∧ i = 14) ∨ o = 209) c2 (sI (sI c2 209 (cstr t (p + 345) 155).length 47) 201 14 (nI ((cstr t (p + 345) 155).length + 1))) := (fm.sI (by omega)).tr (fm.sI (by omega))
    exact w230 _ (cstr t (p + 345) 155 ++ [47]) (by simp; omega) (by unfold spl0; rw [if_neg l0]) (n2.add (x := 47) (by decide) (show (cstr t (p + 345) 155).length < 300 by omega) (by decide)) (f12.tr f3)
theorem m_blockHead {N p : Nat} {c : hS} {t : List Nat} (hN : 1000000 ≤ N) (h : mrw c 4 203 t) (hp : p + 512 ≤ t.length) : GE (f_X12_readBlockHead N c (nI p)) c (hdB t p && nameB (spl t p (decide (gt t (p + 156) = 53)))) (fun c' => mrw c' 14 209 (spl t p (decide (gt t (p + 156) = 53))) ∧ c'.1 201 16 = nI (octV t (p + 124) 11 0) ∧ octV t (p + 124) 11 0 ≤ 400 ∧ c'.1 201 18 = bI (decide (gt t (p + 156) = 53)) ∧ gm BF c c') := by
  have ht : t.length ≤ 20000 := h.1
  unfold f_X12_readBlockHead hdB
  simp only [Bool.and_assoc]
  refine GE.and_ (m_readSum hN h hp) (fun _ => ?_)
  refine GE.and_ (m_readMark (p := p + 257) hN h (by omega) (nI_add p 257)) (fun _ => ?_)
  refine GE.oct (m_readOctal (p := p + 100) (n := 8) hN h (by omega) (by decide) (by decide) (nI_add p 100) rfl) (fun c1 x1 _ g1 => ?_)
  refine GE.oct (m_readOctal (p := p + 108) (n := 8) hN (mrw_1 h x1) (by omega) (by decide) (by decide) (nI_add p 108) rfl) (fun c2 x2 _ g2 => ?_)
  have y2 := x2.trans x1
  refine GE.oct (m_readOctal (p := p + 116) (n := 8) hN (mrw_1 h y2) (by omega) (by decide) (by decide) (nI_add p 116) rfl) (fun c3 x3 _ g3 => ?_)
  have y3 := x3.trans y2
  refine GE.oct (m_readOctal (p := p + 124) (n := 12) hN (mrw_1 h y3) (by omega) (by decide) (by decide) (nI_add p 124) rfl) (fun c4 x4 v4 g4 => ?_)
  have y4 := x4.trans y3
  rw [v4]
  refine GE.oct (m_readOctal (p := p + 136) (n := 12) hN (mrw_1 h y4) (by omega) (by decide) (by decide) (nI_add p 136) rfl) (fun c5 x5 _ g5 => ?_)
  have y5 := x5.trans y4
  have gz : gm BF c c5 := gm_tr (gm_tr (gm_tr (gm_tr (gm_1 g1 x1) (gm_1 g2 x2)) (gm_1 g3 x3)) (gm_1 g4 x4)) (gm_1 g5 x5)
  have h5 : mrw c5 4 203 t := mrw_1 h y5
  obtain ⟨a1, a2⟩ := tp_at h5 (show p + 156 < t.length by omega)
  have hb := h.2.2.2.gt (p + 156)
  have ov : octV t (p + 124) 11 0 < 2 ^ 33 := by have := octV_lt (t := t) (n := 11) (p := p + 124) (v := 0); omega
  rw [show nI p + 156 = nI (p + 156) from nI_add p 156, a1, cond_true, a2]
  have w138 : (gt t (p + 156) = 48 ∨ gt t (p + 156) = 0 ∨ gt t (p + 156) = 53) → GE (f_X12_readBlockHead_138 N (nI p) c5 (lN (octV t (p + 124) (12 - 1) 0)) (nI (gt t (p + 156)))) c5 (soB t p && nameB (spl t p (decide (gt t (p + 156) = 53)))) (fun c' => mrw c' 14 209 (spl t p (decide (gt t (p + 156) = 53))) ∧ c'.1 201 16 = nI (octV t (p + 124) 11 0) ∧ octV t (p + 124) 11 0 ≤ 400 ∧ c'.1 201 18 = bI (decide (gt t (p + 156) = 53)) ∧ gm BF c c') := by
    intro hs
    have es : soB t p = decide (octV t (p + 124) 11 0 ≤ if gt t (p + 156) = 53 then 0 else 400) := by
      unfold soB
      have : (decide (gt t (p + 156) = 48) || (decide (gt t (p + 156) = 0) || decide (gt t (p + 156) = 53))) = true := by
        rcases hs with q | q | q
        · rw [decide_eq_true q]; rfl
        · rw [decide_eq_true q, Bool.true_or, Bool.or_true]
        · rw [decide_eq_true q, Bool.or_true, Bool.or_true]
      rw [this, Bool.true_and]
    have w151 : ∀ (d : Bool) (k : Nat), d = decide (gt t (p + 156) = 53) → k = (if gt t (p + 156) = 53 then 0 else 400) → GE (f_X12_readBlockHead_151 N (nI p) c5 (lN (octV t (p + 124) (12 - 1) 0)) (bI d)) c5 (soB t p && nameB (spl t p (decide (gt t (p + 156) = 53)))) (fun c' => mrw c' 14 209 (spl t p (decide (gt t (p + 156) = 53))) ∧ c'.1 201 16 = nI (octV t (p + 124) 11 0) ∧ octV t (p + 124) 11 0 ≤ 400 ∧ c'.1 201 18 = bI (decide (gt t (p + 156) = 53)) ∧ gm BF c c') := by
      intro d k hd hk
      rw [← hd, es, ← hk]
      have k4 : k ≤ 400 := by rw [hk]; split <;> omega
      unfold f_X12_readBlockHead_151
      rw [show j_b (bI d) = true by cases d <;> rfl, cond_true]
      dsimp only [st1]
      have f6 : fm (fun o i => o = 201 ∧ i = 18) c5 (sI c5 201 18 (bI d)) := fm.sI ⟨rfl, rfl⟩
      have h6 : mrw (sI c5 201 18 (bI d)) 4 203 t := h5.fm f6 (by omega) (fun i => by omega)
      rw [sI_s]
      have run : ∀ mx : Int32, mx = nI k → GE (f_X12_readBlockHead_169 N (nI p) (sI c5 201 18 (bI d)) (lN (octV t (p + 124) (12 - 1) 0)) mx (lN (octV t (p + 124) (12 - 1) 0))) c5 (decide (octV t (p + 124) 11 0 ≤ k) && nameB (spl t p d)) (fun c' => mrw c' 14 209 (spl t p d) ∧ c'.1 201 16 = nI (octV t (p + 124) 11 0) ∧ octV t (p + 124) 11 0 ≤ 400 ∧ c'.1 201 18 = bI d ∧ gm BF c c') := by
        intro mx hmx
        have ov' : octV t (p + 124) (12 - 1) 0 = octV t (p + 124) 11 0 := rfl
        rw [ov']
        by_cases big : octV t (p + 124) 11 0 < 2 ^ 31
        · obtain ⟨c7, e7, f7, g7⟩ := m_spell (d := d) hN h6 hp (sI_s _ _ _ _) big hmx (by omega)
          refine ⟨c7, e7, gm_tr (fm_g (f6.mono (fun o i z => by unfold RQ; omega))) (fm_g f7), fun z => ?_⟩
          obtain ⟨q1, q2, q3, q4⟩ := g7 z
          have := of_decide_eq_true (Bool.and_eq_true_iff.mp z).1
          exact ⟨q1, q2, by omega, q3, gm_tr gz (gm_tr (fm_g (f6.mono (fun o i z => by unfold BF; omega))) (fm_g q4))⟩
        · unfold f_X12_readBlockHead_169
          rw [if_neg (fun z => by have := (cmp_le' rfl (show mx.toInt64 = lN k by rw [hmx, nI_l (by omega)]) (by omega) (by omega)).mp z; omega), decide_eq_false (show ¬ octV t (p + 124) 11 0 ≤ k by omega), Bool.false_and]
          obtain ⟨c7, e7, f7, _⟩ := MT.fail (c := sI c5 201 18 (bI d)) (a := 7) (p := nI p + 124)
          exact ⟨c7, e7, gm_tr (fm_g (f6.mono (fun o i z => by unfold RQ; omega))) (gRQ (fm_g f7)), fun z => by cases z⟩
      cases d with
      | false => rw [if_pos (show bI false = 0 from rfl)]; exact run 400 (by rw [hk, if_neg (of_decide_eq_false hd.symm)]; rfl)
      | true => rw [if_neg (by decide)]; exact run 0 (by rw [hk, if_pos (of_decide_eq_true hd.symm)]; rfl)
    unfold f_X12_readBlockHead_138
    by_cases w : gt t (p + 156) = 53
    · rw [if_pos (show nI (gt t (p + 156)) = 53 by rw [w]; rfl)]
      exact w151 true 0 (by rw [decide_eq_true w]) (by rw [if_pos w])
    · rw [if_neg (show ¬ nI (gt t (p + 156)) = 53 from fun z => w ((gt_eq (v := 53) h.2.2.2 (by decide)).mp z))]
      exact w151 false 400 (by rw [decide_eq_false w]) (by rw [if_neg w])
  by_cases s48 : gt t (p + 156) = 48
  · rw [if_pos (show nI (gt t (p + 156)) = 48 by rw [s48]; rfl)]
    exact w138 (Or.inl s48)
  · rw [if_neg (show ¬ nI (gt t (p + 156)) = 48 from fun z => s48 ((gt_eq (v := 48) h.2.2.2 (by decide)).mp z))]
    by_cases s0 : gt t (p + 156) = 0
    · rw [if_pos (show nI (gt t (p + 156)) = 0 by rw [s0]; rfl)]
      exact w138 (Or.inr (Or.inl s0))
    · rw [if_neg (show ¬ nI (gt t (p + 156)) = 0 from fun z => s0 ((gt_eq (v := 0) h.2.2.2 (by decide)).mp z))]
      by_cases s53 : gt t (p + 156) = 53
      · rw [if_pos (show nI (gt t (p + 156)) = 53 by rw [s53]; rfl)]
        exact w138 (Or.inr (Or.inr s53))
      · rw [if_neg (show ¬ nI (gt t (p + 156)) = 53 from fun z => s53 ((gt_eq (v := 53) h.2.2.2 (by decide)).mp z))]
        refine GE.no ?_ MT.fail
        unfold soB
        rw [decide_eq_false s48, decide_eq_false s0, decide_eq_false s53]
        rfl
noncomputable def GZ (X : Option (Int32 × hS)) (c : hS) (t : List Nat) (r : Option (List Mb)) : Prop := ∃ c', X = some (bI r.isSome, c') ∧ gm RQ c c' ∧ ∀ ms, r = some ms → RS c' t ms
theorem ZR.g {X : Option (Int32 × hS)} {c : hS} {t : List Nat} {r : Option (List Mb)} (h : ZR X c t r) : GZ X c t r := by
  obtain ⟨c', a1, a2, a3⟩ := h
  exact ⟨c', a1, fm_g a2, a3⟩
theorem GZ.no {X : Option (Int32 × hS)} {c c1 : hS} {t : List Nat} {r : Option (List Mb)} (hr : r = none) (hX : ∃ c', X = some (0, c') ∧ gm RQ c1 c') (hf : gm RQ c c1) : GZ X c t r := by
  obtain ⟨c', e1, f1⟩ := hX
  subst hr
  exact ⟨c', e1, gm_tr hf f1, fun _ z => by cases z⟩
theorem GZ.pre {X : Option (Int32 × hS)} {c c1 : hS} {t : List Nat} {r : Option (List Mb)} (h : GZ X c1 t r) (hf : gm RQ c c1) : GZ X c t r := by
  obtain ⟨c', a1, a2, a3⟩ := h
  exact ⟨c', a1, gm_tr hf a2, a3⟩
theorem zer_em {t : List Nat} {p : Nat} (h : emB t p = true) (hp : p + 512 ≤ t.length) : zerB t p = zerB t (p + 512) := by
  apply bool_eq
  unfold zerB emB at *
  rw [all_range] at h
  rw [List.all_eq_true, List.all_eq_true]
  constructor
  · intro z i hi
    rw [List.mem_range'_1] at hi
    exact z i (by rw [List.mem_range'_1]; omega)
  · intro z i hi
    rw [List.mem_range'_1] at hi
    by_cases w : i < p + 512
    · have := h (i - p) (by omega)
      rw [show p + (i - p) = i by omega] at this
      exact this
    · exact z i (by rw [List.mem_range'_1]; omega)
theorem m_read0 {N : Nat} {c : hS} {t : List Nat} (hN : 1000000 ≤ N) (h : RS c t []) : GZ (f_X12_readBlocks N c) c t (rd0 t 41 0 []) := by
  have ht : t.length ≤ 20000 := h.1.1
  have key : ∀ f n p ms c, f ≤ 41 → 512 * (41 - f) ≤ p → f < n → p ≤ t.length → RS c t ms → GZ (f_X12_readBlocks_2 N n c (nI p)) c t (rd0 t f p ms) := by
    intro f
    induction f with
    | zero => intro n p ms c h1 h2 h3 h4; omega
    | succ f ih =>
      intro n p ms c hf hfp hn hp hr
      obtain ⟨n, rfl⟩ : ∃ m, n = m + 1 := ⟨n - 1, by omega⟩
      obtain ⟨c1, e1, f1, g1⟩ := m_reaches (x := (nI p + 512).toInt64) (k := p + 512) hr.1 (by rw [show nI p + 512 = nI (p + 512) from nI_add p 512, nI_l (by omega)]) (by omega)
      rw [f_X12_readBlocks_2, e1, bnd_some]
      unfold rd0
      by_cases q1 : p + 512 ≤ t.length
      · rw [decide_eq_true q1] at g1
        rw [decide_eq_true q1, if_neg (by decide), if_neg (by omega), g1 rfl, m_isBlank hN hr.1 q1, bnd_some]
        cases hem : emB t p with
        | true =>
          rw [if_neg (by decide), if_pos rfl]
          obtain ⟨c2, e2, f2, g2⟩ := m_reaches (x := (nI p + 1024).toInt64) (k := p + 1024) hr.1 (by rw [show nI p + 1024 = nI (p + 1024) from nI_add p 1024, nI_l (by omega)]) (by omega)
          rw [e2, bnd_some]
          by_cases q2 : p + 1024 ≤ t.length
          · rw [decide_eq_true q2] at g2
            rw [decide_eq_true q2, if_neg (by decide), g2 rfl, show nI p + 512 = nI (p + 512) from nI_add p 512, zer_em hem q1]
            obtain ⟨c3, e3, f3, g3⟩ := m_areZeros (p := p + 512) hN hr.1 q1
            rw [e3, bnd_some]
            cases hz : zerB t (p + 512) with
            | false =>
              rw [if_pos (show bI false = 0 from rfl), if_neg (fun z => by cases z.2)]
              exact GZ.no rfl ⟨c3, rfl, gRQ (fm_g f3)⟩ gm_rf
            | true =>
              rw [hz] at g3
              rw [if_neg (by decide), if_pos ⟨q2, rfl⟩, g3 rfl]
              exact ⟨c, rfl, gm_rf, fun ms' z => by cases z; exact hr⟩
          · rw [decide_eq_false q2, if_pos (show bI false = 0 from rfl), if_neg (fun z => q2 z.1)]
            exact GZ.no rfl ⟨c2, rfl, gRQ (fm_g f2)⟩ gm_rf
        | false =>
          rw [if_pos (show bI false = 0 from rfl), if_neg (by decide)]
          obtain ⟨c2, e2, f2, g2⟩ := m_blockHead hN hr.1 q1
          rw [e2, bnd_some]
          obtain ⟨d, ed⟩ : ∃ d, d = decide (gt t (p + 156) = 53) := ⟨_, rfl⟩
          obtain ⟨S, eS⟩ : ∃ S, S = octV t (p + 124) 11 0 := ⟨_, rfl⟩
          rw [← ed, ← eS]
          rw [← ed, ← eS] at g2
          cases hh : (hdB t p && nameB (spl t p d)) with
          | false =>
            rw [if_pos (show bI false = 0 from rfl), if_neg (fun z => by rw [z.1, z.2.1] at hh; cases hh)]
            exact GZ.no rfl ⟨c2, rfl, f2⟩ gm_rf
          | true =>
            obtain ⟨n2, v16, hS, v18, f2'⟩ := g2 hh
            obtain ⟨q3, q4⟩ := Bool.and_eq_true_iff.mp hh
            have hr2 : RS c2 t ms := RS_1 (hr.mv (gm_f f2') (fun o i z => by unfold BF at z; omega)) rfl
            have hu := upTo_le (a := S) (b := 512) (by decide)
            rw [if_neg (by decide), v16, up512 (by omega), show nI p + 512 = nI (p + 512) from nI_add p 512, nI_add]
            refine GZ.pre ?_ f2
            obtain ⟨c3, e3, f3, g3⟩ := m_reaches (x := (nI (p + 512 + upTo S 512)).toInt64) (k := p + 512 + upTo S 512) hr2.1 (nI_l (by omega)) (by omega)
            rw [e3, bnd_some]
            by_cases q5 : p + 512 + upTo S 512 ≤ t.length
            · rw [decide_eq_true q5] at g3
              rw [decide_eq_true q5, if_neg (by decide), g3 rfl, v16]
              obtain ⟨c4, e4, r4, f4⟩ := m_takeBytes (p := p + 512) (n := S) hN hr2.1 (by omega) (by omega) rfl rfl
              rw [e4, bnd_some]
              have hr4 : RS c4 t ms := hr2.mv f4 (fun o i z => by omega)
              have n4 : mrw c4 14 209 (spl t p d) := n2.fm f4 (by omega) (fun i => by omega)
              obtain ⟨c5, e5, f5, g5⟩ := m_comes (p := nI p) (d := d) hN hr4 n4 r4 ((f4.1 _ _ (by omega)).trans v18) q4 (by rw [List.length_take]; omega)
              rw [e5, bnd_some]
              have f25 : gm RQ c2 c5 := fm_g ((f4.mono (fun o i z => by unfold RQ; omega)).tr (f5.mono (fun o i z => RQ_C z)))
              cases hmay : mayB ms (spl t p d) d with
              | false =>
                rw [if_pos (show bI false = 0 from rfl), if_neg (fun z => by cases z.2.2.2)]
                exact GZ.no rfl ⟨c5, rfl, f25⟩ gm_rf
              | true =>
                rw [if_neg (by decide), if_pos ⟨q3, q4, q5, rfl⟩]
                exact GZ.pre (ih n (p + 512 + upTo S 512) _ c5 (by omega) (by omega) (by omega) q5 (g5 hmay).1) f25
            · rw [decide_eq_false q5, if_pos (show bI false = 0 from rfl), if_neg (fun z => q5 z.2.2.1)]
              exact GZ.no rfl ⟨c3, rfl, gRQ (fm_g f3)⟩ gm_rf
      · rw [decide_eq_false q1, if_pos (show bI false = 0 from rfl), if_pos (by omega)]
        exact GZ.no rfl ⟨c1, rfl, gRQ (fm_g f1)⟩ gm_rf
  exact key 41 N 0 [] c (Nat.le_refl _) (by omega) (by omega) (Nat.zero_le _) h
