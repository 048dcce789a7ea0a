/-! PURE: the class reads kind 2: members -/
noncomputable def SL (c : hS) (t : List Nat) (e bg q : Nat) : Prop := c.1 36 6 = nI e ∧ c.1 36 7 = nI bg ∧ c.1 36 8 = nI (le2 t (q + 10)) ∧ c.1 36 9 = nI (eN t q) ∧ c.1 36 10 = nI (beh2 t q)
theorem SL.set {c : hS} {t : List Nat} {e bg q j : Nat} {x : Int32} (h : SL c t e bg q) (hj : 10 < j) : SL (sI c 36 j x) t e bg q := ⟨by rw [sI_j (by omega)]; exact h.1, by rw [sI_j (by omega)]; exact h.2.1, by rw [sI_j (by omega)]; exact h.2.2.1, by rw [sI_j (by omega)]; exact h.2.2.2.1, by rw [sI_j (by omega)]; exact h.2.2.2.2⟩
theorem SL.fr {S : List Nat} {c c1 : hS} {t : List Nat} {e bg q : Nat} (h : SL c t e bg q) (hf : fr S c c1) (hS : 36 ∉ S) : SL c1 t e bg q := ⟨(hf.i hS 6).trans h.1, (hf.i hS 7).trans h.2.1, (hf.i hS 8).trans h.2.2.1, (hf.i hS 9).trans h.2.2.2.1, (hf.i hS 10).trans h.2.2.2.2⟩
noncomputable def dr2 (t : List Nat) (q : Nat) : Bool := decide (0 < eN t q) && decide (gt t (q + 46 + eN t q - 1) = 47)
noncomputable def nl2 (t : List Nat) (q : Nat) : Nat := if dr2 t q = true then eN t q - 1 else eN t q
noncomputable def nm2 (t : List Nat) (q : Nat) : List Nat := ((t.drop (q + 46)).take (nl2 t q)).take 256
noncomputable def dzB (t : List Nat) (q : Nat) : Bool := decide (le2 t (q + 10) = 0) && (decide (le4 t (q + 16) = 0) && (decide (le4 t (q + 20) = 0) && decide (le4 t (q + 24) = 0)))
noncomputable def szB (t : List Nat) (q : Nat) : Bool := decide (le4 t (q + 24) ≤ 400) && (if le2 t (q + 10) = 0 then decide (le4 t (q + 20) = le4 t (q + 24)) else true)
noncomputable def mmB (t : List Nat) (q : Nat) : Bool := if dr2 t q = true then dzB t q && szB t q else szB t q
noncomputable abbrev Sm : List Nat := [5, 6, 9, 36]
noncomputable def mmP (t : List Nat) (e bg q : Nat) (c1 : hS) : Prop := SL c1 t e bg q ∧ row c1 5 (nm2 t q) ∧ c1.1 36 11 = bI (dr2 t q) ∧ c1.1 36 12 = nI (le4 t (q + 24))
theorem f_isMember2 {N : Nat} {c : hS} {t : List Nat} {e q bg : Nat} (hN : 1000000 ≤ N) (h : row c 3 t) (hl : 0 ≤ c.1 5 1) (hs : SL c t e bg q) (he : e ≤ t.length) (hb : beh2 t q ≤ e) : RE (f_X5_isMember N c (nI q)) c Sm (mmB t q) (mmP t e bg q) := by
  have htl : t.length ≤ 20000 := h.1
  have b28 := le2_lt h.2.2.2 (q + 28)
  have b10 := le2_lt h.2.2.2 (q + 10)
  have b24 := le4_lt h.2.2.2 (q + 24)
  have b20 := le4_lt h.2.2.2 (q + 20)
  have hq : q + 46 + eN t q ≤ e := by unfold beh2 at hb; omega
  have nlq : nl2 t q ≤ eN t q := by unfold nl2; split <;> omega
  -- sizes
  have s143 : ∀ c1, row c1 3 t → SL c1 t e bg q → row c1 5 (nm2 t q) → c1.1 36 11 = bI (dr2 t q) → RE (f_X5_isMember_143 N (nI q) c1) c1 Sm (szB t q) (mmP t e bg q) := by
    intro c1 h1 s1 r1 d1
    unfold f_X5_isMember_143 szB
    rw [show nI q + 24 = nI (q + 24) from nI_add q 24, f_little4 hN h1 (by omega), bnd_some]
    refine RE.if_ (cmp_le' rfl (show (400 : Int64) = lN 400 from rfl) (by omega) (by decide)) (fun w => ?_) (RE.tb (by decide))
    refine RE.set (by decide) ?_
    try dsimp only
    rw [lN_i, sI_j (show (8 : Nat) ≠ 12 by decide), s1.2.2.1]
    have h2 := h1.fr (S := [36]) (c1 := sI c1 36 12 (nI (le4 t (q + 24)))) (fr.sI (by simp)) (by decide) (by decide)
    have P2 : mmP t e bg q (sI c1 36 12 (nI (le4 t (q + 24)))) := ⟨s1.set (by decide), r1.fr (S := [36]) (fr.sI (by simp)) (by decide) (by decide), by rw [sI_j (by decide)]; exact d1, sI_s _ _ _ _⟩
    by_cases w0 : le2 t (q + 10) = 0
    · rw [if_pos (show nI (le2 t (q + 10)) = 0 by rw [w0]; rfl), if_pos w0, show nI q + 20 = nI (q + 20) from nI_add q 20, f_little4 hN h2 (by omega), bnd_some]
      have := RE.if_ (b := true) (P := mmP t e bg q) (S := Sm) (cmp_eq' (rfl : lN (le4 t (q + 20)) = _) (rfl : lN (le4 t (q + 24)) = _) (by omega) (by omega)) (fun _ => RE.yes P2) (RE.tl (c := sI c1 36 12 (nI (le4 t (q + 24)))) (a := 7) (p := nI (q + 20)) (by decide))
      rwa [Bool.and_true] at this
    · rw [if_neg (nI_ne0 (by omega) (by omega)), if_neg w0]
      exact RE.yes P2
  -- the name and what a directory has
  have s38 : ∀ w : Bool, w = dr2 t q → RE (f_X5_isMember_38 N (nI q) c (nI (q + 46 + eN t q) - 1) (bI w)) c Sm (mmB t q) (mmP t e bg q) := by
    intro w hw
    unfold f_X5_isMember_38
    rw [show j_b (bI w) = true by cases w <;> rfl, cond_true]
    refine RE.set (by decide) ?_
    try dsimp only
    have h1 := h.fr (S := [36]) (c1 := sI c 36 11 (bI w)) (fr.sI (by simp)) (by decide) (by decide)
    have r1 : 0 ≤ (sI c 36 11 (bI w)).1 5 1 := (fr.sI (S := [36]) (c := c) (o := 36) (j := 11) (x := bI w) (by simp)).2.1 hl
    have s1 := hs.set (j := 11) (x := bI w) (by decide)
    have d1 : (sI c 36 11 (bI w)).1 36 11 = bI w := sI_s _ _ _ _
    revert h1 r1 s1 d1
    generalize sI c 36 11 (bI w) = c1
    intro h1 r1 s1 d1
    obtain ⟨c2, e2, r2, f2⟩ := f_cutN r1
    have h2 := h1.fr f2 (by decide) (by decide)
    have s2 := s1.fr f2 (by decide)
    have d2 : c2.1 36 11 = bI w := (f2.i (by decide) 11).trans d1
    rw [e2, bnd_some, d2]
    -- the row of the name
    have s75 : ∀ x : Int32, x = nI (q + 46 + nl2 t q) → RE (f_X5_isMember_75 N (nI q) c2 x (nI q + 46)) c2 Sm (mmB t q) (mmP t e bg q) := by
      intro x hx
      subst hx
      unfold f_X5_isMember_75
      obtain ⟨c3, e3, r3, f3⟩ := f_addRowS (b := 5) (f := 3) (i := q + 46) (j := q + 46 + nl2 t q) hN r2 h2 (by decide) (by decide) (by decide) (by omega) (by omega) (by omega)
      rw [List.nil_append, show q + 46 + nl2 t q - (q + 46) = nl2 t q by omega, map_gt t (q + 46) (nl2 t q) (by omega)] at r3
      have r3' : row c3 5 (nm2 t q) := r3
      have h3 := h2.fr f3 (by decide) (by decide)
      have s3 := s2.fr f3 (by decide)
      have d3 : c3.1 36 11 = bI (dr2 t q) := by rw [f3.i (by decide), d2, hw]
      rw [show nI q + 46 = nI (q + 46) from nI_add q 46, e3, bnd_some, d3]
      have lift : ∀ {X : Option (Int32 × hS)} {b : Bool}, RE X c3 Sm b (mmP t e bg q) → RE X c2 Sm b (mmP t e bg q) := fun ⟨c', a1, a2, a3⟩ => ⟨c', a1, (f3.mono (by decide)).tr a2, a3⟩
      apply lift
      unfold mmB
      cases hd : dr2 t q with
      | false => rw [if_pos (show bI false = 0 from rfl), if_neg (by decide)]; exact s143 c3 h3 s3 r3' d3
      | true =>
        rw [if_neg (by decide), if_pos rfl]
        unfold dzB
        rw [Bool.and_assoc, Bool.and_assoc, Bool.and_assoc, show nI q + 10 = nI (q + 10) from nI_add q 10]
        refine RE.and_ (RE.of (f_isZero2 hN h3 (by omega)) (by decide)) (fun c4 _ _ e4 => ?_)
        subst e4
        rw [show nI q + 16 = nI (q + 16) from nI_add q 16]
        refine RE.and_ (RE.of (f_isZero4 hN h3 (by omega)) (by decide)) (fun c5 _ _ e5 => ?_)
        subst e5
        rw [show nI q + 20 = nI (q + 20) from nI_add q 20]
        refine RE.and_ (RE.of (f_isZero4 hN h3 (by omega)) (by decide)) (fun c6 _ _ e6 => ?_)
        subst e6
        rw [show nI q + 24 = nI (q + 24) from nI_add q 24]
        refine RE.and_ (RE.of (f_isZero4 hN h3 (by omega)) (by decide)) (fun c7 _ _ e7 => ?_)
        subst e7
        exact s143 c7 h3 s3 r3' d3
    have lift : ∀ {X : Option (Int32 × hS)} {b : Bool}, RE X c2 Sm b (mmP t e bg q) → RE X c1 Sm b (mmP t e bg q) := fun ⟨c', a1, a2, a3⟩ => ⟨c', a1, (f2.mono (by decide)).tr a2, a3⟩
    apply lift
    cases w with
    | false =>
      rw [if_pos (show bI false = 0 from rfl)]
      apply s75
      unfold nl2
      rw [← hw, if_neg (by decide), Int32.sub_add_cancel]
    | true =>
      rw [if_neg (by decide)]
      apply s75
      have hp : 0 < eN t q := by
        unfold dr2 at hw
        have := hw.symm
        simp only [Bool.and_eq_true, decide_eq_true_eq] at this
        exact this.1
      unfold nl2
      rw [← hw, if_pos rfl, show nI (q + 46 + eN t q) - 1 = nI (q + 46 + eN t q - 1) from subI (b := 1) (by omega)]
      congr 1
      omega
  unfold f_X5_isMember f_X5_isMember_37
  rw [hs.2.2.2.1, show nI q + 46 = nI (q + 46) from nI_add q 46, nI_add]
  have bN : eN t q < 65536 := b28
  by_cases w0 : 0 < eN t q
  · have bb := h.2.2.2.gt (q + 46 + eN t q - 1)
    rw [if_neg (nI_nle w0 (by omega)), show nI (q + 46 + eN t q) - 1 = nI (q + 46 + eN t q - 1) from subI (b := 1) (by omega), f_get h (by omega), bnd_some, ← show nI (q + 46 + eN t q) - 1 = nI (q + 46 + eN t q - 1) from subI (b := 1) (by omega)]
    by_cases w1 : gt t (q + 46 + eN t q - 1) = 47
    · rw [if_pos (show nI (gt t (q + 46 + eN t q - 1)) = 47 by rw [w1]; rfl)]
      exact s38 true (by unfold dr2; rw [decide_eq_true w0, decide_eq_true w1]; rfl)
    · rw [if_neg (show ¬ nI (gt t (q + 46 + eN t q - 1)) = 47 from fun z => w1 ((nI_eq (by omega) (show 47 < 2 ^ 31 by decide)).mp z))]
      exact s38 false (by unfold dr2; rw [decide_eq_false w1, Bool.and_false])
  · have : eN t q = 0 := by omega
    rw [if_pos (show nI (eN t q) ≤ 0 by rw [this]; decide)]
    exact s38 false (by unfold dr2; rw [decide_eq_false w0]; rfl)
/-! the local head -/
noncomputable def ttB (t : List Nat) (p q n : Nat) : Bool := (List.range' 0 n).all fun i => decide (gt t (p + 30 + i) = gt t (q + 46 + i))
noncomputable def saB (t : List Nat) (p q : Nat) : Bool := decide (le2 t (p + 6) = le2 t (q + 8)) && (decide (le2 t (p + 8) = le2 t (q + 10)) && (decide (le4 t (p + 14) = le4 t (q + 16)) && (decide (le4 t (p + 18) = le4 t (q + 20)) && (decide (le4 t (p + 22) = le4 t (q + 24)) && (decide (le2 t (p + 26) = le2 t (q + 28)) && ttB t p q (eN t q))))))
theorem f_isSame {N : Nat} {c : hS} {t : List Nat} {e bg p q : Nat} (hN : 1000000 ≤ N) (h : row c 3 t) (hs : SL c t e bg q) (h13 : c.1 36 13 = nI p) (hp : p < 2 ^ 20) (hq : q < 2 ^ 20) : RB (f_X5_isSame N c (nI q)) c [9] (saB t p q) := by
  have b28 : eN t q < 65536 := le2_lt h.2.2.2 (q + 28)
  have c2 := fun k => le2_lt h.2.2.2 k
  have c4 := fun k => le4_lt h.2.2.2 k
  have RBif : ∀ {a b : Nat} {x y : Int64} {X Y : Option (Int32 × hS)} {bb : Bool}, x = lN a → y = lN b → a < 2 ^ 63 → b < 2 ^ 63 → RB X c [9] bb → RB Y c [9] false → RB (if j_cmp x y = 0 then X else Y) c [9] (decide (a = b) && bb) := by
    intro a b x y X Y bb hx hy ha hb h1 h2
    by_cases w : a = b
    · rw [if_pos ((cmp_eq' hx hy ha hb).mpr w), decide_eq_true w, Bool.true_and]; exact h1
    · rw [if_neg (fun z => w ((cmp_eq' hx hy ha hb).mp z)), decide_eq_false w]; exact h2
  unfold f_X5_isSame saB
  have key : ∀ n, RB (f_X5_isSame_2 N (nI q) (n + 7) c 0) c [9] (decide (le2 t (p + 6) = le2 t (q + 8)) && (decide (le2 t (p + 8) = le2 t (q + 10)) && (decide (le4 t (p + 14) = le4 t (q + 16)) && (decide (le4 t (p + 18) = le4 t (q + 20)) && (decide (le4 t (p + 22) = le4 t (q + 24)) && (decide (le2 t (p + 26) = le2 t (q + 28)) && ttB t p q (eN t q))))))) := by
    intro n
    rw [f_X5_isSame_2, if_neg (by decide), if_neg (by decide), show j_in 0 sa6.length = true from by decide, cond_true, show j_in 0 sa7.length = true from by decide, cond_true, show sa6.getD (0 : Int32).toNatClampNeg 0 = nI 6 from by decide, show sa7.getD (0 : Int32).toNatClampNeg 0 = 2 from by decide, h13, nI_add, nI_add, show nI (q + 6) + 2 = nI (q + 8) from nI_add (q + 6) 2, f_little2 hN h (by omega), bnd_some, f_little2 hN h (by omega), bnd_some]
    refine RBif rfl rfl (by have := c2 (p + 6); omega) (by have := c2 (q + 8); omega) ?_ RB.tellb
    rw [f_X5_isSame_2, if_neg (by decide), if_neg (by decide), show j_in (0 + 1) sa6.length = true from by decide, cond_true, show j_in (0 + 1) sa7.length = true from by decide, cond_true, show sa6.getD ((0 + 1) : Int32).toNatClampNeg 0 = nI 8 from by decide, show sa7.getD ((0 + 1) : Int32).toNatClampNeg 0 = 2 from by decide, h13, nI_add, nI_add, show nI (q + 8) + 2 = nI (q + 10) from nI_add (q + 8) 2, f_little2 hN h (by omega), bnd_some, f_little2 hN h (by omega), bnd_some]
    refine RBif rfl rfl (by have := c2 (p + 8); omega) (by have := c2 (q + 10); omega) ?_ RB.tellb
    rw [f_X5_isSame_2, if_neg (by decide), if_neg (by decide), show j_in (0 + 1 + 1) sa6.length = true from by decide, cond_true, show j_in (0 + 1 + 1) sa7.length = true from by decide, cond_true, show sa6.getD ((0 + 1 + 1) : Int32).toNatClampNeg 0 = nI 14 from by decide, show sa7.getD ((0 + 1 + 1) : Int32).toNatClampNeg 0 = 4 from by decide, h13, nI_add, nI_add, show nI (q + 14) + 2 = nI (q + 16) from nI_add (q + 14) 2, f_little4 hN h (by omega), bnd_some, f_little4 hN h (by omega), bnd_some]
    refine RBif rfl rfl (by have := c4 (p + 14); omega) (by have := c4 (q + 16); omega) ?_ RB.tellb
    rw [f_X5_isSame_2, if_neg (by decide), if_neg (by decide), show j_in (0 + 1 + 1 + 1) sa6.length = true from by decide, cond_true, show j_in (0 + 1 + 1 + 1) sa7.length = true from by decide, cond_true, show sa6.getD ((0 + 1 + 1 + 1) : Int32).toNatClampNeg 0 = nI 18 from by decide, show sa7.getD ((0 + 1 + 1 + 1) : Int32).toNatClampNeg 0 = 4 from by decide, h13, nI_add, nI_add, show nI (q + 18) + 2 = nI (q + 20) from nI_add (q + 18) 2, f_little4 hN h (by omega), bnd_some, f_little4 hN h (by omega), bnd_some]
    refine RBif rfl rfl (by have := c4 (p + 18); omega) (by have := c4 (q + 20); omega) ?_ RB.tellb
    rw [f_X5_isSame_2, if_neg (by decide), if_neg (by decide), show j_in (0 + 1 + 1 + 1 + 1) sa6.length = true from by decide, cond_true, show j_in (0 + 1 + 1 + 1 + 1) sa7.length = true from by decide, cond_true, show sa6.getD ((0 + 1 + 1 + 1 + 1) : Int32).toNatClampNeg 0 = nI 22 from by decide, show sa7.getD ((0 + 1 + 1 + 1 + 1) : Int32).toNatClampNeg 0 = 4 from by decide, h13, nI_add, nI_add, show nI (q + 22) + 2 = nI (q + 24) from nI_add (q + 22) 2, f_little4 hN h (by omega), bnd_some, f_little4 hN h (by omega), bnd_some]
    refine RBif rfl rfl (by have := c4 (p + 22); omega) (by have := c4 (q + 24); omega) ?_ RB.tellb
    rw [f_X5_isSame_2, if_neg (by decide), if_neg (by decide), show j_in (0 + 1 + 1 + 1 + 1 + 1) sa6.length = true from by decide, cond_true, show j_in (0 + 1 + 1 + 1 + 1 + 1) sa7.length = true from by decide, cond_true, show sa6.getD ((0 + 1 + 1 + 1 + 1 + 1) : Int32).toNatClampNeg 0 = nI 26 from by decide, show sa7.getD ((0 + 1 + 1 + 1 + 1 + 1) : Int32).toNatClampNeg 0 = 2 from by decide, h13, nI_add, nI_add, show nI (q + 26) + 2 = nI (q + 28) from nI_add (q + 26) 2, f_little2 hN h (by omega), bnd_some, f_little2 hN h (by omega), bnd_some]
    refine RBif rfl rfl (by have := c2 (p + 26); omega) (by have := c2 (q + 28); omega) ?_ RB.tellb
    rw [f_X5_isSame_2, if_pos (by decide)]
    refine all_loop (F := f_X5_isSame_88 N (nI q)) (c := c) (j := eN t q) (P := fun i => decide (gt t (p + 30 + i) = gt t (q + 46 + i))) (fun n' k hk => ?_) (fun n' => ?_) (eN t q) N 0 (by omega) (by omega)
    · have e1 := h.2.2.2.gt (p + 30 + k)
      have e2 := h.2.2.2.gt (q + 46 + k)
      rw [f_X5_isSame_88, hs.2.2.2.1, if_neg (nI_ge hk (by omega)), h13, show nI p + 30 + nI k = nI (p + 30 + k) by rw [show (30 : Int32) = nI 30 from rfl, nI_add, nI_add], show nI q + 46 + nI k = nI (q + 46 + k) by rw [show (46 : Int32) = nI 46 from rfl, nI_add, nI_add], f_get h (by omega), bnd_some, f_get h (by omega), bnd_some]
      constructor
      · intro w
        rw [of_decide_eq_true w, if_pos rfl]
      · intro w
        rw [if_neg (fun z => (of_decide_eq_false w) ((nI_eq (by omega) (by omega)).mp z))]
        obtain ⟨c', a1, a2, _⟩ := RB.tellb (c := c) (a := 13) (p := c.1 36 13 + 30 + nI k)
        exact ⟨c', a1, a2⟩
    · rw [f_X5_isSame_88, hs.2.2.2.1, if_pos (nI_le (Nat.le_refl _) (by omega))]
  have := key (N - 7)
  rwa [show N - 7 + 7 = N by omega] at this
noncomputable def pl2 (t : List Nat) (q : Nat) : Nat := le4 t (q + 42)
noncomputable def dt2 (t : List Nat) (q : Nat) : Nat := pl2 t q + 30 + eN t q + le2 t (pl2 t q + 28)
noncomputable def lcB (t : List Nat) (bg q : Nat) : Bool := decide (pl2 t q + 30 ≤ bg) && (mkB t (pl2 t q) mk3 && (saB t (pl2 t q) q && decide (dt2 t q + le4 t (q + 20) ≤ bg)))
theorem f_isLocal {N : Nat} {c : hS} {t : List Nat} {e bg q : Nat} (hN : 1000000 ≤ N) (h : row c 3 t) (hs : SL c t e bg q) (hbg : bg ≤ 20000) (hq : q ≤ 20000) : RE (f_X5_isLocal N c (nI q)) c Sc (lcB t bg q) (fun c1 => SL c1 t e bg q ∧ c1.1 36 11 = c.1 36 11 ∧ c1.1 36 12 = c.1 36 12 ∧ c1.1 36 14 = nI (dt2 t q) ∧ c1.1 36 15 = nI (dt2 t q + le4 t (q + 20))) := by
  have b28 : eN t q < 65536 := le2_lt h.2.2.2 (q + 28)
  have b42 : pl2 t q < 2 ^ 32 := le4_lt h.2.2.2 (q + 42)
  have b20 := le4_lt h.2.2.2 (q + 20)
  have bl := le2_lt h.2.2.2 (pl2 t q + 28)
  unfold f_X5_isLocal lcB
  rw [show nI q + 42 = nI (q + 42) from nI_add q 42, f_little4 hN h (by omega), bnd_some, hs.2.1, show (30 : Int64) = lN 30 from rfl, lN_add, nI_l (by omega)]
  rw [show le4 t (q + 42) = pl2 t q from rfl]
  refine RE.if_ (cmp_le' rfl rfl (by omega) (by omega)) (fun w => ?_) (RE.tb (by decide))
  refine RE.set (by decide) ?_
  try dsimp only
  rw [lN_i, sI_s]
  have h1 := h.fr (S := [36]) (c1 := sI c 36 13 (nI (pl2 t q))) (fr.sI (by simp)) (by decide) (by decide)
  have s1 := hs.set (j := 13) (x := nI (pl2 t q)) (by decide)
  have a11 : (sI c 36 13 (nI (pl2 t q))).1 36 11 = c.1 36 11 := sI_j (by decide)
  have a12 : (sI c 36 13 (nI (pl2 t q))).1 36 12 = c.1 36 12 := sI_j (by decide)
  have a13 : (sI c 36 13 (nI (pl2 t q))).1 36 13 = nI (pl2 t q) := sI_s _ _ _ _
  revert h1 s1 a11 a12 a13
  generalize sI c 36 13 (nI (pl2 t q)) = c1
  intro h1 s1 a11 a12 a13
  refine RE.and_ (RE.of (f_isMarked (m := mk3) hN h1 (by omega) (by decide) (show byt mk3 from (by decide : ∀ x ∈ mk3, x < 256)) (by decide)) (by decide)) (fun c2 _ _ e2 => ?_)
  subst e2
  refine RE.and_ (RE.of (f_isSame hN h1 s1 a13 (by omega) (by omega)) (by decide)) (fun c3 _ _ e3 => ?_)
  subst e3
  rw [a13, show nI (pl2 t q) + 28 = nI (pl2 t q + 28) from nI_add _ 28, f_little2 hN h1 (by omega), bnd_some]
  refine RE.set (by decide) ?_
  try dsimp only
  rw [sI_s, s1.2.2.2.1, lN_i, show nI (pl2 t q) + 30 = nI (pl2 t q + 30) from nI_add _ 30, nI_add, nI_add, show pl2 t q + 30 + eN t q + le2 t (pl2 t q + 28) = dt2 t q from rfl]
  have h4 := h1.fr (S := [36]) (c1 := sI c3 36 14 (nI (dt2 t q))) (fr.sI (by simp)) (by decide) (by decide)
  have hdt : dt2 t q < 2 ^ 20 := by unfold dt2; omega
  rw [show nI q + 20 = nI (q + 20) from nI_add q 20, f_little4 hN h4 (by omega), bnd_some, sI_j (show (7 : Nat) ≠ 14 by decide), s1.2.1, nI_l (show dt2 t q < 2 ^ 31 by omega), nI_l (show bg < 2 ^ 31 by omega), lN_add]
  have fin : dt2 t q + le4 t (q + 20) ≤ bg → RE (st1 (sI (sI c3 36 14 (nI (dt2 t q))) 36 15 ((lN (dt2 t q + le4 t (q + 20))).toInt32)) fun c13 => some (1, c13)) (sI c3 36 14 (nI (dt2 t q))) Sc true (fun c1 => SL c1 t e bg q ∧ c1.1 36 11 = c.1 36 11 ∧ c1.1 36 12 = c.1 36 12 ∧ c1.1 36 14 = nI (dt2 t q) ∧ c1.1 36 15 = nI (dt2 t q + le4 t (q + 20))) := by
    intro _
    refine RE.set (by decide) ?_
    rw [lN_i]
    exact RE.yes ⟨(s1.set (by decide)).set (by decide), by rw [sI_j (by decide), sI_j (by decide)]; exact a11, by rw [sI_j (by decide), sI_j (by decide)]; exact a12, by rw [sI_j (by decide), sI_s], sI_s _ _ _ _⟩
  have := RE.if_ (b := true) (cmp_le' (rfl : lN (dt2 t q + le4 t (q + 20)) = _) (rfl : lN bg = _) (by omega) (by omega)) fin (RE.tb (c := sI c3 36 14 (nI (dt2 t q))) (a := 12) (p := nI (q + 42)) (by decide))
  rwa [Bool.and_true] at this
