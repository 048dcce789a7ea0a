/-! PURE: the class reads kind 0 -/
/-- bytes up to the first 0, n at most -/
noncomputable def cstr (t : List Nat) : Nat → Nat → List Nat
  | _, 0 => []
  | p, n + 1 => if gt t p = 0 then [] else gt t p :: cstr t (p + 1) n
theorem cstr_len (t : List Nat) : ∀ p n, (cstr t p n).length ≤ n
  | p, 0 => Nat.le_refl _
  | p, n + 1 => by
    unfold cstr
    split
    · simp
    · have := cstr_len t (p + 1) n
      simp; omega
theorem f_addToPath {N : Nat} {c : hS} {t l : List Nat} {p n : Nat} (hN : 1000000 ≤ N) (h : row c 3 t) (hl : row c 5 l) (hp : p < 2 ^ 30) (hn : l.length + n ≤ 256) : ∃ c', f_X1_addToPath N c (nI p) (nI n) = some ((), c') ∧ row c' 5 (l ++ cstr t p n) ∧ fr [5, 6] c c' := by
  have key : ∀ d n' k c l, k + d = p + n → d < n' → row c 3 t → row c 5 l → l.length + d ≤ 256 → ∃ c', f_X1_addToPath_2 N (nI p) (nI n) n' c (nI k) = some ((), c') ∧ row c' 5 (l ++ cstr t k d) ∧ fr [5, 6] c c' := by
    intro d
    induction d with
    | zero =>
      intro n' k c l hk hn' h hl _
      obtain ⟨n', rfl⟩ : ∃ m, n' = m + 1 := ⟨n' - 1, by omega⟩
      rw [f_X1_addToPath_2, nI_add, if_pos (nI_le (by omega) (by omega))]
      exact ⟨c, rfl, by simpa [cstr] using hl, fr.rf⟩
    | succ d ih =>
      intro n' k c l hk hn' h hl hll
      obtain ⟨n', rfl⟩ : ∃ m, n' = m + 1 := ⟨n' - 1, by omega⟩
      have bb := h.2.2.2.gt k
      rw [f_X1_addToPath_2, nI_add, if_neg (nI_ge (by omega) (by omega)), f_get h (by omega), bnd_some]
      unfold cstr
      by_cases e : gt t k = 0
      · rw [e, if_pos nI_0, if_pos rfl]
        exact ⟨c, rfl, by simpa using hl, fr.rf⟩
      · rw [if_neg (nI_ne0 (by omega) (by omega)), if_neg e, f_get h (by omega), bnd_some]
        obtain ⟨c1, e1, r1, f1⟩ := f_add (nI (gt t k)) hl (show l.length < ln (5 + 1) from (by show l.length < 256; omega))
        rw [b8_nI' bb] at r1
        obtain ⟨c2, e2, r2, f2⟩ := ih n' (k + 1) c1 _ (by omega) (by omega) (h.fr f1 (by decide) (by decide)) r1 (by simp; omega)
        refine ⟨c2, ?_, by simpa using r2, f1.tr f2⟩
        rw [e1, bnd_some, nI_1]
        exact e2
  exact key n N p c l rfl (by omega) h hl hn
/-- the name as it is spelt in a head -/
noncomputable def spl0 (t : List Nat) (p : Nat) : List Nat := (if (cstr t (p + 345) 155).length = 0 then [] else cstr t (p + 345) 155 ++ [47]) ++ cstr t p 100
noncomputable def spl (t : List Nat) (p : Nat) (d : Bool) : List Nat := if d = true ∧ gt (spl0 t p) ((spl0 t p).length - 1) = 47 then (spl0 t p).take ((spl0 t p).length - 1) else spl0 t p
theorem spl0_len (t : List Nat) (p : Nat) : (spl0 t p).length ≤ 256 := by
  unfold spl0
  have h1 := cstr_len t (p + 345) 155
  have h2 := cstr_len t p 100
  split
  · simp; omega
  · simp; omega
theorem f_spell {N : Nat} {c : hS} {t : List Nat} {p : Nat} {d : Bool} (hN : 1000000 ≤ N) (h : row c 3 t) (hl : 0 ≤ c.1 5 1) (hp : p < 2 ^ 29) : ∃ c', f_X1_spell N c (nI p) (bI d) = some ((), c') ∧ row c' 5 (spl t p d) ∧ fr [5, 6] c c' := by
  have up : ∀ {a b : hS}, fr [5] a b → fr [5, 6] a b := fun q => q.mono (fun o ho => by simp at ho ⊢; omega)
  have sl := spl0_len t p
  -- the second half
  have half : ∀ c u, row c 3 t → row c 5 u → u ++ cstr t p 100 = spl0 t p → u.length ≤ 156 → ∃ c', f_X1_spell_39 N (nI p) (bI d) c = some ((), c') ∧ row c' 5 (spl t p d) ∧ fr [5, 6] c c' := by
    intro c u h hu he hul
    unfold f_X1_spell_39
    obtain ⟨c1, e1, r1, f1⟩ := f_addToPath (p := p) (n := 100) hN h hu (by omega) (by omega)
    rw [he] at r1
    rw [show (100 : Int32) = nI 100 from rfl, e1, bnd_some, f_size r1, bnd_some]
    unfold spl
    cases d with
    | false =>
      rw [if_pos (show bI false = 0 from rfl), if_neg (by simp)]
      exact ⟨c1, rfl, r1, f1⟩
    | true =>
      rw [if_neg (by decide)]
      by_cases e0 : (spl0 t p).length = 0
      · rw [e0, show nI 0 - 1 = (-1 : Int32) from rfl, f_get_neg (by decide), bnd_some, if_neg (by decide), if_neg (by rintro ⟨_, q⟩; rw [gt_ge (by omega)] at q; omega)]
        exact ⟨c1, rfl, r1, f1⟩
      · rw [show nI (spl0 t p).length - 1 = nI ((spl0 t p).length - 1) from subI (b := 1) (by omega), f_get r1 (by omega), bnd_some]
        have bb := r1.2.2.2.gt ((spl0 t p).length - 1)
        by_cases e2 : gt (spl0 t p) ((spl0 t p).length - 1) = 47
        · rw [if_pos (show nI (gt (spl0 t p) ((spl0 t p).length - 1)) = 47 by rw [e2]; rfl), if_pos ⟨rfl, e2⟩]
          obtain ⟨c2, e2', r2, f2⟩ := f_cut (k := (spl0 t p).length - 1) r1 (by omega)
          rw [e2', bnd_some]
          exact ⟨c2, rfl, r2, f1.tr (up f2)⟩
        · rw [if_neg (show ¬ nI (gt (spl0 t p) ((spl0 t p).length - 1)) = 47 from fun z => e2 ((nI_eq (by omega) (show 47 < 2 ^ 31 by decide)).mp z)), if_neg (fun q => e2 q.2)]
          exact ⟨c1, rfl, r1, f1⟩
  unfold f_X1_spell
  obtain ⟨c1, e1, r1, f1⟩ := f_cutN hl
  have h1 := h.fr f1 (by decide) (by decide)
  rw [e1, bnd_some, show nI p + 345 = nI (p + 345) from nI_add p 345]
  obtain ⟨c2, e2, r2, f2⟩ := f_addToPath (n := 155) hN h1 r1 (p := p + 345) (by omega) (by simp)
  rw [List.nil_append] at r2
  have h2 := h1.fr f2 (by decide) (by decide)
  have cl := cstr_len t (p + 345) 155
  rw [show (155 : Int32) = nI 155 from rfl, e2, bnd_some, f_size r2, bnd_some]
  by_cases e : (cstr t (p + 345) 155).length = 0
  · rw [e, if_pos (show nI 0 ≤ 0 by decide)]
    obtain ⟨c3, e3, r3, f3⟩ := half c2 _ h2 r2 (by unfold spl0; rw [if_pos e, List.length_eq_zero_iff.mp e]) (by omega)
    exact ⟨c3, e3, r3, ((up f1).tr f2).tr f3⟩
  · rw [if_neg (nI_nle (by omega) (by omega))]
    obtain ⟨c3, e3, r3, f3⟩ := f_add 47 r2 (show (cstr t (p + 345) 155).length < 256 by omega)
    rw [e3, bnd_some]
    obtain ⟨c4, e4, r4, f4⟩ := half c3 _ (h2.fr f3 (by decide) (by decide)) r3 (by unfold spl0; rw [if_neg e]; rfl) (by simp; omega)
    exact ⟨c4, e4, r4, (((up f1).tr f2).tr f3).tr f4⟩
/-- the members that kind 0 tells -/
noncomputable def rd0 (t : List Nat) : Nat → Nat → List Mb → Option (List Mb)
  | 0, _, _ => none
  | n + 1, p, ms => if t.length < p + 512 then none else if emB t p = true then (if p + 1024 ≤ t.length ∧ zerB t p = true then some ms else none) else if hdB t p = true ∧ nameB (spl t p (decide (gt t (p + 156) = 53))) = true ∧ p + 512 + upTo (octV t (p + 124) 11 0) 512 ≤ t.length ∧ mayB ms (spl t p (decide (gt t (p + 156) = 53))) (decide (gt t (p + 156) = 53)) = true then rd0 t n (p + 512 + upTo (octV t (p + 124) 11 0) 512) (comeM ms (spl t p (decide (gt t (p + 156) = 53)), (t.drop (p + 512)).take (octV t (p + 124) 11 0), decide (gt t (p + 156) = 53))) else none
noncomputable def S0 (s : Nat) : List Nat := 9 :: 5 :: 6 :: shR s
theorem S0_9 {s : Nat} {c c' : hS} (h : fr [9] c c') : fr (S0 s) c c' := h.mono (fun o ho => by simp at ho; simp [S0, ho])
theorem S0_56 {s : Nat} {c c' : hS} (h : fr [5, 6] c c') : fr (S0 s) c c' := h.mono (fun o ho => by simp at ho; rcases ho with q | q <;> simp [S0, q])
/-- what reading says -/
noncomputable def RD (X : Option (Int32 × hS)) (c : hS) (s : Nat) (S : List Nat) (r : Option (List Mb)) : Prop := ∃ c', X = some (bI r.isSome, c') ∧ fr S c c' ∧ (∃ ms, shf c' s ms) ∧ ∀ ms, r = some ms → shf c' s ms
theorem RD.no {X : Option (Int32 × hS)} {c c1 : hS} {s : Nat} {S Nn : List Nat} {b : Bool} {ms : List Mb} (hX : ∃ c', X = some (bI b, c') ∧ fr Nn c1 c') (hb : b = false) (hf : fr S c c1) (hsh : shf c1 s ms) (hs : s = 37 ∨ s = 119) (h1 : ∀ o, o ∈ Nn → o < 37 ∧ o ∈ S) : RD X c s S none := by
  obtain ⟨c', e, f⟩ := hX
  subst hb
  exact ⟨c', e, hf.tr (f.mono (fun o ho => (h1 o ho).2)), ⟨ms, hsh.fr f (fun o ho => by have := (h1 o ho).1; omega)⟩, fun ms h => by cases h⟩
theorem S0n9 {s : Nat} : ∀ o, o ∈ [9] → o < 37 ∧ o ∈ S0 s := fun o ho => by simp at ho; subst ho; simp [S0]
theorem S0n956 {s : Nat} : ∀ o, o ∈ [9, 5, 6] → o < 37 ∧ o ∈ S0 s := fun o ho => by simp at ho; rcases ho with rfl | rfl | rfl <;> simp [S0]
theorem f_takeIn0 {N : Nat} {c : hS} {s : Nat} {t : List Nat} {ms : List Mb} (hN : 1000000 ≤ N) (h : row c 3 t) (hl : 0 ≤ c.1 5 1) (hsh : shf c s ms) (hs : s = 37 ∨ s = 119) : RD (f_X1_takeIn N c s) c s (S0 s) (rd0 t 41 0 ms) := by
  have hln : t.length ≤ 20000 := h.1
  have tell184 : ∀ c1, row c1 3 t → ∃ c', f_X1_takeIn_184 N s c1 = some (bI false, c') ∧ fr [9] c1 c' := by
    intro c1 h1
    unfold f_X1_takeIn_184
    rw [f_size h1, bnd_some]
    obtain ⟨c', a1, a2, _⟩ := RB.tellb (c := c1) (a := 1) (p := nI t.length)
    exact ⟨c', a1, a2⟩
  have key : ∀ d n p k c ms, t.length < p + 512 * d → d < n → 512 * k ≤ p → p ≤ t.length → row c 3 t → 0 ≤ c.1 5 1 → shf c s ms → RD (f_X1_takeIn_4 N s n c (nI p) (nI k)) c s (S0 s) (rd0 t d p ms) := by
    intro d
    induction d with
    | zero => intro n p k c ms h1 _ _ h2; omega
    | succ d ih =>
      intro n p k c ms hpd hn hk hp h hl hsh
      obtain ⟨n, rfl⟩ : ∃ m, n = m + 1 := ⟨n - 1, by omega⟩
      rw [f_X1_takeIn_4, if_neg (show ¬ (20000 : Int32) ≤ nI k from nI_ge (b := 20000) (by omega) (by decide)), f_size h, bnd_some, show nI p + 512 = nI (p + 512) from nI_add p 512]
      unfold rd0
      by_cases e1 : t.length < p + 512
      · rw [if_pos (nI_lt e1 (by omega)), if_pos e1]
        exact RD.no (tell184 c h) rfl fr.rf hsh hs S0n9
      · rw [if_neg (nI_nlt (by omega) h.lt), if_neg e1, f_isEmptyBlock hN h (by omega), bnd_some]
        cases hem : emB t p with
        | true =>
          rw [if_neg (by decide), if_pos rfl, show nI p + 1024 = nI (p + 1024) from nI_add p 1024]
          obtain ⟨c', a1, a2, a3⟩ := RB.and_ (B := fun c10 => bnd (f_X0_isZeroFrom N c10 (nI p)) fun x11 c12 => if x11 = 0 then some (0, c12) else some (1, c12)) (f_reaches (k := p + 1024) h (by omega)) (fun _ => RB.last_ (f_isZeroFrom hN h (p := p) (by omega)))
          by_cases q : p + 1024 ≤ t.length ∧ zerB t p = true
          · rw [decide_eq_true q.1, q.2] at a1 a3
            cases a3 rfl
            rw [if_pos q]
            exact ⟨c, a1, fr.rf, ⟨_, hsh⟩, fun ms' e => by cases e; exact hsh⟩
          · rw [if_neg q]
            refine RD.no ⟨c', a1, a2⟩ ?_ fr.rf hsh hs S0n9
            cases hz : zerB t p with
            | false => rw [Bool.and_false]
            | true => rw [decide_eq_false (fun z => q ⟨z, hz⟩)]; rfl
        | false =>
          rw [if_pos (show bI false = 0 from rfl), if_neg (by decide)]
          obtain ⟨c6, b1, b2, b3⟩ := f_isHead0 hN h (p := p) (by omega)
          rw [b1, bnd_some]
          cases hh : hdB t p with
          | false =>
            rw [hh] at b1
            rw [if_pos (show bI false = 0 from rfl), if_neg (by simp)]
            exact RD.no ⟨c6, rfl, b2⟩ rfl fr.rf hsh hs S0n9
          | true =>
            cases b3 hh
            have bb := h.2.2.2.gt (p + 156)
            rw [if_neg (by decide), show nI p + 156 = nI (p + 156) from nI_add p 156, f_get h (by omega), bnd_some]
            have hsz : octV t (p + 124) 11 0 ≤ 400 := by
              unfold hdB soB at hh
              simp only [Bool.and_eq_true, decide_eq_true_eq] at hh
              have := hh.2.2.2.2.2.2.2.2
              split at this <;> omega
            have st92 : ∀ db : Bool, db = decide (gt t (p + 156) = 53) → RD (f_X1_takeIn_92 N s (f_X1_takeIn_4 N s n) c (nI p) (nI k) (bI db)) c s (S0 s) (if nameB (spl t p db) = true ∧ p + 512 + upTo (octV t (p + 124) 11 0) 512 ≤ t.length ∧ mayB ms (spl t p db) db = true then rd0 t d (p + 512 + upTo (octV t (p + 124) 11 0) 512) (comeM ms (spl t p db, (t.drop (p + 512)).take (octV t (p + 124) 11 0), db)) else none) := by
              intro db hdb
              unfold f_X1_takeIn_92
              rw [show nI p + 124 = nI (p + 124) from nI_add p 124, show (11 : Int32) = nI 11 from rfl, f_octal hN h (by omega) (by decide), bnd_some, lN_i, show (512 : Int32) = nI 512 from rfl, f_roundedUp (by omega) (by decide) (by decide), bnd_some]
              have hu := upTo_le (a := octV t (p + 124) 11 0) (b := 512) (by decide)
              obtain ⟨c5, e5, r5, f5⟩ := f_spell (d := db) hN h hl (p := p) (by omega)
              have h5 := h.fr f5 (by decide) (by decide)
              have s5 := hsh.fr f5 (fun o ho => by simp only [List.mem_cons, List.not_mem_nil, or_false] at ho; omega)
              rw [e5, bnd_some, nI_add, nI_add, nI_add]
              obtain ⟨c7, a1, a2, a3⟩ := f_isNamed (p := nI p) hN r5
              rw [a1, bnd_some]
              cases hnm : nameB (spl t p db) with
              | false =>
                rw [if_pos (show bI false = 0 from rfl), if_neg (by simp)]
                exact RD.no ⟨c7, rfl, a2⟩ rfl (S0_56 f5) s5 hs S0n9
              | true =>
                cases a3 hnm
                rw [if_neg (by decide)]
                obtain ⟨c9, g1, g2, g3⟩ := f_reaches (k := p + 512 + upTo (octV t (p + 124) 11 0) 512) h5 (by omega)
                rw [g1, bnd_some]
                by_cases q2 : p + 512 + upTo (octV t (p + 124) 11 0) 512 ≤ t.length
                · rw [decide_eq_true q2] at g1 g3 ⊢
                  cases g3 rfl
                  rw [if_neg (by decide)]
                  have nl : (spl t p db).length ≤ 90 := by
                    unfold nameB at hnm
                    simp only [Bool.and_eq_true, decide_eq_true_eq] at hnm
                    exact hnm.1.2
                  obtain ⟨c11, m1, m2, m3, mf⟩ := f_arrives (d := db) (p := nI p) (i := p + 512) (j := p + 512 + octV t (p + 124) 11 0) hN s5 hs r5 h5 (by decide) nl (by omega) (by omega) (by omega)
                  rw [m1, bnd_some]
                  have m2' : fr (S0 s) c5 c11 := m2.mono (fun o ho => by rcases List.mem_cons.mp ho with q | q <;> simp [S0, q])
                  cases hmy : mayB ms (spl t p db) db with
                  | false =>
                    rw [if_pos (show bI false = 0 from rfl), if_neg (by simp)]
                    exact RD.no ⟨c11, rfl, mf hmy⟩ rfl (S0_56 f5) s5 hs S0n9
                  | true =>
                    rw [if_neg (by decide), if_pos ⟨rfl, q2, rfl⟩]
                    obtain ⟨m4, m5⟩ := m3 hmy
                    rw [show p + 512 + octV t (p + 124) 11 0 - (p + 512) = octV t (p + 124) 11 0 by omega] at m4
                    rw [nI_1]
                    have ns : ∀ o, o < 37 → o ∉ shR s := fun o ho q => by rw [shR_mem] at q; omega
                    obtain ⟨c12, z1, z2, z3⟩ := ih n _ (k + 1) c11 _ (by omega) (by omega) (by omega) q2 (h5.fr m5 (ns _ (by decide)) (ns _ (by decide))) (r5.fr m5 (ns _ (by decide)) (ns _ (by decide))).nn m4
                    exact ⟨c12, z1, ((S0_56 f5).tr m2').tr z2, z3⟩
                · rw [decide_eq_false q2, if_pos (show bI false = 0 from rfl), if_neg (fun z => q2 z.2.1)]
                  exact RD.no ⟨c9, rfl, g2⟩ rfl (S0_56 f5) s5 hs S0n9
            by_cases q : gt t (p + 156) = 53
            · rw [if_pos (show nI (gt t (p + 156)) = 53 by rw [q]; rfl)]
              have := st92 true (decide_eq_true q).symm
              rw [decide_eq_true q]
              simpa [bI] using this
            · rw [if_neg (show ¬ nI (gt t (p + 156)) = 53 from fun z => q ((nI_eq (by omega) (show 53 < 2 ^ 31 by decide)).mp z))]
              have := st92 false (decide_eq_false q).symm
              rw [decide_eq_false q]
              simpa [bI] using this
  exact key 41 N 0 0 c ms (by omega) (by omega) (by omega) (by omega) h hl hsh
