/-! PURE: the class's public methods: write, read, come -/
theorem f_archiveOf {c : hS} {w : Int32} : f_X11_archiveOf c w = some (if w = 0 then some 34 else if w = 1 then some 35 else if w = 2 then some 36 else none, c) := by
  unfold f_X11_archiveOf
  rcases i_cases w with q | ⟨k, hk, rfl⟩
  · rw [if_pos q, if_neg (fun z => by rw [z] at q; exact absurd q (by decide)), if_neg (fun z => by rw [z] at q; exact absurd q (by decide)), if_neg (fun z => by rw [z] at q; exact absurd q (by decide))]
  · rw [if_neg (nI_pos hk), show (Int32.ofNat (ln 33)) = nI 3 from rfl]
    by_cases h3 : 3 ≤ k
    · rw [if_pos (nI_le h3 hk), if_neg (fun z => by have := (nI_eq hk (show 0 < 2 ^ 31 by decide)).mp z; omega), if_neg (fun z => by have := (nI_eq hk (show 1 < 2 ^ 31 by decide)).mp z; omega), if_neg (fun z => by have := (nI_eq hk (show 2 < 2 ^ 31 by decide)).mp z; omega)]
    · rw [if_neg (nI_ge (by omega) (by decide)), show ln 33 = 3 from rfl, j_in_nI (show k < 3 by omega) (by decide), cond_true, nI_clamp hk]
      match k, h3 with
      | 0, _ => rfl
      | 1, _ => rfl
      | 2, _ => rfl
      | k + 3, h3 => exact absurd (by omega) h3
noncomputable def wrK (w : Int32) : Nat := if w = 0 ∨ w = 1 ∨ w = 2 then 0 else 1
noncomputable def wrT (t : List Nat) (ms : List Mb) (w : Int32) (pk : Bool) : List Nat := if w = 0 then all0 ms else if w = 1 then w1 ms 1 0 else if w = 2 then w2 pk ms else t
theorem c_write {N : Nat} {g c : hS} {b t : List Nat} {ms : List Mb} {w : Int32} {pk : Bool} (hN : 1000000 ≤ N) (h : PC g c b t ms) : AN g (f_X11_write N c w (bI pk)) onM (wrK w) (nI (wrT t ms w pk).length) b (wrT t ms w pk) ms := by
  unfold f_X11_write wrK wrT
  rw [f_archiveOf, bnd_some]
  obtain ⟨c4, e4, r4, f4⟩ := f_cut0 h.2.1
  have h4 := h.tap (f4.mono (by decide)) r4
  obtain ⟨s, s1, s2, s3, s4⟩ := h4.sh
  have ok := s3.ok s2
  by_cases w0 : w = 0
  · rw [if_pos w0, if_pos (Or.inl w0), if_pos w0]
    dsimp only [opt]
    rw [e4, bnd_some, s1, s4, cond_true, if_pos rfl]
    obtain ⟨c6, a1, a2, a3⟩ := f_layOut0 (w := bI pk) hN r4 s3 s2 ok rfl
    rw [a1, bnd_some, f_size a2, bnd_some]
    exact AN.ok rfl rfl (h4.tap (a3.mono (by decide)) a2)
  · by_cases w1' : w = 1
    · rw [if_neg w0, if_pos w1', if_pos (Or.inr (Or.inl w1')), if_neg w0, if_pos w1']
      dsimp only [opt]
      rw [e4, bnd_some, s1, s4, cond_true, if_neg (by decide), if_pos rfl]
      obtain ⟨c6, a1, a2, a3⟩ := f_layOut1 (w := bI pk) hN r4 s3 s2 ok
      rw [a1, bnd_some, f_size a2, bnd_some]
      exact AN.ok rfl rfl (h4.tap (a3.mono (by decide)) a2)
    · by_cases w2' : w = 2
      · rw [if_neg w0, if_neg w1', if_pos w2', if_pos (Or.inr (Or.inr w2')), if_neg w0, if_neg w1', if_pos w2']
        dsimp only [opt]
        rw [e4, bnd_some, s1, s4, cond_true, if_neg (by decide), if_neg (by decide), if_pos rfl]
        obtain ⟨c6, a1, a2, a3⟩ := f_layOut2 (pk := pk) hN r4 s3 s2 ok
        rw [a1, bnd_some, f_size a2, bnd_some]
        exact AN.ok rfl rfl (h4.tap a3 a2)
      · rw [if_neg w0, if_neg w1', if_neg w2', if_neg (fun z => by rcases z with z | z | z <;> contradiction), if_neg w0, if_neg w1', if_neg w2']
        exact AN.no rfl rfl (by decide) h
/-! read -/
noncomputable def rdR (t : List Nat) (w : Int32) : Option (List Mb) := if w = 0 then rd0 t 41 0 [] else if w = 1 then rd1 t 190 0 [] else if w = 2 then rd2 t [] else none
noncomputable def rdM (t : List Nat) (ms : List Mb) (w : Int32) : List Mb := (rdR t w).getD ms
noncomputable def rdV (t : List Nat) (w : Int32) : Int32 := match rdR t w with
  | none => -1
  | some ms => nI ms.length
theorem shf_clear {c : hS} {s : Nat} {ms : List Mb} (h : shf c s ms) (hs : s = 37 ∨ s = 119) : shf (sI c s 1 0) s [] := by
  refine ⟨by simp, sI_s _ _ _ _, h.2.2.1, h.2.2.2.1, fun i hi => ?_⟩
  obtain ⟨x, h1, _⟩ := h.2.2.2.2 i hi
  obtain ⟨k, hk, e⟩ := h.2.2.1 i hi
  refine ⟨x, ?_, fun z => absurd z (by simp)⟩
  show mbr (sI c s 1 0) (c.2.2 (s + 1) i) x
  rw [e] at h1 ⊢
  exact h1.fr (S := [s]) (fr.sI (by simp)) (by simp; omega) (by simp; omega) (by simp; omega) (by simp; omega) (by simp; omega)
/-- behind a reading -/
theorem PC.rd {g c c1 : hS} {b t : List Nat} {ms : List Mb} {S : List Nat} {s' : Nat} (h : PC g c b t ms) (hs : c.2.2 0 9 = s') (hf : fr S c c1) (hS : ∀ o, o ∈ S → o ∈ [5, 6, 36] ++ Sop ∨ o ∈ shR s') (hm : ∃ ms1, shf c1 s' ms1) : PC g c1 b t ms := by
  obtain ⟨r1, r3, r5, r7, fx, ok, s, s0, ms', e1, e2, e3, e4, e5⟩ := h
  have es : s0 = s' := e2.symm.trans hs
  subst es
  obtain ⟨ms1, hm⟩ := hm
  have z : ∀ o, o ∈ [5, 6, 36] ++ Sop → (5 ≤ o ∧ o < 12) ∨ (19 < o ∧ o < 37) := by decide
  have nn : ∀ o, o < 5 → o ∉ S := fun o ho q => by
    rcases hS o q with w | w
    · have := z o w; omega
    · rw [shR_mem] at w; omega
  have n37 : ∀ o, o ∈ S → (5 ≤ o ∧ o < 12) ∨ (19 < o ∧ o < 37) ∨ (s0 ≤ o ∧ o < s0 + 82) := fun o q => by
    rcases hS o q with w | w
    · have := z o w; omega
    · rw [shR_mem] at w; omega
  refine ⟨r1.fr hf (nn _ (by omega)) (nn _ (by omega)), r3.fr hf (nn _ (by omega)) (nn _ (by omega)), hf.2.1 r5, hf.2.2 r7, fx.fr hf (fun o ho => by have := n37 o ho; omega), ⟨ok.1, ok.2.mv hf (fun o ho => by have := n37 o ho; omega)⟩, s, s0, ms1, (hf.r (nn _ (by omega)) 8).trans e1, (hf.r (nn _ (by omega)) 9).trans e2, e3, e4.fr hf (fun o ho => by have := n37 o ho; omega), hm⟩
theorem fr0 {S : List Nat} {c c1 : hS} {j x : Nat} (h : fr S c c1) (hS : 0 ∉ S) : c1.2.2 0 j = c.2.2 0 j := h.r hS j
/-- the shelves change places -/
theorem PC.swap {g c : hS} {b t : List Nat} {ms ms1 : List Mb} {s s' : Nat} (h : PC g c b t ms) (hs : c.2.2 0 8 = s) (hs' : c.2.2 0 9 = s') (hm : shf c s' ms1) : PC g (sR (sR c 0 8 s') 0 9 s) b t ms1 := by
  obtain ⟨r1, r3, r5, r7, fx, ok, s0, s0', ms', e1, e2, e3, e4, e5⟩ := h
  have es : s0 = s := e1.symm.trans hs
  have es' : s0' = s' := e2.symm.trans hs'
  subst es
  subst es'
  have hf : fr [0] c (sR (sR c 0 8 s0') 0 9 s0) := (fr.sR (by simp)).tr (fr.sR (by simp))
  refine ⟨r1.fr hf (by decide) (by decide), r3.fr hf (by decide) (by decide), hf.2.1 r5, hf.2.2 r7, fx.fr hf (by decide), ⟨hm.ok (by omega), ok.2.mv hf (by decide)⟩, s0', s0, ms, ?_, sR_s _ _ _ _, by omega, hm.fr hf (fun o ho => by simp at ho; omega), e4.fr hf (fun o ho => by simp at ho; omega)⟩
  rw [sR_j (by decide), sR_s]
theorem c_read {N : Nat} {g c : hS} {b t : List Nat} {ms : List Mb} {w : Int32} (hN : 1000000 ≤ N) (h : PC g c b t ms) : AN g (f_X11_read N c w) onM (wrK w) (rdV t w) b t (rdM t ms w) := by
  unfold f_X11_read wrK
  rw [f_archiveOf, bnd_some]
  obtain ⟨c4, e4, f4⟩ := f_clear6 c
  have h4 := h.kp f4 (by decide)
  obtain ⟨r1, r3, r5, r7, fx, ok, s, s', ms', e1, e2, e3, e4', e5⟩ := id h4
  have hs' : s' = 37 ∨ s' = 119 := by omega
  have k8 : Nat.beq (kc s') 8 = true := by rcases e3 with ⟨_, rfl⟩ | ⟨_, rfl⟩ <;> decide
  have k8s : Nat.beq (kc s) 8 = true := by rcases e3 with ⟨rfl, _⟩ | ⟨rfl, _⟩ <;> decide
  have sc := shf_clear e5 hs'
  have f6 : fr [s'] c4 (sI c4 s' 1 0) := fr.sI (by simp)
  have h6 := h4.rd e2 f6 (fun o ho => by simp at ho; right; rw [shR_mem]; omega) ⟨_, sc⟩
  have t6 : (sI c4 s' 1 0).2.2 0 9 = s' := e2
  have u6 : (sI c4 s' 1 0).2.2 0 8 = s := e1
  have cl : f_X9_clear c4 s' = some ((), sI c4 s' 1 0) := rfl
  revert sc h6 t6 u6 cl
  generalize sI c4 s' 1 0 = c6
  intro sc h6 t6 u6 cl
  obtain ⟨q1, q3, q5, q7, qx, -⟩ := id h6
  -- behind a reading of any kind
  have fin : ∀ {X : Option (Int32 × hS)} {S : List Nat} {r : Option (List Mb)}, RD X c6 s' S r → (∀ o, o ∈ S → o ∈ [5, 6, 36] ++ Sop ∨ o ∈ shR s') → AN g (bnd X fun x8 c9 => if x8 = 0 then some (.inl (-1), c9) else bif Nat.beq (kc (c9.2.2 0 8)) 8 then bif Nat.beq (kc (c9.2.2 0 9)) 8 then st1 (sR c9 0 8 (c9.2.2 0 9)) fun c12 => st1 (sR c12 0 9 (c9.2.2 0 8)) fun c13 => bif Nat.beq (kc (c13.2.2 0 8)) 8 then bnd (f_X9_size c13 (c13.2.2 0 8)) fun x15 c16 => some (.inl x15, c16) else none else none else none) onM 0 (match r with
      | none => -1
      | some ms => nI ms.length) b t (r.getD ms) := by
    intro X S r ⟨c9, a1, a2, a3, a4⟩ hS
    have h9 := h6.rd t6 a2 hS a3
    have z0 : 0 ∉ S := fun q => by
      rcases hS 0 q with w | w
      · exact absurd w (by decide)
      · rw [shR_mem] at w; omega
    have t9 : c9.2.2 0 9 = s' := (a2.r z0 9).trans t6
    have u9 : c9.2.2 0 8 = s := (a2.r z0 8).trans u6
    rw [a1, bnd_some]
    cases r with
    | none =>
      rw [if_pos (show bI (none : Option (List Mb)).isSome = 0 from rfl)]
      exact AN.ok rfl rfl h9
    | some ms1 =>
      have hm := a4 ms1 rfl
      have hsw := h9.swap u9 t9 hm
      rw [if_neg (show ¬ bI (some ms1).isSome = 0 from (by decide : ¬ bI true = 0)), u9, t9, k8s, k8, cond_true, cond_true]
      dsimp only [st1]
      rw [show (sR (sR c9 0 8 s') 0 9 s).2.2 0 8 = s' by rw [sR_j (by decide), sR_s], k8, cond_true]
      unfold f_X9_size
      rw [bnd_some, show (sR (sR c9 0 8 s') 0 9 s).1 s' 1 = nI ms1.length from hm.2.1]
      exact AN.ok rfl rfl hsw
  unfold rdM rdV rdR
  by_cases w0 : w = 0
  · rw [if_pos w0, if_pos (Or.inl w0), if_pos w0]
    dsimp only [opt]
    rw [e4, bnd_some, e2, k8, cond_true, cl, bnd_some, t6, k8, cond_true, if_pos rfl]
    exact fin (f_takeIn0 hN q3 q5 sc hs') (fun o ho => by
      unfold S0 at ho
      simp only [List.mem_cons] at ho
      rcases ho with rfl | rfl | rfl | q
      · exact Or.inl (by decide)
      · exact Or.inl (by decide)
      · exact Or.inl (by decide)
      · exact Or.inr q)
  · by_cases w1' : w = 1
    · rw [if_neg w0, if_pos w1', if_pos (Or.inr (Or.inl w1')), if_neg w0, if_pos w1']
      dsimp only [opt]
      rw [e4, bnd_some, e2, k8, cond_true, cl, bnd_some, t6, k8, cond_true, if_neg (by decide), if_pos rfl]
      exact fin (f_takeIn1 hN q3 q5 sc hs') (fun o ho => by
        unfold S0 at ho
        simp only [List.mem_cons] at ho
        rcases ho with rfl | rfl | rfl | q
        · exact Or.inl (by decide)
        · exact Or.inl (by decide)
        · exact Or.inl (by decide)
        · exact Or.inr q)
    · by_cases w2' : w = 2
      · rw [if_neg w0, if_neg w1', if_pos w2', if_pos (Or.inr (Or.inr w2')), if_neg w0, if_neg w1', if_pos w2']
        dsimp only [opt]
        rw [e4, bnd_some, e2, k8, cond_true, cl, bnd_some, t6, k8, cond_true, if_neg (by decide), if_neg (by decide), if_pos rfl]
        exact fin (f_takeIn2 hN q3 q5 q7 qx sc hs') (fun o ho => by
          unfold S2 at ho
          rw [← List.append_assoc] at ho
          exact List.mem_append.mp ho)
      · rw [if_neg w0, if_neg w1', if_neg w2', if_neg (fun z => by rcases z with z | z | z <;> contradiction), if_neg w0, if_neg w1', if_neg w2']
        exact AN.no rfl rfl (by decide) h
