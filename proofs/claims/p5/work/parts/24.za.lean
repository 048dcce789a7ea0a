/-! PURE: the class reads kind 2: the whole -/
noncomputable def bdB (t : List Nat) (q : Nat) (out : List Nat) : Bool := decide (out.length = le4 t (q + 24)) && decide (crc out = nI (le4 t (q + 16)))
theorem f_isBody {N : Nat} {c : hS} {t out : List Nat} {q : Nat} (hN : 1000000 ≤ N) (h : row c 3 t) (h7 : row c 7 out) (h12 : c.1 36 12 = nI (le4 t (q + 24))) (hz : le4 t (q + 24) ≤ 400) (hq : q ≤ 20000) : RB (f_X5_isBody N c (nI q)) c [9] (bdB t q out) := by
  have hol := h7.lt
  unfold f_X5_isBody bdB
  rw [f_size h7, bnd_some, h12]
  by_cases w : out.length = le4 t (q + 24)
  · rw [if_pos (by rw [w]), decide_eq_true w, Bool.true_and, f_checkOf hN h7, bnd_some, show nI q + 16 = nI (q + 16) from nI_add q 16, f_little4 hN h (by omega), bnd_some, lN_i]
    by_cases v : crc out = nI (le4 t (q + 16))
    · rw [if_pos v, decide_eq_true v]; exact RB.yes
    · rw [if_neg v, decide_eq_false v]; exact RB.last_ RB.tell
  · rw [if_neg (fun z => w ((nI_eq (by omega) (by omega)).mp z)), decide_eq_false w]; exact RB.tellb
noncomputable def by2 (t : List Nat) (q : Nat) : Option (List Nat) := if le2 t (q + 10) = 0 then some ((t.drop (dt2 t q)).take (le4 t (q + 20))) else opn t (dt2 t q) (dt2 t q + le4 t (q + 20)) (le4 t (q + 24))
noncomputable def hd2 (t : List Nat) (e bg q : Nat) : Bool := enB t e q && (mmB t q && (nameB (nm2 t q) && lcB t bg q))
noncomputable def en2 (t : List Nat) (q : Nat) (out : List Nat) (ms : List Mb) : Option (List Mb) := if bdB t q out = true ∧ mayB ms (nm2 t q) (dr2 t q) = true then some (comeM ms (nm2 t q, out, dr2 t q)) else none
noncomputable def st2 (t : List Nat) (e bg q : Nat) (ms : List Mb) : Option (List Mb) := if hd2 t e bg q = true then (match by2 t q with
  | none => none
  | some out => en2 t q out ms) else none
noncomputable def rdG (st : Nat → List Mb → Option (List Mb)) (nx : Nat → Nat) (e : Nat) : Nat → Nat → List Mb → Option (List Mb)
  | 0, q, ms => if q = e then some ms else none
  | n + 1, q, ms => match st q ms with
    | none => none
    | some ms' => rdG st nx e n (nx q) ms'
noncomputable def rd2 (t : List Nat) (ms : List Mb) : Option (List Mb) := if (decide (22 ≤ t.length) && clB t (t.length - 22)) = true then rdG (st2 t (t.length - 22) (le4 t (t.length - 22 + 16))) (beh2 t) (t.length - 22) (le2 t (t.length - 22 + 10)) (le4 t (t.length - 22 + 16)) ms else none
noncomputable def S2 (s : Nat) : List Nat := [5, 6, 36] ++ (Sop ++ shR s)
theorem S2_of {s : Nat} {S : List Nat} {c c' : hS} (h : fr S c c') (hS : ∀ o, o ∈ S → o ∈ [5, 6, 36] ++ Sop) : fr (S2 s) c c' := h.mono (fun o ho => by unfold S2; rw [← List.append_assoc]; exact List.mem_append_left _ (hS o ho))
theorem S2n {s : Nat} {Nn : List Nat} (h : ∀ o, o ∈ Nn → o ∈ [5, 6, 36] ++ Sop) : ∀ o, o ∈ Nn → o < 37 ∧ o ∈ S2 s := fun o ho => ⟨(by decide : ∀ o, o ∈ [5, 6, 36] ++ Sop → o < 37) o (h o ho), by unfold S2; rw [← List.append_assoc]; exact List.mem_append_left _ (h o ho)⟩
theorem S2_sh {s : Nat} {c c' : hS} (h : fr (9 :: shR s) c c') : fr (S2 s) c c' := h.mono (fun o ho => by
  unfold S2
  rcases List.mem_cons.mp ho with q | q
  · rw [q]; simp
  · exact List.mem_append_right _ (List.mem_append_right _ q))
theorem f_takeIn138 {N : Nat} {c : hS} {s : Nat} {t out : List Nat} {e bg q : Nat} {ms : List Mb} {K : hS → Int32 → Int32 → Int32 → Option (Int32 × hS)} {v2 v4 : Int32} {r : List Mb → Option (List Mb)} (hN : 1000000 ≤ N) (hs : s = 37 ∨ s = 119) (h : row c 3 t) (h5 : row c 5 (nm2 t q)) (h7 : row c 7 out) (hfx : fxd c) (hsl : SL c t e bg q) (h11 : c.1 36 11 = bI (dr2 t q)) (h12 : c.1 36 12 = nI (le4 t (q + 24))) (hz : le4 t (q + 24) ≤ 400) (hq : q ≤ 20000) (hnm : (nm2 t q).length ≤ 90) (hsh : shf c s ms)
    (hK : ∀ c' ms', row c' 3 t → 0 ≤ c'.1 5 1 → 0 ≤ c'.1 7 1 → fxd c' → c'.1 36 6 = nI e → c'.1 36 7 = nI bg → shf c' s ms' → RD (K c' v2 (nI (beh2 t q)) (v4 + 1)) c' s (S2 s) (r ms')) :
    RD (f_X5_takeIn_138 N s K c v2 (nI q) v4) c s (S2 s) (match en2 t q out ms with
      | none => none
      | some ms' => r ms') := by
  have ns : ∀ o, o < 37 → o ∉ shR s := fun o ho q => by rw [shR_mem] at q; omega
  unfold f_X5_takeIn_138
  obtain ⟨c2, a1, a2, a3⟩ := f_isBody hN h h7 h12 hz hq
  rw [a1, bnd_some]
  unfold en2
  cases hb : bdB t q out with
  | false =>
    rw [if_pos (show bI false = 0 from rfl), if_neg (by simp)]
    exact RD.no ⟨c2, rfl, a2⟩ rfl fr.rf hsh hs (S2n (by decide))
  | true =>
    cases a3 hb
    have hol : out.length = le4 t (q + 24) := by
      unfold bdB at hb
      simp only [Bool.and_eq_true, decide_eq_true_eq] at hb
      exact hb.1
    rw [if_neg (by decide), f_size h7, bnd_some, h11]
    obtain ⟨c6, m1, m2, m3, mf⟩ := f_arrives (d := dr2 t q) (p := nI q) (i := 0) (j := out.length) hN hsh hs h5 h7 (by decide) hnm (by omega) (by omega) (by omega)
    rw [show nI 0 = (0 : Int32) from rfl] at m1
    rw [m1, bnd_some]
    cases hm : mayB ms (nm2 t q) (dr2 t q) with
    | false =>
      rw [if_pos (show bI false = 0 from rfl), if_neg (by simp)]
      exact RD.no ⟨c6, rfl, mf hm⟩ rfl fr.rf hsh hs (S2n (by decide))
    | true =>
      obtain ⟨m4, m5⟩ := m3 hm
      rw [List.drop_zero, Nat.sub_zero, List.take_length] at m4
      rw [if_neg (by decide), if_pos ⟨rfl, rfl⟩, (m5.i (ns 36 (by decide)) 10).trans hsl.2.2.2.2]
      have fx6 : fxd c6 := hfx.fr m5 (fun o ho => by rw [shR_mem] at ho; omega)
      obtain ⟨c7, w1, w2, w3⟩ := hK c6 _ (h.fr m5 (ns _ (by decide)) (ns _ (by decide))) (m5.2.1 h5.nn) (m5.2.2 h7.nn) fx6 ((m5.i (ns 36 (by decide)) 6).trans hsl.1) ((m5.i (ns 36 (by decide)) 7).trans hsl.2.1) m4
      exact ⟨c7, w1, (S2_sh m2).tr w2, w3⟩
theorem RD.and_ {A : Option (Int32 × hS)} {B : hS → Option (Int32 × hS)} {c : hS} {s : Nat} {S' : List Nat} {a : Bool} {P : hS → Prop} {r : Option (List Mb)} {ms : List Mb} (hsh : shf c s ms) (hs : s = 37 ∨ s = 119) (hA : RE A c S' a P) (hS : ∀ o, o ∈ S' → o ∈ [5, 6, 36] ++ Sop) (hB : a = true → ∀ c1, fr S' c c1 → P c1 → RD (B c1) c1 s (S2 s) r) : RD (bnd A fun x c2 => if x = 0 then some (0, c2) else B c2) c s (S2 s) (if a = true then r else none) := by
  obtain ⟨c1, e1, f1, g1⟩ := hA
  rw [e1, bnd_some]
  cases a with
  | false =>
    rw [if_pos (show bI false = 0 from rfl), if_neg (by decide)]
    exact RD.no ⟨c1, rfl, f1⟩ rfl fr.rf hsh hs (S2n hS)
  | true =>
    rw [if_neg (by decide), if_pos rfl]
    obtain ⟨c2, e2, f2, g2⟩ := hB rfl c1 f1 (g1 rfl)
    exact ⟨c2, e2, (S2_of f1 hS).tr f2, g2⟩
theorem RD.pre {X : Option (Int32 × hS)} {c c1 : hS} {s : Nat} {S : List Nat} {r : Option (List Mb)} (hf : fr S c c1) (h : RD X c1 s S r) : RD X c s S r := by
  obtain ⟨c2, e2, f2, g2⟩ := h
  exact ⟨c2, e2, hf.tr f2, g2⟩
noncomputable def aft2 (t : List Nat) (q : Nat) (ms : List Mb) (r : List Mb → Option (List Mb)) : Option (List Mb) := match by2 t q with
  | none => none
  | some out => (match en2 t q out ms with
    | none => none
    | some ms' => r ms')
theorem rdG_so {t : List Nat} {e bg q n : Nat} {ms : List Mb} : rdG (st2 t e bg) (beh2 t) e (n + 1) q ms = (if enB t e q = true then if mmB t q = true then if nameB (nm2 t q) = true then if lcB t bg q = true then aft2 t q ms (rdG (st2 t e bg) (beh2 t) e n (beh2 t q)) else none else none else none else none) := by
  rw [rdG]
  unfold aft2
  have h : st2 t e bg q ms = if hd2 t e bg q = true then (match by2 t q with
    | none => none
    | some out => en2 t q out ms) else none := rfl
  rw [h]
  unfold hd2
  cases enB t e q <;> cases mmB t q <;> cases nameB (nm2 t q) <;> cases lcB t bg q <;> first | rfl | (cases by2 t q <;> rfl)
theorem f_takeIn34 {N s : Nat} {t : List Nat} {e bg k : Nat} (hN : 1000000 ≤ N) (hs : s = 37 ∨ s = 119) (he : e ≤ t.length) (hbg : bg ≤ e) (hk : k < 2 ^ 16) : ∀ n m i q c ms, n < m → n + i = k → q ≤ e → row c 3 t → 0 ≤ c.1 5 1 → 0 ≤ c.1 7 1 → fxd c → c.1 36 6 = nI e → c.1 36 7 = nI bg → shf c s ms → RD (f_X5_takeIn_34 N s m c (nI k) (nI q) (nI i)) c s (S2 s) (rdG (st2 t e bg) (beh2 t) e n q ms) := by
  intro n
  induction n with
  | zero =>
    intro m i q c ms hm hi hq h h5 h7 hfx h6 hb hsh
    have htl : t.length ≤ 20000 := h.1
    obtain ⟨m, rfl⟩ : ∃ m', m = m' + 1 := ⟨m - 1, by omega⟩
    rw [f_X5_takeIn_34, if_pos (nI_le (by omega) (by omega)), h6]
    unfold rdG
    by_cases w : q = e
    · rw [if_pos (by rw [w]), if_pos w]; exact ⟨c, rfl, fr.rf, ⟨_, hsh⟩, fun ms' z => by cases z; exact hsh⟩
    · rw [if_neg (fun z => w ((nI_eq (by omega) (by omega)).mp z)), if_neg w]
      obtain ⟨c', a1, a2, _⟩ := RB.last_ (RB.tell (c := c) (a := 12) (p := nI q))
      exact RD.no ⟨c', a1, a2⟩ rfl fr.rf hsh hs (S2n (by decide))
  | succ n ih =>
    intro m i q c ms hm hi hq h h5 h7 hfx h6 hb hsh
    have htl : t.length ≤ 20000 := h.1
    obtain ⟨m, rfl⟩ : ∃ m', m = m' + 1 := ⟨m - 1, by omega⟩
    rw [f_X5_takeIn_34, if_neg (nI_ge (by omega) (by omega)), rdG_so]
    refine RD.and_ hsh hs (f_isEntry hN h h6 hb (by omega) hq) (by decide) (fun hen c4 f4 p4 => ?_)
    have hbe : beh2 t q ≤ e := by
      unfold enB at hen
      simp only [Bool.and_eq_true, decide_eq_true_eq] at hen
      exact hen.2.2.2.2.2.2
    have h4 := h.fr f4 (by decide) (by decide)
    have s4 := hsh.fr f4 (fun o ho => by simp only [List.mem_cons, List.not_mem_nil, or_false] at ho; omega)
    refine RD.and_ s4 hs (f_isMember2 hN h4 (f4.2.1 h5) p4 he hbe) (by decide) (fun hmm c6 f6 p6 => ?_)
    have hsz : szB t q = true := by
      unfold mmB at hmm
      split at hmm
      · simp only [Bool.and_eq_true] at hmm; exact hmm.2
      · exact hmm
    have hz : le4 t (q + 24) ≤ 400 := by
      unfold szB at hsz
      simp only [Bool.and_eq_true, decide_eq_true_eq] at hsz
      exact hsz.1
    have h6' := h4.fr f6 (by decide) (by decide)
    have s6 := s4.fr f6 (fun o ho => by simp only [List.mem_cons, List.not_mem_nil, or_false] at ho; omega)
    refine RD.and_ s6 hs (RE.of (S := [9]) (f_isNamed hN p6.2.1) (by decide)) (by decide) (fun hnb c8 _ p8 => ?_)
    subst p8
    have nl90 : (nm2 t q).length ≤ 90 := by
      unfold nameB at hnb
      simp only [Bool.and_eq_true, decide_eq_true_eq] at hnb
      exact hnb.1.2
    refine RD.and_ s6 hs (f_isLocal hN h6' p6.1 (by omega) (by omega)) (by decide) (fun hlc c10 f10 p10 => ?_)
    obtain ⟨s10, d10, z10, a10, b10⟩ := p10
    rw [p6.2.2.1] at d10
    rw [p6.2.2.2] at z10
    have hdt : dt2 t q + le4 t (q + 20) ≤ bg := by
      unfold lcB at hlc
      simp only [Bool.and_eq_true, decide_eq_true_eq] at hlc
      exact hlc.2.2.2
    have h10 := h6'.fr f10 (by decide) (by decide)
    have n10 := p6.2.1.fr f10 (by decide) (by decide)
    have o10 := f10.2.2 (f6.2.2 (f4.2.2 h7))
    have x10 := ((hfx.fr f4 (by decide)).fr f6 (by decide)).fr f10 (by decide)
    have sh10 := s6.fr f10 (fun o ho => by simp only [List.mem_cons, List.not_mem_nil, or_false] at ho; omega)
    have b16 := le2_lt h.2.2.2 (q + 10)
    rw [s10.2.2.1]
    have go : ∀ c1 out, row c1 3 t → row c1 5 (nm2 t q) → row c1 7 out → fxd c1 → SL c1 t e bg q → c1.1 36 11 = bI (dr2 t q) → c1.1 36 12 = nI (le4 t (q + 24)) → shf c1 s ms → RD (f_X5_takeIn_138 N s (f_X5_takeIn_34 N s m) c1 (nI k) (nI q) (nI i)) c1 s (S2 s) (match en2 t q out ms with
      | none => none
      | some ms' => rdG (st2 t e bg) (beh2 t) e n (beh2 t q) ms') := by
      intro c1 out r3 r5 r7 rx rs r11 r12 rsh
      refine f_takeIn138 hN hs r3 r5 r7 rx rs r11 r12 hz (by omega) nl90 rsh (fun c' ms' y3 y5 y7 yx y6 yb ysh => ?_)
      rw [nI_1]
      exact ih m (i + 1) _ c' ms' (by omega) (by omega) hbe y3 y5 y7 yx y6 yb ysh
    unfold aft2
    by_cases w0 : le2 t (q + 10) = 0
    · have hby : by2 t q = some ((t.drop (dt2 t q)).take (le4 t (q + 20))) := by unfold by2; rw [if_pos w0]
      have h20 : le4 t (q + 20) = le4 t (q + 24) := by
        unfold szB at hsz
        rw [if_pos w0] at hsz
        simp only [Bool.and_eq_true, decide_eq_true_eq] at hsz
        exact hsz.2
      rw [hby, if_pos (show nI (le2 t (q + 10)) = 0 by rw [w0]; rfl)]
      obtain ⟨c13, e13, r13, f13⟩ := f_cutN o10
      have h13 := h10.fr f13 (by decide) (by decide)
      rw [e13, bnd_some, (f13.i (by decide) 14).trans a10, (f13.i (by decide) 15).trans b10]
      obtain ⟨c14, e14, r14, f14⟩ := f_addPart (b := 7) (f := 3) (i := dt2 t q) (j := dt2 t q + le4 t (q + 20)) hN r13 h13 (by decide) (by decide) (by decide) (by omega) (by omega) (show ([] : List Nat).length + _ ≤ 512 by simp; omega)
      rw [e14, bnd_some]
      rw [List.nil_append, show dt2 t q + le4 t (q + 20) - dt2 t q = le4 t (q + 20) by omega] at r14
      have f13' : fr [7, 8] c10 c13 := f13.mono (by decide)
      have ff := f13'.tr f14
      exact RD.pre (S2_of ff (by decide)) (go c14 _ (h10.fr ff (by decide) (by decide)) (n10.fr ff (by decide) (by decide)) r14 (x10.fr ff (by decide)) (s10.fr ff (by decide)) ((ff.i (by decide) 11).trans d10) ((ff.i (by decide) 12).trans z10) (sh10.fr ff (fun o ho => by simp only [List.mem_cons, List.not_mem_nil, or_false] at ho; omega)))
    · have hby : by2 t q = opn t (dt2 t q) (dt2 t q + le4 t (q + 20)) (le4 t (q + 24)) := by unfold by2; rw [if_neg w0]
      rw [hby, if_neg (nI_ne0 (by omega) (by omega)), a10, b10, z10]
      obtain ⟨c12, e12, f12, r12⟩ := f_open (a := dt2 t q) (behind := dt2 t q + le4 t (q + 20)) (most := le4 t (q + 24)) hN h10 o10 x10 (by omega) (by omega) (by omega)
      rw [e12, bnd_some]
      cases ho : opn t (dt2 t q) (dt2 t q + le4 t (q + 20)) (le4 t (q + 24)) with
      | none =>
        rw [show bI (none : Option (List Nat)).isSome = 0 from rfl, if_pos rfl]
        exact RD.no (b := false) ⟨c12, rfl, f12⟩ rfl fr.rf sh10 hs (S2n (by decide))
      | some out =>
        rw [show bI (some out).isSome = 1 from rfl, if_neg (by decide)]
        exact RD.pre (S2_of f12 (by decide)) (go c12 out (h10.fr f12 (by decide) (by decide)) (n10.fr f12 (by decide) (by decide)) (r12 out ho) (x10.fr f12 (by decide)) (s10.fr f12 (by decide)) ((f12.i (by decide) 11).trans d10) ((f12.i (by decide) 12).trans z10) (sh10.fr f12 (fun o ho => by have : o < 37 := (by decide : ∀ o, o ∈ Sop → o < 37) o ho; omega)))
theorem f_takeIn2 {N : Nat} {c : hS} {s : Nat} {t : List Nat} {ms : List Mb} (hN : 1000000 ≤ N) (h : row c 3 t) (hl : 0 ≤ c.1 5 1) (h7 : 0 ≤ c.1 7 1) (hfx : fxd c) (hsh : shf c s ms) (hs : s = 37 ∨ s = 119) : RD (f_X5_takeIn N c s) c s (S2 s) (rd2 t ms) := by
  have htl : t.length ≤ 20000 := h.1
  unfold f_X5_takeIn rd2
  refine RD.and_ hsh hs (f_isClosing hN h) (by decide) (fun hcl c2 f2 p2 => ?_)
  simp only [Bool.and_eq_true, decide_eq_true_eq] at hcl
  have h2 := h.fr f2 (by decide) (by decide)
  have b10 := le2_lt h.2.2.2 (t.length - 22 + 10)
  have hbg : le4 t (t.length - 22 + 16) ≤ t.length - 22 := by
    have := hcl.2
    unfold clB at this
    simp only [Bool.and_eq_true, decide_eq_true_eq] at this
    omega
  rw [p2.1, show nI (t.length - 22) + 10 = nI (t.length - 22 + 10) from nI_add _ 10, f_little2 hN h2 (by omega), bnd_some, p2.2, lN_i, show (0 : Int32) = nI 0 from rfl]
  exact f_takeIn34 hN hs (by omega) hbg (by omega) _ N 0 _ c2 ms (by omega) rfl hbg h2 (f2.2.1 hl) (f2.2.2 h7) (hfx.fr f2 (by decide)) p2.1 p2.2 (hsh.fr f2 (fun o ho => by simp only [List.mem_cons, List.not_mem_nil, or_false] at ho; omega))
