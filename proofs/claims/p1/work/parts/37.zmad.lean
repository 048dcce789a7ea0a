/-! LOOPS TAKEN AS ONE STEP: the reference's -/
section MAD
variable {ρ : Nat → Int32} {F : sx_H} {val : Nat → Nat → Value}
set_option maxRecDepth 100000 in
theorem put_x {h : am_H} {m a n k : Nat} {f : Nat → Value} (x : Int32) (m1 : m < h.1) (m2 : (h.2.2.2 m).1 = 11) (m3 : (h.2.2.2 m).2.2 3 = .ref a) (m4 : (h.2.2.2 m).2.2 4 = .int (nI k)) (a1 : a < h.1) (a2 : h.2.2.2 a = (20, n, f)) (hne : a ≠ m) (hn : n < 2 ^ 31) (hk : k < n) : am_T am_i_X12_put [.ref m, .int x] h none (am_put (am_put h a (20, n, am_up f k (.int (x &&& 255)))) m (11, (h.2.2.2 m).2.1, am_up (h.2.2.2 m).2.2 4 (.int (nI (k + 1))))) := by
  show am_P am_i_X12_put 0 [(0, .ref m), (1, .int x)] [] h none _
  refine am_P.many (u := (1, [(0, .ref m), (1, .int x)], [.ref m], h)) 1 rfl ?_
  refine am_P.getf (M := am_m_X12_put) (ci := 11) rfl rfl m1 m2 rfl ?_
  rw [m3]
  refine am_P.many (u := (5, [(0, .ref m), (1, .int x)], [.ref m, .ref a], h)) 1 rfl ?_
  refine am_P.getf (M := am_m_X12_put) (ci := 11) rfl rfl m1 m2 rfl ?_
  rw [m4]
  refine am_P.many (u := (13, [(0, .ref m), (1, .int x)], [.int (x &&& 255), .int (nI k), .ref a], h)) 3 rfl ?_
  refine am_P.iast (M := am_m_X12_put) rfl rfl a1 (by rw [a2]) (by rw [a2]; exact am_inT (n := n) hk hn) ?_
  rw [a2, nI_clamp (show k < 2 ^ 31 by omega)]
  refine am_P.many (u := (16, [(0, .ref m), (1, .int x)], [.ref m, .ref m], (am_put h a (20, n, am_up f k (.int (x &&& 255)))))) 2 rfl ?_
  refine am_P.getf (M := am_m_X12_put) (ci := 11) rfl rfl m1 (by rw [am_put_n h (Ne.symm hne)]; exact m2) rfl ?_
  rw [am_put_n h (Ne.symm hne), m4]
  refine am_P.many (u := (21, [(0, .ref m), (1, .int x)], [.int ((nI k) + 1), .ref m], (am_put h a (20, n, am_up f k (.int (x &&& 255)))))) 2 rfl ?_
  refine am_P.putf (M := am_m_X12_put) (ci := 11) rfl rfl m1 (by rw [am_put_n h (Ne.symm hne)]; exact m2) rfl rfl ?_
  rw [am_put_n h (Ne.symm hne), show nI k + 1 = nI (k + 1) from nI_1 k]
  exact am_P.ret (M := am_m_X12_put) rfl rfl rfl
set_option maxRecDepth 100000 in
theorem zz_pz {m a n t : Nat} (hn : n < 2 ^ 31) (htn : t ≤ n) (hm : m < F.1) (ha : a < F.1) (ham : a ≠ m) (km : (sx_cl F m).1 = 11) (ka : (sx_cl F a).1 = 20) (la : (sx_cl F a).2.1 = n) (v0 : val m 3 = .ref a) (va : ∀ i, val a i = .int 0) : ∀ (d k : Nat) (h : am_H), k + d = t → sx_hg ρ F (sx_vu val m 4 (.int (nI k))) h → ∃ h', am_P am_i_X12_putZeros 0 [(0, .ref m), (1, .int (nI t))] [] h none h' ∧ sx_hg ρ F (sx_vu val m 4 (.int (nI t))) h' := by
  intro d
  induction d with
  | zero =>
    intro k h hk hh
    have hk : k = t := hk
    subst hk
    refine ⟨h, ?_, hh⟩
    obtain ⟨e1, e2, e3, e4, e5⟩ := hh
    obtain ⟨p1, p2, p3⟩ := e5 m hm
    have r1 := p3 4
    rw [sx_vu_s] at r1
    have r1 : (h.2.2.2 m).2.2 4 = .int (nI k) := r1
    refine am_P.many (u := (1, [(0, .ref m), (1, .int (nI k))], [.ref m], h)) 1 rfl ?_
    refine am_P.getf (M := am_m_X12_putZeros) (ci := 11) rfl rfl (by rw [e1]; exact hm) (p1.trans km) rfl ?_
    rw [r1]
    refine am_P.many (u := (bif am_cc .ge (nI k) (nI k) then 16 else 8, [(0, .ref m), (1, .int (nI k))], [], h)) 2 rfl ?_
    refine am_P.bif (b := am_cc .ge (nI k) (nI k)) (t := 16) (f := 8) (fun _ => ?_) (fun q => absurd (show am_cc .ge (nI k) (nI k) = true from decide_eq_true (nI_le (Nat.le_refl k) (by omega))) (by rw [q]; decide))
    exact am_P.ret (M := am_m_X12_putZeros) rfl rfl rfl
  | succ d ih =>
    intro k h hk hh
    have hh0 := hh
    obtain ⟨e1, e2, e3, e4, e5⟩ := hh
    obtain ⟨p1, p2, p3⟩ := e5 m hm
    obtain ⟨q1, q2, q3⟩ := e5 a ha
    have r0 := p3 3
    rw [sx_vu_n (Or.inr (by decide)), v0] at r0
    have r0 : (h.2.2.2 m).2.2 3 = .ref a := r0
    have r1 := p3 4
    rw [sx_vu_s] at r1
    have r1 : (h.2.2.2 m).2.2 4 = .int (nI k) := r1
    have hm1 : m < h.1 := by rw [e1]; exact hm
    have ha1 : a < h.1 := by rw [e1]; exact ha
    have t1 := put_x (f := (h.2.2.2 a).2.2) 0 hm1 (p1.trans km) r0 r1 ha1 (by rw [← q1.trans ka, ← q2.trans la]) ham hn (by omega)
    have g1 := sx_hg_put (j := k) (v := .int 0) (w := .int (0 &&& 255)) (kd := 20) (len := n) hh0 ha (q1.trans ka).symm (q2.trans la).symm (show Value.int (0 &&& 255) = Value.int 0 from rfl)
    have hne : (am_put h a (20, n, am_up (h.2.2.2 a).2.2 k (.int (0 &&& 255)))).2.2.2 m = h.2.2.2 m := am_put_n h (Ne.symm ham) _
    have g2 := sx_hg_put (j := 4) (v := .int (nI (k + 1))) (w := .int (nI (k + 1))) (kd := 11) (len := (h.2.2.2 m).2.1) g1 hm (by rw [hne]; exact (p1.trans km).symm) (by rw [hne]) (show Value.int _ = Value.int _ from rfl)
    rw [hne] at g2
    have g3 : sx_hg ρ F (sx_vu val m 4 (.int (nI (k + 1)))) (am_put (am_put h a (20, n, am_up (h.2.2.2 a).2.2 k (.int (0 &&& 255)))) m (11, (h.2.2.2 m).2.1, am_up (h.2.2.2 m).2.2 4 (.int (nI (k + 1))))) := by
      refine sx_hg_ext g2 (fun o ho i => ?_)
      by_cases c1 : o = m ∧ i = 4
      · rw [c1.1, c1.2, sx_vu_s, sx_vu_s]
      · have c1' : o ≠ m ∨ i ≠ 4 := by
          by_cases z : o = m
          · exact Or.inr (fun y => c1 ⟨z, y⟩)
          · exact Or.inl z
        rw [sx_vu_n c1', sx_vu_n c1']
        by_cases c2 : o = a ∧ i = k
        · rw [c2.1, c2.2, sx_vu_s, va]
        · have c2' : o ≠ a ∨ i ≠ k := by
            by_cases z : o = a
            · exact Or.inr (fun y => c2 ⟨z, y⟩)
            · exact Or.inl z
          rw [sx_vu_n c2', sx_vu_n c1']
    obtain ⟨h2, P2, g4⟩ := ih (k + 1) _ (by omega) g3
    refine ⟨h2, ?_, g4⟩
    refine am_P.many (u := (1, [(0, .ref m), (1, .int (nI t))], [.ref m], h)) 1 rfl ?_
    refine am_P.getf (M := am_m_X12_putZeros) (ci := 11) rfl rfl hm1 (p1.trans km) rfl ?_
    rw [r1]
    refine am_P.many (u := (bif am_cc .ge (nI k) (nI t) then 16 else 8, [(0, .ref m), (1, .int (nI t))], [], h)) 2 rfl ?_
    refine am_P.bif (b := am_cc .ge (nI k) (nI t)) (t := 16) (f := 8) (fun q => absurd (am_ge_t q) (nI_ge (show k < t by omega) (by omega))) (fun _ => ?_)
    refine am_P.many (u := (10, [(0, .ref m), (1, .int (nI t))], [.int 0, .ref m], h)) 2 rfl ?_
    refine am_P.callV (M := am_m_X12_putZeros) (M' := am_m_X12_put) (v1 := none) rfl rfl rfl rfl rfl hm1 (p1.trans km) rfl rfl rfl t1 ?_
    refine am_P.many (u := (0, [(0, .ref m), (1, .int (nI t))], [], _)) 1 rfl ?_
    exact P2
set_option maxRecDepth 100000 in
theorem zz_lci {m a b n base : Nat} (hm : m < F.1) (ha : a < F.1) (hb : b < F.1) (km : (sx_cl F m).1 = 11) (ka : (sx_cl F a).1 = 20) (kb : (sx_cl F b).1 = 20) (la : base + n ≤ (sx_cl F a).2.1) (lb : base + n ≤ (sx_cl F b).2.1) (za : (sx_cl F a).2.1 < 2 ^ 31) (zb : (sx_cl F b).2.1 < 2 ^ 31) (v0 : val m 27 = .ref a) (v1 : val m 28 = .ref b) (vb : ∀ i, val b i = .retAddr 100) {l : Nat} (K : ∀ (c : Int32) (h : am_H), sx_hg ρ F val h → ∃ h', am_P am_i_X12_layCodes 56 [(5, .int (nI (base + n))), (3, .int c), (4, .int (nI l)), (0, .ref m), (1, .int (nI base)), (2, .int (nI n))] [] h none h' ∧ sx_hg ρ F val h') : ∀ (e i : Nat) (c : Int32) (h : am_H), i + e = base + n → sx_hg ρ F val h → ∃ h', am_P am_i_X12_layCodes 19 [(5, .int (nI i)), (3, .int c), (4, .int (nI l)), (0, .ref m), (1, .int (nI base)), (2, .int (nI n))] [] h none h' ∧ sx_hg ρ F val h' := by
  have zn : base + n < 2 ^ 31 := by omega
  intro e
  induction e with
  | zero =>
    intro i c h hi hh
    have hi : i = base + n := hi
    subst hi
    obtain ⟨h', P', g'⟩ := K c h hh
    refine ⟨h', ?_, g'⟩
    refine am_P.many (u := (bif am_cc .ge (nI (base + n)) (nI base + nI n) then 56 else 27, [(5, .int (nI (base + n))), (3, .int c), (4, .int (nI l)), (0, .ref m), (1, .int (nI base)), (2, .int (nI n))], [], h)) 5 rfl ?_
    rw [nI_add]
    exact am_P.bif (b := am_cc .ge (nI (base + n)) (nI (base + n))) (t := 56) (f := 27) (fun _ => P') (fun q => absurd (show am_cc .ge (nI (base + n)) (nI (base + n)) = true from decide_eq_true (nI_le (Nat.le_refl _) zn)) (by rw [q]; decide))
  | succ e ih =>
    intro i c h hi hh
    have hh0 := hh
    obtain ⟨e1, e2, e3, e4, e5⟩ := hh
    obtain ⟨p1, p2, p3⟩ := e5 m hm
    obtain ⟨q1, q2, q3⟩ := e5 a ha
    obtain ⟨s1, s2, s3⟩ := e5 b hb
    have r0 := p3 27
    rw [v0] at r0
    have r0 : (h.2.2.2 m).2.2 27 = .ref a := r0
    have r1 := p3 28
    rw [v1] at r1
    have r1 : (h.2.2.2 m).2.2 28 = .ref b := r1
    have hm1 : m < h.1 := by rw [e1]; exact hm
    have ha1 : a < h.1 := by rw [e1]; exact ha
    have hb1 : b < h.1 := by rw [e1]; exact hb
    have go : ∀ (x : Int32), (x = nI l → ∃ h', am_P am_i_X12_layCodes 39 [(5, .int (nI i)), (3, .int c), (4, .int (nI l)), (0, .ref m), (1, .int (nI base)), (2, .int (nI n))] [] h none h' ∧ sx_hg ρ F val h') := by
      intro x _
      have g1 := sx_hg_put (j := i) (v := .retAddr 100) (w := .int c) (kd := 20) (len := (h.2.2.2 b).2.1) hh0 hb (s1.trans kb).symm rfl sx_top
      have g2 : sx_hg ρ F val (am_put h b (20, (h.2.2.2 b).2.1, am_up (h.2.2.2 b).2.2 i (.int c))) := sx_hg_ext g1 (fun o ho k => by
        by_cases c2 : o = b ∧ k = i
        · rw [c2.1, c2.2, sx_vu_s, vb]
        · rw [sx_vu_n (by
            by_cases z : o = b
            · exact Or.inr (fun y => c2 ⟨z, y⟩)
            · exact Or.inl z)])
      obtain ⟨h2, P2, g3⟩ := ih (i + 1) (c + 1) _ (by omega) g2
      refine ⟨h2, ?_, g3⟩
      refine am_P.many (u := (40, [(5, .int (nI i)), (3, .int c), (4, .int (nI l)), (0, .ref m), (1, .int (nI base)), (2, .int (nI n))], [.ref m], h)) 1 rfl ?_
      refine am_P.getf (M := am_m_X12_layCodes) (ci := 11) rfl rfl hm1 (p1.trans km) rfl ?_
      rw [r1]
      refine am_P.many (u := (46, [(5, .int (nI i)), (3, .int c), (4, .int (nI l)), (0, .ref m), (1, .int (nI base)), (2, .int (nI n))], [.int c, .int (nI i), .ref b], h)) 2 rfl ?_
      refine am_P.iast (M := am_m_X12_layCodes) rfl rfl hb1 (s1.trans kb) (am_inT (k := i) (by rw [s2]; omega) (by rw [s2]; omega)) ?_
      rw [nI_clamp (show i < 2 ^ 31 by omega)]
      refine am_P.many (u := (19, [(5, .int (nI i + 1)), (3, .int (c + 1)), (4, .int (nI l)), (0, .ref m), (1, .int (nI base)), (2, .int (nI n))], [], _)) 3 rfl ?_
      rw [nI_1]
      exact P2
    obtain ⟨h3, P3, g5⟩ := ih (i + 1) c h (by omega) hh0
    generalize hx : am_i ((h.2.2.2 a).2.2 i) = x
    by_cases hxl : x = nI l
    · obtain ⟨h4, P4, g6⟩ := go x hxl
      refine ⟨h4, ?_, g6⟩
      refine am_P.many (u := (bif am_cc .ge (nI i) (nI base + nI n) then 56 else 27, [(5, .int (nI i)), (3, .int c), (4, .int (nI l)), (0, .ref m), (1, .int (nI base)), (2, .int (nI n))], [], h)) 5 rfl ?_
      rw [nI_add]
      refine am_P.bif (b := am_cc .ge (nI i) (nI (base + n))) (t := 56) (f := 27) (fun q => absurd (am_ge_t q) (nI_ge (by omega) zn)) (fun _ => ?_)
      refine am_P.many (u := (28, [(5, .int (nI i)), (3, .int c), (4, .int (nI l)), (0, .ref m), (1, .int (nI base)), (2, .int (nI n))], [.ref m], h)) 1 rfl ?_
      refine am_P.getf (M := am_m_X12_layCodes) (ci := 11) rfl rfl hm1 (p1.trans km) rfl ?_
      rw [r0]
      refine am_P.many (u := (33, [(5, .int (nI i)), (3, .int c), (4, .int (nI l)), (0, .ref m), (1, .int (nI base)), (2, .int (nI n))], [.int (nI i), .ref a], h)) 1 rfl ?_
      refine am_P.iald (M := am_m_X12_layCodes) rfl rfl ha1 (q1.trans ka) (am_inT (k := i) (by rw [q2]; omega) (by rw [q2]; omega)) ?_
      rw [nI_clamp (show i < 2 ^ 31 by omega), hx]
      refine am_P.many (u := (bif am_cc .ne x (nI l) then 50 else 39, [(5, .int (nI i)), (3, .int c), (4, .int (nI l)), (0, .ref m), (1, .int (nI base)), (2, .int (nI n))], [], h)) 2 rfl ?_
      refine am_P.bif (b := am_cc .ne x (nI l)) (t := 50) (f := 39) (fun q => absurd q (by rw [hxl]; show (!decide (nI l = nI l)) ≠ true; rw [decide_eq_true rfl]; decide)) (fun _ => P4)
    · refine ⟨h3, ?_, g5⟩
      refine am_P.many (u := (bif am_cc .ge (nI i) (nI base + nI n) then 56 else 27, [(5, .int (nI i)), (3, .int c), (4, .int (nI l)), (0, .ref m), (1, .int (nI base)), (2, .int (nI n))], [], h)) 5 rfl ?_
      rw [nI_add]
      refine am_P.bif (b := am_cc .ge (nI i) (nI (base + n))) (t := 56) (f := 27) (fun q => absurd (am_ge_t q) (nI_ge (by omega) zn)) (fun _ => ?_)
      refine am_P.many (u := (28, [(5, .int (nI i)), (3, .int c), (4, .int (nI l)), (0, .ref m), (1, .int (nI base)), (2, .int (nI n))], [.ref m], h)) 1 rfl ?_
      refine am_P.getf (M := am_m_X12_layCodes) (ci := 11) rfl rfl hm1 (p1.trans km) rfl ?_
      rw [r0]
      refine am_P.many (u := (33, [(5, .int (nI i)), (3, .int c), (4, .int (nI l)), (0, .ref m), (1, .int (nI base)), (2, .int (nI n))], [.int (nI i), .ref a], h)) 1 rfl ?_
      refine am_P.iald (M := am_m_X12_layCodes) rfl rfl ha1 (q1.trans ka) (am_inT (k := i) (by rw [q2]; omega) (by rw [q2]; omega)) ?_
      rw [nI_clamp (show i < 2 ^ 31 by omega), hx]
      refine am_P.many (u := (bif am_cc .ne x (nI l) then 50 else 39, [(5, .int (nI i)), (3, .int c), (4, .int (nI l)), (0, .ref m), (1, .int (nI base)), (2, .int (nI n))], [], h)) 2 rfl ?_
      refine am_P.bif (b := am_cc .ne x (nI l)) (t := 50) (f := 39) (fun _ => ?_) (fun q => absurd q (by show (!decide (x = nI l)) ≠ false; rw [decide_eq_false hxl]; decide))
      refine am_P.many (u := (19, [(5, .int (nI i + 1)), (3, .int c), (4, .int (nI l)), (0, .ref m), (1, .int (nI base)), (2, .int (nI n))], [], h)) 2 rfl ?_
      rw [nI_1]
      exact P3
set_option maxRecDepth 100000 in
theorem zz_lc {m a b n base : Nat} (hm : m < F.1) (ha : a < F.1) (hb : b < F.1) (km : (sx_cl F m).1 = 11) (ka : (sx_cl F a).1 = 20) (kb : (sx_cl F b).1 = 20) (la : base + n ≤ (sx_cl F a).2.1) (lb : base + n ≤ (sx_cl F b).2.1) (za : (sx_cl F a).2.1 < 2 ^ 31) (zb : (sx_cl F b).2.1 < 2 ^ 31) (v0 : val m 27 = .ref a) (v1 : val m 28 = .ref b) (vb : ∀ i, val b i = .retAddr 100) : ∀ (d l : Nat), l + d = 15 → ∀ (e i : Nat) (c : Int32) (h : am_H), i + e = base + n → sx_hg ρ F val h → ∃ h', am_P am_i_X12_layCodes 19 [(5, .int (nI i)), (3, .int c), (4, .int (nI l)), (0, .ref m), (1, .int (nI base)), (2, .int (nI n))] [] h none h' ∧ sx_hg ρ F val h' := by
  intro d
  induction d with
  | zero =>
    intro l hl
    have hl : l = 15 := hl
    subst hl
    refine zz_lci hm ha hb km ka kb la lb za zb v0 v1 vb (fun c h hh => ⟨h, ?_, hh⟩)
    refine am_P.many (u := (62, [(4, .int (nI 15 + 1)), (5, .int (nI (base + n))), (3, .int c), (0, .ref m), (1, .int (nI base)), (2, .int (nI n))], [], h)) 5 rfl ?_
    exact am_P.ret (M := am_m_X12_layCodes) rfl rfl rfl
  | succ d ihd =>
    intro l hl
    refine zz_lci hm ha hb km ka kb la lb za zb v0 v1 vb (fun c h hh => ?_)
    obtain ⟨h', P', g'⟩ := ihd (l + 1) (by omega) n base (2 * c) h (by omega) hh
    refine ⟨h', ?_, g'⟩
    refine am_P.many (u := (bif am_cc .ge (nI l + 1) 16 then 62 else 12, [(4, .int (nI l + 1)), (5, .int (nI (base + n))), (3, .int c), (0, .ref m), (1, .int (nI base)), (2, .int (nI n))], [], h)) 5 rfl ?_
    rw [nI_1]
    refine am_P.bif (b := am_cc .ge (nI (l + 1)) 16) (t := 62) (f := 12) (fun q => absurd (am_ge_t q) (nI_ge (a := l + 1) (b := 16) (by omega) (by decide))) (fun _ => ?_)
    exact am_P.many (u := (19, [(5, .int (nI base)), (3, .int (2 * c)), (4, .int (nI (l + 1))), (0, .ref m), (1, .int (nI base)), (2, .int (nI n))], [], h)) 6 rfl P'
end MAD
