/-! LOOPS TAKEN AS ONE STEP -/
set_option maxRecDepth 100000 in
theorem by_add_x {h : am_H} {b a n k : Nat} {f : Nat → Value} (x : Int32) (hb : by_at h b a n (nI k) f) (hn : n < 2 ^ 31) (hk : k < n) : am_T am_i_X2_add [.ref b, .int x] h none (am_put (am_put h a (20, n, am_up f k (.int (x &&& 255)))) b (1, (h.2.2.2 b).2.1, am_up (h.2.2.2 b).2.2 1 (.int (nI (k + 1))))) := by
  have hne := by_ne hb
  obtain ⟨b1, b2, b3, b4, b5, b6⟩ := hb
  show am_P am_i_X2_add 0 [(0, .ref b), (1, .int x)] [] h none _
  refine am_P.many (u := (1, [(0, .ref b), (1, .int x)], [.ref b], h)) 1 rfl ?_
  refine am_P.getf (M := am_m_X2_add) (ci := 1) rfl rfl b1 b2 rfl ?_
  rw [b4]
  refine am_P.many (u := (bif am_cc .lt (nI k) 0 then 43 else 7, [(0, .ref b), (1, .int x)], [], h)) 1 rfl ?_
  refine am_P.bif (b := am_cc .lt (nI k) 0) (t := 43) (f := 7) (fun q => absurd (am_lt_t q) (nI_pos (by omega))) (fun _ => ?_)
  refine am_P.many (u := (8, [(0, .ref b), (1, .int x)], [.ref b], h)) 1 rfl ?_
  refine am_P.getf (M := am_m_X2_add) (ci := 1) rfl rfl b1 b2 rfl ?_
  rw [b4]
  refine am_P.many (u := (12, [(0, .ref b), (1, .int x)], [.ref b, .int (nI k)], h)) 1 rfl ?_
  refine am_P.getf (M := am_m_X2_add) (ci := 1) rfl rfl b1 b2 rfl ?_
  rw [b3]
  refine am_P.alen (M := am_m_X2_add) (ci := 20) rfl rfl b5 (by rw [b6]) rfl ?_
  rw [b6]
  refine am_P.many (u := (bif am_cc .ge (nI k) (nI n) then 43 else 19, [(0, .ref b), (1, .int x)], [], h)) 1 rfl ?_
  refine am_P.bif (b := am_cc .ge (nI k) (nI n)) (t := 43) (f := 19) (fun q => absurd (am_ge_t q) (nI_ge hk hn)) (fun _ => ?_)
  refine am_P.many (u := (20, [(0, .ref b), (1, .int x)], [.ref b], h)) 1 rfl ?_
  refine am_P.getf (M := am_m_X2_add) (ci := 1) rfl rfl b1 b2 rfl ?_
  rw [b3]
  refine am_P.many (u := (24, [(0, .ref b), (1, .int x)], [.ref b, .ref a], h)) 1 rfl ?_
  refine am_P.getf (M := am_m_X2_add) (ci := 1) rfl rfl b1 b2 rfl ?_
  rw [b4]
  refine am_P.many (u := (32, [(0, .ref b), (1, .int x)], [.int (x &&& 255), .int (nI k), .ref a], h)) 3 rfl ?_
  -- at 32: .iastore ; stack [.int (x &&& 255), .int (nI k), .ref a]
  refine am_P.iast (M := am_m_X2_add) rfl rfl b5 (by rw [b6]) (by rw [b6]; exact am_inT (n := n) hk hn) ?_
  rw [b6, nI_clamp (show k < 2 ^ 31 by omega)]
  refine am_P.many (u := (35, [(0, .ref b), (1, .int x)], [.ref b, .ref b], (am_put h a (20, n, am_up f k (.int (x &&& 255)))))) 2 rfl ?_
  refine am_P.getf (M := am_m_X2_add) (ci := 1) rfl rfl b1 (by rw [am_put_n h (Ne.symm hne)]; exact b2) rfl ?_
  rw [am_put_n h (Ne.symm hne), b4]
  refine am_P.many (u := (40, [(0, .ref b), (1, .int x)], [.int ((nI k) + 1), .ref b], (am_put h a (20, n, am_up f k (.int (x &&& 255)))))) 2 rfl ?_
  -- at 40: .putfield 15 ; stack [.int ((nI k) + 1), .ref b]
  refine am_P.putf (M := am_m_X2_add) (ci := 1) rfl rfl b1 (by rw [am_put_n h (Ne.symm hne)]; exact b2) rfl rfl ?_
  rw [am_put_n h (Ne.symm hne), show nI k + 1 = nI (k + 1) from nI_1 k]
  exact am_P.ret (M := am_m_X2_add) rfl rfl rfl
/-- the heap, by its values -/
def sx_hg (ρ : Nat → Int32) (F : sx_H) (val : Nat → Nat → Value) (h : am_H) : Prop := h.1 = F.1 ∧ h.2.1 = F.2.1 ∧ h.2.2.1 = F.2.2.1 ∧ F.1 ≤ 512 ∧ ∀ o, o < F.1 → (h.2.2.2 o).1 = (sx_cl F o).1 ∧ (h.2.2.2 o).2.1 = (sx_cl F o).2.1 ∧ ∀ j, sx_rel ρ (val o j) ((h.2.2.2 o).2.2 j)
def sx_vu (val : Nat → Nat → Value) (o j : Nat) (v : Value) : Nat → Nat → Value := fun q i => if q = o ∧ i = j then v else val q i
section MAC
variable {ρ : Nat → Int32} {F : sx_H} {val val' : Nat → Nat → Value} {h : am_H}
theorem sx_hg_put {o j : Nat} {v w : Value} {kd len : Nat} (hr : sx_hg ρ F val h) (ho : o < F.1) (hk : kd = (h.2.2.2 o).1) (hl : len = (h.2.2.2 o).2.1) (hv : sx_rel ρ v w) : sx_hg ρ F (sx_vu val o j v) (am_put h o (kd, len, am_up (h.2.2.2 o).2.2 j w)) := by
  obtain ⟨h1, h2, h3, h4, h5⟩ := hr
  refine ⟨h1, h2, h3, h4, fun q hq => ?_⟩
  by_cases e : q = o
  · subst e
    rw [am_put_s]
    obtain ⟨k1, k2, k3⟩ := h5 q hq
    refine ⟨by rw [hk]; exact k1, by rw [hl]; exact k2, fun i => ?_⟩
    show sx_rel ρ (sx_vu val q j v q i) (am_up (h.2.2.2 q).2.2 j w i)
    by_cases e2 : i = j
    · subst e2
      rw [am_up_s]
      unfold sx_vu
      rw [if_pos ⟨rfl, rfl⟩]
      exact hv
    · rw [am_up_n e2]
      unfold sx_vu
      rw [if_neg (fun z => e2 z.2)]
      exact k3 i
  · rw [am_put_n h e]
    obtain ⟨k1, k2, k3⟩ := h5 q hq
    refine ⟨k1, k2, fun i => ?_⟩
    unfold sx_vu
    rw [if_neg (fun z => e z.1)]
    exact k3 i
theorem sx_hg_ext (hr : sx_hg ρ F val h) (he : ∀ o, o < F.1 → ∀ j, val' o j = val o j) : sx_hg ρ F val' h := by
  obtain ⟨h1, h2, h3, h4, h5⟩ := hr
  refine ⟨h1, h2, h3, h4, fun q hq => ?_⟩
  obtain ⟨k1, k2, k3⟩ := h5 q hq
  exact ⟨k1, k2, fun i => by rw [he q hq]; exact k3 i⟩
theorem sx_hg_of (hr : sx_hr ρ F h) : sx_hg ρ F (fun o => sx_vl (sx_cl F o)) h := hr
theorem sx_hg_to {b j : Nat} {v : Value} (hb : b < F.1) (hr : sx_hg ρ F (sx_vu (fun o => sx_vl (sx_cl F o)) b j v) h) : sx_hr ρ (sx_put F b (sx_up (sx_cl F b) j v)) h := by
  obtain ⟨h1, h2, h3, h4, h5⟩ := hr
  refine ⟨h1, h2, h3, h4, fun q hq => ?_⟩
  have hq : q < F.1 := hq
  obtain ⟨k1, k2, k3⟩ := h5 q hq
  by_cases e : q = b
  · subst e
    have e1 : sx_cl (sx_put F q (sx_up (sx_cl F q) j v)) q = sx_up (sx_cl F q) j v := sx_ts_s 9 _ _ _
    rw [e1]
    refine ⟨k1, k2, fun i => ?_⟩
    rw [sx_up_at]
    have := k3 i
    unfold sx_vu at this
    by_cases e2 : i = j
    · subst e2
      rw [if_pos ⟨rfl, rfl⟩] at this
      rw [Nat.beq_refl]
      exact this
    · rw [if_neg (fun z => e2 z.2)] at this
      have hb : Nat.beq i j = false := by
        cases hb : Nat.beq i j with
        | true => exact absurd (Nat.eq_of_beq_eq_true hb) e2
        | false => rfl
      rw [hb]
      exact this
  · have e1 : sx_cl (sx_put F b (sx_up (sx_cl F b) j v)) q = sx_cl F q := sx_ts_n 9 _ _ _ _ e (by omega) (by omega)
    rw [e1]
    refine ⟨k1, k2, fun i => ?_⟩
    have := k3 i
    unfold sx_vu at this
    rw [if_neg (fun z => e z.1)] at this
    exact this
theorem sx_vu_s {o j : Nat} {v : Value} : sx_vu val o j v o j = v := by
  unfold sx_vu
  rw [if_pos ⟨rfl, rfl⟩]
theorem sx_vu_n {o j q i : Nat} {v : Value} (h : q ≠ o ∨ i ≠ j) : sx_vu val o j v q i = val q i := by
  unfold sx_vu
  rw [if_neg (fun z => h.elim (fun e => e z.1) (fun e => e z.2))]
/-- zeros behind the last byte -/
theorem zz_az {b a n m : Nat} (hn : n < 2 ^ 31) (hm : m < 2 ^ 31) (hb : b < F.1) (ha : a < F.1) (hab : a ≠ b) (kb : (sx_cl F b).1 = 1) (ka : (sx_cl F a).1 = 20) (la : (sx_cl F a).2.1 = n) (v0 : val b 0 = .ref a) (va : ∀ i, val a i = .int 0) : ∀ (d j k : Nat) (h : am_H), j + d = m → k + d ≤ n → sx_hg ρ F (sx_vu val b 1 (.int (nI k))) h → ∃ h', am_P am_i_X2_addZeros 2 [(2, .int (nI j)), (0, .ref b), (1, .int (nI m))] [] h none h' ∧ sx_hg ρ F (sx_vu val b 1 (.int (nI (k + d)))) h' := by
  intro d
  induction d with
  | zero =>
    intro j k h hj hk hh
    have hj : j = m := hj
    subst hj
    refine ⟨h, ?_, hh⟩
    refine am_P.many (u := (bif am_cc .ge (nI j) (nI j) then 18 else 7, [(2, .int (nI j)), (0, .ref b), (1, .int (nI j))], [], h)) 3 rfl ?_
    refine am_P.bif (b := am_cc .ge (nI j) (nI j)) (t := 18) (f := 7) (fun _ => ?_) (fun q => absurd (show am_cc .ge (nI j) (nI j) = true from decide_eq_true (nI_le (Nat.le_refl j) hm)) (by rw [q]; decide))
    exact am_P.ret (M := am_m_X2_addZeros) rfl rfl rfl
  | succ d ih =>
    intro j k h hj hk hh
    have hh0 := hh
    obtain ⟨e1, e2, e3, e4, e5⟩ := hh
    obtain ⟨p1, p2, p3⟩ := e5 b hb
    obtain ⟨q1, q2, q3⟩ := e5 a ha
    have r0 := p3 0
    rw [sx_vu_n (Or.inr (by decide)), v0] at r0
    have r1 := p3 1
    rw [sx_vu_s] at r1
    have hat : by_at h b a n (nI k) (h.2.2.2 a).2.2 := ⟨by rw [e1]; exact hb, p1.trans kb, r0, r1, by rw [e1]; exact ha, by rw [← q1.trans ka, ← q2.trans la]⟩
    have t1 := by_add_x 0 hat hn (by omega)
    have g1 := sx_hg_put (j := k) (v := .int 0) (w := .int (0 &&& 255)) (kd := 20) (len := n) hh0 ha (q1.trans ka).symm (q2.trans la).symm (show Value.int (0 &&& 255) = Value.int 0 from rfl)
    have hne : (am_put h a (20, n, am_up (h.2.2.2 a).2.2 k (.int (0 &&& 255)))).2.2.2 b = h.2.2.2 b := am_put_n h (Ne.symm hab) _
    have g2 := sx_hg_put (j := 1) (v := .int (nI (k + 1))) (w := .int (nI (k + 1))) (kd := 1) (len := (h.2.2.2 b).2.1) g1 hb (by rw [hne]; exact (p1.trans kb).symm) (by rw [hne]) (show Value.int _ = Value.int _ from rfl)
    rw [hne] at g2
    have g3 : sx_hg ρ F (sx_vu val b 1 (.int (nI (k + 1)))) (am_put (am_put h a (20, n, am_up (h.2.2.2 a).2.2 k (.int (0 &&& 255)))) b (1, (h.2.2.2 b).2.1, am_up (h.2.2.2 b).2.2 1 (.int (nI (k + 1))))) := by
      refine sx_hg_ext g2 (fun o ho i => ?_)
      by_cases c1 : o = b ∧ i = 1
      · rw [c1.1, c1.2, sx_vu_s, sx_vu_s]
      · have c1' : o ≠ b ∨ i ≠ 1 := by
          by_cases z : o = b
          · exact Or.inr (fun y => c1 ⟨z, y⟩)
          · exact Or.inl z
        rw [sx_vu_n c1', sx_vu_n c1']
        by_cases c2 : o = a ∧ i = k
        · rw [c2.1, c2.2, sx_vu_s, va]
        · have c2' : o ≠ a ∨ i ≠ k := by
            by_cases z : o = a
            · exact Or.inr (fun y => c2 ⟨z, y⟩)
            · exact Or.inl z
          rw [sx_vu_n c2', sx_vu_n c1']
    obtain ⟨h2, P2, g4⟩ := ih (j + 1) (k + 1) _ (by omega) (by omega) g3
    refine ⟨h2, ?_, by rw [show k + (d + 1) = k + 1 + d by omega]; exact g4⟩
    refine am_P.many (u := (bif am_cc .ge (nI j) (nI m) then 18 else 7, [(2, .int (nI j)), (0, .ref b), (1, .int (nI m))], [], h)) 3 rfl ?_
    refine am_P.bif (b := am_cc .ge (nI j) (nI m)) (t := 18) (f := 7) (fun q => absurd (am_ge_t q) (nI_ge (show j < m by omega) hm)) (fun _ => ?_)
    refine am_P.many (u := (9, [(2, .int (nI j)), (0, .ref b), (1, .int (nI m))], [.int 0, .ref b], h)) 2 rfl ?_
    refine am_P.callV (M := am_m_X2_addZeros) (M' := am_m_X2_add) (v1 := none) rfl rfl rfl rfl rfl hat.1 hat.2.1 rfl rfl rfl t1 ?_
    refine am_P.many (u := (2, [(2, .int (nI j + 1)), (0, .ref b), (1, .int (nI m))], [], _)) 2 rfl ?_
    rw [nI_1]
    exact P2
end MAC
