/-! THE LAW'S RULES -/
theorem l1_pm_G {mi : Nat} {M : am_M} (hM : am_tab[mi]? = some M) : ∀ {k pc pc' : Nat} {L L' : List (Option Value)} {st st' : List Value} {lo : List (Nat × Value)}, l1_pm M k pc L st = some (pc', L', st') → l1_ag L lo → ∀ h, ∃ lo', l1_ag L' lo' ∧ am_G mi pc lo st h (pc', lo', st', h) := by
  intro k
  induction k with
  | zero => intro pc pc' L L' st st' lo hs ha h; cases hs; exact ⟨lo, ha, am_G.rf⟩
  | succ k ih =>
    intro pc pc' L L' st st' lo hs ha h
    unfold l1_pm at hs
    split at hs
    · rename_i u hu
      obtain ⟨p1, L1, s1⟩ := u
      obtain ⟨lo1, h1, a1⟩ := l1_ps_ok (h := h) hM hu ha
      obtain ⟨lo2, a2, h2⟩ := ih hs a1 h
      exact ⟨lo2, a2, (am_G.one h1).tr h2⟩
    · cases hs
/-- what a walk of the law may use -/
noncomputable def LG (sl : Nat) (xs : Nat → Int32) (G : Nat → Nat → List (Option Value) → List Value → am_H → Prop) : Prop :=
  (∀ (x pc : Nat) (L : List (Option Value)) (st : List Value) (h : am_H) (k pc' : Nat) (L' : List (Option Value)) (st' : List Value), l1_pm am_m_L_law k pc L st = some (pc', L', st') → G x pc' L' st' h → G x pc L st h)
  ∧ (∀ (x pc : Nat) (L : List (Option Value)) (st : List Value) (h : am_H), am_c_L_law pc = some (.arraylength, 1) → G x (pc + 1) L (.int (Int32.ofNat sl) :: st) h → G x pc L (.ref 1000000300 :: st) h)
  ∧ (∀ (x pc : Nat) (L : List (Option Value)) (st : List Value) (h : am_H) (j : Int32), am_c_L_law pc = some (.iaload, 1) → am_in j sl = true → G x (pc + 1) L (.int (xs j.toNatClampNeg) :: st) h → G x pc L (.int j :: .ref 1000000300 :: st) h)
  ∧ (∀ (x pc : Nat) (L : List (Option Value)) (st st' : List Value) (h : am_H) (pc' : Nat), (∀ lo, am_one am_i_L_law pc lo st h = some (pc', lo, st', h)) → G x pc' L st' h → G x pc L st h)
  ∧ (∀ (x pc : Nat) (L : List (Option Value)) (st : List Value) (h : am_H) (idx mi ex : Nat) (hh : List (Nat × Nat × Nat × Nat)) (M : am_M) (h1 : am_H) (v : Value), lx_hq (idx, mi, hh) → am_tab[mi]? = some M → am_c_L_law pc = some (.invokestatic idx, 3) → (st.take M.2.2.2.2).length = M.2.2.2.2 → ((st.drop M.2.2.2.2).map fun v => v.category).sum ≤ 8 → (∀ l : Launch, l.stackTraces = false → lx_Met l M hh (st.take M.2.2.2.2).reverse h h1 v ex) → am_gr h h1 → J0 h1 → x + ex ≤ 5000 → G (x + ex) (pc + 3) L (v :: st.drop M.2.2.2.2) h1 → G x pc L st h)
  ∧ (∀ (x pc : Nat) (L : List (Option Value)) (st : List Value) (h : am_H) (idx : Nat) (w : Nat × List Value × List Value) (M' : am_M) (v : Option Value) (h1 : am_H), am_c_L_law pc = some (.invokevirtual idx, 3) → am_tgt 13 (.invokevirtual idx) st h = some w → am_tab[w.1]? = some M' → am_can am_m_L_law M' (.invokevirtual idx) w = true → am_T w.1 w.2.1 h v h1 → J0 h1 → G x (pc + 3) L (v.toList ++ w.2.2) h1 → G x pc L st h)
  ∧ (∀ (x pc : Nat) (L : List (Option Value)) (h : am_H), am_c_L_law pc = some (.ireturn, 1) → G x pc L [.int 1] h)
  ∧ (∀ (x pc : Nat) (L L' : List (Option Value)) (st : List Value) (h : am_H) (m : List Bool), l1_trim (l1_msk m L) = L' → G x pc L' st h → G x pc L st h)
section LGR
variable {sl : Nat} {xs : Nat → Int32} {G : Nat → Nat → List (Option Value) → List Value → am_H → Prop} {x pc pc' : Nat} {L L' : List (Option Value)} {st st' : List Value} {h h1 : am_H}
theorem LG.many (g : LG sl xs G) (k : Nat) (hp : l1_pm am_m_L_law k pc L st = some (pc', L', st')) (hG : G x pc' L' st' h) : G x pc L st h := g.1 x pc L st h k pc' L' st' hp hG
theorem LG.slen (g : LG sl xs G) (hc : am_c_L_law pc = some (.arraylength, 1)) (hG : G x (pc + 1) L (.int (Int32.ofNat sl) :: st) h) : G x pc L (.ref 1000000300 :: st) h := g.2.1 x pc L st h hc hG
theorem LG.sld (g : LG sl xs G) {j : Int32} (hc : am_c_L_law pc = some (.iaload, 1)) (hj : am_in j sl = true) (hG : G x (pc + 1) L (.int (xs j.toNatClampNeg) :: st) h) : G x pc L (.int j :: .ref 1000000300 :: st) h := g.2.2.1 x pc L st h j hc hj hG
theorem LG.one (g : LG sl xs G) (hs : ∀ lo, am_one am_i_L_law pc lo st h = some (pc', lo, st', h)) (hG : G x pc' L st' h) : G x pc L st h := g.2.2.2.1 x pc L st st' h pc' hs hG
theorem LG.ret (g : LG sl xs G) (hc : am_c_L_law pc = some (.ireturn, 1)) : G x pc L [.int 1] h := g.2.2.2.2.2.2.1 x pc L h hc
theorem LG.weak (g : LG sl xs G) {m : List Bool} (hm : l1_trim (l1_msk m L) = L') (hG : G x pc L' st h) : G x pc L st h := g.2.2.2.2.2.2.2 x pc L L' st h m hm hG
/-- a helper's run, and what it costs -/
noncomputable def HC (M : am_M) (hh : List (Nat × Nat × Nat × Nat)) (av : List Value) (h h1 : am_H) (v : Value) (e : Nat) : Prop := (∀ l : Launch, l.stackTraces = false → lx_Met l M hh av h h1 v e) ∧ am_gr h h1 ∧ e ≤ 1
theorem LG.call (g : LG sl xs G) {idx mi ex : Nat} {hh : List (Nat × Nat × Nat × Nat)} {M : am_M} {av r : List Value} {v : Value} (hq : lx_hq (idx, mi, hh)) (hM : am_tab[mi]? = some M) (hc : am_c_L_law pc = some (.invokestatic idx, 3)) (ha : (st.take M.2.2.2.2).reverse = av) (hr : st.drop M.2.2.2.2 = r) (hl : av.length = M.2.2.2.2) (hw : (r.map fun v => v.category).sum ≤ 8) (hm : HC M hh av h h1 v ex) (hj : J0 h1) (hx : x + 1 ≤ 5000) (hG : G (x + ex) (pc + 3) L (v :: r) h1) : G x pc L st h := by
  subst ha
  subst hr
  rw [List.length_reverse] at hl
  have := hm.2.2
  exact g.2.2.2.2.1 x pc L st h idx mi ex hh M h1 v hq hM hc hl hw hm.1 hm.2.1 hj (by omega) hG
theorem LG.callV (g : LG sl xs G) {idx o ci np kd mi1 : Nat} {M' : am_M} {As rest : List Value} {v : Option Value} (hc : am_c_L_law pc = some (.invokevirtual idx, 3)) (hnp : am_fnd (am_vn 13) idx = some np) (hst : st.drop np = .ref o :: rest) (hAs : (st.take np).reverse = As) (h0 : J0 h) (ho : o < 220) (hk : (h.2.2.2 o).1 = ci) (hf : am_fv (am_vt 13) idx ci = some (mi1, kd)) (hM' : am_tab[mi1]? = some M') (hcan : am_can am_m_L_law M' (.invokevirtual idx) (mi1, .ref o :: As, rest) = true) (hT : am_T mi1 (.ref o :: As) h v h1) (hj : J0 h1) (hG : G x (pc + 3) L (v.toList ++ rest) h1) : G x pc L st h := by
  refine g.2.2.2.2.2.1 x pc L st h idx (mi1, .ref o :: As, rest) M' v h1 hc ?_ hM' hcan hT hj hG
  have o1 : o < h.1 := by rw [h0.1]; exact ho
  simp only [am_tgt, hnp, hst, hAs, am_bt o1, cond_true, hk, hf]
end LGR
/-! stores into the law's row -/
theorem l1_jst {α : Type} {w : α → Option Value ⊕ Nat} {Q : hS → am_H → Prop} {kf : Nat → Nat} {mi pc n : Nat} {M : am_M} {L : List (Option Value)} {st : List Value} {c : hS} (hQ : l1_em kf Q) (hM : am_tab[mi]? = some M) {o : Nat} {j : Int32} {x : Int64} {K : hS → Option (α × hS)} (hc : M.1.2.2.2.2.2 pc = some (.lastore, n)) (hk : kf o = 21) (hx : j_in j (ln o) = true) (hG : ∀ c1, l1_G w Q mi (pc + 1) L st c1 (K c1)) : l1_G w Q mi pc L (.long x :: .int j :: .ref o :: st) c (st1 (sJ c o j.toNatClampNeg x) K) := by
  refine l1_stepS (fun h lo hq ha => ?_) hG
  obtain ⟨x1, x2⟩ := l1_jin hx
  obtain ⟨o1, o2, o3, o4⟩ := l1_at hQ hq hk (by decide)
  refine ⟨am_put h o (21, ln o, am_up (h.2.2.2 o).2.2 j.toNatClampNeg (.long x)), ?_, l1_upJ hQ hq hk (by decide) rfl⟩
  refine l1_one1 (u := (pc + 1, st, am_put h o (21, ln o, am_up (h.2.2.2 o).2.2 j.toNatClampNeg (.long x)))) hM hc rfl rfl rfl ?_
  simp only [am_s1, am_bt o1, cond_true, o2, o3, x1, Nat.beq_refl, Bool.and_self]
theorem lw_out {st : List Value} {pc : Nat} {c : hS} {h : am_H} (q : JR c h) (hc : am_c_L_law pc = some (.laload, 1)) : ∀ lo, am_one am_i_L_law pc lo (.int 0 :: .ref 219 :: st) h = some (pc + 1, lo, .long (c.2.1 219 0) :: st, h) := by
  intro lo
  obtain ⟨o1, o2, o3, o4⟩ := q.2.2 219 (by decide)
  refine l1_one1 (u := (pc + 1, .long (c.2.1 219 0) :: st, h)) sx_m_L_law hc rfl rfl rfl ?_
  have x1 : am_in 0 (ln 219) = true := by decide
  have o2 : (h.2.2.2 219).1 = 21 := o2
  simp only [am_s1, am_bt o1, cond_true, o2, o3, x1, Nat.beq_refl, Bool.and_self]
  rw [show (0 : Int32).toNatClampNeg = 0 from rfl, o4 0 (by decide)]
  rfl
/-! A HELPER -/
theorem lo_sJ {c : hS} {x : Int64} : lo_eq c (sJ c 219 0 x) := fun o ho => ⟨fun _ => rfl, fun j => by simp only [sJ]; rw [if_neg (fun q => by omega)], fun _ => rfl⟩
theorem sJ_at {c : hS} {x : Int64} : (sJ c 219 0 x).2.1 219 0 = x := by simp [sJ]
theorem JR_xt {g c : hS} {h : am_H} (q : QC g c h) (hx : xt g c) : JR c h := ⟨q.1, q.2.1, l1_R_eq q.2.2 (fun o ho => hx o (km_ge ho).1)⟩
theorem JR_lo {g c : hS} {h : am_H} (q : QM g c h) (hx : lo_eq g c) : JR c h := ⟨q.1, l1_R_eq q.2.2 (fun o ho => hx o (kc_lt ho)), q.2.1⟩
/-- a helper stands so: its pushes, its call, what stands behind -/
noncomputable def HS (mi mi1 idx kd np pcC k : Nat) (M M1 : am_M) (av As st0 rest : List Value) (L : List (Option Value)) : Prop := am_tab[mi]? = some M ∧ am_tab[mi1]? = some M1 ∧ (plainName M.2.2.2.1.cls = true ∧ M.1.1 = 13 ∧ M.2.2.1 = some .int) ∧ l1_agl 0 L (lv_args 0 av) ∧ l1_pm M k 0 L [] = some (pcC, L, st0) ∧ M.1.2.2.2.2.2 pcC = some (.invokevirtual idx, 3) ∧ am_fnd (am_vn 13) idx = some np ∧ st0.drop np = .ref 0 :: rest ∧ (st0.take np).reverse = As ∧ am_fv (am_vt 13) idx 10 = some (mi1, kd) ∧ am_can M M1 (.invokevirtual idx) (mi1, .ref 0 :: As, rest) = true ∧ (∀ w ∈ av, am_cv 220 w) ∧ (lg_sl av).length ≤ M.1.2.1
section HPS
variable {mi mi1 idx kd np pcC k : Nat} {M M1 : am_M} {hh : List (Nat × Nat × Nat × Nat)} {av As st0 rest : List Value} {L : List (Option Value)} {c : hS} {h h' h2 : am_H}
theorem HS.tgt (s : HS mi mi1 idx kd np pcC k M M1 av As st0 rest L) (q : JR c h) : am_tgt 13 (.invokevirtual idx) st0 h = some (mi1, .ref 0 :: As, rest) := by
  obtain ⟨-, -, -, -, -, -, hnp, hst, hAs, hf, -, -, -⟩ := s
  obtain ⟨o1, o2, -, -⟩ := q.2.1 0 (by decide)
  have o2 : (h.2.2.2 0).1 = 10 := o2
  simp only [am_tgt, hnp, hst, hAs, am_bt o1, cond_true, o2, hf]
theorem HS.ret (s : HS mi mi1 idx kd np pcC k M M1 av As st0 rest L) (q : JR c h) {v : Option Value} {P : am_H → Prop} (hT : am_T mi1 (.ref 0 :: As) h v h') (hE : ∀ lo, l1_ag L lo → ∃ h2, l1_E mi (pcC + 3) lo (v.toList ++ rest) h' (.inl (some (.int 0))) h2 ∧ P h2) : ∃ h2, HC M hh av h h2 (.int 0) 0 ∧ P h2 := by
  have ht := s.tgt q
  obtain ⟨hM, hM1, ⟨hpl, hown, hret⟩, hL, hp, hc, hnp, hst, hAs, hf, hcan, hcv, hla⟩ := s
  obtain ⟨lo', ha', hE'⟩ := l1_pm_E hM hp (l1_ag_of hL) h
  obtain ⟨h2, e1, e2⟩ := hE lo' ha'
  have hT2 : am_T mi av h (some (.int 0)) h2 := hE' (.inl (some (.int 0))) h2 (l1_E.call (w := (mi1, .ref 0 :: As, rest)) (v1 := v) hM hc rfl (by rw [hown]; exact ht) hM1 hcan hT e1)
  exact ⟨h2, ⟨fun l hl D cy A ad => am_metH hM hpl hT2 (by rw [q.1.1]; exact hcv) hla rfl rfl, lx_P_gr hT2, by decide⟩, e2⟩
theorem HS.thr (s : HS mi mi1 idx kd np pcC k M M1 av As st0 rest L) (q : JR c h) {t hp : Nat} {cls : String} {kv : Int32} (hT : l1_E mi1 0 (lv_args 0 (.ref 0 :: As)) [] h (.inr t) h') (ht : am_thr M1 t = some cls) (hhd : am_hnd pcC cls hh = some hp) (hkv : lx_hv M hp = some kv) (hrm : 5 < M1.1.2.2.2.1 ∧ 82 ≤ M1.1.2.2.2.2.1) : HC M hh av h h' (.int kv) 1 := by
  have htg := s.tgt q
  obtain ⟨hM, hM1, ⟨hpl, hown, hret⟩, hL, hp', hc, hnp, hst, hAs, hf, hcan, hcv, hla⟩ := s
  obtain ⟨n1, k1, lo1, hg⟩ := hT
  obtain ⟨lo', ha', hG0⟩ := l1_pm_G hM hp' (l1_ag_of hL) h
  have hG1 : am_G mi1 0 (lv_args 0 (.ref 0 :: As)) [] h (t, lo1, [], h') := ⟨n1, k1, hg⟩
  refine ⟨fun l hl D cy A ad => ?_, (lx_G_gr hG0).tr (lx_G_gr hG1), by decide⟩
  unfold lx_hv at hkv
  split at hkv
  · cases hkv
  · rename_i x hx1
    split at hkv
    · rename_i p2 lo2 hs1
      split at hkv
      · cases hkv
      · rename_i y hy1
        split at hkv
        · rename_i p3 lo3 kv1 hs2
          split at hkv
          · rename_i hc3
            cases hkv
            exact am_metHT2 hl hM hpl hown hG0 (by rw [q.1.1]; exact hcv) hla hc htg hM1 hcan hG1 ht hrm.1 (by simpa using hrm.2) hhd (i1 := x.1) (len1 := x.2) hx1 hs1 (i2 := y.1) (len2 := y.2) hy1 hs2 hc3 hret rfl rfl
          · cases hkv
        · cases hkv
    · cases hkv
end HPS
/-- what a helper leaves: the law's number, the row, both pictures -/
noncomputable def HR (M : am_M) (hh : List (Nat × Nat × Nat × Nat)) (av : List Value) (h : am_H) (K : Nat) (V : Int64) (b t : List Nat) (ms : List Mb) (b' t' : List Nat) (ms' : List Mb) : Prop := ∃ h1 c1 e, HC M hh av h h1 (.int (nI K)) e ∧ JR c1 h1 ∧ PC c1 c1 b' t' ms' ∧ PM c1 b t ms ∧ (K = 0 → c1.2.1 219 0 = V)
/-- what happens at a throw's place -/
noncomputable def TH (M M1 : am_M) (hh : List (Nat × Nat × Nat × Nat)) (pcC : Nat) (pm : Nat → Nat) (p : Nat) : Prop := ∃ cls hp, am_thr M1 p = some cls ∧ am_hnd pcC cls hh = some hp ∧ lx_hv M hp = some (nI (pm p))
section HPA
variable {mi mi1 idx kd np pcC k p2 : Nat} {M M1 : am_M} {hh : List (Nat × Nat × Nat × Nat)} {av As st0 : List Value} {L L1 : List (Option Value)} {c : hS} {h : am_H} {b t b' t' : List Nat} {ms ms' : List Mb} {pm : Nat → Nat} {K : Nat}
theorem tl_J {v : Int64} {g c : hS} {p : Nat} (hM : am_tab[mi]? = some M) (hc : M.1.2.2.2.2.2 p = some (.lastore, 1)) (h2 : l1_pm M 2 (p + 1) L [] = some (p2, L, [.int 0])) (hr : M.1.2.2.2.2.2 p2 = some (.ireturn, 1)) (hret : M.2.2.1 = some .int) : l1_G (wN wI) (QM g) mi p L [.long v, .int 0, .ref 219] c (st1 (sJ c 219 0 v) fun c1 => some (0, c1)) := by
  refine l1_jst (em_M g) hM hc (show km 219 = 21 by decide) (show j_in 0 (ln 219) = true by decide) (fun c1 => ?_)
  refine l1_many hM 2 h2 ?_
  exact l1_ret hM hr (v := some (.int 0)) (by rw [hret]; rfl) rfl
theorem hp_tail {v : Int64} {g c' : hS} {h' : am_H} {p : Nat} (hq : QC g c' h') (hx : xt g c') (hM : am_tab[mi]? = some M) (hc : M.1.2.2.2.2.2 p = some (.lastore, 1)) (h2 : l1_pm M 2 (p + 1) L [] = some (p2, L, [.int 0])) (hr : M.1.2.2.2.2.2 p2 = some (.ireturn, 1)) (hret : M.2.2.1 = some .int) : ∀ lo, l1_ag L lo → ∃ h2, l1_E mi p lo [.long v, .int 0, .ref 219] h' (.inl (some (.int 0))) h2 ∧ JR (sJ c' 219 0 v) h2 := by
  intro lo ha
  have q := JR_xt hq hx
  obtain ⟨h2, e1, e2⟩ := tl_J (v := v) (g := c') (c := c') hM hc h2 hr hret 0 (sJ c' 219 0 v) rfl h' lo ⟨q.1, q.2.2, q.2.1⟩ ha
  exact ⟨h2, e1, JR_lo e2 lo_sJ⟩
theorem lo_rf {c : hS} : lo_eq c c := fun _ _ => ⟨fun _ => rfl, fun _ => rfl, fun _ => rfl⟩
theorem hp_thr {α : Type} {w : α → Option Value} {V : Int64} {X : Option ((α ⊕ Nat) × hS)} {rest : List Value} {p : Nat} {c' : hS} {h' : am_H} (s : HS mi mi1 idx kd np pcC k M M1 av As st0 rest L) (q : JP c h b t ms) (hP : PC c c' b' t' ms') (hr : K ≠ 0 ∧ pm p = K) (hE : l1_E mi1 0 (lv_args 0 (.ref 0 :: As)) [] h (.inr p) h') (hQ : QC c c' h') (hrm : 5 < M1.1.2.2.2.1 ∧ 82 ≤ M1.1.2.2.2.2.1) (hth : TH M M1 hh pcC pm p) : HR M hh av h K V b t ms b' t' ms' := by
  have hx : xt c c' := hP.2.2.2.2.2.1.2
  obtain ⟨cls, hp, t1, t2, t3⟩ := hth
  rw [hr.2] at t3
  exact ⟨h', c', 1, s.thr q.1 hE t1 t2 t3 hrm, JR_xt hQ hx, PC_eq hP lo_rf, PM_eq q.2.2 (fun o ho j => (hx o ho).1 j), fun z => absurd z hr.1⟩
theorem hp_int {v : Int32} {X : Option ((Int32 ⊕ Nat) × hS)} (s : HS mi mi1 idx kd np pcC k M M1 av As st0 [.int 0, .ref 219] L) (q : JP c h b t ms) (hAN : AN c X pm K v b' t' ms') (hen : l1_G (wT wI) (QC c) mi1 0 L1 [] c X) (hL1 : l1_agl 0 L1 (lv_args 0 (.ref 0 :: As))) (hrm : 5 < M1.1.2.2.2.1 ∧ 82 ≤ M1.1.2.2.2.2.1) (hth : ∀ p c', X = some (.inr p, c') → TH M M1 hh pcC pm p) (hi : ∀ a, l1_pm M 1 (pcC + 3) L [.int a, .int 0, .ref 219] = some (pcC + 4, L, [.long a.toInt64, .int 0, .ref 219])) (hc : M.1.2.2.2.2.2 (pcC + 4) = some (.lastore, 1)) (h2 : l1_pm M 2 (pcC + 4 + 1) L [] = some (p2, L, [.int 0])) (hr : M.1.2.2.2.2.2 p2 = some (.ireturn, 1)) : HR M hh av h K v.toInt64 b t ms b' t' ms' := by
  obtain ⟨r, c', hX, hP, hr'⟩ := hAN
  obtain ⟨h', hE, hQ⟩ := hen r c' hX h (lv_args 0 (.ref 0 :: As)) ⟨q.1.1, q.1.2.1, q.1.2.2⟩ (l1_ag_of hL1)
  have hx : xt c c' := hP.2.2.2.2.2.1.2
  cases r with
  | inl a =>
    have hr' : K = 0 ∧ a = v := hr'
    obtain ⟨rfl, rfl⟩ := hr'
    obtain ⟨h3, e1, e2⟩ := s.ret (hh := hh) q.1 (v := some (.int a)) (P := JR (sJ c' 219 0 a.toInt64)) hE (fun lo ha => by
      obtain ⟨lo1, a1, b1⟩ := l1_pm_E s.1 (hi a) ha h'
      obtain ⟨h3, e1, e2⟩ := hp_tail (v := a.toInt64) hQ hx s.1 hc h2 hr s.2.2.1.2.2 lo1 a1
      exact ⟨h3, b1 _ _ e1, e2⟩)
    exact ⟨h3, _, 0, e1, e2, PC_eq hP lo_sJ, PM_eq q.2.2 (fun o ho j => (hx o ho).1 j), fun _ => sJ_at⟩
  | inr p => exact hp_thr (X := X) (w := wI) s q hP hr' hE hQ hrm (hth p c' hX)
theorem hp_long {v : Int64} {X : Option ((Int64 ⊕ Nat) × hS)} (s : HS mi mi1 idx kd np pcC k M M1 av As st0 [.int 0, .ref 219] L) (q : JP c h b t ms) (hAN : AN c X pm K v b' t' ms') (hen : l1_G (wT wL) (QC c) mi1 0 L1 [] c X) (hL1 : l1_agl 0 L1 (lv_args 0 (.ref 0 :: As))) (hrm : 5 < M1.1.2.2.2.1 ∧ 82 ≤ M1.1.2.2.2.2.1) (hth : ∀ p c', X = some (.inr p, c') → TH M M1 hh pcC pm p) (hc : M.1.2.2.2.2.2 (pcC + 3) = some (.lastore, 1)) (h2 : l1_pm M 2 (pcC + 3 + 1) L [] = some (p2, L, [.int 0])) (hr : M.1.2.2.2.2.2 p2 = some (.ireturn, 1)) : HR M hh av h K v b t ms b' t' ms' := by
  obtain ⟨r, c', hX, hP, hr'⟩ := hAN
  obtain ⟨h', hE, hQ⟩ := hen r c' hX h (lv_args 0 (.ref 0 :: As)) ⟨q.1.1, q.1.2.1, q.1.2.2⟩ (l1_ag_of hL1)
  have hx : xt c c' := hP.2.2.2.2.2.1.2
  cases r with
  | inl a =>
    have hr' : K = 0 ∧ a = v := hr'
    obtain ⟨rfl, rfl⟩ := hr'
    obtain ⟨h3, e1, e2⟩ := s.ret (hh := hh) q.1 (v := some (.long a)) (P := JR (sJ c' 219 0 a)) hE (fun lo ha => hp_tail (v := a) hQ hx s.1 hc h2 hr s.2.2.1.2.2 lo ha)
    exact ⟨h3, _, 0, e1, e2, PC_eq hP lo_sJ, PM_eq q.2.2 (fun o ho j => (hx o ho).1 j), fun _ => sJ_at⟩
  | inr p => exact hp_thr (X := X) (w := wL) s q hP hr' hE hQ hrm (hth p c' hX)
theorem hp_void {v : Unit} {X : Option ((Unit ⊕ Nat) × hS)} (s : HS mi mi1 idx kd np pcC k M M1 av As st0 [] L) (q : JP c h b t ms) (hAN : AN c X pm K v b' t' ms') (hen : l1_G (wT wV) (QC c) mi1 0 L1 [] c X) (hL1 : l1_agl 0 L1 (lv_args 0 (.ref 0 :: As))) (hrm : 5 < M1.1.2.2.2.1 ∧ 82 ≤ M1.1.2.2.2.2.1) (hth : ∀ p c', X = some (.inr p, c') → TH M M1 hh pcC pm p) (h2 : l1_pm M 2 (pcC + 3) L [] = some (p2, L, [.int 0])) (hr : M.1.2.2.2.2.2 p2 = some (.ireturn, 1)) : HR M hh av h K (c.2.1 219 0) b t ms b' t' ms' := by
  obtain ⟨r, c', hX, hP, hr'⟩ := hAN
  obtain ⟨h', hE, hQ⟩ := hen r c' hX h (lv_args 0 (.ref 0 :: As)) ⟨q.1.1, q.1.2.1, q.1.2.2⟩ (l1_ag_of hL1)
  have hx : xt c c' := hP.2.2.2.2.2.1.2
  cases r with
  | inl a =>
    have hr' : K = 0 ∧ a = v := hr'
    obtain ⟨rfl, rfl⟩ := hr'
    obtain ⟨h3, e1, e2⟩ := s.ret (hh := hh) q.1 (v := none) (P := JR c') hE (fun lo ha => by
      obtain ⟨lo1, a1, b1⟩ := l1_pm_E s.1 h2 ha h'
      exact ⟨h', b1 _ _ (am_P.ret s.1 hr (by rw [s.2.2.1.2.2]; rfl)), JR_xt hQ hx⟩)
    exact ⟨h3, _, 0, e1, e2, PC_eq hP lo_rf, PM_eq q.2.2 (fun o ho j => (hx o ho).1 j), fun _ => (hx 219 (by decide)).2.1 0⟩
  | inr p => exact hp_thr (X := X) (w := wV) s q hP hr' hE hQ hrm (hth p c' hX)
end HPA
/-! CALLS OF THE REFERENCE, and of the class without a helper -/
section RFC
variable {α : Type} {w : α → Option Value} {mi1 : Nat} {av : List Value} {X : Option (α × hS)} {c : hS} {h : am_H} {b t b' t' : List Nat} {ms ms' : List Mb} {K : Nat} {v : α}
theorem gm_lo {c c' : hS} (hf : gm (fun o _ => 201 ≤ o ∧ o < 219) c c') : lo_eq c c' := fun o ho => ⟨fun j => hf.1 o j (by omega), fun j => hf.2.2 o j (by omega), fun j => by rw [hf.2.1]⟩
theorem rf_call (q1 : JR c h) (q2 : PC c c b' t' ms') (hM : MG X c K v b' t' ms') (hok : l1_T w (QM c) mi1 av c X) : ∃ a c2 h2, am_T mi1 av h (w a) h2 ∧ JP c2 h2 b' t' ms' ∧ c2.1 201 0 = nI K ∧ (K = 0 → a = v) ∧ c2.2.1 219 0 = c.2.1 219 0 := by
  obtain ⟨x, c', hX, e1, e2, e3, e4⟩ := hM
  obtain ⟨h2, t1, t2⟩ := hok x c' hX h ⟨q1.1, q1.2.2, q1.2.1⟩
  exact ⟨x, c', h2, t1, ⟨JR_lo t2 (gm_lo e4), PC_eq q2 (gm_lo e4), e3⟩, e1, e2, e4.2.2 219 0 (by decide)⟩
theorem rf_callF (q1 : JR c h) (q2 : PC c c b' t' ms') (hM : ∃ x c', X = some (x, c') ∧ PM c' b' t' ms' ∧ fm (fun o _ => 201 ≤ o ∧ o < 219) c c') (hok : l1_T w (QM c) mi1 av c X) : ∃ a c2 h2, am_T mi1 av h (w a) h2 ∧ JP c2 h2 b' t' ms' := by
  obtain ⟨x, c', hX, e3, e4⟩ := hM
  obtain ⟨h2, t1, t2⟩ := hok x c' hX h ⟨q1.1, q1.2.2, q1.2.1⟩
  have z : lo_eq c c' := fun o ho => ⟨fun j => e4.1 o j (by omega), fun j => by rw [e4.2], fun j => by rw [e4.2]⟩
  exact ⟨x, c', h2, t1, ⟨JR_lo t2 z, PC_eq q2 z, e3⟩⟩
theorem rf_thrown (q1 : JP c h b t ms) (hk : c.1 201 0 = nI K) : ∃ h2, am_T am_i_X12_thrown [.ref 201] h (some (.int (nI K))) h2 ∧ JP c h2 b t ms := by
  obtain ⟨h2, t1, t2⟩ := ok_X12_thrown (em_M c) c (c.1 201 0) c rfl h ⟨q1.1.1, q1.1.2.2, q1.1.2.1⟩
  rw [hk] at t1
  exact ⟨h2, t1, JR_lo t2 lo_rf, q1.2.1, q1.2.2⟩
theorem cl_call {c' : hS} (q : JP c h b t ms) (hX : X = some (v, c')) (hP : PC c c' b' t' ms') (hok : l1_T w (QC c) mi1 av c X) : ∃ h1 c1, am_T mi1 av h (w v) h1 ∧ JR c1 h1 ∧ PC c1 c1 b' t' ms' ∧ PM c1 b t ms := by
  obtain ⟨h2, t1, t2⟩ := hok v c' hX h ⟨q.1.1, q.1.2.1, q.1.2.2⟩
  have hx : xt c c' := hP.2.2.2.2.2.1.2
  exact ⟨h2, c', t1, JR_xt t2 hx, PC_eq hP lo_rf, PM_eq q.2.2 (fun o ho j => (hx o ho).1 j)⟩
end RFC
/-! the places where a method throws -/
noncomputable def PL {α : Type} (S : List Nat) (X : Option ((α ⊕ Nat) × hS)) : Prop := ∀ p c', X = some (.inr p, c') → p ∈ S
section PLS
variable {α β : Type} {S : List Nat} {X Y : Option ((α ⊕ Nat) × hS)} {c : hS}
theorem PL.inl {a : α} : PL S (some (.inl a, c)) := fun p c' h => by cases h
theorem PL.inr {p : Nat} (hp : p ∈ S) : PL (α := α) S (some (.inr p, c)) := fun q c' h => by cases h; exact hp
theorem PL.none : PL (α := α) S none := fun p c' h => by cases h
theorem PL.ite {p : Prop} [Decidable p] (h1 : PL S X) (h2 : PL S Y) : PL S (if p then X else Y) := by
  split
  · exact h1
  · exact h2
theorem PL.bif {b : Bool} (h1 : PL S X) (h2 : PL S Y) : PL S (bif b then X else Y) := by
  cases b with
  | true => exact h1
  | false => exact h2
theorem PL.bnd {F : Option (β × hS)} {K : β → hS → Option ((α ⊕ Nat) × hS)} (h : ∀ a c, PL S (K a c)) : PL S (bnd F K) := by
  cases F with
  | none => exact PL.none
  | some r => exact h r.1 r.2
theorem PL.st1 {K : hS → Option ((α ⊕ Nat) × hS)} (h : ∀ c, PL S (K c)) : PL S (st1 c K) := h c
theorem PL.opt {x : Option Nat} {K : Nat → Option ((α ⊕ Nat) × hS)} (h1 : PL S X) (h2 : ∀ y, PL S (K y)) : PL S (opt x X K) := by
  cases x with
  | none => exact h1
  | some y => exact h2 y
end PLS
