/-! BOTH SIDES' STATES IN ONE HEAP -/
noncomputable def J0 (h : am_H) : Prop := h.1 = 220 ∧ h.2.1 = 220 ∧ h.2.2.1 = 78785
noncomputable def JR (c : hS) (h : am_H) : Prop := J0 h ∧ l1_R kc c h ∧ l1_R km c h
noncomputable def QC (g : hS) (c : hS) (h : am_H) : Prop := J0 h ∧ l1_R kc c h ∧ l1_R km g h
noncomputable def QM (g : hS) (c : hS) (h : am_H) : Prop := J0 h ∧ l1_R km c h ∧ l1_R kc g h
theorem kc_lt {o : Nat} (h : kc o < 99) : o < 201 := by
  rcases Nat.lt_or_ge o 201 with h1 | h1
  · exact h1
  · unfold kc at h
    rw [List.getD_eq_getElem?_getD, List.getElem?_eq_none (Nat.le_trans (show kcl.length ≤ 201 by decide +kernel) h1)] at h
    simp at h
theorem km_ge {o : Nat} (h : km o < 99) : 201 ≤ o ∧ o < 220 := by
  unfold km at h
  rcases Nat.lt_or_ge o 201 with h1 | h1
  · rw [show Nat.blt o 201 = true from Nat.blt_eq.mpr h1, cond_true] at h
    omega
  · refine ⟨h1, ?_⟩
    rcases Nat.lt_or_ge o 220 with h2 | h2
    · exact h2
    · have h3 : Nat.blt o 201 = false := by
        cases hb : Nat.blt o 201 with
        | true => exact absurd (Nat.blt_eq.mp hb) (by omega)
        | false => rfl
      rw [h3, cond_false, List.getD_eq_getElem?_getD, List.getElem?_eq_none (Nat.le_trans (show kml.length ≤ 19 by decide) (by omega))] at h
      simp at h
theorem l1_R_put {kf : Nat → Nat} {c c' : hS} {h : am_H} {o : Nat} {f : Nat → Value} (hR : l1_R kf c h) (hk : kf o < 99) (h1 : ∀ q, q ≠ o → ∀ j, l1_ct c' q (kf q) j = l1_ct c q (kf q) j) (h2 : ∀ j, j < l1_wd (kf o) o → f j = l1_ct c' o (kf o) j) : l1_R kf c' (am_put h o (kf o, ln o, f)) := by
  intro q hq
  obtain ⟨a1, a2, a3, a4⟩ := hR q hq
  refine ⟨a1, ?_⟩
  by_cases e : q = o
  · subst e
    have z : (am_put h q (kf q, ln q, f)).2.2.2 q = (kf q, ln q, f) := am_up_s _ _ _
    rw [z]
    exact ⟨rfl, rfl, h2⟩
  · have z : (am_put h o (kf o, ln o, f)).2.2.2 q = h.2.2.2 q := am_up_n e
    rw [z]
    exact ⟨a2, a3, fun j hj => (a4 j hj).trans (h1 q e j).symm⟩
theorem l1_R_oth {kf : Nat → Nat} {c : hS} {h : am_H} {o : Nat} {x : am_C} (hR : l1_R kf c h) (ho : ¬ kf o < 99) : l1_R kf c (am_put h o x) := by
  intro q hq
  obtain ⟨a1, a2, a3, a4⟩ := hR q hq
  have e : q ≠ o := fun e => ho (e ▸ hq)
  have z : (am_put h o x).2.2.2 q = h.2.2.2 q := am_up_n e
  refine ⟨a1, ?_⟩
  rw [z]
  exact ⟨a2, a3, a4⟩
theorem em_C (g : hS) : l1_em kc (QC g) := fun c h hq => ⟨hq.1.1, hq.2.1, fun o f c' hk h1 h2 => ⟨hq.1, l1_R_put hq.2.1 hk h1 h2, l1_R_oth hq.2.2 (fun z => by have := kc_lt hk; have := km_ge z; omega)⟩⟩
theorem em_M (g : hS) : l1_em km (QM g) := fun c h hq => ⟨hq.1.1, hq.2.1, fun o f c' hk h1 h2 => ⟨hq.1, l1_R_put hq.2.1 hk h1 h2, l1_R_oth hq.2.2 (fun z => by have := kc_lt z; have := km_ge hk; omega)⟩⟩
theorem l1_R_eq {kf : Nat → Nat} {c c' : hS} {h : am_H} (hR : l1_R kf c h) (he : ∀ o, kf o < 99 → (∀ j, c'.1 o j = c.1 o j) ∧ (∀ j, c'.2.1 o j = c.2.1 o j) ∧ ∀ j, c'.2.2 o j = c.2.2 o j) : l1_R kf c' h := by
  intro o ho
  obtain ⟨a1, a2, a3, a4⟩ := hR o ho
  obtain ⟨e1, e2, e3⟩ := he o ho
  refine ⟨a1, a2, a3, fun j hj => (a4 j hj).trans ?_⟩
  unfold l1_ct
  rw [e1, e2, e3]
/-- what the class's side is of: objects below 201 -/
noncomputable def lo_eq (c c' : hS) : Prop := ∀ o, o < 201 → (∀ j, c'.1 o j = c.1 o j) ∧ (∀ j, c'.2.1 o j = c.2.1 o j) ∧ ∀ j, c'.2.2 o j = c.2.2 o j
theorem row_eq {c c' : hS} {b : Nat} {l : List Nat} (h : row c b l) (hf : lo_eq c c') (hb : b + 1 < 201) : row c' b l := ⟨h.1, ((hf b (by omega)).1 1).trans h.2.1, fun i hi => ((hf (b + 1) hb).1 i).trans (h.2.2.1 i hi), h.2.2.2⟩
theorem cdC_eq {c c' : hS} {d : Nat} {l : List Nat} (h : cdC c d l) (hf : lo_eq c c') (hd : d + 3 < 201) : cdC c' d l := ⟨h.1, fun j a b => ((hf _ (by omega)).1 _).trans (h.2.1 j a b), ((hf _ (by omega)).1 _).trans h.2.2.1, ((hf _ (by omega)).1 _).trans h.2.2.2.1, fun j k a b e => ((hf _ hd).1 _).trans (h.2.2.2.2 j k a b e)⟩
theorem shf_eq {c c' : hS} {s : Nat} {ms : List Mb} (h : shf c s ms) (hf : lo_eq c c') (hs : s = 37 ∨ s = 119) : shf c' s ms := by
  obtain ⟨h1, h2, h3, h4, h5⟩ := h
  have e : ∀ i, c'.2.2 (s + 1) i = c.2.2 (s + 1) i := fun i => (hf (s + 1) (by omega)).2.2 i
  refine ⟨h1, ((hf s (by omega)).1 1).trans h2, fun i hi => by rw [e]; exact h3 i hi, fun i j hi hj => by rw [e, e]; exact h4 i j hi hj, fun i hi => ?_⟩
  obtain ⟨x, hx, hy⟩ := h5 i hi
  obtain ⟨k, hk, hk2⟩ := h3 i hi
  rw [e]
  generalize hm : c.2.2 (s + 1) i = m at hx hk2
  exact ⟨x, ⟨row_eq hx.1 hf (by omega), row_eq hx.2.1 hf (by omega), ((hf m (by omega)).1 2).trans hx.2.2⟩, hy⟩
theorem PC_eq {g c c' : hS} {b t : List Nat} {ms : List Mb} (h : PC g c b t ms) (hf : lo_eq c c') : PC c' c' b t ms := by
  obtain ⟨r1, r3, r5, r7, fx, ok, s, s', ms', e1, e2, e3, e4, e5⟩ := h
  refine ⟨row_eq r1 hf (by decide), row_eq r3 hf (by decide), ?_, ?_, ⟨cdC_eq fx.1 hf (by decide), cdC_eq fx.2 hf (by decide)⟩, ⟨ok.1, xt.rf⟩, s, s', ms', ((hf 0 (by decide)).2.2 8).trans e1, ((hf 0 (by decide)).2.2 9).trans e2, e3, shf_eq e4 hf (by omega), shf_eq e5 hf (by omega)⟩
  · rw [(hf 5 (by decide)).1 1]; exact r5
  · rw [(hf 7 (by decide)).1 1]; exact r7
theorem PM_eq {c c' : hS} {b t : List Nat} {ms : List Mb} (h : PM c b t ms) (hf : ∀ o, 201 ≤ o → ∀ j, c'.1 o j = c.1 o j) : PM c' b t ms := by
  obtain ⟨h1, h2, h3, h4, h5, h6⟩ := h
  refine ⟨⟨h1.1, (hf _ (by decide) _).trans h1.2.1, fun i hi => (hf _ (by decide) _).trans (h1.2.2.1 i hi), h1.2.2.2⟩, ⟨h2.1, (hf _ (by decide) _).trans h2.2.1, fun i hi => (hf _ (by decide) _).trans (h2.2.2.1 i hi), h2.2.2.2⟩, (hf _ (by decide) _).trans h3, h4, fun i hi => ?_, h6⟩
  have z := h5 i hi
  exact ⟨⟨(hf _ (by decide) _).trans z.1.1, fun j hj => (hf _ (by decide) _).trans (z.1.2.1 j hj), z.1.2.2⟩, ⟨(hf _ (by decide) _).trans z.2.1.1, fun j hj => (hf _ (by decide) _).trans (z.2.1.2.1 j hj), z.2.1.2.2⟩, (hf _ (by decide) _).trans z.2.2⟩
/-- the picture between the law's turns -/
noncomputable def JP (c : hS) (h : am_H) (b t : List Nat) (ms : List Mb) : Prop := JR c h ∧ PC c c b t ms ∧ PM c b t ms
