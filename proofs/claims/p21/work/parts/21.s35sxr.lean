/-! RUNS OVER OPEN VALUES follow the abstract machine -/
noncomputable def sx_vw (f : sx_H) : am_H := (f.1, f.2.1, f.2.2.1, fun o => ((sx_cl f o).1, 0, fun _ => .null))
section SXR
variable {ρ : Nat → Int32}
theorem sx_tgt {own : Nat} {i : Instr} {st st' : List Value} {f : sx_H} {h : am_H} {w : Nat × List Value × List Value} (hst : sx_rs ρ st st') (hh : sx_hr ρ f h) (ht : am_tgt own i st (sx_vw f) = some w) : ∃ w', am_tgt own i st' h = some w' ∧ w'.1 = w.1 ∧ sx_rs ρ w.2.1 w'.2.1 ∧ sx_rs ρ w.2.2 w'.2.2 := by
  unfold am_tgt at ht
  split at ht
  · rename_i idx
    split at ht
    · rename_i np hnp
      split at ht
      · rename_i o rest hdr
        obtain ⟨ho, ht⟩ := am_cg ht
        split at ht
        · rename_i u hf
          cases ht
          have hd := sx_rs_drop (n := np) hst
          rw [hdr] at hd
          obtain ⟨t1, e1, hs2⟩ := sx_cR hd
          have ho2 : o < f.1 := Nat.blt_eq.mp ho
          have hk := (hh.2.2.2.2 o ho2).1
          have hf : am_fv (am_vt own) idx (sx_cl f o).1 = some u := hf
          refine ⟨(u.1, .ref o :: (st'.take np).reverse, t1), ?_, rfl, sx_mk rfl (sx_rs_rev (sx_rs_take hst)), hs2⟩
          simp only [am_tgt, hnp, e1, am_bt (show o < h.1 by rw [hh.1]; exact ho2), cond_true, hk, hf]
        · cases ht
      · cases ht
    · cases ht
  · rename_i idx
    split at ht
    · rename_i u hu
      split at ht
      · rename_i M hM
        cases ht
        refine ⟨(u.1, (st'.take M.2.2.2.2).reverse, st'.drop M.2.2.2.2), ?_, rfl, sx_rs_rev (sx_rs_take hst), sx_rs_drop hst⟩
        simp only [am_tgt, hu, hM]
      · cases ht
    · cases ht
  · rename_i idx
    split at ht
    · rename_i u hu
      split at ht
      · rename_i M hM
        split at ht
        · rename_i o rest hdr
          cases ht
          have hd := sx_rs_drop (n := M.2.2.2.2) hst
          rw [hdr] at hd
          obtain ⟨t1, e1, hs2⟩ := sx_cR hd
          refine ⟨(u.1, .ref o :: (st'.take M.2.2.2.2).reverse, t1), ?_, rfl, sx_mk rfl (sx_rs_rev (sx_rs_take hst)), hs2⟩
          simp only [am_tgt, hu, hM, e1]
        · cases ht
      · cases ht
    · cases ht
  · cases ht
theorem sx_tgt_ret {own : Nat} {i : Instr} {st : List Value} {h : am_H} {w : Nat × List Value × List Value} (ht : am_tgt own i st h = some w) (ret : Option FieldType) (st' : List Value) : am_retv i ret st' = none := by
  unfold am_tgt at ht
  split at ht
  · rfl
  · rfl
  · rfl
  · cases ht
theorem sx_can {M M' : am_M} {i : Instr} {w w' : Nat × List Value × List Value} (h1 : sx_rs ρ w.2.1 w'.2.1) (h2 : sx_rs ρ w.2.2 w'.2.2) (h : am_can M M' i w = true) : am_can M M' i w' = true := by
  unfold am_can at h ⊢
  rw [sx_rs_cats h2, sx_rs_sl h1, sx_rs_len h1]
  exact h
theorem sx_retv {i : Instr} {ret : Option FieldType} {st st' : List Value} {v : Option Value} (hst : sx_rs ρ st st') (h : am_retv i ret st = some v) : am_retv i ret st' = some v := by
  unfold am_retv at h
  split at h
  · split at h
    · obtain ⟨t1, rfl, hs2⟩ := sx_cI hst
      rw [sx_c0 hs2]
      exact h
    · cases h
  · split at h
    · obtain ⟨t1, rfl, hs2⟩ := sx_cL hst
      rw [sx_c0 hs2]
      exact h
    · cases h
  · split at h
    · obtain ⟨t1, rfl, hs2⟩ := sx_cR hst
      rw [sx_c0 hs2]
      exact h
    · obtain ⟨t1, rfl, hs2⟩ := sx_cN hst
      rw [sx_c0 hs2]
      exact h
    · cases h
  · split at h
    · rw [sx_c0 hst]
      exact h
    · cases h
  · cases h
theorem sx_ret_rs {i : Instr} {ret : Option FieldType} {st : List Value} {v : Option Value} (h : am_retv i ret st = some v) : sx_rs ρ v.toList v.toList := by
  unfold am_retv at h
  split at h
  · split at h
    · obtain ⟨-, rfl⟩ := am_cf h
      exact sx_mk rfl trivial
    · cases h
  · split at h
    · cases h
      exact sx_mk rfl trivial
    · cases h
  · split at h
    · cases h
      exact sx_mk rfl trivial
    · cases h
      exact sx_mk rfl trivial
    · cases h
  · split at h
    · cases h
      trivial
    · cases h
  · cases h
end SXR
noncomputable def sx_run (mt : Nat → Option am_M) (tb : Nat → Nat → Option sx_Op) : Nat → Nat → Nat → List Value → List Value → sx_H → Option (Option Value × sx_H)
  | 0, _, _, _, _, _ => none
  | n + 1, mi, pc, L, st, f => match tb mi pc with
    | some op => match op L st f with
      | some u => sx_run mt tb n mi u.1 u.2.1 u.2.2.1 u.2.2.2
      | none => none
    | none => match mt mi with
      | none => none
      | some M => match M.1.2.2.2.2.2 pc with
        | none => none
        | some x => match am_retv x.1 M.2.2.1 st with
          | some v => some (v, f)
          | none => match am_tgt M.1.1 x.1 st (sx_vw f) with
            | none => none
            | some w => match mt w.1 with
              | none => none
              | some M' => bif am_can M M' x.1 w then (match sx_run mt tb n w.1 0 (sx_al M'.1.2.1 w.2.1) [] f with
                | some r => sx_run mt tb n mi (pc + 3) L (r.1.toList ++ w.2.2) r.2
                | none => none) else none
noncomputable def sx_mtok (mt : Nat → Option am_M) : Prop := ∀ mi M, mt mi = some M → am_tab[mi]? = some M
noncomputable def sx_tbok (ρ : Nat → Int32) (tb : Nat → Nat → Option sx_Op) : Prop := ∀ mi pc op, tb mi pc = some op → sx_ok ρ mi pc op
theorem am_P.one {mi pc : Nat} {lo : List (Nat × Value)} {st : List Value} {h : am_H} {u : Nat × List (Nat × Value) × List Value × am_H} {v : Option Value} {h' : am_H} (h1 : am_one mi pc lo st h = some u) (hP : am_P mi u.1 u.2.1 u.2.2.1 u.2.2.2 v h') : am_P mi pc lo st h v h' := am_P.many 1 (u := u) (by unfold am_many; rw [h1]; rfl) hP
theorem sx_run_ok {ρ : Nat → Int32} {mt : Nat → Option am_M} {tb : Nat → Nat → Option sx_Op} (hmt : sx_mtok mt) (htb : sx_tbok ρ tb) : ∀ {n mi pc : Nat} {L st : List Value} {f : sx_H} {lo : List (Nat × Value)} {st' : List Value} {h : am_H} {v : Option Value} {f' : sx_H}, sx_rL ρ L lo → sx_rs ρ st st' → sx_hr ρ f h → sx_run mt tb n mi pc L st f = some (v, f') → ∃ h', am_P mi pc lo st' h v h' ∧ sx_hr ρ f' h' ∧ sx_rs ρ v.toList v.toList := by
  intro n
  induction n with
  | zero => intro mi pc L st f lo st' h v f' _ _ _ hx; cases hx
  | succ n ih =>
    intro mi pc L st f lo st' h v f' hL hst hh hx
    unfold sx_run at hx
    split at hx
    · rename_i op hop
      split at hx
      · rename_i u hu
        obtain ⟨u', e1, e2, e3, e4, e5⟩ := htb mi pc op hop L st f lo st' h u hL hst hh hu
        obtain ⟨h', hP, hh', hv⟩ := ih e3 e4 e5 hx
        exact ⟨h', am_P.one e1 (by rw [e2]; exact hP), hh', hv⟩
      · cases hx
    · split at hx
      · cases hx
      · rename_i M hM
        have hM := hmt _ _ hM
        split at hx
        · cases hx
        · rename_i x hc
          split at hx
          · rename_i v0 hv
            cases hx
            exact ⟨h, am_P.ret hM hc (sx_retv hst hv), hh, sx_ret_rs hv⟩
          · split at hx
            · cases hx
            · rename_i w hw
              split at hx
              · cases hx
              · rename_i M' hM'
                have hM' := hmt _ _ hM'
                obtain ⟨hcan, hx⟩ := am_cg hx
                split at hx
                · rename_i r hr
                  obtain ⟨w', g1, g2, g3, g4⟩ := sx_tgt hst hh hw
                  obtain ⟨v1, f1⟩ := r
                  obtain ⟨h1, hP1, hh1, hv1⟩ := ih (sx_al_rL g3) (show sx_rs ρ [] [] from trivial) hh hr
                  obtain ⟨h2, hP2, hh2, hv2⟩ := ih hL (sx_rs_app hv1 g4) hh1 hx
                  exact ⟨h2, am_P.call hM hc (sx_tgt_ret hw _ _) g1 (by rw [g2]; exact hM') (sx_can g3 g4 hcan) (by rw [g2]; exact hP1) hP2, hh2, hv2⟩
                · cases hx
/-- to where no operation stands, no return and no call -/
noncomputable def sx_to (mt : Nat → Option am_M) (tb : Nat → Nat → Option sx_Op) (mi : Nat) : Nat → Nat → List Value → List Value → sx_H → Option (Nat × List Value × List Value × sx_H)
  | 0, _, _, _, _ => none
  | n + 1, pc, L, st, f => match tb mi pc with
    | some op => match op L st f with
      | some u => sx_to mt tb mi n u.1 u.2.1 u.2.2.1 u.2.2.2
      | none => none
    | none => match mt mi with
      | none => none
      | some M => match M.1.2.2.2.2.2 pc with
        | none => none
        | some x => match am_tgt M.1.1 x.1 st (sx_vw f) with
          | none => some (pc, L, st, f)
          | some w => match mt w.1 with
            | none => none
            | some M' => bif am_can M M' x.1 w then (match sx_run mt tb n w.1 0 (sx_al M'.1.2.1 w.2.1) [] f with
              | some r => sx_to mt tb mi n (pc + 3) L (r.1.toList ++ w.2.2) r.2
              | none => none) else none
theorem am_st1_le {n k mi pc : Nat} {lo : List (Nat × Value)} {st : List Value} {h : am_H} {u : Nat × List (Nat × Value) × List Value × am_H} (hk : n ≤ k) (hs : am_st1 n mi pc lo st h = some u) : am_st1 k mi pc lo st h = some u := by
  unfold am_st1 at hs ⊢
  split at hs
  · cases hs
  · split at hs
    · cases hs
    · split at hs
      · split at hs
        · cases hs
        · obtain ⟨hc, hs⟩ := am_cg hs
          split at hs
          · rename_i h1
            rw [hc, am_exec_le hk h1]
            exact hs
          · cases hs
      · exact hs
theorem am_go_le {n k mi : Nat} (hk : n ≤ k) : ∀ {q pc : Nat} {lo : List (Nat × Value)} {st : List Value} {h : am_H} {u : Nat × List (Nat × Value) × List Value × am_H}, am_go n mi q pc lo st h = some u → am_go k mi q pc lo st h = some u := by
  intro q
  induction q with
  | zero => intro pc lo st h u hs; exact hs
  | succ q ih =>
    intro pc lo st h u hs
    unfold am_go at hs ⊢
    split at hs
    · rename_i w hw
      rw [am_st1_le hk hw]
      exact ih hs
    · cases hs
theorem am_go_tr {n mi : Nat} : ∀ {a b pc : Nat} {lo : List (Nat × Value)} {st : List Value} {h : am_H} {u w : Nat × List (Nat × Value) × List Value × am_H}, am_go n mi a pc lo st h = some u → am_go n mi b u.1 u.2.1 u.2.2.1 u.2.2.2 = some w → am_go n mi (a + b) pc lo st h = some w := by
  intro a
  induction a with
  | zero => intro b pc lo st h u w h1 h2; cases h1; rw [Nat.zero_add]; exact h2
  | succ a ih =>
    intro b pc lo st h u w h1 h2
    rw [Nat.succ_add]
    unfold am_go at h1 ⊢
    split at h1
    · rename_i q hq
      exact ih h1 h2
    · cases h1
theorem am_one_st1 {n mi pc : Nat} {lo : List (Nat × Value)} {st : List Value} {h : am_H} {u : Nat × List (Nat × Value) × List Value × am_H} (hs : am_one mi pc lo st h = some u) : am_st1 n mi pc lo st h = some u := by
  unfold am_one at hs
  unfold am_st1
  split at hs
  · cases hs
  · rename_i M hM
    rw [hM]
    dsimp only
    split at hs
    · cases hs
    · rename_i x hc
      rw [hc]
      dsimp only
      split at hs
      · cases hs
      · split at hs
        · cases hs
        · rename_i ht
          rw [ht]
          exact hs
/-- a road: some fuel, some steps -/
noncomputable def am_G (mi : Nat) (pc : Nat) (lo : List (Nat × Value)) (st : List Value) (h : am_H) (u : Nat × List (Nat × Value) × List Value × am_H) : Prop := ∃ n k, am_go n mi k pc lo st h = some u
theorem am_G.rf {mi pc : Nat} {lo : List (Nat × Value)} {st : List Value} {h : am_H} : am_G mi pc lo st h (pc, lo, st, h) := ⟨0, 0, rfl⟩
theorem am_G.tr {mi pc : Nat} {lo : List (Nat × Value)} {st : List Value} {h : am_H} {u w : Nat × List (Nat × Value) × List Value × am_H} (h1 : am_G mi pc lo st h u) (h2 : am_G mi u.1 u.2.1 u.2.2.1 u.2.2.2 w) : am_G mi pc lo st h w := by
  obtain ⟨n1, k1, h1⟩ := h1
  obtain ⟨n2, k2, h2⟩ := h2
  exact ⟨max n1 n2, k1 + k2, am_go_tr (am_go_le (Nat.le_max_left _ _) h1) (am_go_le (Nat.le_max_right _ _) h2)⟩
theorem am_G.one {mi pc : Nat} {lo : List (Nat × Value)} {st : List Value} {h : am_H} {u : Nat × List (Nat × Value) × List Value × am_H} (h1 : am_one mi pc lo st h = some u) : am_G mi pc lo st h u := ⟨0, 1, by unfold am_go; rw [am_one_st1 h1]; rfl⟩
theorem am_G.call {mi pc : Nat} {lo : List (Nat × Value)} {st : List Value} {h h1 : am_H} {v1 : Option Value} {M M' : am_M} {x : Instr × Nat} {w : Nat × List Value × List Value} (hM : am_tab[mi]? = some M) (hc : M.1.2.2.2.2.2 pc = some x) (ht : am_tgt M.1.1 x.1 st h = some w) (hM' : am_tab[w.1]? = some M') (hk : am_can M M' x.1 w = true) (hT : am_T w.1 w.2.1 h v1 h1) : am_G mi pc lo st h (pc + 3, lo, v1.toList ++ w.2.2, h1) := by
  obtain ⟨n, hx⟩ := hT
  refine ⟨n, 1, ?_⟩
  unfold am_go
  have : am_st1 n mi pc lo st h = some (pc + 3, lo, v1.toList ++ w.2.2, h1) := by
    unfold am_st1
    rw [hM]; dsimp only
    rw [hc]; dsimp only
    rw [ht]; dsimp only
    rw [hM']; dsimp only
    rw [hk, hx]
    rfl
  rw [this]
  rfl
theorem sx_to_ok {ρ : Nat → Int32} {mt : Nat → Option am_M} {tb : Nat → Nat → Option sx_Op} (hmt : sx_mtok mt) (htb : sx_tbok ρ tb) {mi : Nat} : ∀ {n pc : Nat} {L st : List Value} {f : sx_H} {lo : List (Nat × Value)} {st' : List Value} {h : am_H} {u : Nat × List Value × List Value × sx_H}, sx_rL ρ L lo → sx_rs ρ st st' → sx_hr ρ f h → sx_to mt tb mi n pc L st f = some u → ∃ u', am_G mi pc lo st' h u' ∧ u'.1 = u.1 ∧ sx_rL ρ u.2.1 u'.2.1 ∧ sx_rs ρ u.2.2.1 u'.2.2.1 ∧ sx_hr ρ u.2.2.2 u'.2.2.2 := by
  intro n
  induction n with
  | zero => intro pc L st f lo st' h u _ _ _ hx; cases hx
  | succ n ih =>
    intro pc L st f lo st' h u hL hst hh hx
    unfold sx_to at hx
    split at hx
    · rename_i op hop
      split at hx
      · rename_i w hw
        obtain ⟨u', e1, e2, e3, e4, e5⟩ := htb mi pc op hop L st f lo st' h w hL hst hh hw
        obtain ⟨u2, g1, g2⟩ := ih e3 e4 e5 hx
        exact ⟨u2, (am_G.one e1).tr (by rw [e2]; exact g1), g2⟩
      · cases hx
    · split at hx
      · cases hx
      · rename_i M hM
        have hM := hmt _ _ hM
        split at hx
        · cases hx
        · rename_i x hc
          split at hx
          · cases hx
            exact ⟨_, am_G.rf, rfl, hL, hst, hh⟩
          · rename_i w hw
            split at hx
            · cases hx
            · rename_i M' hM'
              have hM' := hmt _ _ hM'
              obtain ⟨hcan, hx⟩ := am_cg hx
              split at hx
              · rename_i r hr
                obtain ⟨w', g1, g2, g3, g4⟩ := sx_tgt hst hh hw
                obtain ⟨v1, f1⟩ := r
                obtain ⟨h1, hP1, hh1, hv1⟩ := sx_run_ok hmt htb (sx_al_rL g3) (show sx_rs ρ [] [] from trivial) hh hr
                obtain ⟨u2, q1, q2⟩ := ih hL (sx_rs_app hv1 g4) hh1 hx
                exact ⟨u2, (am_G.call (lo := lo) hM hc g1 (by rw [g2]; exact hM') (sx_can g3 g4 hcan) (by rw [g2]; exact hP1)).tr q1, q2⟩
              · cases hx
