/-! RUNS OVER OPEN VALUES, with those loops as one step -/
def sx_mcall (mi : Nat) (av : List Value) (f : sx_H) : Option sx_H := match mac_tab mi with
  | some mac => mac av f
  | none => none
theorem sx_mcall_ok {ρ : Nat → Int32} {mi : Nat} {av av' : List Value} {F F' : sx_H} {h : am_H} (hav : sx_rs ρ av av') (hh : sx_hr ρ F h) (hx : sx_mcall mi av F = some F') : ∃ h', am_T mi av' h none h' ∧ sx_hr ρ F' h' := by
  unfold sx_mcall at hx
  split at hx
  · rename_i mac hm
    exact mac_ok hm hav hh hx
  · cases hx
def sy_run (mt : Nat → Option am_M) (tb : Nat → Nat → Option sx_Op) : Nat → Nat → Nat → List Value → List Value → sx_H → Option (Option Value × sx_H)
  | 0, _, _, _, _, _ => none
  | n + 1, mi, pc, L, st, f => match tb mi pc with
    | some op => match op L st f with
      | some u => sy_run mt tb n mi u.1 u.2.1 u.2.2.1 u.2.2.2
      | none => none
    | none => match mt mi with
      | none => none
      | some M => match M.1.2.2.2.2.2 pc with
        | none => none
        | some x => match am_retv x.1 M.2.2.1 st with
          | some v => some (v, f)
          | none => match am_tgt M.1.1 x.1 st (sx_vw f) with
            | none => none
            | some w => match mt w.1 with
              | none => none
              | some M' => bif am_can M M' x.1 w then (match sx_mcall w.1 w.2.1 f with
                | some f1 => sy_run mt tb n mi (pc + 3) L w.2.2 f1
                | none => match sy_run mt tb n w.1 0 (sx_al M'.1.2.1 w.2.1) [] f with
                  | some r => sy_run mt tb n mi (pc + 3) L (r.1.toList ++ w.2.2) r.2
                  | none => none) else none
theorem sy_run_ok {ρ : Nat → Int32} {mt : Nat → Option am_M} {tb : Nat → Nat → Option sx_Op} (hmt : sx_mtok mt) (htb : sx_tbok ρ tb) : ∀ {n mi pc : Nat} {L st : List Value} {f : sx_H} {lo : List (Nat × Value)} {st' : List Value} {h : am_H} {v : Option Value} {f' : sx_H}, sx_rL ρ L lo → sx_rs ρ st st' → sx_hr ρ f h → sy_run mt tb n mi pc L st f = some (v, f') → ∃ h', am_P mi pc lo st' h v h' ∧ sx_hr ρ f' h' ∧ sx_rs ρ v.toList v.toList := by
  intro n
  induction n with
  | zero => intro mi pc L st f lo st' h v f' _ _ _ hx; cases hx
  | succ n ih =>
    intro mi pc L st f lo st' h v f' hL hst hh hx
    unfold sy_run at hx
    split at hx
    · rename_i op hop
      split at hx
      · rename_i u hu
        obtain ⟨u', e1, e2, e3, e4, e5⟩ := htb mi pc op hop L st f lo st' h u hL hst hh hu
        obtain ⟨h', hP, hh', hv⟩ := ih e3 e4 e5 hx
        exact ⟨h', am_P.one e1 (by rw [e2]; exact hP), hh', hv⟩
      · cases hx
    · split at hx
      · cases hx
      · rename_i M hM
        have hM := hmt _ _ hM
        split at hx
        · cases hx
        · rename_i x hc
          split at hx
          · rename_i v0 hv
            cases hx
            exact ⟨h, am_P.ret hM hc (sx_retv hst hv), hh, sx_ret_rs hv⟩
          · split at hx
            · cases hx
            · rename_i w hw
              split at hx
              · cases hx
              · rename_i M' hM'
                have hM' := hmt _ _ hM'
                obtain ⟨hcan, hx⟩ := am_cg hx
                obtain ⟨w', g1, g2, g3, g4⟩ := sx_tgt hst hh hw
                split at hx
                · rename_i f1 hf1
                  obtain ⟨h1, hT, hh1⟩ := sx_mcall_ok g3 hh hf1
                  obtain ⟨h2, hP2, hh2, hv2⟩ := ih hL g4 hh1 hx
                  exact ⟨h2, am_P.call (v1 := none) hM hc (sx_tgt_ret hw _ _) g1 (by rw [g2]; exact hM') (sx_can g3 g4 hcan) (by rw [g2]; exact hT) hP2, hh2, hv2⟩
                · split at hx
                  · rename_i r hr
                    obtain ⟨v1, f1⟩ := r
                    obtain ⟨h1, hP1, hh1, hv1⟩ := ih (sx_al_rL g3) (show sx_rs ρ [] [] from trivial) hh hr
                    obtain ⟨h2, hP2, hh2, hv2⟩ := ih hL (sx_rs_app hv1 g4) hh1 hx
                    exact ⟨h2, am_P.call hM hc (sx_tgt_ret hw _ _) g1 (by rw [g2]; exact hM') (sx_can g3 g4 hcan) (by rw [g2]; exact hP1) hP2, hh2, hv2⟩
                  · cases hx
/-- to where no operation stands, no return and no call -/
def sy_to (mt : Nat → Option am_M) (tb : Nat → Nat → Option sx_Op) (mi : Nat) : Nat → Nat → List Value → List Value → sx_H → Option (Nat × List Value × List Value × sx_H)
  | 0, _, _, _, _ => none
  | n + 1, pc, L, st, f => match tb mi pc with
    | some op => match op L st f with
      | some u => sy_to mt tb mi n u.1 u.2.1 u.2.2.1 u.2.2.2
      | none => none
    | none => match mt mi with
      | none => none
      | some M => match M.1.2.2.2.2.2 pc with
        | none => none
        | some x => match am_tgt M.1.1 x.1 st (sx_vw f) with
          | none => some (pc, L, st, f)
          | some w => match mt w.1 with
            | none => none
            | some M' => bif am_can M M' x.1 w then (match sx_mcall w.1 w.2.1 f with
              | some f1 => sy_to mt tb mi n (pc + 3) L w.2.2 f1
              | none => match sy_run mt tb n w.1 0 (sx_al M'.1.2.1 w.2.1) [] f with
                | some r => sy_to mt tb mi n (pc + 3) L (r.1.toList ++ w.2.2) r.2
                | none => none) else none
theorem sy_to_ok {ρ : Nat → Int32} {mt : Nat → Option am_M} {tb : Nat → Nat → Option sx_Op} (hmt : sx_mtok mt) (htb : sx_tbok ρ tb) {mi : Nat} : ∀ {n pc : Nat} {L st : List Value} {f : sx_H} {lo : List (Nat × Value)} {st' : List Value} {h : am_H} {u : Nat × List Value × List Value × sx_H}, sx_rL ρ L lo → sx_rs ρ st st' → sx_hr ρ f h → sy_to mt tb mi n pc L st f = some u → ∃ u', am_G mi pc lo st' h u' ∧ u'.1 = u.1 ∧ sx_rL ρ u.2.1 u'.2.1 ∧ sx_rs ρ u.2.2.1 u'.2.2.1 ∧ sx_hr ρ u.2.2.2 u'.2.2.2 := by
  intro n
  induction n with
  | zero => intro pc L st f lo st' h u _ _ _ hx; cases hx
  | succ n ih =>
    intro pc L st f lo st' h u hL hst hh hx
    unfold sy_to at hx
    split at hx
    · rename_i op hop
      split at hx
      · rename_i w hw
        obtain ⟨u', e1, e2, e3, e4, e5⟩ := htb mi pc op hop L st f lo st' h w hL hst hh hw
        obtain ⟨u2, g1, g2⟩ := ih e3 e4 e5 hx
        exact ⟨u2, (am_G.one e1).tr (by rw [e2]; exact g1), g2⟩
      · cases hx
    · split at hx
      · cases hx
      · rename_i M hM
        have hM := hmt _ _ hM
        split at hx
        · cases hx
        · rename_i x hc
          split at hx
          · cases hx
            exact ⟨_, am_G.rf, rfl, hL, hst, hh⟩
          · rename_i w hw
            split at hx
            · cases hx
            · rename_i M' hM'
              have hM' := hmt _ _ hM'
              obtain ⟨hcan, hx⟩ := am_cg hx
              obtain ⟨w', g1, g2, g3, g4⟩ := sx_tgt hst hh hw
              split at hx
              · rename_i f1 hf1
                obtain ⟨h1, hT, hh1⟩ := sx_mcall_ok g3 hh hf1
                obtain ⟨u2, q1, q2⟩ := ih hL g4 hh1 hx
                exact ⟨u2, (am_G.call (lo := lo) (v1 := none) hM hc g1 (by rw [g2]; exact hM') (sx_can g3 g4 hcan) (by rw [g2]; exact hT)).tr q1, q2⟩
              · split at hx
                · rename_i r hr
                  obtain ⟨v1, f1⟩ := r
                  obtain ⟨h1, hP1, hh1, hv1⟩ := sy_run_ok hmt htb (sx_al_rL g3) (show sx_rs ρ [] [] from trivial) hh hr
                  obtain ⟨u2, q1, q2⟩ := ih hL (sx_rs_app hv1 g4) hh1 hx
                  exact ⟨u2, (am_G.call (lo := lo) hM hc g1 (by rw [g2]; exact hM') (sx_can g3 g4 hcan) (by rw [g2]; exact hP1)).tr q1, q2⟩
                · cases hx
