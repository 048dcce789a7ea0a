/-! THE LAW'S RUN OVER OPEN VALUES -/
def sx_pre (tb : Nat → Nat → Option sx_Op) (mi : Nat) : Nat → Nat → List Value → List Value → sx_H → Option (Nat × List Value × List Value × sx_H)
  | 0, _, _, _, _ => none
  | n + 1, pc, L, st, f => match tb mi pc with
    | some op => match op L st f with
      | some u => sx_pre tb mi n u.1 u.2.1 u.2.2.1 u.2.2.2
      | none => none
    | none => some (pc, L, st, f)
theorem sx_pre_ok {ρ : Nat → Int32} {tb : Nat → Nat → Option sx_Op} (htb : sx_tbok ρ tb) {mi : Nat} : ∀ {n pc : Nat} {L st : List Value} {f : sx_H} {lo : List (Nat × Value)} {st' : List Value} {h : am_H} {u : Nat × List Value × List Value × sx_H}, sx_rL ρ L lo → sx_rs ρ st st' → sx_hr ρ f h → sx_pre tb mi n pc L st f = some u → ∃ u', am_G mi pc lo st' h u' ∧ u'.1 = u.1 ∧ sx_rL ρ u.2.1 u'.2.1 ∧ sx_rs ρ u.2.2.1 u'.2.2.1 ∧ sx_hr ρ u.2.2.2 u'.2.2.2 := by
  intro n
  induction n with
  | zero => intro pc L st f lo st' h u _ _ _ hx; cases hx
  | succ n ih =>
    intro pc L st f lo st' h u hL hst hh hx
    unfold sx_pre at hx
    split at hx
    · rename_i op hop
      split at hx
      · rename_i w hw
        obtain ⟨u', e1, e2, e3, e4, e5⟩ := htb mi pc op hop L st f lo st' h w hL hst hh hw
        obtain ⟨u2, g1, g2⟩ := ih e3 e4 e5 hx
        exact ⟨u2, (am_G.one e1).tr (by rw [e2]; exact g1), g2⟩
      · cases hx
    · cases hx
      exact ⟨_, am_G.rf, rfl, hL, hst, hh⟩
/-- what a handler answers -/
def lx_hv (M : am_M) (hp : Nat) : Option Int32 := match M.1.2.2.2.2.2 hp with
  | none => none
  | some x => match am_s0 M.1.2.1 x.1 hp [] [.ref 0] with
    | some (p2, lo2, []) => match M.1.2.2.2.2.2 p2 with
      | none => none
      | some y => match am_s0 M.1.2.1 y.1 p2 lo2 [] with
        | some (p3, _, [.int kv]) => match M.1.2.2.2.2.2 p3 with
          | some (.ireturn, 1) => some kv
          | _ => none
        | _ => none
    | _ => none
/-- a helper whose call throws: its answer, the heap -/
def lx_thx (mt : Nat → Option am_M) (tb : Nat → Nat → Option sx_Op) (N mi : Nat) (M : am_M) (hh : List (Nat × Nat × Nat × Nat)) (av : List Value) (f : sx_H) : Option (Int32 × sx_H) := match sx_pre tb mi N 0 (sx_al M.1.2.1 av) [] f with
  | none => none
  | some u => match M.1.2.2.2.2.2 u.1 with
    | some (.invokevirtual idx, 3) => match am_tgt 13 (.invokevirtual idx) u.2.2.1 (sx_vw u.2.2.2) with
      | none => none
      | some w => match mt w.1 with
        | none => none
        | some M1 => bif am_can M M1 (.invokevirtual idx) w then (match sy_to mt tb w.1 N 0 (sx_al M1.1.2.1 w.2.1) [] u.2.2.2 with
          | none => none
          | some q => match am_thr M1 q.1 with
            | none => none
            | some cls => bif Nat.blt 5 M1.1.2.2.2.1 && Nat.ble ((q.2.2.1.map fun v => v.category).sum + 82) M1.1.2.2.2.2.1 then (match am_hnd u.1 cls hh with
              | none => none
              | some hp => match lx_hv M hp with
                | none => none
                | some kv => some (kv, q.2.2.2)) else none) else none
    | _ => none
def lx_hlp (mt : Nat → Option am_M) (tb : Nat → Nat → Option sx_Op) (N mi : Nat) (M : am_M) (hh : List (Nat × Nat × Nat × Nat)) (av : List Value) (f : sx_H) : Option (Value × sx_H × Nat) := match sy_run mt tb N mi 0 (sx_al M.1.2.1 av) [] f with
  | some (some v, f') => some (v, f', 0)
  | some (none, _) => none
  | none => match lx_thx mt tb N mi M hh av f with
    | some u => some (.int u.1, u.2, 1)
    | none => none
/-- what a helper owes -/
def lx_Met (l : Launch) (M : am_M) (hh : List (Nat × Nat × Nat × Nat)) (av : List Value) (h h1 : am_H) (v : Value) (e : Nat) : Prop := ∀ (D : va_G) (cy : Nat → ClassId) (A : Nat → Prop) (ad : Nat → Nat), Met l M.2.2.2.1 (am_wsH M hh) { frames := M.1.2.2.2.1, cells := h1.2.1 - h.2.1 + e, slots := h1.2.2.1 - h.2.2.1 + 6 * e, locals := M.1.2.2.2.2.1 } (am_PcN D cy A ad h av) (am_Qc D cy A ad h.1 (some v) h1) (h1.2.1 - h.2.1 + e) (h1.2.2.1 - h.2.2.1 + 6 * e) A
section LX
variable {ρ : Nat → Int32} {mt : Nat → Option am_M} {tb : Nat → Nat → Option sx_Op} {l : Launch} {N mi : Nat} {M : am_M} {hh : List (Nat × Nat × Nat × Nat)} {av av' : List Value} {f f' : sx_H} {h : am_H}
theorem lx_P_gr {mi pc : Nat} {lo : List (Nat × Value)} {st : List Value} {h h' : am_H} {v : Option Value} (hP : am_P mi pc lo st h v h') : am_gr h h' := by
  obtain ⟨n, hx⟩ := hP
  exact am_exec_gr hx
theorem lx_G_gr {mi pc : Nat} {lo : List (Nat × Value)} {st : List Value} {h : am_H} {u : Nat × List (Nat × Value) × List Value × am_H} (hP : am_G mi pc lo st h u) : am_gr h u.2.2.2 := by
  obtain ⟨n, k, hx⟩ := hP
  exact am_go_gr hx
theorem lx_thx_ok (hmt : sx_mtok mt) (htb : sx_tbok ρ tb) (hl : l.stackTraces = false) (hM : am_tab[mi]? = some M) (hpl : plainName M.2.2.2.1.cls = true) (hown : M.1.1 = 13) (hret : M.2.2.1 = some .int) (hav : sx_rs ρ av av') (hhr : sx_hr ρ f h) (hc : ∀ w ∈ av', am_cv h.1 w) (hla : (lg_sl av').length ≤ M.1.2.1) {kv : Int32} (hx : lx_thx mt tb N mi M hh av f = some (kv, f')) : ∃ h1, sx_hr ρ f' h1 ∧ am_gr h h1 ∧ lx_Met l M hh av' h h1 (.int kv) 1 := by
  unfold lx_thx at hx
  split at hx
  · cases hx
  · rename_i u hu
    obtain ⟨⟨pcC, lo0, st0, h0⟩, g1, g2, g3, g4, g5⟩ := sx_pre_ok htb (sx_al_rL hav) (show sx_rs ρ [] [] from trivial) hhr hu
    dsimp only at g2 g3 g4 g5
    subst g2
    split at hx
    · rename_i idx hcC
      split at hx
      · cases hx
      · rename_i w hw
        split at hx
        · cases hx
        · rename_i M1 hM1
          have hM1 := hmt _ _ hM1
          obtain ⟨hcan, hx⟩ := am_cg hx
          split at hx
          · cases hx
          · rename_i q hq
            split at hx
            · cases hx
            · rename_i cls hcls
              obtain ⟨hb, hx⟩ := am_cg hx
              obtain ⟨b1, b2⟩ := am_b2 hb
              split at hx
              · cases hx
              · rename_i hp hhp
                split at hx
                · cases hx
                · rename_i kv0 hkv
                  cases hx
                  obtain ⟨w', t1, t2, t3, t4⟩ := sx_tgt g4 g5 hw
                  obtain ⟨⟨pc1, lo1, st1, h1⟩, r1, r2, r3, r4, r5⟩ := sy_to_ok hmt htb (sx_al_rL t3) (show sx_rs ρ [] [] from trivial) g5 hq
                  dsimp only at r2 r3 r4 r5
                  subst r2
                  refine ⟨h1, r5, (lx_G_gr g1).tr (lx_G_gr r1), fun D cy A ad => ?_⟩
                  unfold lx_hv at hkv
                  split at hkv
                  · cases hkv
                  · rename_i x hx1
                    split at hkv
                    · rename_i p2 lo2 hs1
                      split at hkv
                      · cases hkv
                      · rename_i y hy1
                        split at hkv
                        · rename_i p3 lo3 kv1 hs2
                          split at hkv
                          · rename_i hc3
                            cases hkv
                            have hb2 := Nat.le_of_ble_eq_true b2
                            exact am_metHT2 hl hM hpl hown g1 hc hla hcC t1 (by rw [t2]; exact hM1) (sx_can t3 t4 hcan) (by rw [t2]; exact r1) hcls (Nat.blt_eq.mp b1) (by rw [sx_rs_cats r4]; exact hb2) hhp (i1 := x.1) (len1 := x.2) hx1 hs1 (i2 := y.1) (len2 := y.2) hy1 hs2 hc3 hret rfl rfl
                          · cases hkv
                        · cases hkv
                    · cases hkv
    · cases hx
theorem lx_hlp_ok (hmt : sx_mtok mt) (htb : sx_tbok ρ tb) (hl : l.stackTraces = false) (hM : am_tab[mi]? = some M) (hpl : plainName M.2.2.2.1.cls = true) (hown : M.1.1 = 13) (hret : M.2.2.1 = some .int) (hav : sx_rs ρ av av') (hhr : sx_hr ρ f h) (hc : ∀ w ∈ av', am_cv h.1 w) (hla : (lg_sl av').length ≤ M.1.2.1) {v : Value} {e : Nat} (hx : lx_hlp mt tb N mi M hh av f = some (v, f', e)) : ∃ h1, sx_hr ρ f' h1 ∧ am_gr h h1 ∧ sx_rs ρ [v] [v] ∧ lx_Met l M hh av' h h1 v e := by
  unfold lx_hlp at hx
  split at hx
  · rename_i v0 f0 hr
    cases hx
    obtain ⟨h1, hP, hh1, hv⟩ := sy_run_ok hmt htb (sx_al_rL hav) (show sx_rs ρ [] [] from trivial) hhr hr
    exact ⟨h1, hh1, lx_P_gr hP, hv, fun D cy A ad => am_metH hM hpl hP hc hla rfl rfl⟩
  · cases hx
  · split at hx
    · rename_i u hu
      cases hx
      obtain ⟨h1, g1, g2, g3⟩ := lx_thx_ok hmt htb hl hM hpl hown hret hav hhr hc hla hu
      exact ⟨h1, g1, g2, sx_mk rfl trivial, g3⟩
    · cases hx
end LX
/-- the law: its script is the number 1000000300, of sl ints; c0 is the first one's call -/
def lx_run (mt : Nat → Option am_M) (tb : Nat → Nat → Option sx_Op) (sl : Nat) (sc : List Value) (c0 : Int32) (N : Nat) : Nat → Nat → Nat → List Value → List Value → sx_H → Bool
  | 0, _, _, _, _, _ => false
  | n + 1, x, pc, L, st, f => match sy_to mt tb am_i_L_law N pc L st f with
    | none => false
    | some u => bif Nat.ble (u.2.2.2.2.1 + x) 600000 && Nat.ble (u.2.2.2.2.2.1 + 6 * x) 7000000 then (match am_c_L_law u.1 with
      | some (.arraylength, 1) => match u.2.2.1 with
        | .ref o :: r => bif Nat.beq o 1000000300 then lx_run mt tb sl sc c0 N n x (u.1 + 1) u.2.1 (.int (Int32.ofNat sl) :: r) u.2.2.2 else false
        | _ => false
      | some (.iaload, 1) => match u.2.2.1 with
        | .int j :: .ref o :: r => bif Nat.beq o 1000000300 && am_in j sl then lx_run mt tb sl sc c0 N n x (u.1 + 1) u.2.1 (sc.getD j.toNatClampNeg .null :: r) u.2.2.2 else false
        | _ => false
      | some (.iand, 1) => match u.2.2.1 with
        | .int y :: .retAddr k :: r => bif decide (y = 31) && Nat.beq k 0 then lx_run mt tb sl sc c0 N n x (u.1 + 1) u.2.1 (.int c0 :: r) u.2.2.2 else false
        | _ => false
      | some (.invokestatic idx, 3) => match am_fnd lx_hp idx with
        | none => false
        | some e => match mt e.1 with
          | none => false
          | some M => bif Nat.ble (((u.2.2.1.drop M.2.2.2.2).map fun v => v.category).sum) 8 && Nat.beq (u.2.2.1.take M.2.2.2.2).length M.2.2.2.2 && Nat.ble (lg_sl (u.2.2.1.take M.2.2.2.2).reverse).length M.1.2.1 then (match lx_hlp mt tb N e.1 M e.2 (u.2.2.1.take M.2.2.2.2).reverse u.2.2.2 with
            | none => false
            | some q => bif Nat.ble (q.2.1.2.1 + (x + q.2.2)) 600000 && Nat.ble (q.2.1.2.2.1 + 6 * (x + q.2.2)) 7000000 then lx_run mt tb sl sc c0 N n (x + q.2.2) (u.1 + 3) u.2.1 (q.1 :: u.2.2.1.drop M.2.2.2.2) q.2.1 else false) else false
      | some (.ireturn, 1) => match u.2.2.1 with
        | [.int y] => decide (y = 1)
        | _ => false
      | _ => false) else false
theorem lx_cf {b c : Bool} (h : (bif b then c else false) = true) : b = true ∧ c = true := by
  cases b with
  | true => exact ⟨rfl, h⟩
  | false => cases h
