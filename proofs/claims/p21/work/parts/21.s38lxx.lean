/-! HELPERS AND HANDLERS: what they owe -/
/-- what a handler answers -/
noncomputable def lx_hv (M : am_M) (hp : Nat) : Option Int32 := match M.1.2.2.2.2.2 hp with
  | none => none
  | some x => match am_s0 M.1.2.1 x.1 hp [] [.ref 0] with
    | some (p2, lo2, []) => match M.1.2.2.2.2.2 p2 with
      | none => none
      | some y => match am_s0 M.1.2.1 y.1 p2 lo2 [] with
        | some (p3, _, [.int kv]) => match M.1.2.2.2.2.2 p3 with
          | some (.ireturn, 1) => some kv
          | _ => none
        | _ => none
    | _ => none
noncomputable def lx_Met (l : Launch) (M : am_M) (hh : List (Nat × Nat × Nat × Nat)) (av : List Value) (h h1 : am_H) (v : Value) (e : Nat) : Prop := ∀ (D : va_G) (cy : Nat → ClassId) (A : Nat → Prop) (ad : Nat → Nat), Met l M.2.2.2.1 (am_wsH M hh) { frames := M.1.2.2.2.1, cells := h1.2.1 - h.2.1 + e, slots := h1.2.2.1 - h.2.2.1 + 6 * e, locals := M.1.2.2.2.2.1 } (am_PcN D cy A ad h av) (am_Qc D cy A ad h.1 (some v) h1) (h1.2.1 - h.2.1 + e) (h1.2.2.1 - h.2.2.1 + 6 * e) A
theorem lx_P_gr {mi pc : Nat} {lo : List (Nat × Value)} {st : List Value} {h h' : am_H} {v : Option Value} (hP : am_P mi pc lo st h v h') : am_gr h h' := by
  obtain ⟨n, hx⟩ := hP
  exact am_exec_gr hx
theorem lx_G_gr {mi pc : Nat} {lo : List (Nat × Value)} {st : List Value} {h : am_H} {u : Nat × List (Nat × Value) × List Value × am_H} (hP : am_G mi pc lo st h u) : am_gr h u.2.2.2 := by
  obtain ⟨n, k, hx⟩ := hP
  exact am_go_gr hx
