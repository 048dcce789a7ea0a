/-! TEXTS: their length and their characters, by the JDK's own code -/
section AMTX
variable {p : Program} {l : Launch} {e : Env} {R : Room} {s : State} {m : MethodId} {args : Array Value} {below : List Frame} {meth : Method} {c : Code} {H : Heap} {locs : List Loc} {cells slots : Nat} {Q : State → Prop}
variable {cc : ByteArray} {pc nL own idx j : Nat} {ls : Array Slot} {ad : Nat → Nat} {A : Nat → Prop} {q : String × Nat × String × List Int32} {r : List Value}
theorem am_txtL (X : am_X cc (am_cn own) p s m args c) (hml : c.maxLocals = nL) (hsz : ls.size = nL) (hfr : 5 ≤ R.frames) (hlo : 145 ≤ R.locals) (hrc : cells ≤ R.cells) (hrs : slots ≤ R.slots) (hS : va_S A s.heap H locs) (hod : am_Od A ad s s.heap) (hq : am_st[j]? = some q) (hlk : Cond.methodLink (am_cn own) idx yJ0_length_8abf5 ∈ lw_tbl) (hd : decode cc pc = .ok (.invokevirtual idx, 3)) (hw : (r.map fun v => v.category).sum ≤ 8)
    (k : W p l e R s m args below meth c H locs cells slots Q (F0 m (pc + 3) ls (.int (Int32.ofNat q.2.2.2.length) :: r.map (am_v ad)))) : W p l e R s m args below meth c H locs cells slots Q (F0 m pc ls (.ref (ad (1000000100 + j)) :: r.map (am_v ad))) := by
  sorry
theorem am_txtC (X : am_X cc (am_cn own) p s m args c) (hml : c.maxLocals = nL) (hsz : ls.size = nL) (hfr : 5 ≤ R.frames) (hlo : 145 ≤ R.locals) (hrc : cells ≤ R.cells) (hrs : slots ≤ R.slots) (hS : va_S A s.heap H locs) (hod : am_Od A ad s s.heap) (hq : am_st[j]? = some q) (hlk : Cond.methodLink (am_cn own) idx yJ0_charAt_5068e ∈ lw_tbl) (hd : decode cc pc = .ok (.invokevirtual idx, 3)) (hw : (r.map fun v => v.category).sum ≤ 8) {i : Int32} (hi : am_in i q.2.2.2.length = true)
    (k : W p l e R s m args below meth c H locs cells slots Q (F0 m (pc + 3) ls (.int (q.2.2.2.getD i.toNatClampNeg 0) :: r.map (am_v ad)))) : W p l e R s m args below meth c H locs cells slots Q (F0 m pc ls (.int i :: .ref (ad (1000000100 + j)) :: r.map (am_v ad))) := by
  sorry
end AMTX
