/-! PURE: what the class writes: a chain of rows behind the tape -/
noncomputable def AP (X : Option (Unit × hS)) (c : hS) (t r : List Nat) : Prop := ∃ c', X = some ((), c') ∧ row c' 3 (t ++ r) ∧ fr [3, 4] c c'
theorem ln4 : ln (3 + 1) = 20000 := rfl
theorem AP.end_ {c : hS} {t : List Nat} (h : row c 3 t) : AP (some ((), c)) c t [] := ⟨c, rfl, by simpa using h, fr.rf⟩
theorem AP.bnd_ {X : Option (Unit × hS)} {K : Unit → hS → Option (Unit × hS)} {c : hS} {t p r : List Nat} (hX : AP X c t p) (hK : ∀ c1, row c1 3 (t ++ p) → fr [3, 4] c c1 → AP (K () c1) c1 (t ++ p) r) : AP (bnd X K) c t (p ++ r) := by
  obtain ⟨c1, e1, r1, f1⟩ := hX
  obtain ⟨c2, e2, r2, f2⟩ := hK c1 r1 f1
  refine ⟨c2, ?_, by rw [← List.append_assoc]; exact r2, f1.tr f2⟩
  rw [e1, bnd_some]
  exact e2
theorem AP.last_ {X : Option (Unit × hS)} {c : hS} {t p : List Nat} (hX : AP X c t p) : AP (bnd X fun _ c1 => some ((), c1)) c t p := by
  have := AP.bnd_ (K := fun _ c1 => some ((), c1)) hX (fun c1 r1 _ => AP.end_ r1)
  rwa [List.append_nil] at this
section APS
variable {N : Nat} {c : hS} {t : List Nat}
theorem AP.add {x : Int32} {v : Nat} (h : row c 3 t) (hl : t.length + 1 ≤ 20000) (hv : b8 x = v) : AP (f_X2_add c 3 x) c t [v] := by
  subst hv
  exact f_add x h (by rw [ln4]; omega)
theorem AP.text {w : List Int32} {v : List Nat} (hN : 1000000 ≤ N) (h : row c 3 t) (hl : t.length + v.length ≤ 20000) (hv : w.map b8 = v) : AP (f_X2_addText N c 3 w) c t v := by
  subst hv
  exact f_addText hN h (by rw [ln4]; simpa using hl)
theorem AP.mark {w : List Int32} {v : List Nat} (hN : 1000000 ≤ N) (h : row c 3 t) (hl : t.length + v.length ≤ 20000) (hv : w.map b8 = v) : AP (f_X2_addMark N c 3 w) c t v := by
  subst hv
  exact f_addMark hN h (by rw [ln4]; simpa using hl)
theorem AP.zeros {x : Int32} {m : Nat} (hN : 1000000 ≤ N) (h : row c 3 t) (hl : t.length + m ≤ 20000) (hx : x = nI m) : AP (f_X2_addZeros N c 3 x) c t (List.replicate m 0) := by
  subst hx
  exact f_addZeros hN h (by rw [ln4]; omega)
theorem AP.whole {b : Nat} {g : List Nat} {x : Int32} (hN : 1000000 ≤ N) (h : row c 3 t) (hb : row c b g) (hb3 : 4 < b) (hl : t.length + g.length ≤ 20000) (hx : x = nI g.length) : AP (f_X2_addRow N c 3 b 0 x) c t g := by
  subst hx
  obtain ⟨c', e, r, q⟩ := f_addPart (b := 3) (f := b) (i := 0) (j := g.length) hN h hb (by omega) (by omega) (by omega) (by omega) (by omega) (by rw [ln4]; omega)
  exact ⟨c', e, by simpa using r, q⟩
theorem AP.little {x : Int64} {v m : Nat} {k : Int32} (hN : 1000000 ≤ N) (h : row c 3 t) (hl : t.length + m ≤ 20000) (hx : x = lN v) (hv : v < 2 ^ 64) (hm : m ≤ 8) (hk : k = nI m) : AP (f_X2_addLittle N c 3 x k) c t ((List.range m).map fun i => v / 2 ^ (8 * i) % 256) := by
  subst hx
  subst hk
  obtain ⟨c', e, r, q⟩ := f_addLittle (x := lN v) hN h (by rw [ln4]; omega)
  refine ⟨c', e, ?_, q⟩
  have : (List.range' 0 m).map (fun k => b8 (j_lushr (lN v) (8 * nI k)).toInt32) = (List.range m).map (fun i => v / 2 ^ (8 * i) % 256) := by
    rw [List.range_eq_range']
    apply List.map_congr_left
    intro k hk
    rw [List.mem_range'_1] at hk
    exact b8_lu hv (by omega)
  rwa [this] at r
end APS
/-- an octal digit -/
noncomputable def od (v i : Nat) : Nat := 48 + v / 8 ^ i % 8
noncomputable def octs (v n : Nat) : List Nat := (List.range n).reverse.map (od v)
theorem octs_len (v n : Nat) : (octs v n).length = n := by simp [octs]
theorem and7 (a : Nat) : nI a &&& 7 = nI (a % 8) := by
  rw [show (7 : Int32) = nI 7 from rfl, nx_and]
  congr 1
  exact Nat.and_two_pow_sub_one_eq_mod a 3
theorem and15 (a : Nat) : nI a &&& 15 = nI (a % 16) := by
  rw [show (15 : Int32) = nI 15 from rfl, nx_and]
  congr 1
  exact Nat.and_two_pow_sub_one_eq_mod a 4
theorem od_eq {v i : Nat} (hv : v < 2 ^ 31) (hi : i ≤ 10) : (48 : Int32) + ((j_ushr (nI v) (3 * nI i)) &&& 7) = nI (od v i) := by
  rw [show (3 : Int32) * nI i = nI (3 * i) from nI_mul 3 i, ushr_nI (by omega) (by omega), and7, show (48 : Int32) = nI 48 from rfl, nI_add]
  unfold od
  rw [show (8 : Nat) ^ i = 2 ^ (3 * i) by rw [Nat.pow_mul]]
theorem od_lt (v i : Nat) : od v i < 56 := by
  unfold od
  have := Nat.mod_lt (v / 8 ^ i) (show 0 < 8 by decide)
  omega
theorem AP.octal {N : Nat} {c : hS} {t : List Nat} {x m : Int32} {v n : Nat} (hN : 1000000 ≤ N) (h : row c 3 t) (hl : t.length + n ≤ 20000) (hx : x = nI v) (hv : v < 2 ^ 31) (hn : n ≤ 11) (hm : m = nI n) : AP (f_X1_addOctal N c x m) c t (octs v n) := by
  subst hx
  subst hm
  unfold f_X1_addOctal
  -- downwards, up to 10
  have key : ∀ d n' c t, d ≤ 11 → d < n' → row c 3 t → t.length + d ≤ 20000 → AP (f_X1_addOctal_4 N (nI v) (nI n) n' c (nI d - 1)) c t (octs v d) := by
    intro d
    induction d with
    | zero =>
      intro n' c t _ hn' hr hl
      obtain ⟨n', rfl⟩ : ∃ k, n' = k + 1 := ⟨n' - 1, by omega⟩
      rw [f_X1_addOctal_4, if_pos (by decide)]
      exact AP.end_ hr
    | succ d ih =>
      intro n' c t hd hn' hr hl
      obtain ⟨n', rfl⟩ : ∃ k, n' = k + 1 := ⟨n' - 1, by omega⟩
      rw [nI_pred, f_X1_addOctal_4, if_neg (nI_pos (by omega)), od_eq hv (by omega), show octs v (d + 1) = [od v d] ++ octs v d by simp [octs, List.range_succ]]
      refine AP.bnd_ (AP.add hr (by omega) (b8_nI' (by have := od_lt v d; omega))) (fun c1 r1 f1 => ?_)
      rw [show nI d + -1 = nI d - 1 from (Int32.sub_eq_add_neg _ _).symm]
      exact ih n' c1 _ (by omega) (by omega) r1 (by simp; omega)
  exact key n N c t hn (by omega) h hl
noncomputable def nmS (x : Mb) : List Nat := x.1 ++ (if x.2.2 then [47] else [])
theorem AP.title {N : Nat} {c : hS} {t : List Nat} {m : Nat} {x : Mb} (hN : 1000000 ≤ N) (h : row c 3 t) (hm : mbr c m x) (hm4 : 4 < m) (hl : t.length + x.1.length + 1 ≤ 20000) : AP (f_X0_addTitle N c m 1) c t (nmS x) := by
  unfold f_X0_addTitle nmS
  rw [f_size hm.1, bnd_some]
  refine AP.bnd_ (AP.whole hN h hm.1 (by omega) (by omega) rfl) (fun c1 r1 f1 => ?_)
  rw [if_neg (by decide)]
  have m1 := hm.fr f1 (by simp only [List.mem_cons, List.not_mem_nil, or_false]; omega) (by simp only [List.mem_cons, List.not_mem_nil, or_false]; omega) (by simp only [List.mem_cons, List.not_mem_nil, or_false]; omega) (by simp only [List.mem_cons, List.not_mem_nil, or_false]; omega) (by simp only [List.mem_cons, List.not_mem_nil, or_false]; omega)
  rw [m1.2.2]
  cases x.2.2 with
  | false => rw [if_pos (show bI false = 0 from rfl)]; exact AP.end_ r1
  | true => rw [if_neg (by decide)]; exact AP.last_ (AP.add r1 (by simp; omega) rfl)
theorem AP.title0 {N : Nat} {c : hS} {t : List Nat} {m : Nat} {x : Mb} (hN : 1000000 ≤ N) (h : row c 3 t) (hm : mbr c m x) (hm4 : 4 < m) (hl : t.length + x.1.length + 1 ≤ 20000) : AP (f_X0_addTitle N c m 0) c t x.1 := by
  unfold f_X0_addTitle
  rw [f_size hm.1, bnd_some]
  have := AP.bnd_ (K := fun _ c3 => if (0 : Int32) = 0 then some ((), c3) else if c3.1 m 2 = 0 then some ((), c3) else bnd (f_X2_add c3 3 47) fun _ c4 => some ((), c4)) (AP.whole hN h hm.1 (by omega) (by omega) rfl) (fun c1 r1 f1 => by rw [if_pos rfl]; exact AP.end_ r1)
  rwa [List.append_nil] at this
