/-! PURE: what the class writes in kind 2 -/
noncomputable def le (v n : Nat) : List Nat := (List.range n).map fun i => v / 2 ^ (8 * i) % 256
theorem le_len (v n : Nat) : (le v n).length = n := by simp [le]
noncomputable def u32 (x : Int32) : Nat := x.toUInt32.toNat
theorem u32_lt (x : Int32) : u32 x < 2 ^ 32 := x.toBitVec.isLt
theorem u32_nI (x : Int32) : x = nI (u32 x) := i32_ext (by rw [nI_u, Nat.mod_eq_of_lt (u32_lt x)]; rfl)
theorem ext_lN (x : Int32) : ∃ v, v < 2 ^ 64 ∧ x.toInt64 = lN v ∧ v % 2 ^ 32 = u32 x := by
  refine ⟨x.toInt64.toBitVec.toNat, x.toInt64.toBitVec.isLt, wb_inj (by rw [wb_tb]; simp), ?_⟩
  have h1 : x.toInt64.toInt32 = x := Int32.toInt32_toInt64 x
  have h2 : x.toInt64.toInt32 = nI x.toInt64.toBitVec.toNat := by
    rw [show x.toInt64 = lN x.toInt64.toBitVec.toNat from wb_inj (by rw [wb_tb]; simp), lN_i]
    simp [wb_tb]
  have h3 : u32 x = u32 (nI x.toInt64.toBitVec.toNat) := by rw [← h2, h1]
  rw [h3]
  rfl
theorem le_mod {v w n : Nat} (hn : n ≤ 4) (h : v % 2 ^ 32 = w) : le v n = le w n := by
  unfold le
  apply List.map_congr_left
  intro i hi
  have hi : i < 4 := by have := List.mem_range.mp hi; omega
  subst h
  have e : 2 ^ 32 = 2 ^ (8 * i) * 2 ^ (32 - 8 * i) := by rw [← Nat.pow_add]; congr 1; omega
  rw [e, Nat.mod_mul_right_div_self]
  have e2 : 2 ^ (32 - 8 * i) = 256 * 2 ^ (24 - 8 * i) := by rw [show (256 : Nat) = 2 ^ 8 from rfl, ← Nat.pow_add]; congr 1; omega
  rw [e2, Nat.mod_mul_right_mod]
theorem AP.le64 {N : Nat} {c : hS} {t : List Nat} {x : Int64} {v m : Nat} {k : Int32} (hN : 1000000 ≤ N) (h : row c 3 t) (hl : t.length + m ≤ 20000) (hx : x = lN v) (hv : v < 2 ^ 64) (hm : m ≤ 8) (hk : k = nI m) : AP (f_X2_addLittle N c 3 x k) c t (le v m) := AP.little hN h hl hx hv hm hk
theorem AP.le32 {N : Nat} {c : hS} {t : List Nat} {x : Int32} {m : Nat} {k : Int32} (hN : 1000000 ≤ N) (h : row c 3 t) (hl : t.length + m ≤ 20000) (hm : m ≤ 4) (hk : k = nI m) : AP (f_X2_addLittle N c 3 x.toInt64 k) c t (le (u32 x) m) := by
  obtain ⟨v, h1, h2, h3⟩ := ext_lN x
  rw [← le_mod hm h3]
  exact AP.little hN h hl h2 h1 (by omega) hk
theorem AP.leN {N : Nat} {c : hS} {t : List Nat} {x : Int32} {v m : Nat} {k : Int32} (hN : 1000000 ≤ N) (h : row c 3 t) (hl : t.length + m ≤ 20000) (hx : x = nI v) (hv : v < 2 ^ 31) (hm : m ≤ 4) (hk : k = nI m) : AP (f_X2_addLittle N c 3 x.toInt64 k) c t (le v m) := by
  subst hx
  have := AP.le32 (x := nI v) hN h hl hm hk
  rwa [show u32 (nI v) = v from by show (nI v).toUInt32.toNat = v; rw [nI_u, Nat.mod_eq_of_lt (by omega)]] at this
noncomputable def mk3 : List Nat := [80, 75, 3, 4]
noncomputable def mk4 : List Nat := [80, 75, 1, 2]
noncomputable def mk5 : List Nat := [80, 75, 5, 6]
/-- what a local head and an entry have alike -/
noncomputable def com (x : Mb) (way size : Nat) : List Nat := le 20 2 ++ (le 0 2 ++ (le way 2 ++ (le 0 2 ++ (le 33 2 ++ (le (u32 (crc x.2.1)) 4 ++ (le size 4 ++ (le x.2.1.length 4 ++ le (nmS x).length 2)))))))
theorem com_len (x : Mb) (way size : Nat) : (com x way size).length = 24 := by
  unfold com
  simp only [List.length_append, le_len]
noncomputable def loc (x : Mb) (way size : Nat) : List Nat := mk3 ++ (com x way size ++ (le 0 2 ++ nmS x))
theorem loc_len (x : Mb) (way size : Nat) : (loc x way size).length = 30 + (nmS x).length := by
  unfold loc mk3
  simp only [List.length_append, le_len, com_len, List.length_cons, List.length_nil]
  omega
theorem nmS_eq (x : Mb) : (nmS x).length = x.1.length + (if x.2.2 then 1 else 0) := by
  unfold nmS
  cases x.2.2 <;> simp
theorem f_titleBytes {c : hS} {m : Nat} {x : Mb} (h : mbr c m x) : f_X5_titleBytes c m = some (nI (nmS x).length, c) := by
  unfold f_X5_titleBytes
  rw [f_size h.1, bnd_some, h.2.2, nmS_eq]
  cases x.2.2 with
  | false => rw [if_pos (show bI false = 0 from rfl), show (0 : Int32) = nI 0 from rfl, nI_add]; rfl
  | true => rw [if_neg (by decide), nI_1]; rfl
theorem f_addLocal {N : Nat} {c : hS} {t : List Nat} {m way : Nat} {x : Mb} {w : Int32} (hN : 1000000 ≤ N) (h : row c 3 t) (hm : mbr c m x) (hm4 : 4 < m) (hl : t.length + 121 ≤ 20000) (hx : x.1.length ≤ 90) (hb : x.2.1.length ≤ 400) (hw : w = nI way) (hway : way < 16) : AP (f_X5_addLocal N c m w) c t (loc x way 0) := by
  have hn := nmS_len hx
  unfold f_X5_addLocal loc com
  simp only [List.append_assoc]
  have l3 : mk3.length = 4 := rfl
  refine AP.bnd_ (AP.mark (v := mk3) hN h (by rw [l3]; omega) (by decide)) (fun c1 r1 f1 => ?_)
  refine AP.bnd_ (AP.le64 (v := 20) hN r1 (by simp only [List.length_append, l3]; omega) rfl (by decide) (by decide) rfl) (fun c2 r2 f2 => ?_)
  refine AP.bnd_ (AP.le64 (v := 0) hN r2 (by simp only [List.length_append, le_len, l3]; omega) rfl (by decide) (by decide) rfl) (fun c3 r3 f3 => ?_)
  refine AP.bnd_ (AP.leN (v := way) hN r3 (by simp only [List.length_append, le_len, l3]; omega) hw (by omega) (by decide) rfl) (fun c4 r4 f4 => ?_)
  refine AP.bnd_ (AP.le64 (v := 0) hN r4 (by simp only [List.length_append, le_len, l3]; omega) rfl (by decide) (by decide) rfl) (fun c5 r5 f5 => ?_)
  refine AP.bnd_ (AP.le64 (v := 33) hN r5 (by simp only [List.length_append, le_len, l3]; omega) rfl (by decide) (by decide) rfl) (fun c6 r6 f6 => ?_)
  have m6 := hm.fr (((((f1.tr f2).tr f3).tr f4).tr f5).tr f6) (by simp only [List.mem_cons, List.not_mem_nil, or_false]; omega) (by simp only [List.mem_cons, List.not_mem_nil, or_false]; omega) (by simp only [List.mem_cons, List.not_mem_nil, or_false]; omega) (by simp only [List.mem_cons, List.not_mem_nil, or_false]; omega) (by simp only [List.mem_cons, List.not_mem_nil, or_false]; omega)
  rw [f_checkOf hN m6.2.1, bnd_some]
  refine AP.bnd_ (AP.le32 hN r6 (by simp only [List.length_append, le_len, l3]; omega) (by decide) rfl) (fun c9 r9 f9 => ?_)
  refine AP.bnd_ (AP.le64 (v := 0) hN r9 (by simp only [List.length_append, le_len, l3]; omega) rfl (by decide) (by decide) rfl) (fun c10 r10 f10 => ?_)
  have m10 := m6.fr (f9.tr f10) (by simp only [List.mem_cons, List.not_mem_nil, or_false]; omega) (by simp only [List.mem_cons, List.not_mem_nil, or_false]; omega) (by simp only [List.mem_cons, List.not_mem_nil, or_false]; omega) (by simp only [List.mem_cons, List.not_mem_nil, or_false]; omega) (by simp only [List.mem_cons, List.not_mem_nil, or_false]; omega)
  rw [f_size m10.2.1, bnd_some]
  refine AP.bnd_ (AP.leN (v := x.2.1.length) hN r10 (by simp only [List.length_append, le_len, l3]; omega) rfl (by omega) (by decide) rfl) (fun c13 r13 f13 => ?_)
  have m13 := m10.fr f13 (by simp only [List.mem_cons, List.not_mem_nil, or_false]; omega) (by simp only [List.mem_cons, List.not_mem_nil, or_false]; omega) (by simp only [List.mem_cons, List.not_mem_nil, or_false]; omega) (by simp only [List.mem_cons, List.not_mem_nil, or_false]; omega) (by simp only [List.mem_cons, List.not_mem_nil, or_false]; omega)
  rw [f_titleBytes m13, bnd_some]
  refine AP.bnd_ (AP.leN (v := (nmS x).length) hN r13 (by simp only [List.length_append, le_len, l3]; omega) rfl (by omega) (by decide) rfl) (fun c16 r16 f16 => ?_)
  refine AP.bnd_ (AP.le64 (v := 0) hN r16 (by simp only [List.length_append, le_len, l3]; omega) rfl (by decide) (by decide) rfl) (fun c17 r17 f17 => ?_)
  have m17 := m13.fr (f16.tr f17) (by simp only [List.mem_cons, List.not_mem_nil, or_false]; omega) (by simp only [List.mem_cons, List.not_mem_nil, or_false]; omega) (by simp only [List.mem_cons, List.not_mem_nil, or_false]; omega) (by simp only [List.mem_cons, List.not_mem_nil, or_false]; omega) (by simp only [List.mem_cons, List.not_mem_nil, or_false]; omega)
  exact AP.last_ (AP.title hN r17 m17 (by omega) (by simp only [List.length_append, le_len, l3]; omega))
theorem b8_ushr {v k : Nat} (hv : v < 2 ^ 31) (hk : k < 4) : b8 (j_ushr (nI v) (8 * nI k)) = v / 2 ^ (8 * k) % 256 := by
  rw [show (8 : Int32) * nI k = nI (8 * k) from nI_mul 8 k, ushr_nI (by omega) (by omega), b8_nI]
theorem le_get {v n i : Nat} (h : i < n) : (le v n).drop i = v / 2 ^ (8 * i) % 256 :: (le v n).drop (i + 1) := by
  rw [List.drop_eq_getElem_cons (by rw [le_len]; exact h)]
  congr 1
  simp [le]
theorem f_setSize {N : Nat} {c : hS} {t : List Nat} {p v : Nat} (hN : 1000000 ≤ N) (h : row c 3 t) (hp : p + 22 ≤ t.length) (hv : v < 2 ^ 31) : ∃ c', f_X5_setSize N c (nI p) (nI v) = some ((), c') ∧ row c' 3 (setL t (p + 18) (le v 4)) ∧ fr [3, 4] c c' := by
  have hln : t.length ≤ 20000 := h.1
  unfold f_X5_setSize
  have key : ∀ d n i c u, i + d = 4 → d < n → row c 3 u → u.length = t.length → ∃ c', f_X5_setSize_2 N (nI p) (nI v) n c (nI i) = some ((), c') ∧ row c' 3 (setL u (p + 18 + i) ((le v 4).drop i)) ∧ fr [3, 4] c c' := by
    intro d
    induction d with
    | zero =>
      intro n i c u hi hn hu hl
      obtain ⟨n, rfl⟩ : ∃ m, n = m + 1 := ⟨n - 1, by omega⟩
      have : i = 4 := by omega
      subst this
      rw [f_X5_setSize_2, if_pos (by decide), List.drop_eq_nil_of_le (by rw [le_len]; decide)]
      exact ⟨c, rfl, hu, fr.rf⟩
    | succ d ih =>
      intro n i c u hi hn hu hl
      obtain ⟨n, rfl⟩ : ∃ m, n = m + 1 := ⟨n - 1, by omega⟩
      obtain ⟨c1, e1, r1, f1⟩ := f_set (k := p + 18 + i) (j_ushr (nI v) (8 * nI i)) hu (by omega)
      rw [b8_ushr hv (by omega)] at r1
      obtain ⟨c2, e2, r2, f2⟩ := ih n (i + 1) c1 _ (by omega) (by omega) r1 (by simpa using hl)
      refine ⟨c2, ?_, ?_, f1.tr f2⟩
      · rw [f_X5_setSize_2, if_neg (show ¬ (4 : Int32) ≤ nI i from nI_ge (b := 4) (by omega) (by decide)), show nI p + 18 + nI i = nI (p + 18 + i) by rw [show (18 : Int32) = nI 18 from rfl, nI_add, nI_add], e1, bnd_some, nI_1]
        exact e2
      · rw [le_get (by omega)]
        exact r2
  obtain ⟨c', e, r, q⟩ := key 4 N 0 c t (by omega) (by omega) h rfl
  exact ⟨c', e, by simpa using r, q⟩
/-- the bytes of a member as they are written -/
noncomputable def wayB2 (pk : Bool) (x : Mb) : Bool := pk && decide (0 < x.2.1.length)
noncomputable def dat (pk : Bool) (x : Mb) : List Nat := if wayB2 pk x then packed x.2.1 else x.2.1
noncomputable def way2 (pk : Bool) (x : Mb) : Nat := if wayB2 pk x then 8 else 0
noncomputable def lo2 (pk : Bool) (x : Mb) : List Nat := loc x (way2 pk x) (dat pk x).length ++ dat pk x
theorem dat_len {pk : Bool} {x : Mb} (hb : x.2.1.length ≤ 400) : (dat pk x).length ≤ 804 := by
  unfold dat
  split
  · have := packed_len x.2.1; omega
  · omega
theorem lo2_len {pk : Bool} {x : Mb} : (lo2 pk x).length = 30 + (nmS x).length + (dat pk x).length := by
  unfold lo2
  rw [List.length_append, loc_len]
theorem loc_set (x : Mb) (way v : Nat) (t r : List Nat) : setL (t ++ (loc x way 0 ++ r)) (t.length + 18) (le v 4) = t ++ (loc x way v ++ r) := by
  have e : ∀ z, loc x way z = (mk3 ++ (le 20 2 ++ (le 0 2 ++ (le way 2 ++ (le 0 2 ++ (le 33 2 ++ le (u32 (crc x.2.1)) 4)))))) ++ (le z 4 ++ (le x.2.1.length 4 ++ (le (nmS x).length 2 ++ (le 0 2 ++ nmS x)))) := by
    intro z
    unfold loc com
    simp only [List.append_assoc]
  rw [e 0, e v]
  generalize hA : mk3 ++ (le 20 2 ++ (le 0 2 ++ (le way 2 ++ (le 0 2 ++ (le 33 2 ++ le (u32 (crc x.2.1)) 4))))) = A
  have hl : A.length = 18 := by
    rw [← hA]
    simp only [List.length_append, le_len, mk3, List.length_cons, List.length_nil]
  rw [show t ++ (A ++ (le 0 4 ++ (le x.2.1.length 4 ++ (le (nmS x).length 2 ++ (le 0 2 ++ nmS x)))) ++ r) = (t ++ A) ++ (le 0 4 ++ (le x.2.1.length 4 ++ (le (nmS x).length 2 ++ (le 0 2 ++ (nmS x ++ r))))) by simp only [List.append_assoc], show t.length + 18 = (t ++ A).length by rw [List.length_append, hl], setL_mid (by rw [le_len, le_len])]
  simp only [List.append_assoc]
