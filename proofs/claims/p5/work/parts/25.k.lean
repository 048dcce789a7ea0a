/-! PURE: the reference: check; bytes behind the tape; kind 1 written -/
theorem m_checkMore {N : Nat} {c : hS} {v : Int32} {b : Nat} (hN : 1000000 ≤ N) : f_X12_checkMore N c v (nI b) = some (crcN 8 (v ^^^ nI b), c) := by
  have key : ∀ d n j v p0 p1, j + d = 8 → d < n → f_X12_checkMore_6 N p0 p1 n c v (nI j) = some (crcN d v, c) := by
    intro d
    induction d with
    | zero =>
      intro n j v p0 p1 hj hn
      obtain ⟨n, rfl⟩ : ∃ m, n = m + 1 := ⟨n - 1, by omega⟩
      rw [f_X12_checkMore_6, if_pos (show (8 : Int32) ≤ nI j from nI_le (a := 8) (by omega) (by omega))]
      rfl
    | succ d ih =>
      intro n j v p0 p1 hj hn
      obtain ⟨n, rfl⟩ : ∃ m, n = m + 1 := ⟨n - 1, by omega⟩
      rw [f_X12_checkMore_6, if_neg (show ¬ (8 : Int32) ≤ nI j from nI_ge (b := 8) (by omega) (by decide)), nI_1]
      unfold crcN crcS
      by_cases q : v &&& 1 = 1
      · rw [if_pos q, if_pos q]; exact ih n (j + 1) _ p0 p1 (by omega) (by omega)
      · rw [if_neg q, if_neg q]; exact ih n (j + 1) _ p0 p1 (by omega) (by omega)
  unfold f_X12_checkMore
  exact key 8 N 0 _ _ _ (by omega) (by omega)
theorem crcL_s {l : List Nat} {j : Nat} {v : Int32} (h : j < l.length) : crcL v (l.drop j) = crcL (crcN 8 (v ^^^ nI (gt l j))) (l.drop (j + 1)) := by
  rw [List.drop_eq_getElem_cons h, gt_lt h]
  rfl
theorem m_check {N : Nat} {c : hS} {b t : List Nat} {ms : List Mb} (hN : 1000000 ≤ N) (h : PM c b t ms) : MN (f_X12_check N c) c 0 (crc b) b t ms := by
  obtain ⟨c1, e1, h1, z1, f1⟩ := m_zero h
  have hbl : b.length ≤ 512 := h.1.1
  unfold f_X12_check
  rw [e1]
  dsimp only [st1]
  have key : ∀ d n j v, j + d = b.length → d < n → f_X12_check_9 N n c1 v (nI j) = some (crcL v (b.drop j) ^^^ (-1), c1) := by
    intro d
    induction d with
    | zero =>
      intro n j v hj hn
      obtain ⟨n, rfl⟩ : ∃ m, n = m + 1 := ⟨n - 1, by omega⟩
      rw [f_X12_check_9, h1.1.2.1, if_pos (nI_le (by omega) (by omega)), List.drop_eq_nil_of_le (by omega)]
      rfl
    | succ d ih =>
      intro n j v hj hn
      obtain ⟨n, rfl⟩ : ∃ m, n = m + 1 := ⟨n - 1, by omega⟩
      rw [f_X12_check_9, h1.1.2.1, if_neg (nI_ge (by omega) (by omega)), j_in_nI (show j < ln 202 from (by show j < 512; omega)) (by decide), cond_true, nI_clamp (by omega), h1.1.2.2.1 j (by omega), m_checkMore hN, bnd_some, nI_1, ih n (j + 1) _ (by omega) (by omega), crcL_s (l := b) (j := j) (by omega)]
  refine ⟨_, c1, key b.length N 0 (-1) (by omega) (by omega), z1, fun _ => ?_, h1, f1⟩
  rw [List.drop_zero]
  rfl
/-- the tape and its length -/
noncomputable def W1 (o i : Nat) : Prop := o = 203 ∨ (o = 201 ∧ i = 4)
noncomputable def MP (X : Option (Unit × hS)) (c : hS) (t r : List Nat) : Prop := ∃ c', X = some ((), c') ∧ mrw c' 4 203 (t ++ r) ∧ fm W1 c c'
theorem MP.end_ {c : hS} {t : List Nat} (h : mrw c 4 203 t) : MP (some ((), c)) c t [] := ⟨c, rfl, by simpa using h, fm.rf⟩
theorem MP.bnd_ {X : Option (Unit × hS)} {K : Unit → hS → Option (Unit × hS)} {c : hS} {t p r : List Nat} (hX : MP X c t p) (hK : ∀ c1, mrw c1 4 203 (t ++ p) → fm W1 c c1 → MP (K () c1) c1 (t ++ p) r) : MP (bnd X K) c t (p ++ r) := by
  obtain ⟨c1, e1, r1, f1⟩ := hX
  obtain ⟨c2, e2, r2, f2⟩ := hK c1 r1 f1
  refine ⟨c2, ?_, by rw [← List.append_assoc]; exact r2, f1.tr f2⟩
  rw [e1, bnd_some]
  exact e2
theorem MP.last_ {X : Option (Unit × hS)} {c : hS} {t p : List Nat} (hX : MP X c t p) : MP (bnd X fun _ c1 => some ((), c1)) c t p := by
  have := MP.bnd_ (K := fun _ c1 => some ((), c1)) hX (fun c1 r1 _ => MP.end_ r1)
  rwa [List.append_nil] at this
theorem mmbW {c c1 : hS} {m : Nat} {x : Mb} (h : mmb c m x) (f : fm W1 c c1) : mmb c1 m x := h.fm f (fun o i a b => by unfold W1; omega)
theorem nW1 {o i : Nat} (h : o ≠ 203) (h2 : o = 201 → i ≠ 4) : ¬ W1 o i := by unfold W1; omega
theorem MP.put {c : hS} {t : List Nat} {x : Int32} {v : Nat} (h : mrw c 4 203 t) (hl : t.length + 1 ≤ 20000) (hv : b8 x = v) : MP (f_X12_put c x) c t [v] := by
  subst hv
  unfold f_X12_put
  rw [h.2.1, j_in_nI (show t.length < ln 203 from (by show t.length < 20000; omega)) (by decide), cond_true, nI_clamp (by omega)]
  dsimp only [st1]
  rw [b8_and, sI_o (by decide), h.2.1, nI_1]
  exact ⟨_, rfl, h.add (x := b8 x) (by decide) (show t.length < 20000 by omega) (b8_lt x), (fm.sI (Or.inl rfl)).tr (fm.sI (Or.inr ⟨rfl, rfl⟩))⟩
theorem MP.putN {c : hS} {t : List Nat} {x : Int32} {v : Nat} (h : mrw c 4 203 t) (hl : t.length + 1 ≤ 20000) (hx : x = nI v) (hv : v < 256) : MP (f_X12_put c x) c t [v] := MP.put h hl (by rw [hx]; exact b8_nI' hv)
theorem MP.zeros {N : Nat} {c : hS} {t : List Nat} {x : Int32} {m : Nat} (hN : 1000000 ≤ N) (h : mrw c 4 203 t) (hl : t.length + m ≤ 20000) (hx : x = nI (t.length + m)) : MP (f_X12_putZeros N c x) c t (List.replicate m 0) := by
  have key : ∀ d n c t, t.length + d ≤ 20000 → d < n → x = nI (t.length + d) → mrw c 4 203 t → MP (f_X12_putZeros_0 N x n c) c t (List.replicate d 0) := by
    intro d
    induction d with
    | zero =>
      intro n c t hl hn hx h
      obtain ⟨n, rfl⟩ : ∃ m, n = m + 1 := ⟨n - 1, by omega⟩
      rw [f_X12_putZeros_0, h.2.1, hx, if_pos (nI_le (by omega) (by omega))]
      exact MP.end_ h
    | succ d ih =>
      intro n c t hl hn hx h
      obtain ⟨n, rfl⟩ : ∃ m, n = m + 1 := ⟨n - 1, by omega⟩
      rw [f_X12_putZeros_0, h.2.1, if_neg (by rw [hx]; exact nI_ge (by omega) (by omega)), List.replicate_succ]
      exact MP.bnd_ (p := [0]) (MP.put h (by omega) rfl) (fun c1 r1 f1 => ih n c1 _ (by simp; omega) (by omega) (by rw [hx]; simp; congr 1; omega) r1)
  exact key m N c t hl (by omega) hx h
theorem MP.name {N m : Nat} {c : hS} {t : List Nat} {x : Mb} {s : Bool} (hN : 1000000 ≤ N) (h : mrw c 4 203 t) (hm : mmb c m x) (hm34 : m < 34) (hl : t.length + x.1.length + 1 ≤ 20000) : MP (f_X12_putName N c (nI m) (bI s)) c t (x.1 ++ (if (s && x.2.2) = true then [47] else [])) := by
  have hx := hm.1.2.2.1
  have key : ∀ d n i c t, i + d = x.1.length → d < n → t.length + d + 1 ≤ 20000 → mmb c m x → mrw c 4 203 t → MP (f_X12_putName_2 N (nI m) (bI s) n c (nI i)) c t (x.1.drop i ++ (if (s && x.2.2) = true then [47] else [])) := by
    intro d
    induction d with
    | zero =>
      intro n i c t hi hn hl hm h
      obtain ⟨n, rfl⟩ : ∃ m, n = m + 1 := ⟨n - 1, by omega⟩
      rw [f_X12_putName_2, j_in_nI (show m < ln 204 from hm34) (by decide), cond_true, nI_clamp (by omega), hm.1.1, if_pos (nI_le (by omega) (by omega)), List.drop_eq_nil_of_le (by omega), List.nil_append]
      cases s with
      | false => rw [if_pos (show bI false = 0 from rfl)]; exact MP.end_ h
      | true =>
        rw [if_neg (by decide), j_in_nI (show m < ln 208 from hm34) (by decide), cond_true, hm.2.2]
        cases x.2.2 with
        | false => rw [if_pos (show bI false = 0 from rfl)]; exact MP.end_ h
        | true => rw [if_neg (by decide)]; exact MP.last_ (MP.put h (by omega) rfl)
    | succ d ih =>
      intro n i c t hi hn hl hm h
      obtain ⟨n, rfl⟩ : ∃ m, n = m + 1 := ⟨n - 1, by omega⟩
      have hil : i < x.1.length := by omega
      rw [f_X12_putName_2, j_in_nI (show m < ln 204 from hm34) (by decide), cond_true, nI_clamp (by omega), hm.1.1, if_neg (nI_ge hil (by omega)), m_nameAt hm hm34 hil, bnd_some, List.drop_eq_getElem_cons hil, gt_lt hil, List.cons_append]
      refine MP.bnd_ (p := [x.1[i]]) (MP.putN h (by omega) rfl (hm.1.2.2.2 _ (List.getElem_mem hil))) (fun c1 r1 f1 => ?_)
      rw [nI_1]
      exact ih n (i + 1) c1 _ (by omega) (by omega) (by simp; omega) (mmbW hm f1) r1
  exact key x.1.length N 0 c t (by omega) (by omega) hl hm h
theorem MP.name1 {N m : Nat} {c : hS} {t : List Nat} {x : Mb} (hN : 1000000 ≤ N) (h : mrw c 4 203 t) (hm : mmb c m x) (hm34 : m < 34) (hl : t.length + x.1.length + 1 ≤ 20000) : MP (f_X12_putName N c (nI m) 1) c t (nmS x) := by
  have := MP.name (s := true) hN h hm hm34 hl
  rwa [Bool.true_and] at this
theorem MP.name0 {N m : Nat} {c : hS} {t : List Nat} {x : Mb} (hN : 1000000 ≤ N) (h : mrw c 4 203 t) (hm : mmb c m x) (hm34 : m < 34) (hl : t.length + x.1.length + 1 ≤ 20000) : MP (f_X12_putName N c (nI m) 0) c t x.1 := by
  have := MP.name (s := false) hN h hm hm34 hl
  rwa [Bool.false_and, if_neg (by decide), List.append_nil] at this
theorem MP.bytes {N m : Nat} {c : hS} {t : List Nat} {x : Mb} (hN : 1000000 ≤ N) (h : mrw c 4 203 t) (hm : mmb c m x) (hm34 : m < 34) (hl : t.length + x.2.1.length ≤ 20000) : MP (f_X12_putBytes N c (nI m)) c t x.2.1 := by
  have hx := hm.2.1.2.2.1
  have key : ∀ d n i c t, i + d = x.2.1.length → d < n → t.length + d ≤ 20000 → mmb c m x → mrw c 4 203 t → MP (f_X12_putBytes_2 N (nI m) n c (nI i)) c t (x.2.1.drop i) := by
    intro d
    induction d with
    | zero =>
      intro n i c t hi hn hl hm h
      obtain ⟨n, rfl⟩ : ∃ m, n = m + 1 := ⟨n - 1, by omega⟩
      rw [f_X12_putBytes_2, j_in_nI (show m < ln 206 from hm34) (by decide), cond_true, nI_clamp (by omega), hm.2.1.1, if_pos (nI_le (by omega) (by omega)), List.drop_eq_nil_of_le (by omega)]
      exact MP.end_ h
    | succ d ih =>
      intro n i c t hi hn hl hm h
      obtain ⟨n, rfl⟩ : ∃ m, n = m + 1 := ⟨n - 1, by omega⟩
      have hil : i < x.2.1.length := by omega
      rw [f_X12_putBytes_2, j_in_nI (show m < ln 206 from hm34) (by decide), cond_true, nI_clamp (show m < 2 ^ 31 by omega), hm.2.1.1, if_neg (nI_ge hil (by omega)), mul400 m i, j_in_nI (show 400 * m + i < ln 207 from (by show 400 * m + i < 13600; omega)) (by decide), cond_true, nI_clamp (by omega), hm.2.1.2.1 i hil, List.drop_eq_getElem_cons hil, gt_lt hil]
      refine MP.bnd_ (p := [x.2.1[i]]) (MP.putN h (by omega) rfl (hm.2.1.2.2.2 _ (List.getElem_mem hil))) (fun c1 r1 f1 => ?_)
      rw [nI_1]
      exact ih n (i + 1) c1 _ (by omega) (by omega) (by simp; omega) (mmbW hm f1) r1
  exact key x.2.1.length N 0 c t (by omega) (by omega) hl hm h
theorem MP.hex {N : Nat} {c : hS} {t : List Nat} {x : Int32} {v : Nat} (hN : 1000000 ≤ N) (h : mrw c 4 203 t) (hl : t.length + 8 ≤ 20000) (hx : x = nI v) (hv : v < 2 ^ 31) : MP (f_X12_putHex N c x) c t (hexs v) := by
  subst hx
  unfold f_X12_putHex hexs
  have key : ∀ d n' c t, d ≤ 8 → d < n' → mrw c 4 203 t → t.length + d ≤ 20000 → MP (f_X12_putHex_3 N (nI v) n' c (nI (4 * d) - 4)) c t (hexn v d) := by
    intro d
    induction d with
    | zero =>
      intro n' c t _ hn' hr hl
      obtain ⟨n', rfl⟩ : ∃ k, n' = k + 1 := ⟨n' - 1, by omega⟩
      rw [f_X12_putHex_3, if_pos (by decide)]
      exact MP.end_ hr
    | succ d ih =>
      intro n' c t hd hn' hr hl
      obtain ⟨n', rfl⟩ : ∃ k, n' = k + 1 := ⟨n' - 1, by omega⟩
      have e4 : nI (4 * (d + 1)) - 4 = nI (4 * d) := by
        rw [show (4 : Int32) = nI 4 from rfl, subI (by omega)]; congr 1
      rw [e4, f_X12_putHex_3, if_neg (nI_pos (by omega)), shr_nI hv (by omega), and15, show hexn v (d + 1) = [hd16 v d] ++ hexn v d by simp [hexn, List.range_succ]]
      have ep : (2 : Nat) ^ (4 * d) = 16 ^ d := by rw [Nat.pow_mul]
      rw [ep]
      have hm := Nat.mod_lt (v / 16 ^ d) (show 0 < 16 by decide)
      have nx : nI (4 * d) + (-4) = nI (4 * d) - 4 := (Int32.sub_eq_add_neg _ _).symm
      rw [nx]
      unfold hd16
      by_cases e : v / 16 ^ d % 16 < 10
      · rw [if_neg (show ¬ (10 : Int32) ≤ nI (v / 16 ^ d % 16) from nI_ge (b := 10) e (by decide)), if_pos e, show (48 : Int32) = nI 48 from rfl, nI_add]
        refine MP.bnd_ (MP.put hr (by omega) (b8_nI' (by omega))) (fun c1 r1 f1 => ?_)
        exact ih n' c1 _ (by omega) (by omega) r1 (by simp; omega)
      · rw [if_pos (show (10 : Int32) ≤ nI (v / 16 ^ d % 16) from nI_le (a := 10) (by omega) (by omega)), if_neg e, show (87 : Int32) = nI 87 from rfl, nI_add]
        refine MP.bnd_ (MP.put hr (by omega) (b8_nI' (by omega))) (fun c1 r1 f1 => ?_)
        exact ih n' c1 _ (by omega) (by omega) r1 (by simp; omega)
  exact key 8 N c t (by decide) (by omega) h hl
theorem MP.hd1 {N : Nat} {c : hS} {t : List Nat} {p1 p2 p3 p4 : Int32} {a b d e : Nat} (hN : 1000000 ≤ N) (h : mrw c 4 203 t) (hl : t.length + 110 ≤ 20000) (h1 : p1 = nI a) (h2 : p2 = nI b) (h3 : p3 = nI d) (h4 : p4 = nI e) (ha : a < 2 ^ 31) (hb : b < 2 ^ 31) (hd : d < 2 ^ 31) (he : e < 2 ^ 31) : MP (f_X12_putDigitsHead N c p1 p2 p3 p4) c t (head1 a b d e) := by
  have hx := fun v => hexs_len v
  have k93 : ∀ n c t, t.length + 48 ≤ 20000 → mrw c 4 203 t → MP (f_X12_putDigitsHead_93 N p1 p2 p3 p4 (n + 5) c 0) c t (hexs 0 ++ (hexs 0 ++ (hexs 0 ++ (hexs 0 ++ (hexs e ++ hexs 0))))) := by
    intro n c t hl h
    rw [f_X12_putDigitsHead_93, if_neg (by decide)]
    refine MP.bnd_ (MP.hex hN h (by omega) rfl (by decide)) (fun c1 r1 _ => ?_)
    rw [f_X12_putDigitsHead_93, if_neg (by decide)]
    refine MP.bnd_ (MP.hex hN r1 (by rw [List.length_append, hx]; omega) rfl (by decide)) (fun c2 r2 _ => ?_)
    rw [f_X12_putDigitsHead_93, if_neg (by decide)]
    refine MP.bnd_ (MP.hex hN r2 (by rw [List.length_append, List.length_append, hx]; omega) rfl (by decide)) (fun c3 r3 _ => ?_)
    rw [f_X12_putDigitsHead_93, if_neg (by decide)]
    refine MP.bnd_ (MP.hex hN r3 (by rw [List.length_append, List.length_append, List.length_append, hx]; omega) rfl (by decide)) (fun c4 r4 _ => ?_)
    rw [f_X12_putDigitsHead_93, if_pos (by decide)]
    refine MP.bnd_ (MP.hex hN r4 (by simp only [List.length_append, hx]; omega) h4 he) (fun c5 r5 _ => ?_)
    exact MP.last_ (MP.hex hN r5 (by simp only [List.length_append, hx]; omega) rfl (by decide))
  have k68 : ∀ n c t, t.length + 80 ≤ 20000 → mrw c 4 203 t → MP (f_X12_putDigitsHead_68 N p1 p2 p3 p4 (n + 4) c 0) c t (hexs 0 ++ (hexs 0 ++ (hexs 0 ++ (hexs d ++ (hexs 0 ++ (hexs 0 ++ (hexs 0 ++ (hexs 0 ++ (hexs e ++ hexs 0))))))))) := by
    intro n c t hl h
    rw [f_X12_putDigitsHead_68, if_neg (by decide)]
    refine MP.bnd_ (MP.hex hN h (by omega) rfl (by decide)) (fun c1 r1 _ => ?_)
    rw [f_X12_putDigitsHead_68, if_neg (by decide)]
    refine MP.bnd_ (MP.hex hN r1 (by simp only [List.length_append, hx]; omega) rfl (by decide)) (fun c2 r2 _ => ?_)
    rw [f_X12_putDigitsHead_68, if_neg (by decide)]
    refine MP.bnd_ (MP.hex hN r2 (by simp only [List.length_append, hx]; omega) rfl (by decide)) (fun c3 r3 _ => ?_)
    rw [f_X12_putDigitsHead_68, if_pos (by decide)]
    refine MP.bnd_ (MP.hex hN r3 (by simp only [List.length_append, hx]; omega) h3 hd) (fun c4 r4 _ => ?_)
    have := k93 (N - 5) c4 _ (by simp only [List.length_append, hx]; omega) r4
    rwa [show N - 5 + 5 = N by omega] at this
  have k3 : ∀ n c t, t.length + 110 ≤ 20000 → mrw c 4 203 t → MP (f_X12_putDigitsHead_3 N p1 p2 p3 p4 (n + 7) c 0) c t (head1 a b d e) := by
    intro n c t hl h
    show MP _ c t ([48] ++ ([55] ++ ([48] ++ ([55] ++ ([48] ++ ([49] ++ (hexs a ++ (hexs b ++ (hexs 1 ++ (hexs 0 ++ (hexs 0 ++ (hexs 0 ++ (hexs d ++ (hexs 0 ++ (hexs 0 ++ (hexs 0 ++ (hexs 0 ++ (hexs e ++ hexs 0))))))))))))))))))
    rw [f_X12_putDigitsHead_3, if_neg (by decide), if_neg (by decide), if_neg (by decide), if_neg (by decide)]
    refine MP.bnd_ (MP.put h (by omega) rfl) (fun c1 r1 _ => ?_)
    rw [f_X12_putDigitsHead_3, if_neg (by decide), if_pos (by decide)]
    refine MP.bnd_ (MP.put r1 (by simp; omega) rfl) (fun c2 r2 _ => ?_)
    rw [f_X12_putDigitsHead_3, if_neg (by decide), if_neg (by decide), if_neg (by decide), if_neg (by decide)]
    refine MP.bnd_ (MP.put r2 (by simp; omega) rfl) (fun c3 r3 _ => ?_)
    rw [f_X12_putDigitsHead_3, if_neg (by decide), if_neg (by decide), if_pos (by decide)]
    refine MP.bnd_ (MP.put r3 (by simp; omega) rfl) (fun c4 r4 _ => ?_)
    rw [f_X12_putDigitsHead_3, if_neg (by decide), if_neg (by decide), if_neg (by decide), if_neg (by decide)]
    refine MP.bnd_ (MP.put r4 (by simp; omega) rfl) (fun c5 r5 _ => ?_)
    rw [f_X12_putDigitsHead_3, if_neg (by decide), if_neg (by decide), if_neg (by decide), if_pos (by decide)]
    refine MP.bnd_ (MP.put r5 (by simp; omega) rfl) (fun c6 r6 _ => ?_)
    rw [f_X12_putDigitsHead_3, if_pos (by decide)]
    refine MP.bnd_ (MP.hex hN r6 (by simp; omega) h1 ha) (fun c7 r7 _ => ?_)
    refine MP.bnd_ (MP.hex hN r7 (by simp [hx]; omega) h2 hb) (fun c8 r8 _ => ?_)
    refine MP.bnd_ (MP.hex (v := 1) hN r8 (by simp [hx]; omega) rfl (by decide)) (fun c9 r9 _ => ?_)
    have := k68 (N - 4) c9 _ (by simp [hx]; omega) r9
    rwa [show N - 4 + 4 = N by omega] at this
  unfold f_X12_putDigitsHead
  have := k3 (N - 7) c t hl h
  rwa [show N - 7 + 7 = N by omega] at this
theorem div_nI {a b : Nat} (ha : a < 2 ^ 31) (hb : b < 2 ^ 31) : nI a / nI b = nI (a / b) := by
  apply Int32.toInt_inj.mp
  rw [Int32.toInt_div, nI_toInt ha, nI_toInt hb, nI_toInt (Nat.lt_of_le_of_lt (Nat.div_le_self _ _) ha)]
  have e : ((a : Int).tdiv (b : Int)) = ((a / b : Nat) : Int) := by
    rw [Int.tdiv_eq_ediv_of_nonneg (by omega)]
    rfl
  rw [e]
  have := Nat.div_le_self a b
  generalize a / b = q at this ⊢
  apply Int.bmod_eq_of_le <;> omega
theorem up4 {p : Nat} (h : p < 2 ^ 30) : (nI p + 3) / 4 * 4 = nI (upTo p 4) := by
  rw [show nI p + 3 = nI (p + 3) from nI_add p 3, show (4 : Int32) = nI 4 from rfl, div_nI (by omega) (by decide), nI_mul]
  rfl
theorem up512 {p : Nat} (h : p < 2 ^ 30) : (nI p + 511) / 512 * 512 = nI (upTo p 512) := by
  rw [show nI p + 511 = nI (p + 511) from nI_add p 511, show (512 : Int32) = nI 512 from rfl, div_nI (by omega) (by decide), nI_mul]
  rfl
theorem r4_eq (p : Nat) : p + r4 p = upTo p 4 := by
  have := upTo_le (a := p) (b := 4) (by decide)
  unfold r4; omega
theorem MP.rest {N : Nat} {c : hS} {t p : List Nat} {K : Unit → hS → Option (Unit × hS)} (hN : 1000000 ≤ N) (h : mrw c 4 203 t) (hl : t.length + 3 ≤ 20000) (hK : ∀ c1, mrw c1 4 203 (t ++ List.replicate (r4 t.length) 0) → fm W1 c c1 → MP (K () c1) c1 (t ++ List.replicate (r4 t.length) 0) p) : MP (bnd (f_X12_upToFour c (c.1 201 4)) fun x4 c5 => bnd (f_X12_putZeros N c5 x4) K) c t (List.replicate (r4 t.length) 0 ++ p) := by
  have := r4_lt t.length
  unfold f_X12_upToFour
  rw [bnd_some, h.2.1, up4 (by omega), ← r4_eq]
  exact MP.bnd_ (MP.zeros hN h (by omega) rfl) hK
theorem m_out1 {N i md : Nat} {wd w1' : Int32} {c : hS} {t r : List Nat} {x : Mb} {k2 : hS → Int32 → Option (Unit × hS)} (hN : 1000000 ≤ N) (h : mrw c 4 203 t) (hm : mmb c i x) (hl : t.length + 607 ≤ 20000) (hi : i < 16) (hwd : wd = nI md) (hw1 : w1' = nI (i + 1)) (hmd : md = if x.2.2 then 16877 else 33188) (hK : ∀ c', mrw c' 4 203 (t ++ out1 t.length (i + 1) x) → fm W1 c c' → MP (k2 c' (nI i + 1)) c' (t ++ out1 t.length (i + 1) x) r) : MP (f_X12_writeDigits_32 N k2 c (nI i) wd w1') c t (out1 t.length (i + 1) x ++ r) := by
  have hx := hm.1.2.2.1
  have hb := hm.2.1.2.2.1
  have tl := ttl1_len (i + 1) x
  have hmd2 : md < 2 ^ 31 := by rw [hmd]; cases x.2.2 <;> decide
  have eo : out1 t.length (i + 1) x = head1 (i + 1) md x.2.1.length (x.1.length + 1) ++ (x.1 ++ ([0] ++ (List.replicate (r4 (t.length + (ttl1 (i + 1) x).length)) 0 ++ (x.2.1 ++ List.replicate (r4 (t.length + (ttl1 (i + 1) x).length + r4 (t.length + (ttl1 (i + 1) x).length) + x.2.1.length)) 0)))) := by
    rw [hmd]
    simp only [out1, ttl1, List.append_assoc]
  have q1 := r4_lt (t.length + (ttl1 (i + 1) x).length)
  have q2 := r4_lt (t.length + (ttl1 (i + 1) x).length + r4 (t.length + (ttl1 (i + 1) x).length) + x.2.1.length)
  rw [eo] at hK ⊢
  simp only [List.append_assoc]
  unfold f_X12_writeDigits_32
  rw [j_in_nI (show i < ln 206 from (by show i < 34; omega)) (by decide), cond_true, j_in_nI (show i < ln 204 from (by show i < 34; omega)) (by decide), cond_true, nI_clamp (by omega), hm.2.1.1, hm.1.1]
  refine MP.bnd_ (MP.hd1 hN h (by omega) hw1 hwd rfl (nI_1 _) (by omega) hmd2 (by omega) (by omega)) (fun c1 r1 f1 => ?_)
  refine MP.bnd_ (MP.name0 hN r1 (mmbW hm f1) (by omega) (by simp only [List.length_append, head1_len]; omega)) (fun c2 r2 f2 => ?_)
  refine MP.bnd_ (MP.put (v := 0) r2 (by simp only [List.length_append, head1_len]; omega) rfl) (fun c3 r3 f3 => ?_)
  have e3 : (t ++ head1 (i + 1) md x.2.1.length (x.1.length + 1) ++ x.1 ++ [0]).length = t.length + (ttl1 (i + 1) x).length := by
    simp only [List.length_append, head1_len, List.length_cons, List.length_nil, tl]; omega
  rw [← e3]
  refine MP.rest hN r3 (by rw [e3]; omega) (fun c4 r4' f4 => ?_)
  have m4 := mmbW (mmbW (mmbW (mmbW hm f1) f2) f3) f4
  refine MP.bnd_ (MP.bytes hN r4' m4 (by omega) (by rw [List.length_append, e3, List.length_replicate]; omega)) (fun c5 r5 f5 => ?_)
  have e5 : (t ++ head1 (i + 1) md x.2.1.length (x.1.length + 1) ++ x.1 ++ [0] ++ List.replicate (r4 (t ++ head1 (i + 1) md x.2.1.length (x.1.length + 1) ++ x.1 ++ [0]).length) 0 ++ x.2.1).length = (t ++ head1 (i + 1) md x.2.1.length (x.1.length + 1) ++ x.1 ++ [0]).length + r4 (t ++ head1 (i + 1) md x.2.1.length (x.1.length + 1) ++ x.1 ++ [0]).length + x.2.1.length := by
    rw [List.length_append, List.length_append, List.length_replicate]
  rw [← e5]
  refine MP.rest hN r5 (by rw [e5, e3]; omega) (fun c6 r6 f6 => ?_)
  have ff := ((((f1.tr f2).tr f3).tr f4).tr f5).tr f6
  rw [← e3, ← e5] at hK
  simp only [List.append_assoc] at r6 hK ⊢
  exact hK c6 r6 ff
theorem trl_at {c : hS} : ∀ i, i < 10 → f_X12_trailerAt c (nI i) = some (nI (gt trl i), c) := by
  intro i hi
  have : i = 0 ∨ i = 1 ∨ i = 2 ∨ i = 3 ∨ i = 4 ∨ i = 5 ∨ i = 6 ∨ i = 7 ∨ i = 8 ∨ i = 9 := by omega
  rcases this with rfl | rfl | rfl | rfl | rfl | rfl | rfl | rfl | rfl | rfl <;> rfl
theorem m_write1 {N : Nat} {c : hS} {ms : List Mb} (hN : 1000000 ≤ N) (h : mrw c 4 203 []) (hs : msh c 0 ms) (h7 : c.1 201 7 = nI ms.length) (h16 : ms.length ≤ 16) : MP (f_X12_writeDigits N c) c [] (w1 ms 1 0) := by
  have key : ∀ d n i c t, i + d = ms.length → d < n → msh c 0 ms → c.1 201 7 = nI ms.length → mrw c 4 203 t → t.length ≤ 607 * i → MP (f_X12_writeDigits_2 N n c (nI i)) c t (w1 (ms.drop i) (i + 1) t.length) := by
    intro d
    induction d with
    | zero =>
      intro n i c t hi hn hs h7 h hl
      obtain ⟨n, rfl⟩ : ∃ m, n = m + 1 := ⟨n - 1, by omega⟩
      rw [f_X12_writeDigits_2, h7, if_pos (nI_le (by omega) (by omega)), List.drop_eq_nil_of_le (by omega)]
      unfold w1 end1
      refine MP.bnd_ (MP.hd1 hN h (by omega) rfl rfl rfl rfl (by decide) (by decide) (by decide) (by decide)) (fun c1 r1 f1 => ?_)
      have k104 : ∀ d n j c t, j + d = 10 → d < n → t.length + d + 4 ≤ 20000 → mrw c 4 203 t → MP (f_X12_writeDigits_104 N n c (nI j)) c t (trl.drop j ++ ([0] ++ List.replicate (r4 (t.length + d + 1)) 0)) := by
        intro d
        induction d with
        | zero =>
          intro n j c t hj hn hl h
          obtain ⟨n, rfl⟩ : ∃ m, n = m + 1 := ⟨n - 1, by omega⟩
          rw [f_X12_writeDigits_104, if_pos (show (10 : Int32) ≤ nI j from nI_le (a := 10) (by omega) (by omega)), List.drop_eq_nil_of_le (by show 10 ≤ j; omega), List.nil_append]
          refine MP.bnd_ (MP.put h (by omega) rfl) (fun c1 r1 f1 => ?_)
          have e : (t ++ [0]).length = t.length + 0 + 1 := by simp
          have := MP.rest (K := fun _ c4 => some ((), c4)) hN r1 (by rw [e]; omega) (fun c4 r4' _ => MP.end_ r4')
          rw [List.append_nil] at this
          rw [← e]
          exact this
        | succ d ih =>
          intro n j c t hj hn hl h
          obtain ⟨n, rfl⟩ : ∃ m, n = m + 1 := ⟨n - 1, by omega⟩
          have hjl : j < trl.length := by show j < 10; omega
          rw [f_X12_writeDigits_104, if_neg (show ¬ (10 : Int32) ≤ nI j from nI_ge (b := 10) (by omega) (by decide)), trl_at j (by omega), bnd_some, List.drop_eq_getElem_cons hjl, gt_lt hjl, List.cons_append]
          have tb : trl[j] < 256 := (by decide : ∀ y ∈ trl, y < 256) _ (List.getElem_mem hjl)
          refine MP.bnd_ (p := [trl[j]]) (MP.putN h (by omega) rfl tb) (fun c1 r1 f1 => ?_)
          have := ih n (j + 1) c1 _ (by omega) (by omega) (by simp; omega) r1
          rw [nI_1]
          rwa [show (t ++ [trl[j]]).length + d + 1 = t.length + (d + 1) + 1 by simp; omega] at this
      have := k104 10 N 0 c1 _ (by omega) (by omega) (by simp only [List.length_append, head1_len]; omega) r1
      rwa [show (t ++ head1 0 0 0 11).length + 10 + 1 = t.length + 121 by simp only [List.length_append, head1_len]] at this
    | succ d ih =>
      intro n i c t hi hn hs h7 h hl
      obtain ⟨n, rfl⟩ : ∃ m, n = m + 1 := ⟨n - 1, by omega⟩
      have hil : i < ms.length := by omega
      have hm := hs i hil
      rw [Nat.zero_add] at hm
      have hol := out1_len (p := t.length) (k := i + 1) hm.1.2.2.1 hm.2.1.2.2.1
      rw [f_X12_writeDigits_2, h7, if_neg (nI_ge hil (by omega)), j_in_nI (show i < ln 208 from (by show i < 34; omega)) (by decide), cond_true, nI_clamp (by omega), hm.2.2, List.drop_eq_getElem_cons hil, nI_1]
      have nxt : ∀ c', mrw c' 4 203 (t ++ out1 t.length (i + 1) ms[i]) → fm W1 c c' → MP (f_X12_writeDigits_2 N n c' (nI i + 1)) c' (t ++ out1 t.length (i + 1) ms[i]) (w1 (ms.drop (i + 1)) (i + 1 + 1) (t.length + (out1 t.length (i + 1) ms[i]).length)) := by
        intro c' r' f'
        rw [nI_1, ← List.length_append]
        exact ih n (i + 1) c' _ (by omega) (by omega) (fun j hj => mmbW (hs j hj) f') ((f'.1 _ _ (nW1 (by decide) (fun _ => by decide))).trans h7) r' (by rw [List.length_append]; omega)
      unfold w1
      cases hd : ms[i].2.2 with
      | false => rw [if_pos (show bI false = 0 from rfl)]; exact m_out1 (md := 33188) hN h hm (by omega) (by omega) rfl rfl (by rw [hd]; rfl) nxt
      | true => rw [if_neg (by decide)]; exact m_out1 (md := 16877) hN h hm (by omega) (by omega) rfl rfl (by rw [hd]; rfl) nxt
  exact key ms.length N 0 c [] (by omega) (by omega) hs h7 h (by simp)
