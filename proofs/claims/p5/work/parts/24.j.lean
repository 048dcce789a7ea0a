/-! PURE: what the class writes in kind 1 -/
noncomputable def hd16 (v i : Nat) : Nat := if v / 16 ^ i % 16 < 10 then 48 + v / 16 ^ i % 16 else 87 + v / 16 ^ i % 16
noncomputable def hexn (v n : Nat) : List Nat := (List.range n).reverse.map (hd16 v)
noncomputable def hexs (v : Nat) : List Nat := hexn v 8
theorem hexn_len (v n : Nat) : (hexn v n).length = n := by simp [hexn]
theorem hexs_len (v : Nat) : (hexs v).length = 8 := hexn_len v 8
theorem hd16_lt (v i : Nat) : hd16 v i < 103 := by
  unfold hd16
  have := Nat.mod_lt (v / 16 ^ i) (show 0 < 16 by decide)
  split <;> omega
theorem AP.num {N : Nat} {c : hS} {t : List Nat} {x : Int32} {v : Nat} (hN : 1000000 ≤ N) (h : row c 3 t) (hl : t.length + 8 ≤ 20000) (hx : x = nI v) (hv : v < 2 ^ 31) : AP (f_X4_addNumber N c x) c t (hexs v) := by
  subst hx
  unfold f_X4_addNumber hexs
  have key : ∀ d n' c t, d ≤ 8 → d < n' → row c 3 t → t.length + d ≤ 20000 → AP (f_X4_addNumber_3 N (nI v) n' c (nI (4 * d) - 4)) c t (hexn v d) := by
    intro d
    induction d with
    | zero =>
      intro n' c t _ hn' hr hl
      obtain ⟨n', rfl⟩ : ∃ k, n' = k + 1 := ⟨n' - 1, by omega⟩
      rw [f_X4_addNumber_3, if_pos (by decide)]
      exact AP.end_ hr
    | succ d ih =>
      intro n' c t hd hn' hr hl
      obtain ⟨n', rfl⟩ : ∃ k, n' = k + 1 := ⟨n' - 1, by omega⟩
      have e4 : nI (4 * (d + 1)) - 4 = nI (4 * d) := by
        rw [show (4 : Int32) = nI 4 from rfl, subI (by omega)]; congr 1
      rw [e4, f_X4_addNumber_3, if_neg (nI_pos (by omega)), ushr_nI (by omega) (by omega), and15, show hexn v (d + 1) = [hd16 v d] ++ hexn v d by simp [hexn, List.range_succ]]
      have ep : (2 : Nat) ^ (4 * d) = 16 ^ d := by rw [Nat.pow_mul]
      rw [ep]
      have hm := Nat.mod_lt (v / 16 ^ d) (show 0 < 16 by decide)
      have nx : nI (4 * d) + (-4) = nI (4 * d) - 4 := (Int32.sub_eq_add_neg _ _).symm
      rw [nx]
      unfold hd16
      by_cases e : v / 16 ^ d % 16 < 10
      · rw [if_neg (show ¬ (10 : Int32) ≤ nI (v / 16 ^ d % 16) from nI_ge (b := 10) e (by decide)), if_pos e, show (48 : Int32) = nI 48 from rfl, nI_add]
        refine AP.bnd_ (AP.add hr (by omega) (b8_nI' (by omega))) (fun c1 r1 f1 => ?_)
        exact ih n' c1 _ (by omega) (by omega) r1 (by simp; omega)
      · rw [if_pos (show (10 : Int32) ≤ nI (v / 16 ^ d % 16) from nI_le (a := 10) (by omega) (by omega)), if_neg e, show (87 : Int32) = nI 87 from rfl, nI_add]
        refine AP.bnd_ (AP.add hr (by omega) (b8_nI' (by omega))) (fun c1 r1 f1 => ?_)
        exact ih n' c1 _ (by omega) (by omega) r1 (by simp; omega)
  exact key 8 N c t (by omega) (by omega) h hl
noncomputable def mk1 : List Nat := [48, 55, 48, 55, 48, 49]
noncomputable def head1 (a b d e : Nat) : List Nat := mk1 ++ (hexs a ++ (hexs b ++ (hexs 1 ++ (hexs 0 ++ (hexs 0 ++ (hexs 0 ++ (hexs d ++ (hexs 0 ++ (hexs 0 ++ (hexs 0 ++ (hexs 0 ++ (hexs e ++ hexs 0))))))))))))
theorem head1_len (a b d e : Nat) : (head1 a b d e).length = 110 := by
  unfold head1 mk1
  simp only [List.length_append, hexs_len, List.length_cons, List.length_nil]
theorem AP.hd1 {N : Nat} {c : hS} {t : List Nat} {p1 p2 p3 p4 : Int32} {a b d e : Nat} (hN : 1000000 ≤ N) (h : row c 3 t) (hl : t.length + 110 ≤ 20000) (h1 : p1 = nI a) (h2 : p2 = nI b) (h3 : p3 = nI d) (h4 : p4 = nI e) (ha : a < 2 ^ 31) (hb : b < 2 ^ 31) (hd : d < 2 ^ 31) (he : e < 2 ^ 31) : AP (f_X4_addHead N c p1 p2 p3 p4) c t (head1 a b d e) := by
  unfold f_X4_addHead head1
  refine AP.bnd_ (AP.mark (v := mk1) hN h (by simp only [mk1, List.length_cons, List.length_nil]; omega) (by decide)) (fun c0 r0 f0 => ?_)
  have hl0 : (t ++ mk1).length + 104 ≤ 20000 := by simp only [List.length_append, mk1, List.length_cons, List.length_nil]; omega
  revert hl0 r0
  generalize t ++ mk1 = u
  intro r0 hl0
  have key : ∀ n, AP (f_X4_addHead_13 N p1 p2 p3 p4 (n + 14) c0 0) c0 u (hexs a ++ (hexs b ++ (hexs 1 ++ (hexs 0 ++ (hexs 0 ++ (hexs 0 ++ (hexs d ++ (hexs 0 ++ (hexs 0 ++ (hexs 0 ++ (hexs 0 ++ (hexs e ++ hexs 0)))))))))))) := by
    intro n
    rw [f_X4_addHead_13, if_neg (by decide), if_pos (by decide)]
    refine AP.bnd_ (AP.num (v := a) hN r0 (by omega) h1 ha) (fun c1 r1 f1 => ?_)
    rw [f_X4_addHead_13, if_neg (by decide), if_neg (by decide), if_pos (by decide)]
    refine AP.bnd_ (AP.num (v := b) hN r1 (by simp only [List.length_append, hexs_len]; omega) h2 hb) (fun c2 r2 f2 => ?_)
    rw [f_X4_addHead_13, if_neg (by decide), if_neg (by decide), if_neg (by decide), if_pos (by decide)]
    refine AP.bnd_ (AP.num (v := 1) hN r2 (by simp only [List.length_append, hexs_len]; omega) rfl (by decide)) (fun c3 r3 f3 => ?_)
    rw [f_X4_addHead_13, if_neg (by decide), if_neg (by decide), if_neg (by decide), if_neg (by decide), if_neg (by decide), if_neg (by decide)]
    refine AP.bnd_ (AP.num (v := 0) hN r3 (by simp only [List.length_append, hexs_len]; omega) rfl (by decide)) (fun c4 r4 f4 => ?_)
    rw [f_X4_addHead_13, if_neg (by decide), if_neg (by decide), if_neg (by decide), if_neg (by decide), if_neg (by decide), if_neg (by decide)]
    refine AP.bnd_ (AP.num (v := 0) hN r4 (by simp only [List.length_append, hexs_len]; omega) rfl (by decide)) (fun c5 r5 f5 => ?_)
    rw [f_X4_addHead_13, if_neg (by decide), if_neg (by decide), if_neg (by decide), if_neg (by decide), if_neg (by decide), if_neg (by decide)]
    refine AP.bnd_ (AP.num (v := 0) hN r5 (by simp only [List.length_append, hexs_len]; omega) rfl (by decide)) (fun c6 r6 f6 => ?_)
    rw [f_X4_addHead_13, if_neg (by decide), if_neg (by decide), if_neg (by decide), if_neg (by decide), if_pos (by decide)]
    refine AP.bnd_ (AP.num (v := d) hN r6 (by simp only [List.length_append, hexs_len]; omega) h3 hd) (fun c7 r7 f7 => ?_)
    rw [f_X4_addHead_13, if_neg (by decide), if_neg (by decide), if_neg (by decide), if_neg (by decide), if_neg (by decide), if_neg (by decide)]
    refine AP.bnd_ (AP.num (v := 0) hN r7 (by simp only [List.length_append, hexs_len]; omega) rfl (by decide)) (fun c8 r8 f8 => ?_)
    rw [f_X4_addHead_13, if_neg (by decide), if_neg (by decide), if_neg (by decide), if_neg (by decide), if_neg (by decide), if_neg (by decide)]
    refine AP.bnd_ (AP.num (v := 0) hN r8 (by simp only [List.length_append, hexs_len]; omega) rfl (by decide)) (fun c9 r9 f9 => ?_)
    rw [f_X4_addHead_13, if_neg (by decide), if_neg (by decide), if_neg (by decide), if_neg (by decide), if_neg (by decide), if_neg (by decide)]
    refine AP.bnd_ (AP.num (v := 0) hN r9 (by simp only [List.length_append, hexs_len]; omega) rfl (by decide)) (fun c10 r10 f10 => ?_)
    rw [f_X4_addHead_13, if_neg (by decide), if_neg (by decide), if_neg (by decide), if_neg (by decide), if_neg (by decide), if_neg (by decide)]
    refine AP.bnd_ (AP.num (v := 0) hN r10 (by simp only [List.length_append, hexs_len]; omega) rfl (by decide)) (fun c11 r11 f11 => ?_)
    rw [f_X4_addHead_13, if_neg (by decide), if_neg (by decide), if_neg (by decide), if_neg (by decide), if_neg (by decide), if_pos (by decide)]
    refine AP.bnd_ (AP.num (v := e) hN r11 (by simp only [List.length_append, hexs_len]; omega) h4 he) (fun c12 r12 f12 => ?_)
    rw [f_X4_addHead_13, if_neg (by decide), if_neg (by decide), if_neg (by decide), if_neg (by decide), if_neg (by decide), if_neg (by decide)]
    have := AP.bnd_ (K := fun _ c6 => f_X4_addHead_13 N p1 p2 p3 p4 (n + 1) c6 (0 + 1 + 1 + 1 + 1 + 1 + 1 + 1 + 1 + 1 + 1 + 1 + 1 + 1)) (AP.num (v := 0) hN r12 (by simp only [List.length_append, hexs_len]; omega) rfl (by decide)) (fun c13 r13 f13 => by rw [f_X4_addHead_13, if_pos (by decide)]; exact AP.end_ r13)
    rwa [List.append_nil] at this
  have := key (N - 14)
  rwa [show N - 14 + 14 = N by omega] at this
noncomputable def r4 (n : Nat) : Nat := upTo n 4 - n
theorem r4_lt (n : Nat) : r4 n < 4 := by
  have := upTo_le (a := n) (b := 4) (by decide)
  unfold r4; omega
theorem AP.rest {N : Nat} {c : hS} {t : List Nat} (hN : 1000000 ≤ N) (h : row c 3 t) (hl : t.length + 3 ≤ 20000) : AP (f_X4_addRest N c) c t (List.replicate (r4 t.length) 0) := by
  have hr := r4_lt t.length
  have hu := upTo_le (a := t.length) (b := 4) (by decide)
  unfold f_X4_addRest
  rw [f_size h, bnd_some, show (4 : Int32) = nI 4 from rfl, f_roundedUp (by omega) (by decide) (by decide), bnd_some, f_size h, bnd_some, subI hu.1]
  exact AP.last_ (AP.zeros hN h (by omega) rfl)
noncomputable def ttl1 (k : Nat) (x : Mb) : List Nat := head1 k (if x.2.2 then 16877 else 33188) x.2.1.length (x.1.length + 1) ++ (x.1 ++ [0])
noncomputable def out1 (p k : Nat) (x : Mb) : List Nat := ttl1 k x ++ (List.replicate (r4 (p + (ttl1 k x).length)) 0 ++ (x.2.1 ++ List.replicate (r4 (p + (ttl1 k x).length + r4 (p + (ttl1 k x).length) + x.2.1.length)) 0))
noncomputable def trl : List Nat := [84, 82, 65, 73, 76, 69, 82, 33, 33, 33]
noncomputable def end1 (p : Nat) : List Nat := head1 0 0 0 11 ++ (trl ++ ([0] ++ List.replicate (r4 (p + 121)) 0))
noncomputable def w1 : List Mb → Nat → Nat → List Nat
  | [], _, p => end1 p
  | x :: r, k, p => out1 p k x ++ w1 r (k + 1) (p + (out1 p k x).length)
theorem ttl1_len (k : Nat) (x : Mb) : (ttl1 k x).length = 111 + x.1.length := by
  unfold ttl1
  simp only [List.length_append, head1_len, List.length_cons, List.length_nil]
  omega
theorem out1_len {p k : Nat} {x : Mb} (hx : x.1.length ≤ 90) (hb : x.2.1.length ≤ 400) : (out1 p k x).length ≤ 607 := by
  unfold out1
  simp only [List.length_append, List.length_replicate, ttl1_len]
  have h1 := r4_lt (p + (111 + x.1.length))
  have h2 := r4_lt (p + (111 + x.1.length) + r4 (p + (111 + x.1.length)) + x.2.1.length)
  omega
theorem shf.fr {S : List Nat} {c c1 : hS} {s : Nat} {ms : List Mb} (h : shf c s ms) (hf : fr S c c1) (hS : ∀ o, o ∈ S → o < s ∨ s + 82 ≤ o) : shf c1 s ms := by
  have n0 : ∀ o, s ≤ o → o < s + 82 → o ∉ S := fun o h1 h2 q => by have := hS o q; omega
  refine ⟨h.1, (hf.i (n0 _ (by omega) (by omega)) 1).trans h.2.1, fun i hi => ?_, fun i j hi hj e => ?_, fun i hi => ?_⟩
  · rw [hf.r (n0 _ (by omega) (by omega))]; exact h.2.2.1 i hi
  · rw [hf.r (n0 _ (by omega) (by omega)), hf.r (n0 _ (by omega) (by omega))] at e
    exact h.2.2.2.1 i j hi hj e
  · rw [hf.r (n0 _ (by omega) (by omega))]
    obtain ⟨x, x1, x2⟩ := h.2.2.2.2 i hi
    obtain ⟨k, hk, ek⟩ := h.2.2.1 i hi
    exact ⟨x, x1.fr hf (n0 _ (by omega) (by omega)) (n0 _ (by omega) (by omega)) (n0 _ (by omega) (by omega)) (n0 _ (by omega) (by omega)) (n0 _ (by omega) (by omega)), x2⟩
theorem f_out1 {N s i m md : Nat} {w wd : Int32} {c : hS} {t r : List Nat} {x : Mb} {k2 : hS → Int32 → Option (Unit × hS)} (hN : 1000000 ≤ N) (h : row c 3 t) (hm : mbr c m x) (hm4 : 4 < m) (hl : t.length + 607 ≤ 20000) (hx : x.1.length ≤ 90) (hb : x.2.1.length ≤ 400) (hi : i < 1000) (hwd : wd = nI md) (hmd : md = if x.2.2 then 16877 else 33188) (hK : ∀ c', row c' 3 (t ++ out1 t.length (i + 1) x) → fr [3, 4] c c' → AP (k2 c' (nI i + 1)) c' (t ++ out1 t.length (i + 1) x) r) : AP (f_X4_layOut_48 N s w k2 c (nI i) m (nI x.2.1.length) wd) c t (out1 t.length (i + 1) x ++ r) := by
  have tl := ttl1_len (i + 1) x
  have hmd2 : md < 2 ^ 31 := by rw [hmd]; cases x.2.2 <;> decide
  have eo : out1 t.length (i + 1) x = head1 (i + 1) md x.2.1.length (x.1.length + 1) ++ (x.1 ++ ([0] ++ (List.replicate (r4 (t.length + (ttl1 (i + 1) x).length)) 0 ++ (x.2.1 ++ List.replicate (r4 (t.length + (ttl1 (i + 1) x).length + r4 (t.length + (ttl1 (i + 1) x).length) + x.2.1.length)) 0)))) := by
    rw [hmd]
    simp only [out1, ttl1, List.append_assoc]
  have q1 := r4_lt (t.length + (ttl1 (i + 1) x).length)
  have q2 := r4_lt (t.length + (ttl1 (i + 1) x).length + r4 (t.length + (ttl1 (i + 1) x).length) + x.2.1.length)
  rw [eo] at hK ⊢
  simp only [List.append_assoc]
  unfold f_X4_layOut_48
  rw [f_size hm.1, bnd_some]
  refine AP.bnd_ (AP.hd1 hN h (by omega) (nI_1 i) hwd rfl (nI_1 _) (by omega) hmd2 (by omega) (by omega)) (fun c1 r1 f1 => ?_)
  have m1 := hm.fr f1 (by simp only [List.mem_cons, List.not_mem_nil, or_false]; omega) (by simp only [List.mem_cons, List.not_mem_nil, or_false]; omega) (by simp only [List.mem_cons, List.not_mem_nil, or_false]; omega) (by simp only [List.mem_cons, List.not_mem_nil, or_false]; omega) (by simp only [List.mem_cons, List.not_mem_nil, or_false]; omega)
  refine AP.bnd_ (AP.title0 hN r1 m1 (by omega) (by simp only [List.length_append, head1_len]; omega)) (fun c2 r2 f2 => ?_)
  refine AP.bnd_ (AP.add (v := 0) r2 (by simp only [List.length_append, head1_len]; omega) rfl) (fun c3 r3 f3 => ?_)
  have e3 : (t ++ head1 (i + 1) md x.2.1.length (x.1.length + 1) ++ x.1 ++ [0]).length = t.length + (ttl1 (i + 1) x).length := by
    simp only [List.length_append, head1_len, List.length_cons, List.length_nil, tl]; omega
  have a4 := AP.rest hN r3 (by rw [e3]; omega)
  rw [e3] at a4
  refine AP.bnd_ a4 (fun c4 r4' f4 => ?_)
  have m4 := m1.fr ((f2.tr f3).tr f4) (by simp only [List.mem_cons, List.not_mem_nil, or_false]; omega) (by simp only [List.mem_cons, List.not_mem_nil, or_false]; omega) (by simp only [List.mem_cons, List.not_mem_nil, or_false]; omega) (by simp only [List.mem_cons, List.not_mem_nil, or_false]; omega) (by simp only [List.mem_cons, List.not_mem_nil, or_false]; omega)
  refine AP.bnd_ (AP.whole hN r4' m4.2.1 (by omega) (by rw [List.length_append, e3, List.length_replicate]; omega) rfl) (fun c5 r5 f5 => ?_)
  have e5 : (t ++ head1 (i + 1) md x.2.1.length (x.1.length + 1) ++ x.1 ++ [0] ++ List.replicate (r4 (t.length + (ttl1 (i + 1) x).length)) 0 ++ x.2.1).length = t.length + (ttl1 (i + 1) x).length + r4 (t.length + (ttl1 (i + 1) x).length) + x.2.1.length := by
    rw [List.length_append, List.length_append, e3, List.length_replicate]
  have a6 := AP.rest hN r5 (by rw [e5]; omega)
  rw [e5] at a6
  refine AP.bnd_ a6 (fun c6 r6 f6 => ?_)
  have ff := ((((f1.tr f2).tr f3).tr f4).tr f5).tr f6
  simp only [List.append_assoc] at r6 hK ⊢
  exact hK c6 r6 ff
theorem f_layOut1 {N : Nat} {c : hS} {s : Nat} {ms : List Mb} {w : Int32} (hN : 1000000 ≤ N) (h : row c 3 []) (hsh : shf c s ms) (hs : s = 37 ∨ s = 119) (hok : okM ms) : ∃ c', f_X4_layOut N c s w = some ((), c') ∧ row c' 3 (w1 ms 1 0) ∧ fr [3, 4] c c' := by
  have hs4 : 4 < s := by omega
  have key : ∀ d n i c t, i + d = ms.length → d < n → shf c s ms → row c 3 t → t.length ≤ 607 * i → AP (f_X4_layOut_2 N s w n c (nI i)) c t (w1 (ms.drop i) (i + 1) t.length) := by
    intro d
    induction d with
    | zero =>
      intro n i c t hi hn hsh h hl
      have h16 := hsh.1
      obtain ⟨n, rfl⟩ : ∃ m, n = m + 1 := ⟨n - 1, by omega⟩
      rw [f_X4_layOut_2]
      unfold f_X9_size
      rw [bnd_some, hsh.2.1, if_pos (nI_le (by omega) (by omega)), List.drop_eq_nil_of_le (by omega)]
      unfold w1 end1
      refine AP.bnd_ (AP.hd1 hN h (by omega) rfl rfl rfl rfl (by decide) (by decide) (by decide) (by decide)) (fun c1 r1 f1 => ?_)
      refine AP.bnd_ (AP.text (v := trl) hN r1 (by simp only [List.length_append, head1_len, trl, List.length_cons, List.length_nil]; omega) (by decide)) (fun c2 r2 f2 => ?_)
      refine AP.bnd_ (AP.add (v := 0) r2 (by simp only [List.length_append, head1_len, trl, List.length_cons, List.length_nil]; omega) rfl) (fun c3 r3 f3 => ?_)
      have e3 : (t ++ head1 0 0 0 11 ++ trl ++ [0]).length = t.length + 121 := by simp only [List.length_append, head1_len, trl, List.length_cons, List.length_nil]
      have := AP.last_ (AP.rest hN r3 (by rw [e3]; omega))
      rwa [e3] at this
    | succ d ih =>
      intro n i c t hi hn hsh h hl
      have h16 := hsh.1
      obtain ⟨n, rfl⟩ : ∃ m, n = m + 1 := ⟨n - 1, by omega⟩
      have hil : i < ms.length := by omega
      have hm := hsh.mb hil
      have hx := hok.2 ms[i] (List.getElem_mem hil)
      obtain ⟨k, hk, ek⟩ := hsh.2.2.1 i (by omega)
      have hol := out1_len (p := t.length) (k := i + 1) hx.1 hx.2
      rw [f_X4_layOut_2]
      unfold f_X9_size
      rw [bnd_some, hsh.2.1, if_neg (nI_ge hil (by omega)), f_member hsh hs hil, bnd_some]
      dsimp only [opt]
      rw [beq6 (hsh.kc6 hs (by omega)), cond_true, List.drop_eq_getElem_cons hil, f_size hm.2.1, bnd_some, hm.2.2]
      have nxt : ∀ c', row c' 3 (t ++ out1 t.length (i + 1) ms[i]) → fr [3, 4] c c' → AP (f_X4_layOut_2 N s w n c' (nI i + 1)) c' (t ++ out1 t.length (i + 1) ms[i]) (w1 (ms.drop (i + 1)) (i + 1 + 1) (t.length + (out1 t.length (i + 1) ms[i]).length)) := by
        intro c' r' f'
        rw [nI_1, ← List.length_append]
        exact ih n (i + 1) c' _ (by omega) (by omega) (hsh.fr f' (fun o ho => by simp only [List.mem_cons, List.not_mem_nil, or_false] at ho; omega)) r' (by rw [List.length_append]; omega)
      unfold w1
      cases hd : ms[i].2.2 with
      | false => rw [if_pos (show bI false = 0 from rfl)]; exact f_out1 (md := 33188) hN h hm (by omega) (by omega) hx.1 hx.2 (by omega) rfl (by rw [hd]; rfl) nxt
      | true => rw [if_neg (by decide)]; exact f_out1 (md := 16877) hN h hm (by omega) (by omega) hx.1 hx.2 (by omega) rfl (by rw [hd]; rfl) nxt
  obtain ⟨c', e, r, f⟩ := key ms.length N 0 c [] (by omega) (by have := hsh.1; omega) hsh h (by simp)
  rw [List.nil_append, List.drop_zero] at r
  exact ⟨c', e, r, f⟩
