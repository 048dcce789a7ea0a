section
/-! PURE: kind 2, all of it -/
theorem Spk_of {c c' : hS} (h : fr [3, 4] c c') : fr Spk c c' := h.mono (fun o ho => by simp at ho ⊢; omega)
theorem f_local2 {N s i m : Nat} {w : Int32} {pk : Bool} {c : hS} {t : List Nat} {x : Mb} {k2 : hS → Int32 → Option (Unit × hS)} (hN : 1000000 ≤ N) (h : row c 3 t) (hm : mbr c m x) (hm4 : 32 < m) (hl : t.length + 4700 ≤ 20000) (hx : x.1.length ≤ 90) (hb : x.2.1.length ≤ 400) : ∃ c', f_X5_layOut_67 N s w k2 c (nI i) m (nI t.length) (bI (wayB2 pk x)) (nI (way2 pk x)) m = k2 c' (nI i + 1) ∧ row c' 3 (t ++ lo2 pk x) ∧ fr Spk c c' := by
  have hn := nmS_len hx
  have hd := dat_len (pk := pk) hb
  unfold f_X5_layOut_67
  obtain ⟨c1, e1, r1, f1⟩ := f_addLocal (way := way2 pk x) (w := nI (way2 pk x)) hN h hm (by omega) (by omega) hx hb rfl (by unfold way2; split <;> decide)
  have m1 := hm.fr f1 (by simp only [List.mem_cons, List.not_mem_nil, or_false]; omega) (by simp only [List.mem_cons, List.not_mem_nil, or_false]; omega) (by simp only [List.mem_cons, List.not_mem_nil, or_false]; omega) (by simp only [List.mem_cons, List.not_mem_nil, or_false]; omega) (by simp only [List.mem_cons, List.not_mem_nil, or_false]; omega)
  have ll := loc_len x (way2 pk x) 0
  rw [e1, bnd_some, f_size r1, bnd_some]
  -- the bytes
  have body : ∃ c2, (if bI (wayB2 pk x) = 0 then bnd (f_X2_size c1 (m + 3)) fun x4 c5 => bnd (f_X2_addRow N c5 3 (m + 3) 0 x4) fun _ c6 => f_X5_layOut_120 N s w k2 c6 (nI i) (nI t.length) (nI (t ++ loc x (way2 pk x) 0).length) else bnd (f_X8_addPacked N c1 (m + 3)) fun _ c7 => f_X5_layOut_120 N s w k2 c7 (nI i) (nI t.length) (nI (t ++ loc x (way2 pk x) 0).length)) = f_X5_layOut_120 N s w k2 c2 (nI i) (nI t.length) (nI (t ++ loc x (way2 pk x) 0).length) ∧ row c2 3 (t ++ loc x (way2 pk x) 0 ++ dat pk x) ∧ fr Spk c1 c2 := by
    unfold dat at hd ⊢
    cases hw : wayB2 pk x with
    | false =>
      rw [if_pos (show bI false = 0 from rfl), f_size m1.2.1, bnd_some]
      obtain ⟨c2, e2, r2, f2⟩ := AP.whole (N := N) hN r1 m1.2.1 (by omega) (by rw [List.length_append, ll]; omega) rfl
      rw [e2, bnd_some]
      exact ⟨c2, rfl, r2, Spk_of f2⟩
    | true =>
      rw [if_neg (by decide)]
      obtain ⟨c2, e2, r2, f2⟩ := f_addPacked hN (b := m + 3) (by simp; omega) (by simp; omega) m1.2.1 r1 (by omega) (by rw [List.length_append, ll]; omega)
      rw [e2, bnd_some]
      exact ⟨c2, rfl, r2, f2⟩
  obtain ⟨c2, e2, r2, f2⟩ := body
  rw [e2]
  unfold f_X5_layOut_120
  rw [f_size r2, bnd_some, subI (by simp), show (t ++ loc x (way2 pk x) 0 ++ dat pk x).length - (t ++ loc x (way2 pk x) 0).length = (dat pk x).length by rw [List.length_append]; omega]
  obtain ⟨c3, e3, r3, f3⟩ := f_setSize (p := t.length) (v := (dat pk x).length) hN r2 (by simp only [List.length_append, ll]; omega) (by omega)
  rw [e3, bnd_some]
  refine ⟨c3, rfl, ?_, ((Spk_of f1).tr f2).tr (Spk_of f3)⟩
  rw [List.append_assoc, loc_set] at r3
  exact r3
theorem f_addSelf {N : Nat} {c : hS} {i j : Nat} {t : List Nat} (hN : 1000000 ≤ N) (h : row c 3 t) (hij : i ≤ j) (hj : j ≤ t.length) (hl : t.length + (j - i) ≤ 20000) : AP (f_X2_addRow N c 3 3 (nI i) (nI j)) c t ((t.drop i).take (j - i)) := by
  have hln : t.length ≤ 20000 := h.1
  unfold f_X2_addRow
  have key : ∀ d n c k e, k + d = j → d < n → row c 3 (t ++ e) → t.length + e.length + d ≤ 20000 → AP (f_X2_addRow_3 N 3 3 (nI i) (nI j) n c (nI k)) c (t ++ e) ((List.range' k d).map (gt t)) := by
    intro d
    induction d with
    | zero =>
      intro n c k e hk hn h hl
      obtain ⟨n, rfl⟩ : ∃ m, n = m + 1 := ⟨n - 1, by omega⟩
      rw [f_X2_addRow_3, if_pos (nI_le (by omega) (by omega))]
      exact AP.end_ h
    | succ d ih =>
      intro n c k e hk hn h hl
      obtain ⟨n, rfl⟩ : ∃ m, n = m + 1 := ⟨n - 1, by omega⟩
      have bb := h.2.2.2.gt k
      rw [f_X2_addRow_3, if_neg (nI_ge (by omega) (by omega)), f_get h (by omega), bnd_some, gt_app_l (by omega), List.range'_succ, List.map_cons]
      rw [gt_app_l (by omega)] at bb
      refine AP.bnd_ (p := [gt t k]) (AP.add h (by rw [List.length_append]; omega) (b8_nI' bb)) (fun c1 r1 f1 => ?_)
      rw [nI_1, List.append_assoc]
      rw [List.append_assoc] at r1
      exact ih n c1 (k + 1) _ (by omega) (by omega) r1 (by simp; omega)
  have := key (j - i) N c i [] (by omega) (by omega) (by simpa using h) (by simp; omega)
  rw [List.append_nil, map_gt t i (j - i) (by omega)] at this
  exact this
noncomputable def ent (x : Mb) (way size h : Nat) : List Nat := mk4 ++ (le 20 2 ++ (com x way size ++ (List.replicate 12 0 ++ (le h 4 ++ nmS x))))
theorem ent_len (x : Mb) (way size h : Nat) : (ent x way size h).length = 46 + (nmS x).length := by
  unfold ent mk4
  simp only [List.length_append, le_len, com_len, List.length_cons, List.length_nil, List.length_replicate]
  omega
noncomputable def ents (pk : Bool) : List Mb → Nat → List Nat
  | [], _ => []
  | x :: r, h => ent x (way2 pk x) (dat pk x).length h ++ ents pk r (h + (lo2 pk x).length)
noncomputable def end2 (n a b : Nat) : List Nat := mk5 ++ (List.replicate 4 0 ++ (le n 2 ++ (le n 2 ++ (le b 4 ++ (le a 4 ++ List.replicate 2 0)))))
noncomputable def w2 (pk : Bool) (ms : List Mb) : List Nat := ms.flatMap (lo2 pk) ++ (ents pk ms 0 ++ end2 ms.length (ms.flatMap (lo2 pk)).length (ents pk ms 0).length)
theorem le4_at (A B : List Nat) (v : Nat) (hv : v < 2 ^ 32) : le4 (A ++ (le v 4 ++ B)) A.length = v := by
  have g : ∀ i, i < 4 → gt (A ++ (le v 4 ++ B)) (A.length + i) = v / 2 ^ (8 * i) % 256 := by
    intro i hi
    rw [gt_app_r (by omega), show A.length + i - A.length = i by omega, gt_app_l (by rw [le_len]; exact hi), gt_lt (by rw [le_len]; exact hi)]
    simp [le]
  have g0 := g 0 (by decide)
  have g1 := g 1 (by decide)
  have g2 := g 2 (by decide)
  have g3 := g 3 (by decide)
  unfold le4 le2
  rw [show A.length + 2 + 1 = A.length + 3 from rfl, g1, g2, g3, show A.length = A.length + 0 from rfl, g0]
  omega
theorem loc_le4 (A B : List Nat) (x : Mb) (way v : Nat) (hv : v < 2 ^ 32) : le4 (A ++ (loc x way v ++ B)) (A.length + 18) = v := by
  have e : loc x way v = (mk3 ++ (le 20 2 ++ (le 0 2 ++ (le way 2 ++ (le 0 2 ++ (le 33 2 ++ le (u32 (crc x.2.1)) 4)))))) ++ (le v 4 ++ (le x.2.1.length 4 ++ (le (nmS x).length 2 ++ (le 0 2 ++ nmS x)))) := by
    unfold loc com
    simp only [List.append_assoc]
  rw [e]
  generalize hA : mk3 ++ (le 20 2 ++ (le 0 2 ++ (le way 2 ++ (le 0 2 ++ (le 33 2 ++ le (u32 (crc x.2.1)) 4))))) = C
  have hl : C.length = 18 := by
    rw [← hA]
    simp only [List.length_append, le_len, mk3, List.length_cons, List.length_nil]
  rw [show A ++ (C ++ (le v 4 ++ (le x.2.1.length 4 ++ (le (nmS x).length 2 ++ (le 0 2 ++ nmS x)))) ++ B) = (A ++ C) ++ (le v 4 ++ (le x.2.1.length 4 ++ (le (nmS x).length 2 ++ (le 0 2 ++ (nmS x ++ B))))) by simp only [List.append_assoc], show A.length + 18 = (A ++ C).length by rw [List.length_append, hl]]
  exact le4_at _ _ _ hv
theorem loc_com (A B : List Nat) (x : Mb) (way v : Nat) : ((A ++ (loc x way v ++ B)).drop (A.length + 4)).take 24 = com x way v := by
  unfold loc
  rw [show A ++ (mk3 ++ (com x way v ++ (le 0 2 ++ nmS x)) ++ B) = (A ++ mk3) ++ (com x way v ++ (le 0 2 ++ (nmS x ++ B))) by simp only [List.append_assoc], show A.length + 4 = (A ++ mk3).length by rw [List.length_append]; rfl, List.drop_left, show 24 = (com x way v).length from (com_len x way v).symm, List.take_left]
theorem f_layOut2 {N : Nat} {c : hS} {s : Nat} {ms : List Mb} {pk : Bool} (hN : 1000000 ≤ N) (h : row c 3 []) (hsh : shf c s ms) (hs : s = 37 ∨ s = 119) (hok : okM ms) : ∃ c', f_X5_layOut N c s (bI pk) = some ((), c') ∧ row c' 3 (w2 pk ms) ∧ fr Spk c c' := by
  have hs4 : 32 < s := by omega
  have h16 := hok.1
  have flen : ∀ l : List Mb, (∀ x ∈ l, x.1.length ≤ 90 ∧ x.2.1.length ≤ 400) → (l.flatMap (lo2 pk)).length ≤ 925 * l.length := by
    intro l
    induction l with
    | nil => intro _; simp
    | cons x r ih =>
      intro hx
      have h1 := hx x (by simp)
      have h2 := dat_len (pk := pk) h1.2
      have h3 := nmS_len h1.1
      have h4 := ih (fun y hy => hx y (by simp [hy]))
      rw [List.flatMap_cons, List.length_append, lo2_len, List.length_cons]
      omega
  have fL := flen ms hok.2
  -- the entries
  have entr : ∀ d n i c e, i + d = ms.length → d < n → shf c s ms → row c 3 (ms.flatMap (lo2 pk) ++ e) → e.length ≤ 137 * i → AP (f_X5_addEntries_13 N s n c (nI (ms.flatMap (lo2 pk)).length) (nI ((ms.take i).flatMap (lo2 pk)).length) (nI i)) c (ms.flatMap (lo2 pk) ++ e) (ents pk (ms.drop i) ((ms.take i).flatMap (lo2 pk)).length ++ end2 ms.length (ms.flatMap (lo2 pk)).length (e.length + (ents pk (ms.drop i) ((ms.take i).flatMap (lo2 pk)).length).length)) := by
    intro d
    induction d with
    | zero =>
      intro n i c e hi hn hsh h hel
      obtain ⟨n, rfl⟩ : ∃ m, n = m + 1 := ⟨n - 1, by omega⟩
      rw [f_X5_addEntries_13]
      unfold f_X9_size
      rw [bnd_some, hsh.2.1, if_pos (nI_le (by omega) (by omega)), List.drop_eq_nil_of_le (by omega), f_size h, bnd_some]
      unfold ents end2
      rw [List.nil_append, List.length_nil, Nat.add_zero, List.length_append]
      have l5 : mk5.length = 4 := rfl
      refine AP.bnd_ (AP.mark (v := mk5) hN h (by simp only [List.length_append, l5]; omega) (by decide)) (fun c5 r5 f5 => ?_)
      refine AP.bnd_ (AP.zeros (m := 4) hN r5 (by simp only [List.length_append, l5]; omega) rfl) (fun c6 r6 f6 => ?_)
      have s6 := hsh.fr (f5.tr f6) (fun o ho => by simp only [List.mem_cons, List.not_mem_nil, or_false] at ho; omega)
      rw [bnd_some, s6.2.1]
      refine AP.bnd_ (AP.leN (v := ms.length) hN r6 (by simp only [List.length_append, List.length_replicate, l5]; omega) rfl (by omega) (by decide) rfl) (fun c9 r9 f9 => ?_)
      have s9 := s6.fr f9 (fun o ho => by simp only [List.mem_cons, List.not_mem_nil, or_false] at ho; omega)
      rw [bnd_some, s9.2.1]
      refine AP.bnd_ (AP.leN (v := ms.length) hN r9 (by simp only [List.length_append, List.length_replicate, le_len, l5]; omega) rfl (by omega) (by decide) rfl) (fun c12 r12 f12 => ?_)
      refine AP.bnd_ (AP.leN (v := e.length) hN r12 (by simp only [List.length_append, List.length_replicate, le_len, l5]; omega) (by rw [subI (by omega)]; congr 1; omega) (by omega) (by decide) rfl) (fun c13 r13 f13 => ?_)
      refine AP.bnd_ (AP.leN (v := (ms.flatMap (lo2 pk)).length) hN r13 (by simp only [List.length_append, List.length_replicate, le_len, l5]; omega) rfl (by omega) (by decide) rfl) (fun c14 r14 f14 => ?_)
      exact AP.last_ (AP.zeros (m := 2) hN r14 (by simp only [List.length_append, List.length_replicate, le_len, l5]; omega) rfl)
    | succ d ih =>
      intro n i c e hi hn hsh h hel
      obtain ⟨n, rfl⟩ : ∃ m, n = m + 1 := ⟨n - 1, by omega⟩
      have hil : i < ms.length := by omega
      have hm := hsh.mb hil
      have hx := hok.2 ms[i] (List.getElem_mem hil)
      obtain ⟨k, hk, ek⟩ := hsh.2.2.1 i (by omega)
      have et : ms.flatMap (lo2 pk) = (ms.take i).flatMap (lo2 pk) ++ (lo2 pk ms[i] ++ (ms.drop (i + 1)).flatMap (lo2 pk)) := by
        conv => lhs; rw [← List.take_append_drop i ms, List.flatMap_append, List.drop_eq_getElem_cons hil, List.flatMap_cons]
      have et1 : (ms.take (i + 1)).flatMap (lo2 pk) = (ms.take i).flatMap (lo2 pk) ++ lo2 pk ms[i] := by
        rw [List.take_succ_eq_append_getElem hil, List.flatMap_append]
        simp
      have hA : ((ms.take i).flatMap (lo2 pk)).length + (lo2 pk ms[i]).length ≤ (ms.flatMap (lo2 pk)).length := by
        rw [et]
        simp only [List.length_append]
        omega
      rw [f_X5_addEntries_13]
      unfold f_X9_size
      rw [bnd_some, hsh.2.1, if_neg (nI_ge hil (by omega)), f_member hsh hs hil, bnd_some]
      dsimp only [opt]
      rw [beq6 (hsh.kc6 hs (by omega)), cond_true, List.drop_eq_getElem_cons hil]
      unfold ents
      have ih2 := fun c e => ih n (i + 1) c e (by omega) (by omega)
      rw [et1, List.length_append] at ih2
      have hd := dat_len (pk := pk) hx.2
      have hn91 := nmS_len hx.1
      have hln : (ms.flatMap (lo2 pk) ++ e).length = (ms.flatMap (lo2 pk)).length + e.length := List.length_append
      have hcom : ∀ r, (((ms.flatMap (lo2 pk) ++ e) ++ r).drop (((ms.take i).flatMap (lo2 pk)).length + 4)).take 24 = com ms[i] (way2 pk ms[i]) (dat pk ms[i]).length := by
        intro r
        rw [et]
        unfold lo2
        simp only [List.append_assoc]
        exact loc_com _ _ _ _ _
      have hle4 : ∀ r, le4 ((ms.flatMap (lo2 pk) ++ e) ++ r) (((ms.take i).flatMap (lo2 pk)).length + 18) = (dat pk ms[i]).length := by
        intro r
        rw [et]
        unfold lo2
        simp only [List.append_assoc]
        exact loc_le4 _ _ _ _ _ (by omega)
      have hlo := lo2_len (pk := pk) (x := ms[i])
      clear et et1
      generalize ms[i] = x at *
      generalize ((ms.take i).flatMap (lo2 pk)).length = hp at *
      have el := ent_len x (way2 pk x) (dat pk x).length hp
      have ecut : ∀ r, ent x (way2 pk x) (dat pk x).length hp ++ r = mk4 ++ (le 20 2 ++ (com x (way2 pk x) (dat pk x).length ++ (List.replicate 12 0 ++ (le hp 4 ++ (nmS x ++ r))))) := by
        intro r
        unfold ent
        simp only [List.append_assoc]
      rw [List.append_assoc, ecut, List.length_append, el]
      have l4 : mk4.length = 4 := rfl
      refine AP.bnd_ (AP.mark (v := mk4) hN h (by rw [hln, l4]; omega) (by decide)) (fun c1 r1 f1 => ?_)
      refine AP.bnd_ (AP.le64 (v := 20) hN r1 (by simp only [List.length_append, l4]; omega) rfl (by decide) (by decide) rfl) (fun c2 r2 f2 => ?_)
      have a3 := f_addSelf (i := hp + 4) (j := hp + 28) hN r2 (by omega) (by simp only [List.length_append]; omega) (by simp only [List.length_append, le_len, l4]; omega)
      rw [show hp + 28 - (hp + 4) = 24 by omega, List.append_assoc, hcom, ← List.append_assoc] at a3
      rw [show nI hp + 4 = nI (hp + 4) from nI_add hp 4, show nI hp + 28 = nI (hp + 28) from nI_add hp 28]
      refine AP.bnd_ a3 (fun c3 r3 f3 => ?_)
      refine AP.bnd_ (AP.zeros (m := 12) hN r3 (by simp only [List.length_append, le_len, com_len, l4]; omega) rfl) (fun c4 r4' f4 => ?_)
      refine AP.bnd_ (AP.leN (v := hp) hN r4' (by simp only [List.length_append, le_len, com_len, List.length_replicate, l4]; omega) rfl (by omega) (by decide) rfl) (fun c5 r5 f5 => ?_)
      have m5 := hm.fr ((((f1.tr f2).tr f3).tr f4).tr f5) (by simp only [List.mem_cons, List.not_mem_nil, or_false]; omega) (by simp only [List.mem_cons, List.not_mem_nil, or_false]; omega) (by simp only [List.mem_cons, List.not_mem_nil, or_false]; omega) (by simp only [List.mem_cons, List.not_mem_nil, or_false]; omega) (by simp only [List.mem_cons, List.not_mem_nil, or_false]; omega)
      refine AP.bnd_ (AP.title hN r5 m5 (by omega) (by simp only [List.length_append, le_len, com_len, List.length_replicate, l4]; omega)) (fun c6 r6 f6 => ?_)
      have m6 := m5.fr f6 (by simp only [List.mem_cons, List.not_mem_nil, or_false]; omega) (by simp only [List.mem_cons, List.not_mem_nil, or_false]; omega) (by simp only [List.mem_cons, List.not_mem_nil, or_false]; omega) (by simp only [List.mem_cons, List.not_mem_nil, or_false]; omega) (by simp only [List.mem_cons, List.not_mem_nil, or_false]; omega)
      rw [f_titleBytes m6, bnd_some, show nI hp + 18 = nI (hp + 18) from nI_add hp 18, f_little4 hN r6 (by omega), bnd_some]
      simp only [List.append_assoc] at r6 hle4 ⊢
      rw [hle4, lN_i, show (30 : Int32) = nI 30 from rfl, nI_add, nI_add, nI_add, nI_1]
      have ff := ((((f1.tr f2).tr f3).tr f4).tr f5).tr f6
      have fin := ih2 c6 (e ++ (mk4 ++ (le 20 2 ++ (com x (way2 pk x) (dat pk x).length ++ (List.replicate 12 0 ++ (le hp 4 ++ nmS x)))))) (hsh.fr ff (fun o ho => by simp only [List.mem_cons, List.not_mem_nil, or_false] at ho; omega)) (by simpa only [List.append_assoc] using r6) (by simp only [List.length_append, le_len, com_len, List.length_replicate, l4]; omega)
      rw [hlo] at fin ⊢
      have ee : (e ++ (mk4 ++ (le 20 2 ++ (com x (way2 pk x) (dat pk x).length ++ (List.replicate 12 0 ++ (le hp 4 ++ nmS x)))))).length = e.length + (46 + (nmS x).length) := by simp only [List.length_append, le_len, com_len, List.length_replicate, l4]; omega
      rw [ee] at fin
      try simp only [List.append_assoc] at fin
      rw [← Nat.add_assoc e.length]
      exact fin
  have locs : ∀ d n i c, i + d = ms.length → d < n → shf c s ms → row c 3 ((ms.take i).flatMap (lo2 pk)) → ∃ c', f_X5_layOut_2 N s (bI pk) n c (nI i) = bnd (f_X5_addEntries N c' s) (fun _ c3 => some ((), c3)) ∧ shf c' s ms ∧ row c' 3 (ms.flatMap (lo2 pk)) ∧ fr Spk c c' := by
    intro d
    induction d with
    | zero =>
      intro n i c hi hn hsh h
      obtain ⟨n, rfl⟩ : ∃ m, n = m + 1 := ⟨n - 1, by omega⟩
      rw [f_X5_layOut_2]
      unfold f_X9_size
      rw [bnd_some, hsh.2.1, if_pos (nI_le (by omega) (by omega))]
      rw [List.take_of_length_le (by omega)] at h
      exact ⟨c, rfl, hsh, h, fr.rf⟩
    | succ d ih =>
      intro n i c hi hn hsh h
      obtain ⟨n, rfl⟩ : ∃ m, n = m + 1 := ⟨n - 1, by omega⟩
      have hil : i < ms.length := by omega
      have hm := hsh.mb hil
      have hx := hok.2 ms[i] (List.getElem_mem hil)
      obtain ⟨k, hk, ek⟩ := hsh.2.2.1 i (by omega)
      have fT := flen (ms.take i) (fun x hx => hok.2 x (List.mem_of_mem_take hx))
      rw [List.length_take, Nat.min_eq_left (by omega)] at fT
      have et1 : (ms.take (i + 1)).flatMap (lo2 pk) = (ms.take i).flatMap (lo2 pk) ++ lo2 pk ms[i] := by
        rw [List.take_succ_eq_append_getElem hil, List.flatMap_append]
        simp
      obtain ⟨c1, e1, r1, f1⟩ := f_local2 (N := N) (s := s) (i := i) (w := bI pk) (pk := pk) (k2 := f_X5_layOut_2 N s (bI pk) n) hN h hm (by omega) (by omega) hx.1 hx.2
      rw [← et1] at r1
      obtain ⟨c2, e2, s2, r2, f2⟩ := ih n (i + 1) c1 (by omega) (by omega) (hsh.fr f1 (fun o ho => by simp only [List.mem_cons, List.not_mem_nil, or_false] at ho; omega)) r1
      refine ⟨c2, ?_, s2, r2, f1.tr f2⟩
      rw [← e2, ← nI_1, ← e1, f_X5_layOut_2]
      unfold f_X9_size
      rw [bnd_some, hsh.2.1, if_neg (nI_ge hil (by omega)), f_member hsh hs hil, bnd_some]
      dsimp only [opt]
      rw [beq6 (hsh.kc6 hs (by omega)), cond_true, f_size h, bnd_some]
      have l1 := hm.2.1.lt
      unfold f_X5_layOut_50 f_X5_layOut_51
      cases pk with
      | false =>
        rw [if_pos (show bI false = 0 from rfl), if_pos (show (0 : Int32) = 0 from rfl)]
        rfl
      | true =>
        rw [if_neg (by decide), f_size hm.2.1, bnd_some]
        by_cases e0 : 0 < ms[i].2.1.length
        · rw [if_neg (nI_nle e0 l1), if_neg (by decide)]
          have ew : wayB2 true ms[i] = true := by unfold wayB2; rw [decide_eq_true e0]; rfl
          unfold way2
          rw [ew]
          rfl
        · rw [if_pos (show nI ms[i].2.1.length ≤ 0 from nI_le (b := 0) (by omega) (by decide)), if_pos (show (0 : Int32) = 0 from rfl)]
          have ew : wayB2 true ms[i] = false := by unfold wayB2; rw [decide_eq_false e0]; rfl
          unfold way2
          rw [ew]
          rfl
  obtain ⟨c1, e1, s1, r1, f1⟩ := locs ms.length N 0 c (by omega) (by omega) hsh (by simpa using h)
  have a2 := entr ms.length N 0 c1 [] (by omega) (by omega) s1 (by rw [List.append_nil]; exact r1) (by simp)
  rw [List.take_zero, List.drop_zero, List.append_nil, List.length_nil, Nat.zero_add] at a2
  obtain ⟨c2, e2, r2, f2⟩ := a2
  refine ⟨c2, ?_, r2, f1.tr (Spk_of f2)⟩
  unfold f_X5_layOut
  rw [show (0 : Int32) = nI 0 from rfl, e1]
  unfold f_X5_addEntries
  rw [f_size r1, bnd_some]
  have e3 : f_X5_addEntries_13 N s N c1 (nI (ms.flatMap (lo2 pk)).length) 0 0 = some ((), c2) := e2
  rw [e3, bnd_some]
end
section
/-! PURE: the class reads: tests that tell a FAULT -/
/-- a test: when it holds nothing has changed, when not, no more than S -/
noncomputable def RB (X : Option (Int32 × hS)) (c : hS) (S : List Nat) (b : Bool) : Prop := ∃ c', X = some (bI b, c') ∧ fr S c c' ∧ (b = true → c' = c)
theorem RB.yes {c : hS} {S : List Nat} : RB (some (1, c)) c S true := ⟨c, rfl, fr.rf, fun _ => rfl⟩
theorem RB.tell {c : hS} {a p : Int32} : RB (f_X6_tell c a p) c [9] false := ⟨_, rfl, (fr.sI (by simp)).tr (fr.sI (by simp)), fun h => by cases h⟩
theorem RB.and_ {A : Option (Int32 × hS)} {B : hS → Option (Int32 × hS)} {c : hS} {S : List Nat} {a b : Bool} (hA : RB A c S a) (hB : a = true → RB (B c) c S b) : RB (bnd A fun x c2 => if x = 0 then some (0, c2) else B c2) c S (a && b) := by
  obtain ⟨c1, e1, f1, g1⟩ := hA
  cases a with
  | false =>
    refine ⟨c1, ?_, f1, fun h => by cases h⟩
    rw [e1, bnd_some, if_pos (show bI false = 0 from rfl)]
    rfl
  | true =>
    cases g1 rfl
    obtain ⟨c2, e2, f2, g2⟩ := hB rfl
    refine ⟨c2, ?_, f2, fun h => g2 (by simpa using h)⟩
    rw [e1, bnd_some, if_neg (by decide), e2, Bool.true_and]
theorem RB.last_ {A : Option (Int32 × hS)} {c : hS} {S : List Nat} {a : Bool} (hA : RB A c S a) : RB (bnd A fun x c2 => if x = 0 then some (0, c2) else some (1, c2)) c S a := by
  have := RB.and_ (B := fun c2 => some (1, c2)) (b := true) hA (fun _ => RB.yes)
  rwa [Bool.and_true] at this
/-- or a FAULT -/
theorem RB.or_ {A : Option (Int32 × hS)} {c : hS} {a : Bool} {f p : Int32} (hA : ∃ c', A = some (bI a, c') ∧ c' = c) : RB (bnd A fun x c2 => if x = 0 then bnd (f_X6_tell c2 f p) fun x c4 => if x = 0 then some (0, c4) else some (1, c4) else some (1, c2)) c [9] a := by
  obtain ⟨c1, e1, rfl⟩ := hA
  rw [e1, bnd_some]
  cases a with
  | false => rw [if_pos (show bI false = 0 from rfl)]; exact RB.last_ RB.tell
  | true => rw [if_neg (by decide)]; exact RB.yes
theorem RB.if_ {p : Prop} [Decidable p] {c : hS} {S : List Nat} {a b : Bool} {X Y : Option (Int32 × hS)} (h1 : p → RB X c S a) (h2 : ¬ p → RB Y c S b) : RB (if p then X else Y) c S (if p then a else b) := by
  by_cases h : p
  · rw [if_pos h, if_pos h]; exact h1 h
  · rw [if_neg h, if_neg h]; exact h2 h
theorem RB.tellb {c : hS} {a p : Int32} : RB (bnd (f_X6_tell c a p) fun x c2 => bif j_b x then some (x, c2) else none) c [9] false := RB.tell
theorem f_reaches {c : hS} {t : List Nat} {k : Nat} (h : row c 3 t) (hk : k < 2 ^ 31) : RB (f_X0_reaches c (nI k)) c [9] (decide (k ≤ t.length)) := by
  unfold f_X0_reaches
  rw [f_size h, bnd_some]
  by_cases e : k ≤ t.length
  · rw [if_pos (nI_le e h.lt), decide_eq_true e]; exact RB.yes
  · rw [if_neg (nI_ge (by omega) hk), decide_eq_false e, f_size h, bnd_some]; exact RB.last_ RB.tell
noncomputable def mkB (t : List Nat) (p : Nat) (m : List Nat) : Bool := (List.range' 0 m.length).all fun i => decide (gt t (p + i) = gt m i)
theorem f_isMarked {N : Nat} {c : hS} {t m : List Nat} {w : List Int32} {p : Nat} {f : Int32} (hN : 1000000 ≤ N) (h : row c 3 t) (hp : p < 2 ^ 30) (hw : w = m.map nI) (hm : byt m) (hl : m.length < 100) : RB (f_X0_isMarked N c (nI p) w f) c [9] (mkB t p m) := by
  have tl : w.length = m.length := by rw [hw]; simp
  have tg : ∀ k, k < m.length → w.getD k 0 = nI (gt m k) := by
    intro k hk
    rw [hw, List.getD_eq_getElem?_getD, List.getElem?_eq_getElem (by simpa using hk), gt_lt hk]
    simp
  refine all_loop (F := f_X0_isMarked_3 N (nI p) w f) (c := c) (j := m.length) (P := fun k => decide (gt t (p + k) = gt m k)) (fun n k hk => ?_) (fun n => ?_) m.length N 0 (by omega) (by omega)
  · have e1 := h.2.2.2.gt (p + k)
    have e2 := hm.gt k
    rw [f_X0_isMarked_3, ofNat_nI, tl, if_neg (nI_ge hk (by omega)), nI_add, f_get h (by omega), bnd_some, j_in_nI hk (by omega), cond_true, nI_clamp (by omega), tg k hk]
    constructor
    · intro q
      rw [of_decide_eq_true q, if_pos rfl]
    · intro q
      rw [if_neg (fun z => (of_decide_eq_false q) ((nI_eq (by omega) (by omega)).mp z))]
      obtain ⟨c', a1, a2, _⟩ := RB.tellb (c := c) (a := f) (p := nI (p + k))
      exact ⟨c', a1, a2⟩
  · rw [f_X0_isMarked_3, ofNat_nI, tl, if_pos (nI_le (Nat.le_refl _) (by omega))]
noncomputable def zerB (t : List Nat) (p : Nat) : Bool := (List.range' p (t.length - p)).all fun i => decide (gt t i = 0)
theorem f_isZeroFrom {N : Nat} {c : hS} {t : List Nat} {p : Nat} (hN : 1000000 ≤ N) (h : row c 3 t) (hp : p ≤ t.length) : RB (f_X0_isZeroFrom N c (nI p)) c [9] (zerB t p) := by
  have hln : t.length ≤ 20000 := h.1
  refine all_loop (F := f_X0_isZeroFrom_2 N (nI p)) (c := c) (j := t.length) (P := fun k => decide (gt t k = 0)) (fun n k hk => ?_) (fun n => ?_) (t.length - p) N p (by omega) (by omega)
  · have e1 := h.2.2.2.gt k
    rw [f_X0_isZeroFrom_2, f_size h, bnd_some, if_neg (nI_ge hk h.lt), f_get h (by omega), bnd_some]
    constructor
    · intro q
      rw [of_decide_eq_true q, if_pos nI_0]
    · intro q
      rw [if_neg (nI_ne0 (by have := of_decide_eq_false q; omega) (by omega))]
      obtain ⟨c', a1, a2, _⟩ := RB.tellb (c := c) (a := 2) (p := nI k)
      exact ⟨c', a1, a2⟩
  · rw [f_X0_isZeroFrom_2, f_size h, bnd_some, if_pos (nI_le (Nat.le_refl _) h.lt)]
theorem f_isNamed {N : Nat} {c : hS} {l : List Nat} {p : Int32} (hN : 1000000 ≤ N) (h : row c 5 l) : RB (f_X0_isNamed N c p) c [9] (nameB l) := by
  unfold f_X0_isNamed
  exact RB.or_ ⟨c, f_isName hN h, rfl⟩
/-- may the member come -/
noncomputable def mayB (ms : List Mb) (t : List Nat) (d : Bool) : Bool := !ms.any (wayB t d) && (decide (ms.length < 16) || ms.any fun x => decide (x.1 = t))
theorem f_arrives {N : Nat} {c : hS} {s r i j : Nat} {ms : List Mb} {t g : List Nat} {d : Bool} {p : Int32} (hN : 1000000 ≤ N) (h : shf c s ms) (hs : s = 37 ∨ s = 119) (hb : row c 5 t) (hr : row c r g) (hr0 : r + 1 < 37) (ht : t.length ≤ 90) (hij : i ≤ j) (hj : j ≤ g.length) (hji : j - i ≤ 400) :
    ∃ c', f_X0_arrives N c s (bI d) r (nI i) (nI j) p = some (bI (mayB ms t d), c') ∧ fr (9 :: shR s) c c' ∧ (mayB ms t d = true → shf c' s (comeM ms (t, (g.drop i).take (j - i), d)) ∧ fr (shR s) c c') ∧ (mayB ms t d = false → fr [9] c c') := by
  unfold f_X0_arrives mayB
  rw [f_isInTheWay hN h hs hb, bnd_some]
  have tell : ∀ {b : Bool}, b = false → ∃ c', f_X0_arrives_23 N s (bI d) r (nI i) (nI j) p c = some (bI b, c') ∧ fr (9 :: shR s) c c' ∧ (b = true → shf c' s (comeM ms (t, (g.drop i).take (j - i), d)) ∧ fr (shR s) c c') ∧ (b = false → fr [9] c c') := by
    intro b hb
    subst hb
    obtain ⟨c', a1, a2, _⟩ := RB.tellb (c := c) (a := 11) (p := p)
    exact ⟨c', a1, a2.mono (fun o ho => by simp at ho; simp [ho]), (fun h => by cases h), fun _ => a2⟩
  cases hw : ms.any (wayB t d) with
  | true => rw [if_neg (by decide)]; exact tell rfl
  | false =>
    rw [if_pos (show bI false = 0 from rfl), f_hasRoomFor hN h hs hb, bnd_some]
    cases hm : (decide (ms.length < 16) || ms.any fun x => decide (x.1 = t)) with
    | false => rw [if_pos (show bI false = 0 from rfl)]; exact tell rfl
    | true =>
      rw [if_neg (by decide)]
      have hms : ms.length < 16 ∨ ∃ x ∈ ms, x.1 = t := by
        rcases Bool.or_eq_true _ _ |>.mp hm with q | q
        · exact Or.inl (of_decide_eq_true q)
        · obtain ⟨x, h1, h2⟩ := List.any_eq_true.mp q
          exact Or.inr ⟨x, h1, of_decide_eq_true h2⟩
      obtain ⟨c', e1, e2, e3⟩ := f_take (d := d) hN h hs hb hr (by omega) (by omega) ht hij hj hji hms
      rw [e1, bnd_some]
      exact ⟨c', rfl, e3.mono (fun o ho => List.mem_cons_of_mem _ ho), fun _ => ⟨e2, e3⟩, fun z => absurd z (by decide)⟩
/-! kind 0 -/
noncomputable def emB (t : List Nat) (p : Nat) : Bool := (List.range' 0 512).all fun i => decide (gt t (p + i) = 0)
theorem f_isEmptyBlock {N : Nat} {c : hS} {t : List Nat} {p : Nat} (hN : 1000000 ≤ N) (h : row c 3 t) (hp : p < 2 ^ 30) : f_X1_isEmptyBlock N c (nI p) = some (bI (emB t p), c) := by
  refine all_loop0 (F := f_X1_isEmptyBlock_2 N (nI p)) (c := c) (j := 512) (P := fun k => decide (gt t (p + k) = 0)) (fun n k hk => ?_) (fun n => ?_) (d := 512) (n := N) (k := 0) (by omega) (by omega)
  · have e1 := h.2.2.2.gt (p + k)
    rw [f_X1_isEmptyBlock_2, if_neg (show ¬ (512 : Int32) ≤ nI k from nI_ge (b := 512) hk (by decide)), nI_add, f_get h (by omega), bnd_some]
    by_cases e : gt t (p + k) = 0
    · rw [e, if_pos nI_0, if_pos (by rfl)]
    · rw [if_neg (nI_ne0 (by omega) (by omega)), if_neg (by simpa using e)]
  · rw [f_X1_isEmptyBlock_2, if_pos (by decide)]
/-- n octal digits -/
noncomputable def digB (t : List Nat) (p n : Nat) : Bool := (List.range' p n).all fun i => decide (48 ≤ gt t i) && decide (gt t i ≤ 55)
theorem f_areDigits {N : Nat} {c : hS} {t : List Nat} {p n : Nat} {f : Int32} (hN : 1000000 ≤ N) (h : row c 3 t) (hp : p < 2 ^ 30) (hn : n < 100) : RB (f_X1_areDigits N c (nI p) (nI n) f) c [9] (digB t p n) := by
  refine all_loop (F := f_X1_areDigits_3 N (nI p) (nI n) f) (c := c) (j := p + n) (P := fun i => decide (48 ≤ gt t i) && decide (gt t i ≤ 55)) (fun n' k hk => ?_) (fun n' => ?_) n N p (by omega) (by omega)
  · have e1 := h.2.2.2.gt k
    rw [f_X1_areDigits_3, nI_add, if_neg (nI_ge hk (by omega)), f_get h (by omega), bnd_some]
    obtain ⟨c', a1, a2, _⟩ := RB.tellb (c := c) (a := f) (p := nI k)
    by_cases e2 : 48 ≤ gt t k
    · rw [if_neg (show ¬ nI (gt t k) < 48 from nI_nlt (b := 48) e2 (by omega)), f_get h (by omega), bnd_some]
      by_cases e3 : gt t k ≤ 55
      · rw [if_pos (show nI (gt t k) ≤ 55 from nI_le (b := 55) e3 (by decide))]
        exact ⟨fun _ => rfl, fun q => by simp [e2, e3] at q⟩
      · rw [if_neg (show ¬ nI (gt t k) ≤ 55 from nI_ge (a := 55) (by omega) (by omega))]
        exact ⟨fun q => by simp [e3] at q, fun _ => ⟨c', a1, a2⟩⟩
    · rw [if_pos (show nI (gt t k) < 48 from nI_lt (b := 48) (by omega) (by decide))]
      exact ⟨fun q => by simp [e2] at q, fun _ => ⟨c', a1, a2⟩⟩
  · rw [f_X1_areDigits_3, nI_add, if_pos (nI_le (Nat.le_refl _) (by omega))]
noncomputable def octB (t : List Nat) (p n : Nat) : Bool := digB t p (n - 1) && decide (gt t (p + n - 1) = 0)
theorem f_isOctal {N : Nat} {c : hS} {t : List Nat} {p n : Nat} (hN : 1000000 ≤ N) (h : row c 3 t) (hp : p < 2 ^ 30) (hn : n < 100) (h1 : 1 ≤ n) : RB (f_X1_isOctal N c (nI p) (nI n)) c [9] (octB t p n) := by
  unfold f_X1_isOctal octB
  rw [show nI n - 1 = nI (n - 1) from subI (b := 1) h1, show nI p + nI n - 1 = nI (p + n - 1) by rw [nI_add]; exact subI (b := 1) (by omega)]
  refine RB.and_ (B := fun c2 => bnd (f_X2_get c2 3 (nI (p + n - 1))) fun x3 c4 => if x3 = 0 then some (1, c4) else bnd (f_X6_tell c4 6 (nI (p + n - 1))) fun x5 c6 => if x5 = 0 then some (0, c6) else some (1, c6)) (f_areDigits hN h hp (by omega)) (fun _ => ?_)
  have e1 := h.2.2.2.gt (p + n - 1)
  try dsimp only
  rw [f_get h (by omega), bnd_some]
  by_cases e : gt t (p + n - 1) = 0
  · rw [e, if_pos nI_0]; exact RB.yes
  · rw [if_neg (nI_ne0 (by omega) (by omega)), decide_eq_false e]; exact RB.last_ RB.tell
/-- the number that octal digits tell -/
noncomputable def octV (t : List Nat) : Nat → Nat → Nat → Nat
  | _, 0, v => v
  | p, n + 1, v => octV t (p + 1) n (v * 8 + gt t p % 8)
theorem octV_lt {t : List Nat} : ∀ {n p v : Nat}, octV t p n v < (v + 1) * 8 ^ n
  | 0, p, v => by simp [octV]
  | n + 1, p, v => by
    have h1 := octV_lt (t := t) (n := n) (p := p + 1) (v := v * 8 + gt t p % 8)
    have h2 := Nat.mod_lt (gt t p) (show 0 < 8 by decide)
    have h3 : (v * 8 + gt t p % 8 + 1) * 8 ^ n ≤ ((v + 1) * 8) * 8 ^ n := Nat.mul_le_mul_right _ (by omega)
    unfold octV
    rw [Nat.pow_succ, show (v + 1) * (8 ^ n * 8) = (v + 1) * 8 * 8 ^ n by rw [Nat.mul_assoc, Nat.mul_comm 8]]
    omega
theorem f_octal {N : Nat} {c : hS} {t : List Nat} {p n : Nat} (hN : 1000000 ≤ N) (h : row c 3 t) (hp : p < 2 ^ 30) (hn : n ≤ 12) : f_X1_octal N c (nI p) (nI n) = some (lN (octV t p n 0), c) := by
  have key : ∀ d n' k v, k + d = p + n → d < n' → v < 8 ^ (n - d) → d ≤ n → f_X1_octal_5 N (nI p) (nI n) n' c (lN v) (nI k) = some (lN (octV t k d v), c) := by
    intro d
    induction d with
    | zero =>
      intro n' k v hk hn' hv hdn
      obtain ⟨n', rfl⟩ : ∃ m, n' = m + 1 := ⟨n' - 1, by omega⟩
      rw [f_X1_octal_5, nI_add, if_pos (nI_le (by omega) (by omega))]
      rfl
    | succ d ih =>
      intro n' k v hk hn' hv hdn
      obtain ⟨n', rfl⟩ : ∃ m, n' = m + 1 := ⟨n' - 1, by omega⟩
      have hm := Nat.mod_lt (gt t k) (show 0 < 8 by decide)
      have hv2 : v < 2 ^ 36 := Nat.lt_of_lt_of_le hv (by
        rw [show (2 : Nat) ^ 36 = 8 ^ 12 from rfl]
        exact Nat.pow_le_pow_right (by decide) (by omega))
      rw [f_X1_octal_5, nI_add, if_neg (nI_ge (by omega) (by omega)), f_get h (by omega), bnd_some, and7, show (3 : Int32) = nI 3 from rfl, lshl_lN v (by decide), nI_l (by omega), wb_or (by omega) (by omega), or_add (k := 3) (by omega), nI_1]
      unfold octV
      refine ih n' (k + 1) (v * 8 + gt t k % 8) (by omega) (by omega) ?_ (by omega)
      rw [show n - d = n - (d + 1) + 1 by omega, Nat.pow_succ]
      omega
  unfold f_X1_octal
  rw [show (0 : Int64) = lN 0 from rfl]
  exact key n N p 0 rfl (by omega) (by rw [Nat.sub_self]; decide) (Nat.le_refl _)
theorem lN_big {a : Nat} (h : a < 2 ^ 63) : (lN a).toInt = (a : Int) := lg_ofNat_toInt h
theorem cmp_eq {a b : Nat} (ha : a < 2 ^ 63) (hb : b < 2 ^ 63) : (j_cmp (lN a) (lN b) = 0) = (a = b) := by
  unfold j_cmp
  have e1 : lN a > lN b ↔ b < a := by rw [gt_iff_lt, Int64.lt_iff_toInt_lt, lN_big ha, lN_big hb]; omega
  have e2 : lN a = lN b ↔ a = b := by rw [← Int64.toInt_inj, lN_big ha, lN_big hb]; omega
  apply propext
  by_cases h1 : b < a
  · rw [if_pos (e1.mpr h1)]; exact ⟨fun h => absurd h (by decide), fun h => by omega⟩
  · rw [if_neg (fun q => h1 (e1.mp q))]
    by_cases h2 : a = b
    · rw [if_pos (e2.mpr h2)]; exact ⟨fun _ => by omega, fun _ => by decide⟩
    · rw [if_neg (fun q => h2 (e2.mp q))]; exact ⟨fun h => by first | omega | exact absurd h (by decide), fun h => by first | exact absurd h h2 | decide⟩
theorem cmp_le {a b : Nat} (ha : a < 2 ^ 63) (hb : b < 2 ^ 63) : (j_cmp (lN a) (lN b) ≤ 0) = (a ≤ b) := by
  unfold j_cmp
  have e1 : lN a > lN b ↔ b < a := by rw [gt_iff_lt, Int64.lt_iff_toInt_lt, lN_big ha, lN_big hb]; omega
  have e2 : lN a = lN b ↔ a = b := by rw [← Int64.toInt_inj, lN_big ha, lN_big hb]; omega
  apply propext
  by_cases h1 : b < a
  · rw [if_pos (e1.mpr h1)]; exact ⟨fun h => absurd h (by decide), fun h => by omega⟩
  · rw [if_neg (fun q => h1 (e1.mp q))]
    by_cases h2 : a = b
    · rw [if_pos (e2.mpr h2)]; exact ⟨fun _ => by omega, fun _ => by decide⟩
    · rw [if_neg (fun q => h2 (e2.mp q))]; exact ⟨fun h => by first | omega | exact absurd h (by decide), fun h => by first | exact absurd h h2 | decide⟩
noncomputable def smB (t : List Nat) (p : Nat) : Bool := digB t (p + 148) 6 && (decide (gt t (p + 154) = 0) && (decide (gt t (p + 155) = 32) && decide (octV t (p + 148) 6 0 = sumW t p 512)))
theorem f_isSummed {N : Nat} {c : hS} {t : List Nat} {p : Nat} (hN : 1000000 ≤ N) (h : row c 3 t) (hp : p < 2 ^ 29) : RB (f_X1_isSummed N c (nI p)) c [9] (smB t p) := by
  have e1 := h.2.2.2.gt (p + 154)
  have e2 := h.2.2.2.gt (p + 155)
  have o1 := octV_lt (t := t) (n := 6) (p := p + 148) (v := 0)
  have s1 := sumW_le h.2.2.2 p 512
  unfold f_X1_isSummed smB
  rw [show nI p + 148 = nI (p + 148) from nI_add p 148, show nI (p + 148) + 6 = nI (p + 154) from nI_add (p + 148) 6, show nI (p + 148) + 7 = nI (p + 155) from nI_add (p + 148) 7]
  refine RB.and_ (B := fun c2 => bnd (f_X2_get c2 3 (nI (p + 154))) fun x3 c4 => if x3 = 0 then bnd (f_X2_get c4 3 (nI (p + 155))) fun x5 c6 => if x5 = 32 then bnd (f_X1_octal N c6 (nI (p + 148)) 6) fun x7 c8 => bnd (f_X1_sumOf N c8 (nI p)) fun x9 c10 => if j_cmp x7 x9.toInt64 = 0 then some (1, c10) else bnd (f_X6_tell c10 4 (nI (p + 148))) fun x11 c12 => if x11 = 0 then some (0, c12) else some (1, c12) else bnd (f_X6_tell c6 3 (nI (p + 155))) fun x13 c14 => bif j_b x13 then some (x13, c14) else none else bnd (f_X6_tell c4 3 (nI (p + 154))) fun x15 c16 => bif j_b x15 then some (x15, c16) else none) (f_areDigits (n := 6) hN h (by omega) (by decide)) (fun _ => ?_)
  try dsimp only
  rw [f_get h (by omega), bnd_some]
  by_cases q1 : gt t (p + 154) = 0
  · rw [q1, if_pos nI_0, f_get h (by omega), bnd_some, decide_eq_true (rfl : (0 : Nat) = 0), Bool.true_and]
    by_cases q2 : gt t (p + 155) = 32
    · rw [q2, if_pos (show nI 32 = 32 from rfl), decide_eq_true (rfl : (32 : Nat) = 32), Bool.true_and, show (6 : Int32) = nI 6 from rfl, f_octal hN h (by omega) (by decide), bnd_some, f_sumOf hN h (by omega), bnd_some, nI_l (by omega)]
      by_cases q3 : octV t (p + 148) 6 0 = sumW t p 512
      · rw [if_pos (by rw [cmp_eq (by omega) (by omega)]; exact q3), decide_eq_true q3]; exact RB.yes
      · rw [if_neg (by rw [cmp_eq (by omega) (by omega)]; exact q3), decide_eq_false q3]; exact RB.last_ RB.tell
    · rw [if_neg (show ¬ nI (gt t (p + 155)) = 32 from fun z => q2 ((nI_eq (by omega) (show 32 < 2 ^ 31 by decide)).mp z)), decide_eq_false q2]; exact RB.tellb
  · rw [if_neg (nI_ne0 (by omega) (by omega)), decide_eq_false q1]; exact RB.tellb
noncomputable def soB (t : List Nat) (p : Nat) : Bool := (decide (gt t (p + 156) = 48) || (decide (gt t (p + 156) = 0) || decide (gt t (p + 156) = 53))) && decide (octV t (p + 124) 11 0 ≤ if gt t (p + 156) = 53 then 0 else 400)
theorem f_isSorted {N : Nat} {c : hS} {t : List Nat} {p : Nat} (hN : 1000000 ≤ N) (h : row c 3 t) (hp : p < 2 ^ 29) : RB (f_X1_isSorted N c (nI p)) c [9] (soB t p) := by
  have e1 := h.2.2.2.gt (p + 156)
  have o1 := octV_lt (t := t) (n := 11) (p := p + 124) (v := 0)
  have s57 : ∀ (k : Nat), k < 1000 → RB (f_X1_isSorted_57 N (nI p) c (nI k)) c [9] (decide (octV t (p + 124) 11 0 ≤ k)) := by
    intro k hk
    unfold f_X1_isSorted_57
    rw [show nI p + 124 = nI (p + 124) from nI_add p 124, show (11 : Int32) = nI 11 from rfl, f_octal hN h (by omega) (by decide), bnd_some, nI_l (by omega)]
    by_cases q : octV t (p + 124) 11 0 ≤ k
    · rw [if_pos (by rw [cmp_le (by omega) (by omega)]; exact q), decide_eq_true q]; exact RB.yes
    · rw [if_neg (by rw [cmp_le (by omega) (by omega)]; exact q), decide_eq_false q]; exact RB.last_ RB.tell
  have s44 : RB (f_X1_isSorted_44 N (nI p) c (nI (gt t (p + 156)))) c [9] (decide (octV t (p + 124) 11 0 ≤ if gt t (p + 156) = 53 then 0 else 400)) := by
    unfold f_X1_isSorted_44
    by_cases q : gt t (p + 156) = 53
    · rw [q, if_pos (show nI 53 = 53 from rfl), if_pos rfl]; exact s57 0 (by decide)
    · rw [if_neg (show ¬ nI (gt t (p + 156)) = 53 from fun z => q ((nI_eq (by omega) (show 53 < 2 ^ 31 by decide)).mp z)), if_neg q]; exact s57 400 (by decide)
  unfold f_X1_isSorted soB
  rw [show nI p + 156 = nI (p + 156) from nI_add p 156, f_get h (by omega), bnd_some]
  by_cases q1 : gt t (p + 156) = 48
  · rw [if_pos (show nI (gt t (p + 156)) = 48 by rw [q1]; rfl), decide_eq_true q1]; simpa using s44
  · rw [if_neg (show ¬ nI (gt t (p + 156)) = 48 from fun z => q1 ((nI_eq (by omega) (show 48 < 2 ^ 31 by decide)).mp z)), decide_eq_false q1, Bool.false_or]
    by_cases q2 : gt t (p + 156) = 0
    · rw [if_pos (show nI (gt t (p + 156)) = 0 by rw [q2]; rfl), decide_eq_true q2]; simpa using s44
    · rw [if_neg (nI_ne0 (by omega) (by omega)), decide_eq_false q2, Bool.false_or]
      by_cases q3 : gt t (p + 156) = 53
      · rw [if_pos (show nI (gt t (p + 156)) = 53 by rw [q3]; rfl), decide_eq_true q3]; simpa using s44
      · rw [if_neg (show ¬ nI (gt t (p + 156)) = 53 from fun z => q3 ((nI_eq (by omega) (show 53 < 2 ^ 31 by decide)).mp z)), decide_eq_false q3]; exact RB.tellb
noncomputable def mk0 : List Nat := [117, 115, 116, 97, 114, 0, 48, 48]
noncomputable def hdB (t : List Nat) (p : Nat) : Bool := smB t p && (mkB t (p + 257) mk0 && (octB t (p + 100) 8 && (octB t (p + 108) 8 && (octB t (p + 116) 8 && (octB t (p + 124) 12 && (octB t (p + 136) 12 && soB t p))))))
theorem f_isHead0 {N : Nat} {c : hS} {t : List Nat} {p : Nat} (hN : 1000000 ≤ N) (h : row c 3 t) (hp : p < 2 ^ 29) : RB (f_X1_isHead N c (nI p)) c [9] (hdB t p) := by
  unfold f_X1_isHead hdB
  refine RB.and_ (f_isSummed hN h hp) (fun _ => ?_)
  rw [show nI p + 257 = nI (p + 257) from nI_add p 257, show nI p + 100 = nI (p + 100) from nI_add p 100, show nI p + 108 = nI (p + 108) from nI_add p 108, show nI p + 116 = nI (p + 116) from nI_add p 116, show nI p + 124 = nI (p + 124) from nI_add p 124, show nI p + 136 = nI (p + 136) from nI_add p 136]
  refine RB.and_ (f_isMarked (m := mk0) hN h (by omega) (by decide) (show byt mk0 from (by decide : ∀ x ∈ mk0, x < 256)) (by decide)) (fun _ => ?_)
  refine RB.and_ (f_isOctal (n := 8) hN h (by omega) (by decide) (by decide)) (fun _ => ?_)
  refine RB.and_ (f_isOctal (n := 8) hN h (by omega) (by decide) (by decide)) (fun _ => ?_)
  refine RB.and_ (f_isOctal (n := 8) hN h (by omega) (by decide) (by decide)) (fun _ => ?_)
  refine RB.and_ (f_isOctal (n := 12) hN h (by omega) (by decide) (by decide)) (fun _ => ?_)
  refine RB.and_ (f_isOctal (n := 12) hN h (by omega) (by decide) (by decide)) (fun _ => ?_)
  exact RB.last_ (f_isSorted hN h hp)
end
section
/-! PURE: the class reads kind 0 -/
/-- bytes up to the first 0, n at most -/
noncomputable def cstr (t : List Nat) : Nat → Nat → List Nat
  | _, 0 => []
  | p, n + 1 => if gt t p = 0 then [] else gt t p :: cstr t (p + 1) n
theorem cstr_len (t : List Nat) : ∀ p n, (cstr t p n).length ≤ n
  | p, 0 => Nat.le_refl _
  | p, n + 1 => by
    unfold cstr
    split
    · simp
    · have := cstr_len t (p + 1) n
      simp; omega
theorem f_addToPath {N : Nat} {c : hS} {t l : List Nat} {p n : Nat} (hN : 1000000 ≤ N) (h : row c 3 t) (hl : row c 5 l) (hp : p < 2 ^ 30) (hn : l.length + n ≤ 256) : ∃ c', f_X1_addToPath N c (nI p) (nI n) = some ((), c') ∧ row c' 5 (l ++ cstr t p n) ∧ fr [5, 6] c c' := by
  have key : ∀ d n' k c l, k + d = p + n → d < n' → row c 3 t → row c 5 l → l.length + d ≤ 256 → ∃ c', f_X1_addToPath_2 N (nI p) (nI n) n' c (nI k) = some ((), c') ∧ row c' 5 (l ++ cstr t k d) ∧ fr [5, 6] c c' := by
    intro d
    induction d with
    | zero =>
      intro n' k c l hk hn' h hl _
      obtain ⟨n', rfl⟩ : ∃ m, n' = m + 1 := ⟨n' - 1, by omega⟩
      rw [f_X1_addToPath_2, nI_add, if_pos (nI_le (by omega) (by omega))]
      exact ⟨c, rfl, by simpa [cstr] using hl, fr.rf⟩
    | succ d ih =>
      intro n' k c l hk hn' h hl hll
      obtain ⟨n', rfl⟩ : ∃ m, n' = m + 1 := ⟨n' - 1, by omega⟩
      have bb := h.2.2.2.gt k
      rw [f_X1_addToPath_2, nI_add, if_neg (nI_ge (by omega) (by omega)), f_get h (by omega), bnd_some]
      unfold cstr
      by_cases e : gt t k = 0
      · rw [e, if_pos nI_0, if_pos rfl]
        exact ⟨c, rfl, by simpa using hl, fr.rf⟩
      · rw [if_neg (nI_ne0 (by omega) (by omega)), if_neg e, f_get h (by omega), bnd_some]
        obtain ⟨c1, e1, r1, f1⟩ := f_add (nI (gt t k)) hl (show l.length < ln (5 + 1) from (by show l.length < 256; omega))
        rw [b8_nI' bb] at r1
        obtain ⟨c2, e2, r2, f2⟩ := ih n' (k + 1) c1 _ (by omega) (by omega) (h.fr f1 (by decide) (by decide)) r1 (by simp; omega)
        refine ⟨c2, ?_, by simpa using r2, f1.tr f2⟩
        rw [e1, bnd_some, nI_1]
        exact e2
  exact key n N p c l rfl (by omega) h hl hn
/-- the name as it is spelt in a head -/
noncomputable def spl0 (t : List Nat) (p : Nat) : List Nat := (if (cstr t (p + 345) 155).length = 0 then [] else cstr t (p + 345) 155 ++ [47]) ++ cstr t p 100
noncomputable def spl (t : List Nat) (p : Nat) (d : Bool) : List Nat := if d = true ∧ gt (spl0 t p) ((spl0 t p).length - 1) = 47 then (spl0 t p).take ((spl0 t p).length - 1) else spl0 t p
theorem spl0_len (t : List Nat) (p : Nat) : (spl0 t p).length ≤ 256 := by
  unfold spl0
  have h1 := cstr_len t (p + 345) 155
  have h2 := cstr_len t p 100
  split
  · simp; omega
  · simp; omega
theorem f_spell {N : Nat} {c : hS} {t : List Nat} {p : Nat} {d : Bool} (hN : 1000000 ≤ N) (h : row c 3 t) (hl : 0 ≤ c.1 5 1) (hp : p < 2 ^ 29) : ∃ c', f_X1_spell N c (nI p) (bI d) = some ((), c') ∧ row c' 5 (spl t p d) ∧ fr [5, 6] c c' := by
  have up : ∀ {a b : hS}, fr [5] a b → fr [5, 6] a b := fun q => q.mono (fun o ho => by simp at ho ⊢; omega)
  have sl := spl0_len t p
  -- the second half
  have half : ∀ c u, row c 3 t → row c 5 u → u ++ cstr t p 100 = spl0 t p → u.length ≤ 156 → ∃ c', f_X1_spell_39 N (nI p) (bI d) c = some ((), c') ∧ row c' 5 (spl t p d) ∧ fr [5, 6] c c' := by
    intro c u h hu he hul
    unfold f_X1_spell_39
    obtain ⟨c1, e1, r1, f1⟩ := f_addToPath (p := p) (n := 100) hN h hu (by omega) (by omega)
    rw [he] at r1
    rw [show (100 : Int32) = nI 100 from rfl, e1, bnd_some, f_size r1, bnd_some]
    unfold spl
    cases d with
    | false =>
      rw [if_pos (show bI false = 0 from rfl), if_neg (by simp)]
      exact ⟨c1, rfl, r1, f1⟩
    | true =>
      rw [if_neg (by decide)]
      by_cases e0 : (spl0 t p).length = 0
      · rw [e0, show nI 0 - 1 = (-1 : Int32) from rfl, f_get_neg (by decide), bnd_some, if_neg (by decide), if_neg (by rintro ⟨_, q⟩; rw [gt_ge (by omega)] at q; omega)]
        exact ⟨c1, rfl, r1, f1⟩
      · rw [show nI (spl0 t p).length - 1 = nI ((spl0 t p).length - 1) from subI (b := 1) (by omega), f_get r1 (by omega), bnd_some]
        have bb := r1.2.2.2.gt ((spl0 t p).length - 1)
        by_cases e2 : gt (spl0 t p) ((spl0 t p).length - 1) = 47
        · rw [if_pos (show nI (gt (spl0 t p) ((spl0 t p).length - 1)) = 47 by rw [e2]; rfl), if_pos ⟨rfl, e2⟩]
          obtain ⟨c2, e2', r2, f2⟩ := f_cut (k := (spl0 t p).length - 1) r1 (by omega)
          rw [e2', bnd_some]
          exact ⟨c2, rfl, r2, f1.tr (up f2)⟩
        · rw [if_neg (show ¬ nI (gt (spl0 t p) ((spl0 t p).length - 1)) = 47 from fun z => e2 ((nI_eq (by omega) (show 47 < 2 ^ 31 by decide)).mp z)), if_neg (fun q => e2 q.2)]
          exact ⟨c1, rfl, r1, f1⟩
  unfold f_X1_spell
  obtain ⟨c1, e1, r1, f1⟩ := f_cutN hl
  have h1 := h.fr f1 (by decide) (by decide)
  rw [e1, bnd_some, show nI p + 345 = nI (p + 345) from nI_add p 345]
  obtain ⟨c2, e2, r2, f2⟩ := f_addToPath (n := 155) hN h1 r1 (p := p + 345) (by omega) (by simp)
  rw [List.nil_append] at r2
  have h2 := h1.fr f2 (by decide) (by decide)
  have cl := cstr_len t (p + 345) 155
  rw [show (155 : Int32) = nI 155 from rfl, e2, bnd_some, f_size r2, bnd_some]
  by_cases e : (cstr t (p + 345) 155).length = 0
  · rw [e, if_pos (show nI 0 ≤ 0 by decide)]
    obtain ⟨c3, e3, r3, f3⟩ := half c2 _ h2 r2 (by unfold spl0; rw [if_pos e, List.length_eq_zero_iff.mp e]) (by omega)
    exact ⟨c3, e3, r3, ((up f1).tr f2).tr f3⟩
  · rw [if_neg (nI_nle (by omega) (by omega))]
    obtain ⟨c3, e3, r3, f3⟩ := f_add 47 r2 (show (cstr t (p + 345) 155).length < 256 by omega)
    rw [e3, bnd_some]
    obtain ⟨c4, e4, r4, f4⟩ := half c3 _ (h2.fr f3 (by decide) (by decide)) r3 (by unfold spl0; rw [if_neg e]; rfl) (by simp; omega)
    exact ⟨c4, e4, r4, (((up f1).tr f2).tr f3).tr f4⟩
/-- the members that kind 0 tells -/
noncomputable def rd0 (t : List Nat) : Nat → Nat → List Mb → Option (List Mb)
  | 0, _, _ => none
  | n + 1, p, ms => if t.length < p + 512 then none else if emB t p = true then (if p + 1024 ≤ t.length ∧ zerB t p = true then some ms else none) else if hdB t p = true ∧ nameB (spl t p (decide (gt t (p + 156) = 53))) = true ∧ p + 512 + upTo (octV t (p + 124) 11 0) 512 ≤ t.length ∧ mayB ms (spl t p (decide (gt t (p + 156) = 53))) (decide (gt t (p + 156) = 53)) = true then rd0 t n (p + 512 + upTo (octV t (p + 124) 11 0) 512) (comeM ms (spl t p (decide (gt t (p + 156) = 53)), (t.drop (p + 512)).take (octV t (p + 124) 11 0), decide (gt t (p + 156) = 53))) else none
noncomputable def S0 (s : Nat) : List Nat := 9 :: 5 :: 6 :: shR s
theorem S0_9 {s : Nat} {c c' : hS} (h : fr [9] c c') : fr (S0 s) c c' := h.mono (fun o ho => by simp at ho; simp [S0, ho])
theorem S0_56 {s : Nat} {c c' : hS} (h : fr [5, 6] c c') : fr (S0 s) c c' := h.mono (fun o ho => by simp at ho; rcases ho with q | q <;> simp [S0, q])
/-- what reading says -/
noncomputable def RD (X : Option (Int32 × hS)) (c : hS) (s : Nat) (S : List Nat) (r : Option (List Mb)) : Prop := ∃ c', X = some (bI r.isSome, c') ∧ fr S c c' ∧ (∃ ms, shf c' s ms) ∧ ∀ ms, r = some ms → shf c' s ms
theorem RD.no {X : Option (Int32 × hS)} {c c1 : hS} {s : Nat} {S Nn : List Nat} {b : Bool} {ms : List Mb} (hX : ∃ c', X = some (bI b, c') ∧ fr Nn c1 c') (hb : b = false) (hf : fr S c c1) (hsh : shf c1 s ms) (hs : s = 37 ∨ s = 119) (h1 : ∀ o, o ∈ Nn → o < 37 ∧ o ∈ S) : RD X c s S none := by
  obtain ⟨c', e, f⟩ := hX
  subst hb
  exact ⟨c', e, hf.tr (f.mono (fun o ho => (h1 o ho).2)), ⟨ms, hsh.fr f (fun o ho => by have := (h1 o ho).1; omega)⟩, fun ms h => by cases h⟩
theorem S0n9 {s : Nat} : ∀ o, o ∈ [9] → o < 37 ∧ o ∈ S0 s := fun o ho => by simp at ho; subst ho; simp [S0]
theorem S0n956 {s : Nat} : ∀ o, o ∈ [9, 5, 6] → o < 37 ∧ o ∈ S0 s := fun o ho => by simp at ho; rcases ho with rfl | rfl | rfl <;> simp [S0]
theorem f_takeIn0 {N : Nat} {c : hS} {s : Nat} {t : List Nat} {ms : List Mb} (hN : 1000000 ≤ N) (h : row c 3 t) (hl : 0 ≤ c.1 5 1) (hsh : shf c s ms) (hs : s = 37 ∨ s = 119) : RD (f_X1_takeIn N c s) c s (S0 s) (rd0 t 41 0 ms) := by
  have hln : t.length ≤ 20000 := h.1
  have tell184 : ∀ c1, row c1 3 t → ∃ c', f_X1_takeIn_184 N s c1 = some (bI false, c') ∧ fr [9] c1 c' := by
    intro c1 h1
    unfold f_X1_takeIn_184
    rw [f_size h1, bnd_some]
    obtain ⟨c', a1, a2, _⟩ := RB.tellb (c := c1) (a := 1) (p := nI t.length)
    exact ⟨c', a1, a2⟩
  have key : ∀ d n p k c ms, t.length < p + 512 * d → d < n → 512 * k ≤ p → p ≤ t.length → row c 3 t → 0 ≤ c.1 5 1 → shf c s ms → RD (f_X1_takeIn_4 N s n c (nI p) (nI k)) c s (S0 s) (rd0 t d p ms) := by
    intro d
    induction d with
    | zero => intro n p k c ms h1 _ _ h2; omega
    | succ d ih =>
      intro n p k c ms hpd hn hk hp h hl hsh
      obtain ⟨n, rfl⟩ : ∃ m, n = m + 1 := ⟨n - 1, by omega⟩
      rw [f_X1_takeIn_4, if_neg (show ¬ (20000 : Int32) ≤ nI k from nI_ge (b := 20000) (by omega) (by decide)), f_size h, bnd_some, show nI p + 512 = nI (p + 512) from nI_add p 512]
      unfold rd0
      by_cases e1 : t.length < p + 512
      · rw [if_pos (nI_lt e1 (by omega)), if_pos e1]
        exact RD.no (tell184 c h) rfl fr.rf hsh hs S0n9
      · rw [if_neg (nI_nlt (by omega) h.lt), if_neg e1, f_isEmptyBlock hN h (by omega), bnd_some]
        cases hem : emB t p with
        | true =>
          rw [if_neg (by decide), if_pos rfl, show nI p + 1024 = nI (p + 1024) from nI_add p 1024]
          obtain ⟨c', a1, a2, a3⟩ := RB.and_ (B := fun c10 => bnd (f_X0_isZeroFrom N c10 (nI p)) fun x11 c12 => if x11 = 0 then some (0, c12) else some (1, c12)) (f_reaches (k := p + 1024) h (by omega)) (fun _ => RB.last_ (f_isZeroFrom hN h (p := p) (by omega)))
          by_cases q : p + 1024 ≤ t.length ∧ zerB t p = true
          · rw [decide_eq_true q.1, q.2] at a1 a3
            cases a3 rfl
            rw [if_pos q]
            exact ⟨c, a1, fr.rf, ⟨_, hsh⟩, fun ms' e => by cases e; exact hsh⟩
          · rw [if_neg q]
            refine RD.no ⟨c', a1, a2⟩ ?_ fr.rf hsh hs S0n9
            cases hz : zerB t p with
            | false => rw [Bool.and_false]
            | true => rw [decide_eq_false (fun z => q ⟨z, hz⟩)]; rfl
        | false =>
          rw [if_pos (show bI false = 0 from rfl), if_neg (by decide)]
          obtain ⟨c6, b1, b2, b3⟩ := f_isHead0 hN h (p := p) (by omega)
          rw [b1, bnd_some]
          cases hh : hdB t p with
          | false =>
            rw [hh] at b1
            rw [if_pos (show bI false = 0 from rfl), if_neg (by simp)]
            exact RD.no ⟨c6, rfl, b2⟩ rfl fr.rf hsh hs S0n9
          | true =>
            cases b3 hh
            have bb := h.2.2.2.gt (p + 156)
            rw [if_neg (by decide), show nI p + 156 = nI (p + 156) from nI_add p 156, f_get h (by omega), bnd_some]
            have hsz : octV t (p + 124) 11 0 ≤ 400 := by
              unfold hdB soB at hh
              simp only [Bool.and_eq_true, decide_eq_true_eq] at hh
              have := hh.2.2.2.2.2.2.2.2
              split at this <;> omega
            have st92 : ∀ db : Bool, db = decide (gt t (p + 156) = 53) → RD (f_X1_takeIn_92 N s (f_X1_takeIn_4 N s n) c (nI p) (nI k) (bI db)) c s (S0 s) (if nameB (spl t p db) = true ∧ p + 512 + upTo (octV t (p + 124) 11 0) 512 ≤ t.length ∧ mayB ms (spl t p db) db = true then rd0 t d (p + 512 + upTo (octV t (p + 124) 11 0) 512) (comeM ms (spl t p db, (t.drop (p + 512)).take (octV t (p + 124) 11 0), db)) else none) := by
              intro db hdb
              unfold f_X1_takeIn_92
              rw [show nI p + 124 = nI (p + 124) from nI_add p 124, show (11 : Int32) = nI 11 from rfl, f_octal hN h (by omega) (by decide), bnd_some, lN_i, show (512 : Int32) = nI 512 from rfl, f_roundedUp (by omega) (by decide) (by decide), bnd_some]
              have hu := upTo_le (a := octV t (p + 124) 11 0) (b := 512) (by decide)
              obtain ⟨c5, e5, r5, f5⟩ := f_spell (d := db) hN h hl (p := p) (by omega)
              have h5 := h.fr f5 (by decide) (by decide)
              have s5 := hsh.fr f5 (fun o ho => by simp only [List.mem_cons, List.not_mem_nil, or_false] at ho; omega)
              rw [e5, bnd_some, nI_add, nI_add, nI_add]
              obtain ⟨c7, a1, a2, a3⟩ := f_isNamed (p := nI p) hN r5
              rw [a1, bnd_some]
              cases hnm : nameB (spl t p db) with
              | false =>
                rw [if_pos (show bI false = 0 from rfl), if_neg (by simp)]
                exact RD.no ⟨c7, rfl, a2⟩ rfl (S0_56 f5) s5 hs S0n9
              | true =>
                cases a3 hnm
                rw [if_neg (by decide)]
                obtain ⟨c9, g1, g2, g3⟩ := f_reaches (k := p + 512 + upTo (octV t (p + 124) 11 0) 512) h5 (by omega)
                rw [g1, bnd_some]
                by_cases q2 : p + 512 + upTo (octV t (p + 124) 11 0) 512 ≤ t.length
                · rw [decide_eq_true q2] at g1 g3 ⊢
                  cases g3 rfl
                  rw [if_neg (by decide)]
                  have nl : (spl t p db).length ≤ 90 := by
                    unfold nameB at hnm
                    simp only [Bool.and_eq_true, decide_eq_true_eq] at hnm
                    exact hnm.1.2
                  obtain ⟨c11, m1, m2, m3, mf⟩ := f_arrives (d := db) (p := nI p) (i := p + 512) (j := p + 512 + octV t (p + 124) 11 0) hN s5 hs r5 h5 (by decide) nl (by omega) (by omega) (by omega)
                  rw [m1, bnd_some]
                  have m2' : fr (S0 s) c5 c11 := m2.mono (fun o ho => by rcases List.mem_cons.mp ho with q | q <;> simp [S0, q])
                  cases hmy : mayB ms (spl t p db) db with
                  | false =>
                    rw [if_pos (show bI false = 0 from rfl), if_neg (by simp)]
                    exact RD.no ⟨c11, rfl, mf hmy⟩ rfl (S0_56 f5) s5 hs S0n9
                  | true =>
                    rw [if_neg (by decide), if_pos ⟨rfl, q2, rfl⟩]
                    obtain ⟨m4, m5⟩ := m3 hmy
                    rw [show p + 512 + octV t (p + 124) 11 0 - (p + 512) = octV t (p + 124) 11 0 by omega] at m4
                    rw [nI_1]
                    have ns : ∀ o, o < 37 → o ∉ shR s := fun o ho q => by rw [shR_mem] at q; omega
                    obtain ⟨c12, z1, z2, z3⟩ := ih n _ (k + 1) c11 _ (by omega) (by omega) (by omega) q2 (h5.fr m5 (ns _ (by decide)) (ns _ (by decide))) (r5.fr m5 (ns _ (by decide)) (ns _ (by decide))).nn m4
                    exact ⟨c12, z1, ((S0_56 f5).tr m2').tr z2, z3⟩
                · rw [decide_eq_false q2, if_pos (show bI false = 0 from rfl), if_neg (fun z => q2 z.2.1)]
                  exact RD.no ⟨c9, rfl, g2⟩ rfl (S0_56 f5) s5 hs S0n9
            by_cases q : gt t (p + 156) = 53
            · rw [if_pos (show nI (gt t (p + 156)) = 53 by rw [q]; rfl)]
              have := st92 true (decide_eq_true q).symm
              rw [decide_eq_true q]
              simpa [bI] using this
            · rw [if_neg (show ¬ nI (gt t (p + 156)) = 53 from fun z => q ((nI_eq (by omega) (show 53 < 2 ^ 31 by decide)).mp z))]
              have := st92 false (decide_eq_false q).symm
              rw [decide_eq_false q]
              simpa [bI] using this
  exact key 41 N 0 0 c ms (by omega) (by omega) (by omega) (by omega) h hl hsh
end
section
/-! PURE: the class reads kind 1 -/
noncomputable def hxD (x : Nat) : Nat := if 48 ≤ x ∧ x ≤ 57 then x - 48 else if 97 ≤ x ∧ x ≤ 102 then x - 87 else if 65 ≤ x ∧ x ≤ 70 then x - 55 else 99
noncomputable def hxI (x : Nat) : Int32 := if hxD x = 99 then -1 else nI (hxD x)
theorem f_digit {c : hS} {x : Nat} (hx : x < 256) : f_X4_digit c (nI x) = some (hxI x, c) := by
  have d34 : 57 < x ∨ x < 48 → 102 < x ∨ x < 97 → f_X4_digit_34 (nI x) c = some (hxI x, c) := by
    intro q1 q2
    unfold f_X4_digit_34
    by_cases e1 : x < 65
    · rw [if_pos (show nI x < 65 from nI_lt (b := 65) e1 (by decide))]
      have : hxD x = 99 := by unfold hxD; rw [if_neg (by omega), if_neg (by omega), if_neg (by omega)]
      unfold hxI
      rw [if_pos this]
    · rw [if_neg (show ¬ nI x < 65 from nI_nlt (b := 65) (by omega) (by omega))]
      by_cases e2 : 70 < x
      · rw [if_pos (show (70 : Int32) < nI x from nI_lt (a := 70) e2 (by omega))]
        have : hxD x = 99 := by unfold hxD; rw [if_neg (by omega), if_neg (by omega), if_neg (by omega)]
        unfold hxI
        rw [if_pos this]
      · rw [if_neg (show ¬ (70 : Int32) < nI x from nI_nlt (a := 70) (by omega) (by decide)), show (55 : Int32) = nI 55 from rfl, subI (by omega)]
        have : hxD x = x - 55 := by unfold hxD; rw [if_neg (by omega), if_neg (by omega), if_pos (by omega)]
        unfold hxI
        rw [this, if_neg (by omega)]
  have d17 : 57 < x ∨ x < 48 → f_X4_digit_17 (nI x) c = some (hxI x, c) := by
    intro q1
    unfold f_X4_digit_17
    by_cases e1 : x < 97
    · rw [if_pos (show nI x < 97 from nI_lt (b := 97) e1 (by decide))]; exact d34 q1 (Or.inr e1)
    · rw [if_neg (show ¬ nI x < 97 from nI_nlt (b := 97) (by omega) (by omega))]
      by_cases e2 : 102 < x
      · rw [if_pos (show (102 : Int32) < nI x from nI_lt (a := 102) e2 (by omega))]; exact d34 q1 (Or.inl e2)
      · rw [if_neg (show ¬ (102 : Int32) < nI x from nI_nlt (a := 102) (by omega) (by decide)), show (87 : Int32) = nI 87 from rfl, subI (by omega)]
        have : hxD x = x - 87 := by unfold hxD; rw [if_neg (by omega), if_pos (by omega)]
        unfold hxI
        rw [this, if_neg (by omega)]
  unfold f_X4_digit
  by_cases e1 : x < 48
  · rw [if_pos (show nI x < 48 from nI_lt (b := 48) e1 (by decide))]; exact d17 (Or.inr e1)
  · rw [if_neg (show ¬ nI x < 48 from nI_nlt (b := 48) (by omega) (by omega))]
    by_cases e2 : 57 < x
    · rw [if_pos (show (57 : Int32) < nI x from nI_lt (a := 57) e2 (by omega))]; exact d17 (Or.inl e2)
    · rw [if_neg (show ¬ (57 : Int32) < nI x from nI_nlt (a := 57) (by omega) (by decide)), show (48 : Int32) = nI 48 from rfl, subI (by omega)]
      have : hxD x = x - 48 := by unfold hxD; rw [if_pos (by omega)]
      unfold hxI
      rw [this, if_neg (by omega)]
theorem hxD_lt (x : Nat) : hxD x < 16 ∨ hxD x = 99 := by
  unfold hxD
  split
  · omega
  · split
    · omega
    · split <;> omega
theorem hxI_neg {x : Nat} : (hxI x = -1) ↔ hxD x = 99 := by
  unfold hxI
  constructor
  · intro h
    split at h
    · assumption
    · rename_i q
      have h2 := (hxD_lt x).resolve_right q
      exact absurd h (fun z => by
        have := nI_pos (n := hxD x) (by omega)
        rw [z] at this
        exact this (by decide))
  · intro h
    rw [if_pos h]
/-- a digit's four bits -/
noncomputable def hx4 (x : Nat) : Nat := if hxD x = 99 then 15 else hxD x
theorem hx4_lt (x : Nat) : hx4 x < 16 := by
  unfold hx4
  have := hxD_lt x
  split <;> omega
theorem hxI_and (x : Nat) : hxI x &&& 15 = nI (hx4 x) := by
  unfold hxI hx4
  split
  · rfl
  · rw [and15]
    have := (hxD_lt x).resolve_right (by assumption)
    congr 1
    omega
noncomputable def hexV (t : List Nat) : Nat → Nat → Nat → Nat
  | _, 0, v => v
  | p, n + 1, v => hexV t (p + 1) n (v * 16 + hx4 (gt t p))
theorem hexV_lt {t : List Nat} : ∀ {n p v : Nat}, hexV t p n v < (v + 1) * 16 ^ n
  | 0, p, v => by simp [hexV]
  | n + 1, p, v => by
    have h1 := hexV_lt (t := t) (n := n) (p := p + 1) (v := v * 16 + hx4 (gt t p))
    have h2 := hx4_lt (gt t p)
    have h3 : (v * 16 + hx4 (gt t p) + 1) * 16 ^ n ≤ ((v + 1) * 16) * 16 ^ n := Nat.mul_le_mul_right _ (by omega)
    unfold hexV
    rw [Nat.pow_succ, show (v + 1) * (16 ^ n * 16) = (v + 1) * 16 * 16 ^ n by rw [Nat.mul_assoc, Nat.mul_comm 16]]
    omega
noncomputable def hex8 (t : List Nat) (p : Nat) : Nat := hexV t p 8 0
theorem hex8_lt (t : List Nat) (p : Nat) : hex8 t p < 2 ^ 32 := by
  have := hexV_lt (t := t) (n := 8) (p := p) (v := 0)
  unfold hex8
  omega
theorem f_number {N : Nat} {c : hS} {t : List Nat} {p : Nat} (hN : 1000000 ≤ N) (h : row c 3 t) (hp : p < 2 ^ 30) : f_X4_number N c (nI p) = some (lN (hex8 t p), c) := by
  have key : ∀ d n' k v, k + d = p + 8 → d < n' → v < 16 ^ (8 - d) → d ≤ 8 → f_X4_number_5 N (nI p) n' c (lN v) (nI k) = some (lN (hexV t k d v), c) := by
    intro d
    induction d with
    | zero =>
      intro n' k v hk hn' hv hdn
      obtain ⟨n', rfl⟩ : ∃ m, n' = m + 1 := ⟨n' - 1, by omega⟩
      rw [f_X4_number_5, show nI p + 8 = nI (p + 8) from nI_add p 8, if_pos (nI_le (by omega) (by omega))]
      rfl
    | succ d ih =>
      intro n' k v hk hn' hv hdn
      obtain ⟨n', rfl⟩ : ∃ m, n' = m + 1 := ⟨n' - 1, by omega⟩
      have bb := h.2.2.2.gt k
      have hm := hx4_lt (gt t k)
      have hv2 : v < 2 ^ 32 := Nat.lt_of_lt_of_le hv (by
        rw [show (2 : Nat) ^ 32 = 16 ^ 8 from rfl]
        exact Nat.pow_le_pow_right (by decide) (by omega))
      rw [f_X4_number_5, show nI p + 8 = nI (p + 8) from nI_add p 8, if_neg (nI_ge (by omega) (by omega)), f_get h (by omega), bnd_some, f_digit bb, bnd_some, hxI_and, show (4 : Int32) = nI 4 from rfl, lshl_lN v (by decide), nI_l (by omega), wb_or (by omega) (by omega), or_add (k := 4) (by omega), nI_1]
      unfold hexV
      refine ih n' (k + 1) (v * 16 + hx4 (gt t k)) (by omega) (by omega) ?_ (by omega)
      rw [show 8 - d = 8 - (d + 1) + 1 by omega, Nat.pow_succ]
      omega
  unfold f_X4_number
  rw [show (0 : Int64) = lN 0 from rfl]
  exact key 8 N p 0 rfl (by omega) (by decide) (by decide)
noncomputable def hexB (t : List Nat) (p n : Nat) : Bool := (List.range' p n).all fun i => decide (hxD (gt t i) ≠ 99)
noncomputable def h1B (t : List Nat) (p : Nat) : Bool := mkB t p mk1 && hexB t (p + 6) 104
theorem f_isHead1 {N : Nat} {c : hS} {t : List Nat} {p : Nat} (hN : 1000000 ≤ N) (h : row c 3 t) (hp : p < 2 ^ 29) : RB (f_X4_isHead N c (nI p)) c [9] (h1B t p) := by
  unfold f_X4_isHead h1B
  refine RB.and_ (f_isMarked (m := mk1) hN h (by omega) (by decide) (show byt mk1 from (by decide : ∀ x ∈ mk1, x < 256)) (by decide)) (fun _ => ?_)
  rw [show nI p + Int32.ofNat sa2.length = nI (p + 6) from nI_add p 6]
  refine all_loop (F := f_X4_isHead_21 N (nI p)) (c := c) (j := p + 110) (P := fun i => decide (hxD (gt t i) ≠ 99)) (fun n' k hk => ?_) (fun n' => ?_) 104 N (p + 6) (by omega) (by omega)
  · have bb := h.2.2.2.gt k
    rw [f_X4_isHead_21, show nI p + 110 = nI (p + 110) from nI_add p 110, if_neg (nI_ge hk (by omega)), f_get h (by omega), bnd_some, f_digit bb, bnd_some]
    constructor
    · intro q
      rw [if_neg (fun z => (of_decide_eq_true q) (hxI_neg.mp z))]
    · intro q
      have q2 : hxD (gt t k) = 99 := Classical.byContradiction (fun z => (of_decide_eq_false q) z)
      rw [if_pos (hxI_neg.mpr q2)]
      obtain ⟨c', a1, a2, _⟩ := RB.tellb (c := c) (a := 6) (p := nI k)
      exact ⟨c', a1, a2⟩
  · rw [f_X4_isHead_21, show nI p + 110 = nI (p + 110) from nI_add p 110, if_pos (nI_le (Nat.le_refl _) (by omega))]
/-- a name's length, the name -/
noncomputable def spB (t : List Nat) (p : Nat) : Bool := decide (1 ≤ hex8 t (p + 94)) && (decide (hex8 t (p + 94) ≤ 100) && (decide (p + 110 + hex8 t (p + 94) ≤ t.length) && decide (gt t (p + 110 + hex8 t (p + 94) - 1) = 0)))
noncomputable def nm1 (t : List Nat) (p : Nat) : List Nat := (t.drop (p + 110)).take (hex8 t (p + 94) - 1)
theorem cmp_lt {a b : Nat} (ha : a < 2 ^ 63) (hb : b < 2 ^ 63) : (j_cmp (lN a) (lN b) < 0) = (a < b) := by
  have h1 := cmp_le ha hb
  have h2 := cmp_eq ha hb
  apply propext
  constructor
  · intro q
    have q1 : a ≤ b := by rw [← h1]; exact Int32.le_of_lt q
    have q2 : a ≠ b := fun z => by rw [← h2] at z; rw [z] at q; exact absurd q (by decide)
    omega
  · intro q
    have q1 : j_cmp (lN a) (lN b) ≤ 0 := by rw [h1]; omega
    have q2 : ¬ j_cmp (lN a) (lN b) = 0 := by rw [h2]; omega
    exact Int32.lt_of_le_of_ne q1 q2
theorem f_isSpelt {N : Nat} {c : hS} {t : List Nat} {p : Nat} (hN : 1000000 ≤ N) (h : row c 3 t) (hl : 0 ≤ c.1 5 1) (hp : p < 2 ^ 29) : ∃ c', f_X4_isSpelt N c (nI p) = some (bI (spB t p), c') ∧ fr [9, 5, 6] c c' ∧ (spB t p = true → row c' 5 (nm1 t p) ∧ fr [5, 6] c c') := by
  have hv := hex8_lt t (p + 94)
  have t9 : ∀ {a : hS}, fr [9] c a → fr [9, 5, 6] c a := fun q => q.mono (fun o ho => by simp at ho ⊢; omega)
  have tl : ∀ (b : Bool) (f q : Int32), b = false → ∃ c', (bnd (f_X6_tell c f q) fun x1 c2 => bif j_b x1 then some (x1, c2) else none) = some (bI b, c') ∧ fr [9, 5, 6] c c' ∧ (b = true → row c' 5 (nm1 t p) ∧ fr [5, 6] c c') := by
    intro b f q hb
    subst hb
    obtain ⟨c', a1, a2, _⟩ := RB.tellb (c := c) (a := f) (p := q)
    exact ⟨c', a1, t9 a2, fun z => by cases z⟩
  unfold f_X4_isSpelt
  rw [show nI p + 94 = nI (p + 94) from nI_add p 94, f_number hN h (by omega), bnd_some, show (1 : Int64) = lN 1 from rfl, show (100 : Int64) = lN 100 from rfl, show nI p + 110 = nI (p + 110) from nI_add p 110, lN_i]
  unfold spB nm1
  by_cases e1 : 1 ≤ hex8 t (p + 94)
  · rw [if_neg (by rw [cmp_lt (by omega) (by decide)]; omega), decide_eq_true e1, Bool.true_and]
    by_cases e2 : hex8 t (p + 94) ≤ 100
    · rw [if_pos (by rw [cmp_le (by omega) (by decide)]; exact e2), decide_eq_true e2, Bool.true_and, nI_add, show nI (p + 110 + hex8 t (p + 94)) - 1 = nI (p + 110 + hex8 t (p + 94) - 1) from subI (b := 1) (by omega), nI_1, show p + 110 + hex8 t (p + 94) - 1 + 1 = p + 110 + hex8 t (p + 94) by omega]
      obtain ⟨c4, g1, g2, g3⟩ := f_reaches (k := p + 110 + hex8 t (p + 94)) h (by omega)
      rw [g1, bnd_some]
      by_cases e3 : p + 110 + hex8 t (p + 94) ≤ t.length
      · rw [decide_eq_true e3] at g3 ⊢
        cases g3 rfl
        have bb := h.2.2.2.gt (p + 110 + hex8 t (p + 94) - 1)
        rw [if_neg (by decide), f_get h (by omega), bnd_some, Bool.true_and]
        by_cases e4 : gt t (p + 110 + hex8 t (p + 94) - 1) = 0
        · rw [e4, if_pos nI_0]
          obtain ⟨c7, a1, a2, a3⟩ := f_cutN hl
          rw [a1, bnd_some]
          obtain ⟨c8, b1, b2, b3⟩ := f_addPart (b := 5) (f := 3) (i := p + 110) (j := p + 110 + hex8 t (p + 94) - 1) hN a2 (h.fr a3 (by decide) (by decide)) (by decide) (by decide) (by decide) (by omega) (by omega) (show ([] : List Nat).length + _ ≤ 256 by simp; omega)
          rw [b1, bnd_some]
          have f56 : fr [5, 6] c c8 := (a3.mono (fun o ho => by simp at ho ⊢; omega)).tr b3
          rw [List.nil_append, show p + 110 + hex8 t (p + 94) - 1 - (p + 110) = hex8 t (p + 94) - 1 by omega] at b2
          exact ⟨c8, rfl, f56.mono (fun o ho => by simp at ho ⊢; omega), fun _ => ⟨b2, f56⟩⟩
        · rw [if_neg (nI_ne0 (by omega) (by omega))]
          exact tl _ _ _ (decide_eq_false e4)
      · rw [decide_eq_false e3, if_pos (show bI false = 0 from rfl)]
        exact ⟨c4, rfl, t9 g2, fun z => by cases z⟩
    · rw [if_neg (by rw [cmp_le (by omega) (by decide)]; exact e2)]
      exact tl _ _ _ (by rw [decide_eq_false e2]; rfl)
  · rw [if_pos (by rw [cmp_lt (by omega) (by decide)]; omega)]
    exact tl _ _ _ (by rw [decide_eq_false e1]; rfl)
theorem f_isSized {N : Nat} {c : hS} {t : List Nat} {p k : Nat} (hN : 1000000 ≤ N) (h : row c 3 t) (hp : p < 2 ^ 29) (hk : k < 1000) : RB (f_X4_isSized N c (nI p) (nI k)) c [9] (decide (hex8 t (p + 54) ≤ k)) := by
  have hv := hex8_lt t (p + 54)
  unfold f_X4_isSized
  rw [show nI p + 54 = nI (p + 54) from nI_add p 54, f_number hN h (by omega), bnd_some, nI_l (by omega)]
  by_cases e : hex8 t (p + 54) ≤ k
  · rw [if_pos (by rw [cmp_le (by omega) (by omega)]; exact e), decide_eq_true e]; exact RB.yes
  · rw [if_neg (by rw [cmp_le (by omega) (by omega)]; exact e), decide_eq_false e]; exact RB.last_ RB.tell
noncomputable def so1 (t : List Nat) (p : Nat) : Nat := hex8 t (p + 14) / 4096 % 16
theorem f_sortBits {c : hS} {v : Nat} (hv : v < 2 ^ 63) : f_X4_sortBits c (lN v) = some (nI (v / 4096 % 16), c) := by
  unfold f_X4_sortBits
  rw [show (12 : Int32) = nI 12 from rfl, lushr_lN (by omega) (by decide), show (15 : Int64) = lN (2 ^ 4 - 1) from rfl, wb_mask (Nat.lt_of_le_of_lt (Nat.div_le_self _ _) (by omega)) (by decide), lN_i]
theorem f_sortOf {N : Nat} {c : hS} {t : List Nat} {p : Nat} (hN : 1000000 ≤ N) (h : row c 3 t) (hp : p < 2 ^ 29) : f_X4_sortOf N c (nI p) = some (nI (so1 t p), c) := by
  have hv := hex8_lt t (p + 14)
  unfold f_X4_sortOf
  rw [show nI p + 14 = nI (p + 14) from nI_add p 14, f_number hN h (by omega), bnd_some, f_sortBits (by omega), bnd_some]
  rfl
theorem f_isDirectory1 {N : Nat} {c : hS} {t : List Nat} {p : Nat} (hN : 1000000 ≤ N) (h : row c 3 t) (hp : p < 2 ^ 29) : f_X4_isDirectory N c (nI p) = some (bI (decide (so1 t p = 4)), c) := by
  have hs : so1 t p < 16 := Nat.mod_lt _ (by decide)
  unfold f_X4_isDirectory
  rw [f_sortOf hN h hp, bnd_some, show (16877 : Int64) = lN 16877 from rfl, f_sortBits (by decide), bnd_some, show 16877 / 4096 % 16 = 4 from rfl]
  by_cases e : so1 t p = 4
  · rw [e, if_pos rfl]; rfl
  · rw [if_neg (fun z => e ((nI_eq (by omega) (by decide)).mp z)), decide_eq_false e]; rfl
noncomputable def meB (t : List Nat) (p : Nat) (nm : List Nat) : Bool := (decide (so1 t p = 8) || decide (so1 t p = 4)) && (decide (hex8 t (p + 102) = 0) && (decide (hex8 t (p + 54) ≤ if so1 t p = 4 then 0 else 400) && nameB nm))
theorem f_isMember1 {N : Nat} {c : hS} {t nm : List Nat} {p : Nat} (hN : 1000000 ≤ N) (h : row c 3 t) (hnm : row c 5 nm) (hp : p < 2 ^ 29) : RB (f_X4_isMember N c (nI p)) c [9] (meB t p nm) := by
  have hs : so1 t p < 16 := Nat.mod_lt _ (by decide)
  have hv := hex8_lt t (p + 102)
  have m83 : ∀ k, k < 1000 → RB (f_X4_isMember_83 N (nI p) c (nI k) (nI p)) c [9] (decide (hex8 t (p + 54) ≤ k) && nameB nm) := by
    intro k hk
    unfold f_X4_isMember_83
    exact RB.and_ (f_isSized hN h hp hk) (fun _ => RB.last_ (f_isNamed hN hnm))
  have m40 : RB (f_X4_isMember_40 N (nI p) c) c [9] (decide (hex8 t (p + 102) = 0) && (decide (hex8 t (p + 54) ≤ if so1 t p = 4 then 0 else 400) && nameB nm)) := by
    unfold f_X4_isMember_40
    rw [show nI p + 102 = nI (p + 102) from nI_add p 102, f_number hN h (by omega), bnd_some, show (0 : Int64) = lN 0 from rfl]
    by_cases e : hex8 t (p + 102) = 0
    · rw [if_pos (by rw [cmp_eq (by omega) (by decide)]; exact e), decide_eq_true e, Bool.true_and, f_isDirectory1 hN h hp, bnd_some]
      by_cases e2 : so1 t p = 4
      · rw [decide_eq_true e2, if_neg (by decide), if_pos e2]; exact m83 0 (by decide)
      · rw [decide_eq_false e2, if_pos (show bI false = 0 from rfl), if_neg e2]; exact m83 400 (by decide)
    · rw [if_neg (by rw [cmp_eq (by omega) (by decide)]; exact e), decide_eq_false e]; exact RB.tellb
  unfold f_X4_isMember meB
  rw [f_sortOf hN h hp, bnd_some, show (33188 : Int64) = lN 33188 from rfl, f_sortBits (by decide), bnd_some, show 33188 / 4096 % 16 = 8 from rfl]
  by_cases e : so1 t p = 8
  · rw [if_pos (by rw [e]), decide_eq_true e, Bool.true_or, Bool.true_and]; exact m40
  · rw [if_neg (fun z => e ((nI_eq (by omega) (by decide)).mp z)), decide_eq_false e, Bool.false_or, show (16877 : Int64) = lN 16877 from rfl, f_sortBits (by decide), bnd_some, show 16877 / 4096 % 16 = 4 from rfl]
    by_cases e2 : so1 t p = 4
    · rw [if_pos (by rw [e2]), decide_eq_true e2, Bool.true_and]; exact m40
    · rw [if_neg (fun z => e2 ((nI_eq (by omega) (by decide)).mp z)), decide_eq_false e2]; exact RB.tellb
/-- the members that kind 1 tells -/
noncomputable def beg1 (t : List Nat) (p : Nat) : Nat := upTo (p + 110 + (nm1 t p).length + 1) 4
noncomputable def beh1 (t : List Nat) (p : Nat) : Nat := upTo (beg1 t p + hex8 t (p + 54)) 4
noncomputable def rd1 (t : List Nat) : Nat → Nat → List Mb → Option (List Mb)
  | 0, _, _ => none
  | n + 1, p, ms => if t.length < p + 110 then none else if ¬ (h1B t p = true ∧ spB t p = true) then none else if nm1 t p = trl then (if hex8 t (p + 54) ≤ 0 ∧ zerB t (p + 110 + (nm1 t p).length + 1) = true then some ms else none) else if meB t p (nm1 t p) = true ∧ beh1 t p ≤ t.length ∧ mayB ms (nm1 t p) (decide (so1 t p = 4)) = true then rd1 t n (beh1 t p) (comeM ms (nm1 t p, (t.drop (beg1 t p)).take (hex8 t (p + 54)), decide (so1 t p = 4))) else none
theorem f_takeIn1 {N : Nat} {c : hS} {s : Nat} {t : List Nat} {ms : List Mb} (hN : 1000000 ≤ N) (h : row c 3 t) (hl : 0 ≤ c.1 5 1) (hsh : shf c s ms) (hs : s = 37 ∨ s = 119) : RD (f_X4_takeIn N c s) c s (S0 s) (rd1 t 190 0 ms) := by
  have hln : t.length ≤ 20000 := h.1
  have tell180 : ∀ c1, row c1 3 t → ∃ c', f_X4_takeIn_180 N s c1 = some (bI false, c') ∧ fr [9] c1 c' := by
    intro c1 h1
    unfold f_X4_takeIn_180
    rw [f_size h1, bnd_some]
    obtain ⟨c', a1, a2, _⟩ := RB.tellb (c := c1) (a := 1) (p := nI t.length)
    exact ⟨c', a1, a2⟩
  have key : ∀ d n p k c ms, t.length < p + 110 * d → d < n → 110 * k ≤ p → p ≤ t.length → row c 3 t → 0 ≤ c.1 5 1 → shf c s ms → RD (f_X4_takeIn_4 N s n c (nI p) (nI k)) c s (S0 s) (rd1 t d p ms) := by
    intro d
    induction d with
    | zero => intro n p k c ms h1 _ _ h2; omega
    | succ d ih =>
      intro n p k c ms hpd hn hk hp h hl hsh
      obtain ⟨n, rfl⟩ : ∃ m, n = m + 1 := ⟨n - 1, by omega⟩
      rw [f_X4_takeIn_4, if_neg (show ¬ (20000 : Int32) ≤ nI k from nI_ge (b := 20000) (by omega) (by decide)), f_size h, bnd_some, show nI p + 110 = nI (p + 110) from nI_add p 110]
      unfold rd1
      by_cases e1 : t.length < p + 110
      · rw [if_pos (nI_lt e1 (by omega)), if_pos e1]
        exact RD.no (tell180 c h) rfl fr.rf hsh hs S0n9
      · rw [if_neg (nI_nlt (by omega) h.lt), if_neg e1]
        obtain ⟨c4, b1, b2, b3⟩ := f_isHead1 hN h (p := p) (by omega)
        rw [b1, bnd_some]
        cases hh : h1B t p with
        | false =>
          rw [if_pos (show bI false = 0 from rfl), if_pos (by simp)]
          exact RD.no ⟨c4, rfl, b2⟩ rfl fr.rf hsh hs S0n9
        | true =>
          cases b3 hh
          rw [if_neg (by decide)]
          obtain ⟨c6, g1, g2, g3⟩ := f_isSpelt hN h hl (p := p) (by omega)
          have g2' : fr (S0 s) c c6 := g2.mono (fun o ho => by simp at ho; rcases ho with q | q | q <;> simp [S0, q])
          rw [g1, bnd_some]
          cases hsp : spB t p with
          | false =>
            rw [if_pos (show bI false = 0 from rfl), if_pos (by simp)]
            exact RD.no ⟨c6, rfl, g2⟩ rfl fr.rf hsh hs S0n956
          | true =>
            obtain ⟨g4, g5⟩ := g3 hsp
            have h6 := h.fr g5 (by decide) (by decide)
            have s6 := hsh.fr g5 (fun o ho => by simp only [List.mem_cons, List.not_mem_nil, or_false] at ho; omega)
            have hsp2 := hsp
            unfold spB at hsp2
            simp only [Bool.and_eq_true, decide_eq_true_eq] at hsp2
            obtain ⟨z1, z2, z3, z4⟩ := hsp2
            have nl : (nm1 t p).length = hex8 t (p + 94) - 1 := by unfold nm1; rw [List.length_take, List.length_drop]; omega
            have hu1 := upTo_le (a := p + 110 + (nm1 t p).length + 1) (b := 4) (by decide)
            rw [if_neg (by decide), if_neg (by simp), f_size g4, bnd_some, f_isText hN g4 (g := trl) (by decide) (show byt trl from (by decide : ∀ x ∈ trl, x < 256)) (by decide), bnd_some]
            rw [show nI (p + 110) + nI (nm1 t p).length + 1 = nI (p + 110 + (nm1 t p).length + 1) by rw [nI_add, nI_1]]
            by_cases etr : nm1 t p = trl
            · rw [decide_eq_true etr, if_neg (by decide), if_pos etr]
              obtain ⟨c', a1, a2, a3⟩ := RB.and_ (B := fun c26 => bnd (f_X0_isZeroFrom N c26 (nI (p + 110 + (nm1 t p).length + 1))) fun x27 c28 => if x27 = 0 then some (0, c28) else some (1, c28)) (f_isSized (k := 0) hN h6 (p := p) (by omega) (by decide)) (fun _ => RB.last_ (f_isZeroFrom hN h6 (p := p + 110 + (nm1 t p).length + 1) (by omega)))
              by_cases q : hex8 t (p + 54) ≤ 0 ∧ zerB t (p + 110 + (nm1 t p).length + 1) = true
              · rw [decide_eq_true q.1, q.2] at a1 a3
                cases a3 rfl
                rw [if_pos q]
                exact ⟨c6, a1, g2', ⟨_, s6⟩, fun ms' e => by cases e; exact s6⟩
              · rw [if_neg q]
                refine RD.no ⟨c', a1, a2⟩ ?_ g2' s6 hs S0n9
                cases hz : zerB t (p + 110 + (nm1 t p).length + 1) with
                | false => rw [Bool.and_false]
                | true => rw [decide_eq_false (fun z => q ⟨z, hz⟩)]; rfl
            · rw [decide_eq_false etr, if_pos (show bI false = 0 from rfl), if_neg etr]
              obtain ⟨c12, a1, a2, a3⟩ := f_isMember1 hN h6 g4 (p := p) (by omega)
              rw [a1, bnd_some]
              cases hme : meB t p (nm1 t p) with
              | false =>
                rw [if_pos (show bI false = 0 from rfl), if_neg (by simp)]
                exact RD.no ⟨c12, rfl, a2⟩ rfl g2' s6 hs S0n9
              | true =>
                cases a3 hme
                have hme2 := hme
                unfold meB at hme2
                simp only [Bool.and_eq_true, decide_eq_true_eq] at hme2
                obtain ⟨y1, y2, y3, y4⟩ := hme2
                have hsz : hex8 t (p + 54) ≤ 400 := by split at y3 <;> omega
                have hu2 := upTo_le (a := beg1 t p + hex8 t (p + 54)) (b := 4) (by decide)
                rw [if_neg (by decide), show (4 : Int32) = nI 4 from rfl, f_roundedUp (by omega) (by decide) (by decide), bnd_some, show nI p + 54 = nI (p + 54) from nI_add p 54, f_number hN h6 (by omega), bnd_some, lN_i, nI_add]
                rw [show upTo (p + 110 + (nm1 t p).length + 1) 4 = beg1 t p from rfl] at hu1 ⊢
                rw [f_roundedUp (by omega) (by decide) (by decide), bnd_some]
                rw [show upTo (beg1 t p + hex8 t (p + 54)) 4 = beh1 t p from rfl] at hu2 ⊢
                obtain ⟨c20, r1, r2, r3⟩ := f_reaches (k := beh1 t p) h6 (by omega)
                rw [r1, bnd_some]
                by_cases q2 : beh1 t p ≤ t.length
                · rw [decide_eq_true q2] at r3 ⊢
                  cases r3 rfl
                  rw [if_neg (by decide), f_isDirectory1 hN h6 (by omega), bnd_some]
                  have nl90 : (nm1 t p).length ≤ 90 := by
                    unfold nameB at y4
                    simp only [Bool.and_eq_true, decide_eq_true_eq] at y4
                    exact y4.1.2
                  obtain ⟨c24, m1, m2, m3, mf⟩ := f_arrives (d := decide (so1 t p = 4)) (p := nI p) (i := beg1 t p) (j := beg1 t p + hex8 t (p + 54)) hN s6 hs g4 h6 (by decide) nl90 (by omega) (by omega) (by omega)
                  rw [m1, bnd_some]
                  have m2' : fr (S0 s) c6 c24 := m2.mono (fun o ho => by rcases List.mem_cons.mp ho with q | q <;> simp [S0, q])
                  cases hmy : mayB ms (nm1 t p) (decide (so1 t p = 4)) with
                  | false =>
                    rw [if_pos (show bI false = 0 from rfl), if_neg (by simp)]
                    exact RD.no ⟨c24, rfl, mf hmy⟩ rfl g2' s6 hs S0n9
                  | true =>
                    rw [if_neg (by decide), if_pos ⟨rfl, q2, rfl⟩]
                    obtain ⟨m4, m5⟩ := m3 hmy
                    rw [show beg1 t p + hex8 t (p + 54) - beg1 t p = hex8 t (p + 54) by omega] at m4
                    rw [nI_1]
                    have ns : ∀ o, o < 37 → o ∉ shR s := fun o ho q => by rw [shR_mem] at q; omega
                    obtain ⟨c25, w1, w2, w3⟩ := ih n _ (k + 1) c24 _ (by omega) (by omega) (by omega) q2 (h6.fr m5 (ns _ (by decide)) (ns _ (by decide))) (g4.fr m5 (ns _ (by decide)) (ns _ (by decide))).nn m4
                    exact ⟨c25, w1, (g2'.tr m2').tr w2, w3⟩
                · rw [decide_eq_false q2, if_pos (show bI false = 0 from rfl), if_neg (fun z => q2 z.2.1)]
                  exact RD.no ⟨c20, rfl, r2⟩ rfl g2' s6 hs S0n9
  exact key 190 N 0 0 c ms (by omega) (by omega) (by omega) (by omega) h hl hsh
end
section
/-! PURE: codes for lengths -/
/-- the symbols below i whose length is l -/
noncomputable def idxN (lens : List Nat) (l i : Nat) : List Nat := (List.range i).filter fun k => decide (gt lens k = l)
noncomputable def cntN (lens : List Nat) (l i : Nat) : Nat := (idxN lens l i).length
noncomputable def cnt (lens : List Nat) (l : Nat) : Nat := cntN lens l lens.length
noncomputable def sy (lens : List Nat) (l k : Nat) : Nat := gt (idxN lens l lens.length) k
/-- codes of lengths below l -/
noncomputable def off (lens : List Nat) : Nat → Nat
  | 0 => 0
  | 1 => 0
  | l + 2 => off lens (l + 1) + cnt lens (l + 1)
noncomputable def mxN (lens : List Nat) : Nat → Nat
  | 0 => 0
  | l + 1 => if 0 < cnt lens (l + 1) then l + 1 else mxN lens l
theorem idxN_s (lens : List Nat) (l i : Nat) : idxN lens l (i + 1) = idxN lens l i ++ (if gt lens i = l then [i] else []) := by
  unfold idxN
  rw [List.range_succ, List.filter_append]
  congr 1
  by_cases e : gt lens i = l
  · rw [if_pos e, List.filter_cons_of_pos (by simpa using e)]; rfl
  · rw [if_neg e, List.filter_cons_of_neg (by simpa using e)]; rfl
theorem cntN_s (lens : List Nat) (l i : Nat) : cntN lens l (i + 1) = cntN lens l i + (if gt lens i = l then 1 else 0) := by
  unfold cntN
  rw [idxN_s, List.length_append]
  split <;> rfl
theorem cntN_le (lens : List Nat) (l i : Nat) : cntN lens l i ≤ i := by
  unfold cntN idxN
  exact Nat.le_trans (List.length_filter_le _ _) (by simp)
theorem cntN_mono (lens : List Nat) (l : Nat) {i j : Nat} (h : i ≤ j) : cntN lens l i ≤ cntN lens l j := by
  induction h with
  | refl => exact Nat.le_refl _
  | step _ ih => rw [cntN_s]; omega
theorem sy_at {lens : List Nat} {l i : Nat} (hi : i < lens.length) (h : gt lens i = l) : sy lens l (cntN lens l i) = i := by
  have key : ∀ d, i + 1 + d ≤ lens.length → gt (idxN lens l (i + 1 + d)) (cntN lens l i) = i := by
    intro d
    induction d with
    | zero =>
      intro _
      unfold cntN
      rw [Nat.add_zero, idxN_s, if_pos h, gt_app_r (Nat.le_refl _), Nat.sub_self]
      rfl
    | succ d ih =>
      intro hd
      rw [show i + 1 + (d + 1) = i + 1 + d + 1 by omega, idxN_s]
      have h1 := ih (by omega)
      have h2 : cntN lens l i < (idxN lens l (i + 1 + d)).length := by
        have a1 := cntN_s lens l i
        rw [if_pos h] at a1
        have a2 := cntN_mono lens l (show i + 1 ≤ i + 1 + d by omega)
        have a3 : (idxN lens l (i + 1 + d)).length = cntN lens l (i + 1 + d) := rfl
        omega
      rw [gt_app_l h2]
      exact h1
  have := key (lens.length - (i + 1)) (by omega)
  unfold sy
  rwa [show i + 1 + (lens.length - (i + 1)) = lens.length by omega] at this
theorem off_s {lens : List Nat} {l : Nat} (h : 1 ≤ l) : off lens (l + 1) = off lens l + cnt lens l := by
  obtain ⟨k, rfl⟩ : ∃ k, l = k + 1 := ⟨l - 1, by omega⟩
  rfl
/-- all lengths of 1 .. l together -/
theorem off_le (lens : List Nat) : ∀ l, off lens (l + 1) ≤ lens.length := by
  have key : ∀ i l, (List.range l).foldr (fun k a => cntN lens (k + 1) i + a) 0 ≤ i := by
    intro i
    induction i with
    | zero =>
      intro l
      have : ∀ L : List Nat, L.foldr (fun k a => cntN lens (k + 1) 0 + a) 0 = 0 := by
        intro L
        induction L with
        | nil => rfl
        | cons x r ih => rw [List.foldr_cons, ih]; rfl
      rw [this]
      exact Nat.le_refl _
    | succ i ih =>
      intro l
      have st : ∀ L : List Nat, L.Nodup → L.foldr (fun k a => cntN lens (k + 1) (i + 1) + a) 0 ≤ L.foldr (fun k a => cntN lens (k + 1) i + a) 0 + (if gt lens i - 1 ∈ L then 1 else 0) := by
        intro L
        induction L with
        | nil => intro _; simp
        | cons x r ih2 =>
          intro hn
          rw [List.foldr_cons, List.foldr_cons, cntN_s]
          have hn2 := List.nodup_cons.mp hn
          have h3 := ih2 hn2.2
          by_cases e : gt lens i = x + 1
          · rw [if_pos e]
            have : gt lens i - 1 = x := by omega
            rw [this] at h3 ⊢
            rw [if_neg hn2.1] at h3
            rw [if_pos List.mem_cons_self]
            omega
          · rw [if_neg e]
            have : (if gt lens i - 1 ∈ r then 1 else 0) ≤ (if gt lens i - 1 ∈ x :: r then 1 else 0) := by
              by_cases q : gt lens i - 1 ∈ r
              · rw [if_pos q, if_pos (List.mem_cons_of_mem _ q)]; exact Nat.le_refl _
              · rw [if_neg q]; exact Nat.zero_le _
            omega
      have h1 := st (List.range l) List.nodup_range
      have h2 := ih l
      split at h1 <;> omega
  have eq : ∀ l, off lens (l + 1) = (List.range l).foldr (fun k a => cnt lens (k + 1) + a) 0 := by
    intro l
    induction l with
    | zero => rfl
    | succ l ih =>
      rw [off_s (by omega), ih, List.range_succ]
      have : ∀ (L : List Nat) (b : Nat), (L ++ [b]).foldr (fun k a => cnt lens (k + 1) + a) 0 = L.foldr (fun k a => cnt lens (k + 1) + a) 0 + cnt lens (b + 1) := by
        intro L b
        induction L with
        | nil => simp
        | cons x r ih2 => rw [List.cons_append, List.foldr_cons, List.foldr_cons, ih2]; omega
      rw [this]
  intro l
  rw [eq]
  exact key lens.length l
theorem off_mono {lens : List Nat} {a b : Nat} (h : a ≤ b) (ha : 1 ≤ a) : off lens a ≤ off lens b := by
  induction h with
  | refl => exact Nat.le_refl _
  | @step m hm ih =>
    have : 1 ≤ m := Nat.le_trans ha hm
    rw [Nat.succ_eq_add_one, off_s this]; omega
/-- the object d holds the codes for these lengths -/
noncomputable def cdC (c : hS) (d : Nat) (lens : List Nat) : Prop := lens.length ≤ ln (d + 3) ∧ (∀ l, 1 ≤ l → l < 16 → c.1 (d + 1) l = nI (cnt lens l)) ∧ c.1 d 3 = nI (off lens 16) ∧ c.1 d 4 = nI (mxN lens 15) ∧ (∀ l k, 1 ≤ l → l < 16 → k < cnt lens l → c.1 (d + 3) (off lens l + k) = nI (sy lens l k))
theorem cdC.fr {S : List Nat} {c c1 : hS} {d : Nat} {lens : List Nat} (h : cdC c d lens) (hf : fr S c c1) (h0 : d ∉ S) (h1 : d + 1 ∉ S) (h3 : d + 3 ∉ S) : cdC c1 d lens := ⟨h.1, fun l a b => (hf.i h1 l).trans (h.2.1 l a b), (hf.i h0 3).trans h.2.2.1, (hf.i h0 4).trans h.2.2.2.1, fun l k a b e => (hf.i h3 _).trans (h.2.2.2.2 l k a b e)⟩
/-- lengths in the class's row, from a place on -/
noncomputable def lnR (c : hS) (a : Nat) (lens : List Nat) : Prop := a + lens.length ≤ 320 ∧ ∀ i, i < lens.length → c.1 32 (a + i) = nI (gt lens i) ∧ gt lens i < 16
noncomputable def isCd (d : Nat) : Prop := d = 12 ∨ d = 16 ∨ d = 20 ∨ d = 24 ∨ d = 28
theorem isCd.l1 {d : Nat} (h : isCd d) : ln (d + 1) = 16 := by rcases h with rfl | rfl | rfl | rfl | rfl <;> rfl
theorem isCd.l2 {d : Nat} (h : isCd d) : ln (d + 2) = 16 := by rcases h with rfl | rfl | rfl | rfl | rfl <;> rfl
theorem f_order {N : Nat} {c : hS} {d a : Nat} {lens : List Nat} (hN : 1000000 ≤ N) (hd : isCd d) (hl : lnR c a lens) (hc : lens.length ≤ ln (d + 3)) : ∃ c', f_X3_order N c d (nI a) (nI lens.length) = some ((), c') ∧ cdC c' d lens ∧ fr [d, d + 1, d + 2, d + 3] c c' := by
  have hd11 : 11 < d := by rcases hd with rfl | rfl | rfl | rfl | rfl <;> decide
  have l1 := hd.l1
  have l2 := hd.l2
  have h31 := ln_lt (d + 3)
  have hlen := hl.1
  have hd32 : d + 3 < 32 := by rcases hd with rfl | rfl | rfl | rfl | rfl <;> decide
  have lnR' : ∀ {c' : hS}, fr [d, d + 1, d + 2, d + 3] c c' → ∀ i, i < lens.length → c'.1 32 (a + i) = nI (gt lens i) := fun hf i hi => (hf.i (by simp only [List.mem_cons, List.not_mem_nil, or_false]; omega) _).trans (hl.2 i hi).1
  -- the amounts are cleared
  have clr : ∀ e n k c0, k + e = 16 → e < n → fr [d, d + 1, d + 2, d + 3] c c0 → (∀ l, l < k → c0.1 (d + 1) l = 0) → ∃ c1, f_X3_order_3 N d (nI a) (nI lens.length) n c0 (nI k) = f_X3_order_54 N d (nI a) (nI lens.length) N c1 (nI (a + lens.length)) (nI a) ∧ fr [d, d + 1, d + 2, d + 3] c c1 ∧ ∀ l, l < 16 → c1.1 (d + 1) l = 0 := by
    intro e
    induction e with
    | zero =>
      intro n k c0 hk hn hf h0
      obtain ⟨n, rfl⟩ : ∃ m, n = m + 1 := ⟨n - 1, by omega⟩
      have : k = 16 := by omega
      subst this
      refine ⟨c0, ?_, hf, h0⟩
      have m1 : j_min (nI a + nI lens.length) (nI a + Int32.ofNat (ln (d + 3))) = nI (a + lens.length) := by
        unfold j_min
        rw [ofNat_nI, nI_add, nI_add, if_neg (nI_nlt (by omega) (by have := ln_le (d + 3); omega))]
      have m2 : j_min (nI (a + lens.length)) (Int32.ofNat (ln 32)) = nI (a + lens.length) := by
        unfold j_min
        rw [show Int32.ofNat (ln 32) = nI 320 from rfl, if_neg (nI_nlt (by omega) (by decide))]
      have m3 : j_max (nI a) 0 = nI a := by
        unfold j_max
        rw [if_neg (nI_pos (by omega))]
      rw [f_X3_order_3, ofNat_nI, l1, if_pos (nI_le (Nat.le_refl _) (by decide)), m1, m2, m3]
    | succ e ih =>
      intro n k c0 hk hn hf h0
      obtain ⟨n, rfl⟩ : ∃ m, n = m + 1 := ⟨n - 1, by omega⟩
      rw [f_X3_order_3, ofNat_nI, l1, if_neg (nI_ge (by omega) (by decide)), j_in_nI (by omega) (by decide), cond_true, nI_clamp (by omega), nI_1]
      dsimp only [st1]
      refine ih n (k + 1) _ (by omega) (by omega) (hf.tr (fr.sI (by simp))) (fun l hlk => ?_)
      by_cases q : l = k
      · subst q; exact sI_s _ _ _ _
      · rw [sI_j q]; exact h0 l (by omega)
  -- they are counted
  have cou : ∀ e n i c0, i + e = lens.length → e < n → fr [d, d + 1, d + 2, d + 3] c c0 → (∀ l, 1 ≤ l → l < 16 → c0.1 (d + 1) l = nI (cntN lens l i)) → ∃ c1, f_X3_order_54 N d (nI a) (nI lens.length) n c0 (nI (a + lens.length)) (nI (a + i)) = bnd (f_X3_placeLengths N c1 d) (fun _ c2 => f_X3_order_110 N d (nI a) (nI lens.length) N c2 (nI (a + lens.length)) (nI a)) ∧ fr [d, d + 1, d + 2, d + 3] c c1 ∧ ∀ l, 1 ≤ l → l < 16 → c1.1 (d + 1) l = nI (cnt lens l) := by
    intro e
    induction e with
    | zero =>
      intro n i c0 hi hn hf h0
      obtain ⟨n, rfl⟩ : ∃ m, n = m + 1 := ⟨n - 1, by omega⟩
      have : i = lens.length := by omega
      subst this
      refine ⟨c0, ?_, hf, h0⟩
      rw [f_X3_order_54, if_pos (nI_le (Nat.le_refl _) (by omega)), show j_max (nI a) 0 = nI a by unfold j_max; rw [if_neg (nI_pos (by omega))]]
    | succ e ih =>
      intro n i c0 hi hn hf h0
      obtain ⟨n, rfl⟩ : ∃ m, n = m + 1 := ⟨n - 1, by omega⟩
      have g16 := (hl.2 i (by omega)).2
      have e32 : c0.1 32 (nI (a + i)).toNatClampNeg = nI (gt lens i) := by rw [nI_clamp (by omega)]; exact lnR' hf i (by omega)
      rw [f_X3_order_54, if_neg (nI_ge (by omega) (by omega)), j_in_nI (show a + i < ln 32 from (by show a + i < 320; omega)) (by decide), cond_true, e32, nI_1]
      by_cases q : gt lens i = 0
      · rw [q, if_pos (show nI 0 ≤ 0 by decide)]
        refine ih n (i + 1) c0 (by omega) (by omega) hf (fun l h1 h2 => ?_)
        rw [cntN_s, if_neg (by omega)]
        exact h0 l h1 h2
      · rw [if_neg (nI_nle (by omega) (by omega)), ofNat_nI, l1, if_neg (nI_ge g16 (by decide)), j_in_nI g16 (by decide), cond_true, cond_true, nI_clamp (show gt lens i < 2 ^ 31 by omega), h0 _ (by omega) g16, nI_1]
        dsimp only [st1]
        refine ih n (i + 1) _ (by omega) (by omega) (hf.tr (fr.sI (by simp))) (fun l h1 h2 => ?_)
        rw [cntN_s]
        by_cases q2 : l = gt lens i
        · subst q2
          rw [sI_s, if_pos rfl]
        · rw [sI_j q2, if_neg (fun z => q2 z.symm)]
          exact h0 l h1 h2
  -- places of lengths
  have pla : ∀ e n k c0, k + e = 16 → 1 ≤ k → e < n → fr [d, d + 1, d + 2, d + 3] c c0 → (∀ l, 1 ≤ l → l < 16 → c0.1 (d + 1) l = nI (cnt lens l)) → (∀ l, 1 ≤ l → l < k → c0.1 (d + 2) l = nI (off lens l)) → c0.1 d 3 = nI (off lens k) → c0.1 d 4 = nI (mxN lens (k - 1)) → ∃ c1, f_X3_placeLengths_12 N d n c0 (nI k) = some ((), c1) ∧ fr [d, d + 1, d + 2, d + 3] c c1 ∧ (∀ l, 1 ≤ l → l < 16 → c1.1 (d + 1) l = nI (cnt lens l)) ∧ (∀ l, 1 ≤ l → l < 16 → c1.1 (d + 2) l = nI (off lens l)) ∧ c1.1 d 3 = nI (off lens 16) ∧ c1.1 d 4 = nI (mxN lens 15) := by
    intro e
    induction e with
    | zero =>
      intro n k c0 hk hk1 hn hf h1 h2 h3 h4
      obtain ⟨n, rfl⟩ : ∃ m, n = m + 1 := ⟨n - 1, by omega⟩
      have : k = 16 := by omega
      subst this
      rw [f_X3_placeLengths_12, ofNat_nI, l1, if_pos (nI_le (Nat.le_refl _) (by decide))]
      exact ⟨c0, rfl, hf, h1, h2, h3, h4⟩
    | succ e ih =>
      intro n k c0 hk hk1 hn hf h1 h2 h3 h4
      obtain ⟨n, rfl⟩ : ∃ m, n = m + 1 := ⟨n - 1, by omega⟩
      have hcn : cnt lens k ≤ 320 := by have := cntN_le lens k lens.length; unfold cnt; omega
      rw [f_X3_placeLengths_12, ofNat_nI, l1, if_neg (nI_ge (by omega) (by decide)), ofNat_nI, l2, if_neg (nI_ge (by omega) (by decide)), j_in_nI (by omega) (by decide), cond_true, nI_clamp (by omega), nI_1]
      dsimp only [st1]
      have a1 : (sI c0 (d + 2) k (c0.1 d 3)).1 d 3 = nI (off lens k) := by rw [sI_o (by omega)]; exact h3
      have a2 : (sI c0 (d + 2) k (c0.1 d 3)).1 (d + 1) k = nI (cnt lens k) := by rw [sI_o (by omega)]; exact h1 k hk1 (by omega)
      rw [cond_true, a1, a2, nI_add, ← off_s hk1]
      have a3 : (sI (sI c0 (d + 2) k (c0.1 d 3)) d 3 (nI (off lens (k + 1)))).1 (d + 1) k = nI (cnt lens k) := by rw [sI_o (by omega), sI_o (by omega)]; exact h1 k hk1 (by omega)
      rw [cond_true, a3]
      have f2 : fr [d, d + 1, d + 2, d + 3] c (sI (sI c0 (d + 2) k (c0.1 d 3)) d 3 (nI (off lens (k + 1)))) := hf.tr ((fr.sI (by simp)).tr (fr.sI (by simp)))
      have b1 : ∀ l, 1 ≤ l → l < 16 → (sI (sI c0 (d + 2) k (c0.1 d 3)) d 3 (nI (off lens (k + 1)))).1 (d + 1) l = nI (cnt lens l) := fun l q1 q2 => by rw [sI_o (by omega), sI_o (by omega)]; exact h1 l q1 q2
      have b2 : ∀ l, 1 ≤ l → l < k + 1 → (sI (sI c0 (d + 2) k (c0.1 d 3)) d 3 (nI (off lens (k + 1)))).1 (d + 2) l = nI (off lens l) := by
        intro l q1 q2
        rw [sI_o (by omega)]
        by_cases q : l = k
        · subst q; rw [sI_s, h3]
        · rw [sI_j q]; exact h2 l q1 (by omega)
      have b3 : (sI (sI c0 (d + 2) k (c0.1 d 3)) d 3 (nI (off lens (k + 1)))).1 d 3 = nI (off lens (k + 1)) := sI_s _ _ _ _
      have b4 : (sI (sI c0 (d + 2) k (c0.1 d 3)) d 3 (nI (off lens (k + 1)))).1 d 4 = nI (mxN lens (k - 1)) := by rw [sI_j (by decide), sI_o (by omega)]; exact h4
      obtain ⟨k', rfl⟩ : ∃ k', k = k' + 1 := ⟨k - 1, by omega⟩
      by_cases q : 0 < cnt lens (k' + 1)
      · rw [if_neg (nI_nle q (by omega))]
        refine ih n (k' + 1 + 1) _ (by omega) (by omega) (by omega) (f2.tr (fr.sI (by simp))) (fun l q1 q2 => by rw [sI_o (by omega)]; exact b1 l q1 q2) (fun l q1 q2 => by rw [sI_o (by omega)]; exact b2 l q1 q2) (by rw [sI_j (by decide)]; exact b3) ?_
        rw [sI_s, Nat.add_sub_cancel]
        unfold mxN
        rw [if_pos q]
      · have q0 : cnt lens (k' + 1) = 0 := by omega
        rw [q0, if_pos (show nI 0 ≤ 0 by decide)]
        refine ih n (k' + 1 + 1) _ (by omega) (by omega) (by omega) f2 b1 b2 b3 ?_
        rw [b4, Nat.add_sub_cancel, Nat.add_sub_cancel]
        conv => rhs; unfold mxN
        rw [if_neg q]
  -- symbols in their places
  have sym : ∀ e n i c0, i + e = lens.length → e < n → fr [d, d + 1, d + 2, d + 3] c c0 → (∀ l, 1 ≤ l → l < 16 → c0.1 (d + 1) l = nI (cnt lens l)) → (∀ l, 1 ≤ l → l < 16 → c0.1 (d + 2) l = nI (off lens l + cntN lens l i)) → c0.1 d 3 = nI (off lens 16) → c0.1 d 4 = nI (mxN lens 15) → (∀ l k, 1 ≤ l → l < 16 → k < cntN lens l i → c0.1 (d + 3) (off lens l + k) = nI (sy lens l k)) → ∃ c1, f_X3_order_110 N d (nI a) (nI lens.length) n c0 (nI (a + lens.length)) (nI (a + i)) = some ((), c1) ∧ cdC c1 d lens ∧ fr [d, d + 1, d + 2, d + 3] c c1 := by
    intro e
    induction e with
    | zero =>
      intro n i c0 hi hn hf h1 h2 h3 h4 h5
      obtain ⟨n, rfl⟩ : ∃ m, n = m + 1 := ⟨n - 1, by omega⟩
      have : i = lens.length := by omega
      subst this
      rw [f_X3_order_110, if_pos (nI_le (Nat.le_refl _) (by omega))]
      exact ⟨c0, rfl, ⟨hc, h1, h3, h4, h5⟩, hf⟩
    | succ e ih =>
      intro n i c0 hi hn hf h1 h2 h3 h4 h5
      obtain ⟨n, rfl⟩ : ∃ m, n = m + 1 := ⟨n - 1, by omega⟩
      have g16 := (hl.2 i (by omega)).2
      have e32 : c0.1 32 (nI (a + i)).toNatClampNeg = nI (gt lens i) := by rw [nI_clamp (by omega)]; exact lnR' hf i (by omega)
      rw [f_X3_order_110, if_neg (nI_ge (by omega) (by omega)), j_in_nI (show a + i < ln 32 from (by show a + i < 320; omega)) (by decide), cond_true, e32, nI_1, show nI (a + i) - nI a = nI i by rw [subI (by omega)]; congr 1; omega]
      unfold f_X3_placeSymbol
      by_cases q : gt lens i = 0
      · rw [q, if_pos (show nI 0 ≤ 0 by decide), bnd_some]
        refine ih n (i + 1) c0 (by omega) (by omega) hf h1 (fun l p1 p2 => ?_) h3 h4 (fun l k p1 p2 p3 => ?_)
        · rw [cntN_s, if_neg (by omega)]; exact h2 l p1 p2
        · rw [cntN_s, if_neg (by omega)] at p3; exact h5 l k p1 p2 p3
      · have hlt : cntN lens (gt lens i) i < cnt lens (gt lens i) := by
          have a1 := cntN_s lens (gt lens i) i
          rw [if_pos rfl] at a1
          have a2 := cntN_mono lens (gt lens i) (show i + 1 ≤ lens.length by omega)
          unfold cnt
          omega
        have hoff : off lens (gt lens i) + cnt lens (gt lens i) ≤ lens.length := by
          rw [← off_s (by omega)]
          exact off_le lens _
        have hpl : off lens (gt lens i) + cntN lens (gt lens i) i < ln (d + 3) := by omega
        rw [if_neg (nI_nle (by omega) (by omega)), ofNat_nI, l2, if_neg (nI_ge g16 (by decide)), j_in_nI g16 (by decide), cond_true, nI_clamp (show gt lens i < 2 ^ 31 by omega), h2 _ (by omega) g16, if_neg (nI_pos (by omega)), ofNat_nI, if_neg (nI_ge hpl h31), j_in_nI hpl h31, cond_true, nI_clamp (by omega)]
        dsimp only [st1]
        unfold f_X3_placeSymbol_40
        rw [l2, j_in_nI g16 (by decide), cond_true, cond_true, nI_clamp (show gt lens i < 2 ^ 31 by omega)]
        dsimp only [st1]
        rw [sI_o (show d + 2 ≠ d + 3 by omega), h2 _ (by omega) g16, nI_1, bnd_some]
        refine ih n (i + 1) _ (by omega) (by omega) (hf.tr ((fr.sI (by simp)).tr (fr.sI (by simp)))) (fun l p1 p2 => by rw [sI_o (by omega), sI_o (by omega)]; exact h1 l p1 p2) (fun l p1 p2 => ?_) (by rw [sI_o (by omega), sI_o (by omega)]; exact h3) (by rw [sI_o (by omega), sI_o (by omega)]; exact h4) (fun l k p1 p2 p3 => ?_)
        · rw [cntN_s]
          by_cases q2 : l = gt lens i
          · subst q2
            rw [sI_s, if_pos rfl]
            rfl
          · rw [sI_j q2, sI_o (by omega), if_neg (fun z => q2 z.symm)]
            exact h2 l p1 p2
        · rw [sI_o (show d + 3 ≠ d + 2 by omega)]
          rw [cntN_s] at p3
          by_cases q2 : l = gt lens i
          · subst q2
            rw [if_pos rfl] at p3
            by_cases q3 : k = cntN lens (gt lens i) i
            · subst q3
              rw [sI_s, sy_at (by omega) rfl]
            · rw [sI_j (by omega)]
              exact h5 _ k p1 p2 (by omega)
          · rw [if_neg (fun z => q2 z.symm), Nat.add_zero] at p3
            have hk2 : k < cnt lens l := Nat.lt_of_lt_of_le p3 (cntN_mono lens l (by omega))
            have hne : off lens l + k ≠ off lens (gt lens i) + cntN lens (gt lens i) i := by
              rcases Nat.lt_or_ge l (gt lens i) with z | z
              · have := off_mono (lens := lens) (show l + 1 ≤ gt lens i by omega) (by omega)
                rw [off_s p1] at this
                omega
              · have := off_mono (lens := lens) (show gt lens i + 1 ≤ l by omega) (by omega)
                rw [off_s (by omega)] at this
                omega
            rw [sI_j hne]
            exact h5 l k p1 p2 p3
  unfold f_X3_order
  obtain ⟨c1, e1, f1, z1⟩ := clr 16 N 0 c (by omega) (by omega) fr.rf (fun l h => by omega)
  rw [show (0 : Int32) = nI 0 from rfl, e1]
  obtain ⟨c2, e2, f2, z2⟩ := cou lens.length N 0 c1 (by omega) (by omega) f1 (fun l _ h => by rw [z1 l h]; rfl)
  rw [Nat.add_zero] at e2
  rw [e2]
  unfold f_X3_placeLengths
  dsimp only [st1]
  obtain ⟨c3, e3, f3, y1, y2, y3, y4⟩ := pla 15 N 1 (sI (sI c2 d 3 0) d 4 0) (by omega) (by omega) (by omega) (f2.tr ((fr.sI (by simp)).tr (fr.sI (by simp)))) (fun l p1 p2 => by rw [sI_o (by omega), sI_o (by omega)]; exact z2 l p1 p2) (fun l p1 p2 => by omega) (by rw [sI_j (by decide), sI_s]; rfl) (by rw [sI_s]; rfl)
  rw [show (1 : Int32) = nI 1 from rfl, e3, bnd_some]
  obtain ⟨c4, e4, x1, x2⟩ := sym lens.length N 0 c3 (by omega) (by omega) f3 y1 (fun l p1 p2 => by rw [y2 l p1 p2]; rfl) y3 y4 (fun l k p1 p2 p3 => by
    have : cntN lens l 0 = 0 := rfl
    omega)
  exact ⟨c4, e4, x1, x2⟩
/-- how full codes are -/
noncomputable def ful (lens : List Nat) : Nat → Nat
  | 0 => 0
  | l + 1 => ful lens l + cnt lens (l + 1) * 2 ^ (15 - (l + 1))
theorem f_areComplete {N : Nat} {c : hS} {d : Nat} {lens : List Nat} (hN : 1000000 ≤ N) (hd : isCd d) (h : cdC c d lens) (hl : lens.length ≤ 320) : f_X3_areComplete N c d = some (bI (decide (ful lens 15 = 32768)), c) := by
  have l1 := hd.l1
  have bnd : ∀ k, ful lens k ≤ 320 * 32768 * k := by
    intro k
    induction k with
    | zero => exact Nat.le_refl _
    | succ k ih =>
      unfold ful
      have h1 : cnt lens (k + 1) ≤ 320 := by have := cntN_le lens (k + 1) lens.length; unfold cnt; omega
      have h2 : 2 ^ (15 - (k + 1)) ≤ 32768 := by rw [show 32768 = 2 ^ 15 from rfl]; exact Nat.pow_le_pow_right (by decide) (by omega)
      have h3 := Nat.mul_le_mul h1 h2
      omega
  have key : ∀ e n k, k + e = 16 → 1 ≤ k → e < n → f_X3_areComplete_4 N d n c (nI (ful lens (k - 1))) (nI k) = some (bI (decide (ful lens 15 = 32768)), c) := by
    intro e
    induction e with
    | zero =>
      intro n k hk hk1 hn
      obtain ⟨n, rfl⟩ : ∃ m, n = m + 1 := ⟨n - 1, by omega⟩
      have : k = 16 := by omega
      subst this
      have b15 := bnd 15
      rw [f_X3_areComplete_4, ofNat_nI, l1, if_pos (nI_le (Nat.le_refl _) (by decide)), show 16 - 1 = 15 from rfl]
      by_cases q : ful lens 15 = 32768
      · rw [q, if_pos (show nI 32768 = 32768 from rfl)]; rfl
      · rw [if_neg (show ¬ nI (ful lens 15) = 32768 from fun z => q ((nI_eq (by omega) (show 32768 < 2 ^ 31 by decide)).mp z)), decide_eq_false q]; rfl
    | succ e ih =>
      intro n k hk hk1 hn
      obtain ⟨n, rfl⟩ : ∃ m, n = m + 1 := ⟨n - 1, by omega⟩
      rw [f_X3_areComplete_4, ofNat_nI, l1, if_neg (nI_ge (by omega) (by decide)), j_in_nI (by omega) (by decide), cond_true, nI_clamp (by omega), h.2.1 k hk1 (by omega), show (15 : Int32) = nI 15 from rfl, subI (by omega), shl_nI _ (by omega), nI_add, nI_1]
      have := ih n (k + 1) (by omega) (by omega) (by omega)
      rw [Nat.add_sub_cancel] at this
      obtain ⟨k', rfl⟩ : ∃ k', k = k' + 1 := ⟨k - 1, by omega⟩
      rw [Nat.add_sub_cancel]
      exact this
  unfold f_X3_areComplete
  exact key 15 N 1 (by omega) (by omega) (by omega)
theorem f_noneOrOne {c : hS} {d : Nat} {lens : List Nat} (h : cdC c d lens) (hl : lens.length ≤ 320) : f_X3_areNoneOrOneBit c d = some (bI (decide (off lens 16 = 0) || (decide (off lens 16 = 1) && decide (mxN lens 15 = 1))), c) := by
  have h1 : off lens 16 ≤ lens.length := off_le lens 15
  have h2 : ∀ k, mxN lens k ≤ k := by
    intro k
    induction k with
    | zero => exact Nat.le_refl _
    | succ k ih =>
      unfold mxN
      split
      · exact Nat.le_refl _
      · omega
  have h3 := h2 15
  unfold f_X3_areNoneOrOneBit
  rw [h.2.2.1, h.2.2.2.1]
  by_cases q1 : off lens 16 = 0
  · rw [q1, if_pos nI_0]; rfl
  · rw [if_neg (nI_ne0 (by omega) (by omega)), decide_eq_false q1, Bool.false_or]
    by_cases q2 : off lens 16 = 1
    · rw [q2, if_pos (show nI 1 = 1 from rfl), decide_eq_true (rfl : (1 : Nat) = 1), Bool.true_and]
      by_cases q3 : mxN lens 15 = 1
      · rw [q3, if_pos (show nI 1 = 1 from rfl)]; rfl
      · rw [if_neg (show ¬ nI (mxN lens 15) = 1 from fun z => q3 ((nI_eq (by omega) (show 1 < 2 ^ 31 by decide)).mp z)), decide_eq_false q3]; rfl
    · rw [if_neg (show ¬ nI (off lens 16) = 1 from fun z => q2 ((nI_eq (by omega) (show 1 < 2 ^ 31 by decide)).mp z)), decide_eq_false q2]; rfl
end
