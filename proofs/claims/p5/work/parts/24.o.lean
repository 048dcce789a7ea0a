/-! PURE: kind 2, all of it -/
theorem Spk_of {c c' : hS} (h : fr [3, 4] c c') : fr Spk c c' := h.mono (fun o ho => by simp at ho ⊢; omega)
theorem f_local2 {N s i m : Nat} {w : Int32} {pk : Bool} {c : hS} {t : List Nat} {x : Mb} {k2 : hS → Int32 → Option (Unit × hS)} (hN : 1000000 ≤ N) (h : row c 3 t) (hm : mbr c m x) (hm4 : 32 < m) (hl : t.length + 4700 ≤ 20000) (hx : x.1.length ≤ 90) (hb : x.2.1.length ≤ 400) : ∃ c', f_X5_layOut_67 N s w k2 c (nI i) m (nI t.length) (bI (wayB2 pk x)) (nI (way2 pk x)) m = k2 c' (nI i + 1) ∧ row c' 3 (t ++ lo2 pk x) ∧ fr Spk c c' := by
  have hn := nmS_len hx
  have hd := dat_len (pk := pk) hb
  unfold f_X5_layOut_67
  obtain ⟨c1, e1, r1, f1⟩ := f_addLocal (way := way2 pk x) (w := nI (way2 pk x)) hN h hm (by omega) (by omega) hx hb rfl (by unfold way2; split <;> decide)
  have m1 := hm.fr f1 (by simp only [List.mem_cons, List.not_mem_nil, or_false]; omega) (by simp only [List.mem_cons, List.not_mem_nil, or_false]; omega) (by simp only [List.mem_cons, List.not_mem_nil, or_false]; omega) (by simp only [List.mem_cons, List.not_mem_nil, or_false]; omega) (by simp only [List.mem_cons, List.not_mem_nil, or_false]; omega)
  have ll := loc_len x (way2 pk x) 0
  rw [e1, bnd_some, f_size r1, bnd_some]
  -- the bytes
  have body : ∃ c2, (if bI (wayB2 pk x) = 0 then bnd (f_X2_size c1 (m + 3)) fun x4 c5 => bnd (f_X2_addRow N c5 3 (m + 3) 0 x4) fun _ c6 => f_X5_layOut_120 N s w k2 c6 (nI i) (nI t.length) (nI (t ++ loc x (way2 pk x) 0).length) else bnd (f_X8_addPacked N c1 (m + 3)) fun _ c7 => f_X5_layOut_120 N s w k2 c7 (nI i) (nI t.length) (nI (t ++ loc x (way2 pk x) 0).length)) = f_X5_layOut_120 N s w k2 c2 (nI i) (nI t.length) (nI (t ++ loc x (way2 pk x) 0).length) ∧ row c2 3 (t ++ loc x (way2 pk x) 0 ++ dat pk x) ∧ fr Spk c1 c2 := by
    unfold dat at hd ⊢
    cases hw : wayB2 pk x with
    | false =>
      rw [if_pos (show bI false = 0 from rfl), f_size m1.2.1, bnd_some]
      obtain ⟨c2, e2, r2, f2⟩ := AP.whole (N := N) hN r1 m1.2.1 (by omega) (by rw [List.length_append, ll]; omega) rfl
      rw [e2, bnd_some]
      exact ⟨c2, rfl, r2, Spk_of f2⟩
    | true =>
      rw [if_neg (by decide)]
      obtain ⟨c2, e2, r2, f2⟩ := f_addPacked hN (b := m + 3) (by simp; omega) (by simp; omega) m1.2.1 r1 (by omega) (by rw [List.length_append, ll]; omega)
      rw [e2, bnd_some]
      exact ⟨c2, rfl, r2, f2⟩
  obtain ⟨c2, e2, r2, f2⟩ := body
  rw [e2]
  unfold f_X5_layOut_120
  rw [f_size r2, bnd_some, subI (by simp), show (t ++ loc x (way2 pk x) 0 ++ dat pk x).length - (t ++ loc x (way2 pk x) 0).length = (dat pk x).length by rw [List.length_append]; omega]
  obtain ⟨c3, e3, r3, f3⟩ := f_setSize (p := t.length) (v := (dat pk x).length) hN r2 (by simp only [List.length_append, ll]; omega) (by omega)
  rw [e3, bnd_some]
  refine ⟨c3, rfl, ?_, ((Spk_of f1).tr f2).tr (Spk_of f3)⟩
  rw [List.append_assoc, loc_set] at r3
  exact r3
theorem f_addSelf {N : Nat} {c : hS} {i j : Nat} {t : List Nat} (hN : 1000000 ≤ N) (h : row c 3 t) (hij : i ≤ j) (hj : j ≤ t.length) (hl : t.length + (j - i) ≤ 20000) : AP (f_X2_addRow N c 3 3 (nI i) (nI j)) c t ((t.drop i).take (j - i)) := by
  have hln : t.length ≤ 20000 := h.1
  unfold f_X2_addRow
  have key : ∀ d n c k e, k + d = j → d < n → row c 3 (t ++ e) → t.length + e.length + d ≤ 20000 → AP (f_X2_addRow_3 N 3 3 (nI i) (nI j) n c (nI k)) c (t ++ e) ((List.range' k d).map (gt t)) := by
    intro d
    induction d with
    | zero =>
      intro n c k e hk hn h hl
      obtain ⟨n, rfl⟩ : ∃ m, n = m + 1 := ⟨n - 1, by omega⟩
      rw [f_X2_addRow_3, if_pos (nI_le (by omega) (by omega))]
      exact AP.end_ h
    | succ d ih =>
      intro n c k e hk hn h hl
      obtain ⟨n, rfl⟩ : ∃ m, n = m + 1 := ⟨n - 1, by omega⟩
      have bb := h.2.2.2.gt k
      rw [f_X2_addRow_3, if_neg (nI_ge (by omega) (by omega)), f_get h (by omega), bnd_some, gt_app_l (by omega), List.range'_succ, List.map_cons]
      rw [gt_app_l (by omega)] at bb
      refine AP.bnd_ (p := [gt t k]) (AP.add h (by rw [List.length_append]; omega) (b8_nI' bb)) (fun c1 r1 f1 => ?_)
      rw [nI_1, List.append_assoc]
      rw [List.append_assoc] at r1
      exact ih n c1 (k + 1) _ (by omega) (by omega) r1 (by simp; omega)
  have := key (j - i) N c i [] (by omega) (by omega) (by simpa using h) (by simp; omega)
  rw [List.append_nil, map_gt t i (j - i) (by omega)] at this
  exact this
noncomputable def ent (x : Mb) (way size h : Nat) : List Nat := mk4 ++ (le 20 2 ++ (com x way size ++ (List.replicate 12 0 ++ (le h 4 ++ nmS x))))
theorem ent_len (x : Mb) (way size h : Nat) : (ent x way size h).length = 46 + (nmS x).length := by
  unfold ent mk4
  simp only [List.length_append, le_len, com_len, List.length_cons, List.length_nil, List.length_replicate]
  omega
noncomputable def ents (pk : Bool) : List Mb → Nat → List Nat
  | [], _ => []
  | x :: r, h => ent x (way2 pk x) (dat pk x).length h ++ ents pk r (h + (lo2 pk x).length)
noncomputable def end2 (n a b : Nat) : List Nat := mk5 ++ (List.replicate 4 0 ++ (le n 2 ++ (le n 2 ++ (le b 4 ++ (le a 4 ++ List.replicate 2 0)))))
noncomputable def w2 (pk : Bool) (ms : List Mb) : List Nat := ms.flatMap (lo2 pk) ++ (ents pk ms 0 ++ end2 ms.length (ms.flatMap (lo2 pk)).length (ents pk ms 0).length)
theorem le4_at (A B : List Nat) (v : Nat) (hv : v < 2 ^ 32) : le4 (A ++ (le v 4 ++ B)) A.length = v := by
  have g : ∀ i, i < 4 → gt (A ++ (le v 4 ++ B)) (A.length + i) = v / 2 ^ (8 * i) % 256 := by
    intro i hi
    rw [gt_app_r (by omega), show A.length + i - A.length = i by omega, gt_app_l (by rw [le_len]; exact hi), gt_lt (by rw [le_len]; exact hi)]
    simp [le]
  have g0 := g 0 (by decide)
  have g1 := g 1 (by decide)
  have g2 := g 2 (by decide)
  have g3 := g 3 (by decide)
  unfold le4 le2
  rw [show A.length + 2 + 1 = A.length + 3 from rfl, g1, g2, g3, show A.length = A.length + 0 from rfl, g0]
  omega
theorem loc_le4 (A B : List Nat) (x : Mb) (way v : Nat) (hv : v < 2 ^ 32) : le4 (A ++ (loc x way v ++ B)) (A.length + 18) = v := by
  have e : loc x way v = (mk3 ++ (le 20 2 ++ (le 0 2 ++ (le way 2 ++ (le 0 2 ++ (le 33 2 ++ le (u32 (crc x.2.1)) 4)))))) ++ (le v 4 ++ (le x.2.1.length 4 ++ (le (nmS x).length 2 ++ (le 0 2 ++ nmS x)))) := by
    unfold loc com
    simp only [List.append_assoc]
  rw [e]
  generalize hA : mk3 ++ (le 20 2 ++ (le 0 2 ++ (le way 2 ++ (le 0 2 ++ (le 33 2 ++ le (u32 (crc x.2.1)) 4))))) = C
  have hl : C.length = 18 := by
    rw [← hA]
    simp only [List.length_append, le_len, mk3, List.length_cons, List.length_nil]
  rw [show A ++ (C ++ (le v 4 ++ (le x.2.1.length 4 ++ (le (nmS x).length 2 ++ (le 0 2 ++ nmS x)))) ++ B) = (A ++ C) ++ (le v 4 ++ (le x.2.1.length 4 ++ (le (nmS x).length 2 ++ (le 0 2 ++ (nmS x ++ B))))) by simp only [List.append_assoc], show A.length + 18 = (A ++ C).length by rw [List.length_append, hl]]
  exact le4_at _ _ _ hv
theorem loc_com (A B : List Nat) (x : Mb) (way v : Nat) : ((A ++ (loc x way v ++ B)).drop (A.length + 4)).take 24 = com x way v := by
  unfold loc
  rw [show A ++ (mk3 ++ (com x way v ++ (le 0 2 ++ nmS x)) ++ B) = (A ++ mk3) ++ (com x way v ++ (le 0 2 ++ (nmS x ++ B))) by simp only [List.append_assoc], show A.length + 4 = (A ++ mk3).length by rw [List.length_append]; rfl, List.drop_left, show 24 = (com x way v).length from (com_len x way v).symm, List.take_left]
theorem f_layOut2 {N : Nat} {c : hS} {s : Nat} {ms : List Mb} {pk : Bool} (hN : 1000000 ≤ N) (h : row c 3 []) (hsh : shf c s ms) (hs : s = 37 ∨ s = 119) (hok : okM ms) : ∃ c', f_X5_layOut N c s (bI pk) = some ((), c') ∧ row c' 3 (w2 pk ms) ∧ fr Spk c c' := by
  have hs4 : 32 < s := by omega
  have h16 := hok.1
  have flen : ∀ l : List Mb, (∀ x ∈ l, x.1.length ≤ 90 ∧ x.2.1.length ≤ 400) → (l.flatMap (lo2 pk)).length ≤ 925 * l.length := by
    intro l
    induction l with
    | nil => intro _; simp
    | cons x r ih =>
      intro hx
      have h1 := hx x (by simp)
      have h2 := dat_len (pk := pk) h1.2
      have h3 := nmS_len h1.1
      have h4 := ih (fun y hy => hx y (by simp [hy]))
      rw [List.flatMap_cons, List.length_append, lo2_len, List.length_cons]
      omega
  have fL := flen ms hok.2
  -- the entries
  have entr : ∀ d n i c e, i + d = ms.length → d < n → shf c s ms → row c 3 (ms.flatMap (lo2 pk) ++ e) → e.length ≤ 137 * i → AP (f_X5_addEntries_13 N s n c (nI (ms.flatMap (lo2 pk)).length) (nI ((ms.take i).flatMap (lo2 pk)).length) (nI i)) c (ms.flatMap (lo2 pk) ++ e) (ents pk (ms.drop i) ((ms.take i).flatMap (lo2 pk)).length ++ end2 ms.length (ms.flatMap (lo2 pk)).length (e.length + (ents pk (ms.drop i) ((ms.take i).flatMap (lo2 pk)).length).length)) := by
    intro d
    induction d with
    | zero =>
      intro n i c e hi hn hsh h hel
      obtain ⟨n, rfl⟩ : ∃ m, n = m + 1 := ⟨n - 1, by omega⟩
      rw [f_X5_addEntries_13]
      unfold f_X9_size
      rw [bnd_some, hsh.2.1, if_pos (nI_le (by omega) (by omega)), List.drop_eq_nil_of_le (by omega), f_size h, bnd_some]
      unfold ents end2
      rw [List.nil_append, List.length_nil, Nat.add_zero, List.length_append]
      have l5 : mk5.length = 4 := rfl
      refine AP.bnd_ (AP.mark (v := mk5) hN h (by simp only [List.length_append, l5]; omega) (by decide)) (fun c5 r5 f5 => ?_)
      refine AP.bnd_ (AP.zeros (m := 4) hN r5 (by simp only [List.length_append, l5]; omega) rfl) (fun c6 r6 f6 => ?_)
      have s6 := hsh.fr (f5.tr f6) (fun o ho => by simp only [List.mem_cons, List.not_mem_nil, or_false] at ho; omega)
      rw [bnd_some, s6.2.1]
      refine AP.bnd_ (AP.leN (v := ms.length) hN r6 (by simp only [List.length_append, List.length_replicate, l5]; omega) rfl (by omega) (by decide) rfl) (fun c9 r9 f9 => ?_)
      have s9 := s6.fr f9 (fun o ho => by simp only [List.mem_cons, List.not_mem_nil, or_false] at ho; omega)
      rw [bnd_some, s9.2.1]
      refine AP.bnd_ (AP.leN (v := ms.length) hN r9 (by simp only [List.length_append, List.length_replicate, le_len, l5]; omega) rfl (by omega) (by decide) rfl) (fun c12 r12 f12 => ?_)
      refine AP.bnd_ (AP.leN (v := e.length) hN r12 (by simp only [List.length_append, List.length_replicate, le_len, l5]; omega) (by rw [subI (by omega)]; congr 1; omega) (by omega) (by decide) rfl) (fun c13 r13 f13 => ?_)
      refine AP.bnd_ (AP.leN (v := (ms.flatMap (lo2 pk)).length) hN r13 (by simp only [List.length_append, List.length_replicate, le_len, l5]; omega) rfl (by omega) (by decide) rfl) (fun c14 r14 f14 => ?_)
      exact AP.last_ (AP.zeros (m := 2) hN r14 (by simp only [List.length_append, List.length_replicate, le_len, l5]; omega) rfl)
    | succ d ih =>
      intro n i c e hi hn hsh h hel
      obtain ⟨n, rfl⟩ : ∃ m, n = m + 1 := ⟨n - 1, by omega⟩
      have hil : i < ms.length := by omega
      have hm := hsh.mb hil
      have hx := hok.2 ms[i] (List.getElem_mem hil)
      obtain ⟨k, hk, ek⟩ := hsh.2.2.1 i (by omega)
      have et : ms.flatMap (lo2 pk) = (ms.take i).flatMap (lo2 pk) ++ (lo2 pk ms[i] ++ (ms.drop (i + 1)).flatMap (lo2 pk)) := by
        conv => lhs; rw [← List.take_append_drop i ms, List.flatMap_append, List.drop_eq_getElem_cons hil, List.flatMap_cons]
      have et1 : (ms.take (i + 1)).flatMap (lo2 pk) = (ms.take i).flatMap (lo2 pk) ++ lo2 pk ms[i] := by
        rw [List.take_succ_eq_append_getElem hil, List.flatMap_append]
        simp
      have hA : ((ms.take i).flatMap (lo2 pk)).length + (lo2 pk ms[i]).length ≤ (ms.flatMap (lo2 pk)).length := by
        rw [et]
        simp only [List.length_append]
        omega
      rw [f_X5_addEntries_13]
      unfold f_X9_size
      rw [bnd_some, hsh.2.1, if_neg (nI_ge hil (by omega)), f_member hsh hs hil, bnd_some]
      dsimp only [opt]
      rw [beq6 (hsh.kc6 hs (by omega)), cond_true, List.drop_eq_getElem_cons hil]
      unfold ents
      have ih2 := fun c e => ih n (i + 1) c e (by omega) (by omega)
      rw [et1, List.length_append] at ih2
      have hd := dat_len (pk := pk) hx.2
      have hn91 := nmS_len hx.1
      have hln : (ms.flatMap (lo2 pk) ++ e).length = (ms.flatMap (lo2 pk)).length + e.length := List.length_append
      have hcom : ∀ r, (((ms.flatMap (lo2 pk) ++ e) ++ r).drop (((ms.take i).flatMap (lo2 pk)).length + 4)).take 24 = com ms[i] (way2 pk ms[i]) (dat pk ms[i]).length := by
        intro r
        rw [et]
        unfold lo2
        simp only [List.append_assoc]
        exact loc_com _ _ _ _ _
      have hle4 : ∀ r, le4 ((ms.flatMap (lo2 pk) ++ e) ++ r) (((ms.take i).flatMap (lo2 pk)).length + 18) = (dat pk ms[i]).length := by
        intro r
        rw [et]
        unfold lo2
        simp only [List.append_assoc]
        exact loc_le4 _ _ _ _ _ (by omega)
      have hlo := lo2_len (pk := pk) (x := ms[i])
      clear et et1
      generalize ms[i] = x at *
      generalize ((ms.take i).flatMap (lo2 pk)).length = hp at *
      have el := ent_len x (way2 pk x) (dat pk x).length hp
      have ecut : ∀ r, ent x (way2 pk x) (dat pk x).length hp ++ r = mk4 ++ (le 20 2 ++ (com x (way2 pk x) (dat pk x).length ++ (List.replicate 12 0 ++ (le hp 4 ++ (nmS x ++ r))))) := by
        intro r
        unfold ent
        simp only [List.append_assoc]
      rw [List.append_assoc, ecut, List.length_append, el]
      have l4 : mk4.length = 4 := rfl
      refine AP.bnd_ (AP.mark (v := mk4) hN h (by rw [hln, l4]; omega) (by decide)) (fun c1 r1 f1 => ?_)
      refine AP.bnd_ (AP.le64 (v := 20) hN r1 (by simp only [List.length_append, l4]; omega) rfl (by decide) (by decide) rfl) (fun c2 r2 f2 => ?_)
      have a3 := f_addSelf (i := hp + 4) (j := hp + 28) hN r2 (by omega) (by simp only [List.length_append]; omega) (by simp only [List.length_append, le_len, l4]; omega)
      rw [show hp + 28 - (hp + 4) = 24 by omega, List.append_assoc, hcom, ← List.append_assoc] at a3
      rw [show nI hp + 4 = nI (hp + 4) from nI_add hp 4, show nI hp + 28 = nI (hp + 28) from nI_add hp 28]
      refine AP.bnd_ a3 (fun c3 r3 f3 => ?_)
      refine AP.bnd_ (AP.zeros (m := 12) hN r3 (by simp only [List.length_append, le_len, com_len, l4]; omega) rfl) (fun c4 r4' f4 => ?_)
      refine AP.bnd_ (AP.leN (v := hp) hN r4' (by simp only [List.length_append, le_len, com_len, List.length_replicate, l4]; omega) rfl (by omega) (by decide) rfl) (fun c5 r5 f5 => ?_)
      have m5 := hm.fr ((((f1.tr f2).tr f3).tr f4).tr f5) (by simp only [List.mem_cons, List.not_mem_nil, or_false]; omega) (by simp only [List.mem_cons, List.not_mem_nil, or_false]; omega) (by simp only [List.mem_cons, List.not_mem_nil, or_false]; omega) (by simp only [List.mem_cons, List.not_mem_nil, or_false]; omega) (by simp only [List.mem_cons, List.not_mem_nil, or_false]; omega)
      refine AP.bnd_ (AP.title hN r5 m5 (by omega) (by simp only [List.length_append, le_len, com_len, List.length_replicate, l4]; omega)) (fun c6 r6 f6 => ?_)
      have m6 := m5.fr f6 (by simp only [List.mem_cons, List.not_mem_nil, or_false]; omega) (by simp only [List.mem_cons, List.not_mem_nil, or_false]; omega) (by simp only [List.mem_cons, List.not_mem_nil, or_false]; omega) (by simp only [List.mem_cons, List.not_mem_nil, or_false]; omega) (by simp only [List.mem_cons, List.not_mem_nil, or_false]; omega)
      rw [f_titleBytes m6, bnd_some, show nI hp + 18 = nI (hp + 18) from nI_add hp 18, f_little4 hN r6 (by omega), bnd_some]
      simp only [List.append_assoc] at r6 hle4 ⊢
      rw [hle4, lN_i, show (30 : Int32) = nI 30 from rfl, nI_add, nI_add, nI_add, nI_1]
      have ff := ((((f1.tr f2).tr f3).tr f4).tr f5).tr f6
      have fin := ih2 c6 (e ++ (mk4 ++ (le 20 2 ++ (com x (way2 pk x) (dat pk x).length ++ (List.replicate 12 0 ++ (le hp 4 ++ nmS x)))))) (hsh.fr ff (fun o ho => by simp only [List.mem_cons, List.not_mem_nil, or_false] at ho; omega)) (by simpa only [List.append_assoc] using r6) (by simp only [List.length_append, le_len, com_len, List.length_replicate, l4]; omega)
      rw [hlo] at fin ⊢
      have ee : (e ++ (mk4 ++ (le 20 2 ++ (com x (way2 pk x) (dat pk x).length ++ (List.replicate 12 0 ++ (le hp 4 ++ nmS x)))))).length = e.length + (46 + (nmS x).length) := by simp only [List.length_append, le_len, com_len, List.length_replicate, l4]; omega
      rw [ee] at fin
      try simp only [List.append_assoc] at fin
      rw [← Nat.add_assoc e.length]
      exact fin
  have locs : ∀ d n i c, i + d = ms.length → d < n → shf c s ms → row c 3 ((ms.take i).flatMap (lo2 pk)) → ∃ c', f_X5_layOut_2 N s (bI pk) n c (nI i) = bnd (f_X5_addEntries N c' s) (fun _ c3 => some ((), c3)) ∧ shf c' s ms ∧ row c' 3 (ms.flatMap (lo2 pk)) ∧ fr Spk c c' := by
    intro d
    induction d with
    | zero =>
      intro n i c hi hn hsh h
      obtain ⟨n, rfl⟩ : ∃ m, n = m + 1 := ⟨n - 1, by omega⟩
      rw [f_X5_layOut_2]
      unfold f_X9_size
      rw [bnd_some, hsh.2.1, if_pos (nI_le (by omega) (by omega))]
      rw [List.take_of_length_le (by omega)] at h
      exact ⟨c, rfl, hsh, h, fr.rf⟩
    | succ d ih =>
      intro n i c hi hn hsh h
      obtain ⟨n, rfl⟩ : ∃ m, n = m + 1 := ⟨n - 1, by omega⟩
      have hil : i < ms.length := by omega
      have hm := hsh.mb hil
      have hx := hok.2 ms[i] (List.getElem_mem hil)
      obtain ⟨k, hk, ek⟩ := hsh.2.2.1 i (by omega)
      have fT := flen (ms.take i) (fun x hx => hok.2 x (List.mem_of_mem_take hx))
      rw [List.length_take, Nat.min_eq_left (by omega)] at fT
      have et1 : (ms.take (i + 1)).flatMap (lo2 pk) = (ms.take i).flatMap (lo2 pk) ++ lo2 pk ms[i] := by
        rw [List.take_succ_eq_append_getElem hil, List.flatMap_append]
        simp
      obtain ⟨c1, e1, r1, f1⟩ := f_local2 (N := N) (s := s) (i := i) (w := bI pk) (pk := pk) (k2 := f_X5_layOut_2 N s (bI pk) n) hN h hm (by omega) (by omega) hx.1 hx.2
      rw [← et1] at r1
      obtain ⟨c2, e2, s2, r2, f2⟩ := ih n (i + 1) c1 (by omega) (by omega) (hsh.fr f1 (fun o ho => by simp only [List.mem_cons, List.not_mem_nil, or_false] at ho; omega)) r1
      refine ⟨c2, ?_, s2, r2, f1.tr f2⟩
      rw [← e2, ← nI_1, ← e1, f_X5_layOut_2]
      unfold f_X9_size
      rw [bnd_some, hsh.2.1, if_neg (nI_ge hil (by omega)), f_member hsh hs hil, bnd_some]
      dsimp only [opt]
      rw [beq6 (hsh.kc6 hs (by omega)), cond_true, f_size h, bnd_some]
      have l1 := hm.2.1.lt
      unfold f_X5_layOut_50 f_X5_layOut_51
      cases pk with
      | false =>
        rw [if_pos (show bI false = 0 from rfl), if_pos (show (0 : Int32) = 0 from rfl)]
        rfl
      | true =>
        rw [if_neg (by decide), f_size hm.2.1, bnd_some]
        by_cases e0 : 0 < ms[i].2.1.length
        · rw [if_neg (nI_nle e0 l1), if_neg (by decide)]
          have ew : wayB2 true ms[i] = true := by unfold wayB2; rw [decide_eq_true e0]; rfl
          unfold way2
          rw [ew]
          rfl
        · rw [if_pos (show nI ms[i].2.1.length ≤ 0 from nI_le (b := 0) (by omega) (by decide)), if_pos (show (0 : Int32) = 0 from rfl)]
          have ew : wayB2 true ms[i] = false := by unfold wayB2; rw [decide_eq_false e0]; rfl
          unfold way2
          rw [ew]
          rfl
  obtain ⟨c1, e1, s1, r1, f1⟩ := locs ms.length N 0 c (by omega) (by omega) hsh (by simpa using h)
  have a2 := entr ms.length N 0 c1 [] (by omega) (by omega) s1 (by rw [List.append_nil]; exact r1) (by simp)
  rw [List.take_zero, List.drop_zero, List.append_nil, List.length_nil, Nat.zero_add] at a2
  obtain ⟨c2, e2, r2, f2⟩ := a2
  refine ⟨c2, ?_, r2, f1.tr (Spk_of f2)⟩
  unfold f_X5_layOut
  rw [show (0 : Int32) = nI 0 from rfl, e1]
  unfold f_X5_addEntries
  rw [f_size r1, bnd_some]
  have e3 : f_X5_addEntries_13 N s N c1 (nI (ms.flatMap (lo2 pk)).length) 0 0 = some ((), c2) := e2
  rw [e3, bnd_some]
