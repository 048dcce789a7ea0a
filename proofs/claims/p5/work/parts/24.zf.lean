/-! PURE: the class's public methods: come -/
theorem nameB_90 {l : List Nat} (h : nameB l = true) : l.length ≤ 90 := by
  unfold nameB at h
  simp only [Bool.and_eq_true, decide_eq_true_eq] at h
  exact h.1.2
theorem nameB_256 (l : List Nat) : nameB (l.take 256) = nameB l := by
  by_cases h : l.length ≤ 256
  · rw [List.take_of_length_le h]
  · cases h1 : nameB l with
    | true => have := nameB_90 h1; omega
    | false =>
      cases h2 : nameB (l.take 256) with
      | false => rfl
      | true => have := nameB_90 h2; rw [List.length_take] at this; omega
noncomputable def cmL (d : Bool) : Nat := if d = true then 0 else 400
noncomputable def cmK (b : List Nat) (ms : List Mb) (n : Int32) (d : Bool) : Nat := if n < 0 ∨ b.length < n.toNatClampNeg then 1 else if nameB (b.take n.toNatClampNeg) = true then (if b.length - n.toNatClampNeg ≤ cmL d then (if ms.any (wayB (b.take n.toNatClampNeg) d) = true then 2 else if (decide (ms.length < 16) || ms.any fun x => decide (x.1 = b.take n.toNatClampNeg)) = true then 0 else 3) else 1) else 1
noncomputable def cmB (b : List Nat) (ms : List Mb) (n : Int32) (d : Bool) : List Nat := if cmK b ms n d = 0 then [] else b
noncomputable def cmM (b : List Nat) (ms : List Mb) (n : Int32) (d : Bool) : List Mb := if cmK b ms n d = 0 then comeM ms (b.take n.toNatClampNeg, b.drop n.toNatClampNeg, d) else ms
noncomputable def cmP (p : Nat) : Nat := if p = 114 then 2 else if p = 138 then 3 else 1
theorem PC.path {g c c1 : hS} {b t : List Nat} {ms : List Mb} (h : PC g c b t ms) (hf : fr [5, 6] c c1) : PC g c1 b t ms := by
  obtain ⟨r1, r3, r5, r7, fx, ok, s, s', ms', e1, e2, e3, e4, e5⟩ := h
  refine ⟨r1.fr hf (by decide) (by decide), r3.fr hf (by decide) (by decide), hf.2.1 r5, hf.2.2 r7, fx.fr hf (by decide), ⟨ok.1, ok.2.mv hf (by decide)⟩, s, s', ms', (hf.r (by decide) 8).trans e1, (hf.r (by decide) 9).trans e2, e3, e4.fr hf (fun o ho => by simp at ho; omega), e5.fr hf (fun o ho => by simp at ho; omega)⟩
theorem c_come {N : Nat} {g c : hS} {b t : List Nat} {ms : List Mb} {n : Int32} {d : Bool} (hN : 1000000 ≤ N) (h : PC g c b t ms) : AN g (f_X11_come N c n (bI d)) cmP (cmK b ms n d) (nI (cmM b ms n d).length) (cmB b ms n d) t (cmM b ms n d) := by
  have hb := h.1
  have hbl : b.length ≤ 512 := hb.1
  have no : ∀ {p : Nat} {c' : hS} {k : Nat}, cmK b ms n d = k → k ≠ 0 → cmP p = k → PC g c' b t ms → AN g (some (Sum.inr p, c')) cmP (cmK b ms n d) (nI (cmM b ms n d).length) (cmB b ms n d) t (cmM b ms n d) := by
    intro p c' k hk k0 hp hc
    have e1 : cmB b ms n d = b := by unfold cmB; rw [if_neg (by rw [hk]; exact k0)]
    have e2 : cmM b ms n d = ms := by unfold cmM; rw [if_neg (by rw [hk]; exact k0)]
    rw [e1, e2, hk]
    exact AN.no rfl hp k0 hc
  unfold f_X11_come
  rcases i_cases n with q | ⟨k, hk, rfl⟩
  · rw [if_pos q]
    exact no (k := 1) (by unfold cmK; rw [if_pos (Or.inl q)]) (by decide) rfl h
  · rw [if_neg (nI_pos hk), f_size hb, bnd_some]
    by_cases q1 : k ≤ b.length
    · rw [if_pos (nI_le q1 hb.lt)]
      obtain ⟨c3, e3, r3, f3⟩ := f_cutN h.2.2.1
      have hb3 := hb.fr f3 (by decide) (by decide)
      obtain ⟨c4, e4, r4, f4⟩ := f_addRowS (b := 5) (f := 1) (i := 0) (j := k) hN r3 hb3 (by decide) (by decide) (by decide) (by omega) (by omega) hk
      rw [List.nil_append, Nat.sub_zero, map_gt b 0 k (by omega), List.drop_zero, show ln (5 + 1) = 256 from rfl] at r4
      have ff : fr [5, 6] c c4 := (f3.mono (by decide)).tr f4
      have h4 := h.path ff
      rw [e3, bnd_some, show (0 : Int32) = nI 0 from rfl, e4, bnd_some, f_isName hN r4, bnd_some, nameB_256]
      have k0 : ¬ (nI k < 0 ∨ b.length < (nI k).toNatClampNeg) := by
        rw [nI_clamp hk]
        rintro (z | z)
        · exact nI_pos hk z
        · omega
      cases hn : nameB (b.take k) with
      | false =>
        rw [if_pos (show bI false = nI 0 from rfl)]
        exact no (k := 1) (by unfold cmK; rw [if_neg k0, nI_clamp hk, hn]; rfl) (by decide) rfl h4
      | true =>
        have n90 := nameB_90 hn
        have r5 : row c4 5 (b.take k) := by rwa [List.take_of_length_le (by omega)] at r4
        rw [if_neg (show ¬ bI true = nI 0 from (by decide : ¬ bI true = nI 0)), f_size h4.1, bnd_some, subI q1]
        have k1 : cmK b ms (nI k) d = if b.length - k ≤ cmL d then (if ms.any (wayB (b.take k) d) = true then 2 else if (decide (ms.length < 16) || ms.any fun x => decide (x.1 = b.take k)) = true then 0 else 3) else 1 := by
          unfold cmK
          rw [if_neg k0, nI_clamp hk, if_pos hn]
        have go : AN g (f_X11_come_86 N (nI k) (bI d) c4 (nI (cmL d)) (nI (b.length - k))) cmP (cmK b ms (nI k) d) (nI (cmM b ms (nI k) d).length) (cmB b ms (nI k) d) t (cmM b ms (nI k) d) := by
          have cl4 : cmL d ≤ 400 := by unfold cmL; split <;> omega
          obtain ⟨s, s1, s2, s3, s4⟩ := h4.sh
          unfold f_X11_come_86
          by_cases q2 : b.length - k ≤ cmL d
          · rw [if_pos q2] at k1
            rw [if_pos (nI_le q2 (by omega)), s1, s4, cond_true, f_isInTheWay hN s3 s2 r5, bnd_some]
            cases hw : ms.any (wayB (b.take k) d) with
            | true =>
              rw [hw, if_pos rfl] at k1
              rw [if_neg (show ¬ bI true = 0 by decide)]
              exact no k1 (by decide) rfl h4
            | false =>
              rw [hw, if_neg (by decide)] at k1
              rw [if_pos (show bI false = 0 from rfl), s1, s4, cond_true, f_hasRoomFor hN s3 s2 r5, bnd_some]
              cases hr : (decide (ms.length < 16) || ms.any fun x => decide (x.1 = b.take k)) with
              | false =>
                rw [hr, if_neg (by decide)] at k1
                rw [if_pos (show bI false = 0 from rfl)]
                exact no k1 (by decide) rfl h4
              | true =>
                rw [hr, if_pos rfl] at k1
                have e1 : cmB b ms (nI k) d = [] := by unfold cmB; rw [if_pos k1]
                have e2 : cmM b ms (nI k) d = comeM ms (b.take k, b.drop k, d) := by unfold cmM; rw [if_pos k1, nI_clamp hk]
                have hms : ms.length < 16 ∨ ∃ x ∈ ms, x.1 = b.take k := by
                  rcases Bool.or_eq_true _ _ |>.mp hr with q | q
                  · exact Or.inl (of_decide_eq_true q)
                  · obtain ⟨x, z1, z2⟩ := List.any_eq_true.mp q
                    exact Or.inr ⟨x, z1, of_decide_eq_true z2⟩
                rw [if_neg (by decide), s1, s4, cond_true, f_size h4.1, bnd_some]
                obtain ⟨c5, a1, a2, a3⟩ := f_take (d := d) (i := k) (j := b.length) hN s3 s2 r5 h4.1 (by omega) (by omega) n90 q1 (by omega) (by omega) hms
                rw [show (b.drop k).take (b.length - k) = b.drop k from List.take_of_length_le (by rw [List.length_drop]; omega)] at a2
                have h5 := h4.mem s1 a3 a2
                have ns : ∀ o, o < 37 → o ∉ shR s := fun o ho q => by rw [shR_mem] at q; omega
                rw [a1, bnd_some]
                obtain ⟨c6, g1, g2, g3⟩ := f_cut0 h5.1
                have h6 := h5.buf (g3.mono (by decide)) g2
                rw [g1, bnd_some, (g3.r (by decide) 8).trans ((a3.r (ns 0 (by decide)) 8).trans s1), s4, cond_true]
                have a6 := a2.fr g3 (fun o ho => by simp at ho; omega)
                unfold f_X9_size
                rw [bnd_some, a6.2.1, e1, e2, k1]
                exact AN.ok rfl rfl h6
          · rw [if_neg q2] at k1
            rw [if_neg (nI_ge (by omega) (by omega))]
            exact no k1 (by decide) rfl h4
        cases d with
        | false => rw [if_pos (show bI false = nI 0 from rfl)]; exact go
        | true => rw [if_neg (show ¬ bI true = nI 0 by decide)]; exact go
    · rw [if_neg (nI_ge (by omega) hk)]
      exact no (k := 1) (by unfold cmK; rw [nI_clamp hk, if_pos (Or.inr (by omega))]) (by decide) rfl h
