/-! PURE: the reference: rows copied; members move and stand -/
theorem cp_loop {α : Type} {F : Nat → hS → Int32 → Option (α × hS)} {X : hS → Option (α × hS)} {o o' a b len : Nat} (I : hS → Prop) (hI : ∀ c j x, I c → I (sI c o j x)) (hs : ∀ n c k, k < len → I c → F (n + 1) c (nI k) = F n (sI c o (b + k) (c.1 o' (a + k))) (nI k + 1)) (h0 : ∀ n c, I c → F (n + 1) c (nI len) = X c) (hd : o ≠ o' ∨ a + len ≤ b ∨ b + len ≤ a) :
    ∀ d n c k, k + d = len → d < n → I c → ∃ c', F n c (nI k) = X c' ∧ I c' ∧ (∀ i, k ≤ i → i < len → c'.1 o (b + i) = c.1 o' (a + i)) ∧ fm (fun p j => p = o ∧ b + k ≤ j ∧ j < b + len) c c' := by
  intro d
  induction d with
  | zero =>
    intro n c k hk hn hi
    obtain ⟨n, rfl⟩ : ∃ m, n = m + 1 := ⟨n - 1, by omega⟩
    have : k = len := by omega
    subst this
    exact ⟨c, h0 n c hi, hi, fun i h1 h2 => by omega, fm.rf⟩
  | succ d ih =>
    intro n c k hk hn hi
    obtain ⟨n, rfl⟩ : ∃ m, n = m + 1 := ⟨n - 1, by omega⟩
    obtain ⟨c', e, i1, v, f⟩ := ih n (sI c o (b + k) (c.1 o' (a + k))) (k + 1) (by omega) (by omega) (hI _ _ _ hi)
    refine ⟨c', by rw [hs n c k (by omega) hi, nI_1]; exact e, i1, fun i h1 h2 => ?_, (fm.sI ⟨rfl, by omega, by omega⟩).tr (f.mono (fun p j z => ⟨z.1, by omega, z.2.2⟩))⟩
    by_cases q : i = k
    · rw [q, f.1 o (b + k) (by omega), sI_s]
    · rw [v i (by omega) h2, sI_n (by omega)]
theorem mul_add_nI (a m i : Nat) {x : Int32} (hx : x = nI a) : x * nI m + nI i = nI (a * m + i) := by rw [hx, nI_mul, nI_add]
theorem mul90 (m i : Nat) : (90 : Int32) * nI m + nI i = nI (90 * m + i) := mul_add_nI 90 m i rfl
theorem mul400 (m i : Nat) : (400 : Int32) * nI m + nI i = nI (400 * m + i) := mul_add_nI 400 m i rfl
theorem j_z_bI (b : Bool) : j_z (bI b) = bI b := by cases b <;> rfl
theorem m_move {N a b : Nat} {c : hS} {x : Mb} (hN : 1000000 ≤ N) (h : mmb c a x) (ha : a < 34) (hb : b < 34) (hab : a ≠ b) : ∃ c', f_X12_move N c (nI a) (nI b) = some ((), c') ∧ mmb c' b x ∧ fm (msl b) c c' := by
  unfold f_X12_move
  rw [j_in_nI (show a < ln 204 from ha) (by decide), cond_true, j_in_nI (show b < ln 204 from hb) (by decide), cond_true]
  dsimp only [st1]
  rw [j_in_nI (show a < ln 206 from ha) (by decide), cond_true, j_in_nI (show b < ln 206 from hb) (by decide), cond_true, j_in_nI (show a < ln 208 from ha) (by decide), cond_true, j_in_nI (show b < ln 208 from hb) (by decide), cond_true, nI_clamp (by omega), nI_clamp (by omega), sI_o (show (206 : Nat) ≠ 204 by decide), sI_o (show (208 : Nat) ≠ 206 by decide), sI_o (show (208 : Nat) ≠ 204 by decide), h.1.1, h.2.1.1, h.2.2, j_z_bI]
  obtain ⟨c3, e3⟩ : ∃ c3, sI (sI (sI c 204 b (nI x.1.length)) 206 b (nI x.2.1.length)) 208 b (bI x.2.2) = c3 := ⟨_, rfl⟩
  have f3 : fm (fun o i => (o = 204 ∨ o = 206 ∨ o = 208) ∧ i = b) c c3 := by
    rw [← e3]
    exact ((fm.sI (by omega)).tr (fm.sI (by omega))).tr (fm.sI (by omega))
  have v4 : c3.1 204 b = nI x.1.length := by rw [← e3, sI_o (by decide), sI_o (by decide), sI_s]
  have v6 : c3.1 206 b = nI x.2.1.length := by rw [← e3, sI_o (by decide), sI_s]
  have v8 : c3.1 208 b = bI x.2.2 := by rw [← e3, sI_s]
  rw [e3]
  obtain ⟨c4, e4, _, w4, f4⟩ := cp_loop (F := f_X12_move_38 N (nI a) (nI b)) (X := fun c => f_X12_move_74 N (nI a) (nI b) N c 0) (o := 205) (o' := 205) (a := 90 * a) (b := 90 * b) (len := 90) (fun _ => True) (fun _ _ _ _ => trivial) (fun n c k hk _ => by
    rw [f_X12_move_38, if_neg (show ¬ (90 : Int32) ≤ nI k from nI_ge (b := 90) hk (by decide)), mul90 a k, mul90 b k, j_in_nI (show 90 * a + k < ln 205 from (by show 90 * a + k < 3060; omega)) (by decide), cond_true, j_in_nI (show 90 * b + k < ln 205 from (by show 90 * b + k < 3060; omega)) (by decide), cond_true, nI_clamp (by omega), nI_clamp (by omega)]
    rfl) (fun n c _ => by rw [f_X12_move_38, if_pos (show (90 : Int32) ≤ nI 90 from by decide)]) (by omega) 90 N c3 0 (by omega) (by omega) trivial
  obtain ⟨c5, e5, _, w5, f5⟩ := cp_loop (F := f_X12_move_74 N (nI a) (nI b)) (X := fun c => some ((), c)) (o := 207) (o' := 207) (a := 400 * a) (b := 400 * b) (len := 400) (fun _ => True) (fun _ _ _ _ => trivial) (fun n c k hk _ => by
    rw [f_X12_move_74, if_neg (show ¬ (400 : Int32) ≤ nI k from nI_ge (b := 400) hk (by decide)), mul400 a k, mul400 b k, j_in_nI (show 400 * a + k < ln 207 from (by show 400 * a + k < 13600; omega)) (by decide), cond_true, j_in_nI (show 400 * b + k < ln 207 from (by show 400 * b + k < 13600; omega)) (by decide), cond_true, nI_clamp (by omega), nI_clamp (by omega)]
    rfl) (fun n c _ => by rw [f_X12_move_74, if_pos (show (400 : Int32) ≤ nI 400 from by decide)]) (by omega) 400 N c4 0 (by omega) (by omega) trivial
  have l1 := h.1.2.2.1
  have l2 := h.2.1.2.2.1
  refine ⟨c5, e4.trans e5, ⟨⟨?_, fun i hi => ?_, h.1.2.2⟩, ⟨?_, fun i hi => ?_, h.2.1.2.2⟩, ?_⟩, ?_⟩
  · rw [f5.1 _ _ (by omega), f4.1 _ _ (by omega), v4]
  · rw [f5.1 _ _ (by omega), w4 i (Nat.zero_le _) (by omega), f3.1 _ _ (by omega)]
    exact h.1.2.1 i hi
  · rw [f5.1 _ _ (by omega), f4.1 _ _ (by omega), v6]
  · rw [w5 i (Nat.zero_le _) (by omega), f4.1 _ _ (by omega), f3.1 _ _ (by omega)]
    exact h.2.1.2.1 i hi
  · rw [f5.1 _ _ (by omega), f4.1 _ _ (by omega), v8]
  · exact ((f3.mono (fun o i z => by unfold msl; omega)).tr (f4.mono (fun o i z => by unfold msl; omega))).tr (f5.mono (fun o i z => by unfold msl; omega))
/-- the members but for one, with a hole at m -/
noncomputable def hol (c : hS) (base : Nat) (ms : List Mb) (k m : Nat) : Prop := (∀ i (h : i < ms.length), i < k → mmb c (base + i) ms[i]) ∧ (∀ i (h : i + 1 < ms.length), k ≤ i → i < m → mmb c (base + i) ms[i + 1]) ∧ ∀ i (h : i < ms.length), m < i → mmb c (base + i) ms[i]
theorem hol.bg {c : hS} {base k : Nat} {ms : List Mb} (h : msh c base ms) : hol c base ms k k := ⟨fun i hi _ => h i hi, fun i _ a b => by omega, fun i hi _ => h i hi⟩
theorem hol.nd {c : hS} {base k m : Nat} {ms : List Mb} (h : hol c base ms k m) (hm : m + 1 = ms.length) (hk : k < ms.length) : msh c base (ms.eraseIdx k) := by
  intro i hi
  have hi' : i + 1 < ms.length := by rw [List.length_eraseIdx_of_lt hk] at hi; omega
  rw [List.getElem_eraseIdx]
  split
  · exact h.1 i (by omega) (by omega)
  · exact h.2.1 i hi' (by omega) (by omega)
theorem hol.st {N : Nat} {c : hS} {base k m : Nat} {ms : List Mb} (hN : 1000000 ≤ N) (h : hol c base ms k m) (hm : m + 1 < ms.length) (hk : k ≤ m) (hb : base + ms.length ≤ 34) : ∃ c', f_X12_move N c (nI (base + m) + 1) (nI (base + m)) = some ((), c') ∧ hol c' base ms k (m + 1) ∧ fm (msl (base + m)) c c' := by
  obtain ⟨c', e, w, f⟩ := m_move (N := N) (a := base + (m + 1)) (b := base + m) hN (h.2.2 (m + 1) hm (by omega)) (by omega) (by omega) (by omega)
  refine ⟨c', by rw [nI_1]; exact e, ⟨fun i hi a => mmbAt (h.1 i hi a) f (fun o j z => by unfold msl at *; omega), fun i hi a b => ?_, fun i hi a => mmbAt (h.2.2 i hi (by omega)) f (fun o j z => by unfold msl at *; omega)⟩, f⟩
  by_cases q : i = m
  · subst q; exact w
  · exact mmbAt (h.2.1 i hi a (by omega)) f (fun o j z => by unfold msl at *; omega)
/-- the slots of 17 members -/
noncomputable def rg (base o i : Nat) : Prop := ((o = 204 ∨ o = 206 ∨ o = 208) ∧ base ≤ i ∧ i < base + 17) ∨ (o = 205 ∧ 90 * base ≤ i ∧ i < 90 * base + 1530) ∨ (o = 207 ∧ 400 * base ≤ i ∧ i < 400 * base + 6800)
theorem msl_rg {base m o i : Nat} (h : msl m o i) (h1 : base ≤ m) (h2 : m < base + 17) : rg base o i := by unfold msl at h; unfold rg; omega
theorem rg_msl {base m o i : Nat} (h : rg base o i) (h1 : m < base ∨ base + 17 ≤ m) : ¬ msl m o i := by unfold rg at h; unfold msl; omega
/-- the new member at place m of the shelf -/
theorem m_lay {N base m : Nat} {c : hS} {ms : List Mb} {p2 : Int32} {t g : List Nat} {d : Bool} (hN : 1000000 ≤ N) (h : msh c base ms) (hm : m = ms.length) (hm16 : m < 16) (hb : base ≤ 17) (hn : mrw c 14 209 t) (hg : mrw c 16 210 g) (hd : c.1 201 18 = bI d) (ht : t.length ≤ 90) (hgl : g.length ≤ 400) : ∃ c', f_X12_stand_46 N (nI base) p2 c (nI m) = some (nI (m + 1), c') ∧ msh c' base (ms ++ [(t, g, d)]) ∧ fm (rg base) c c' := by
  unfold f_X12_stand_46
  rw [nI_add, j_in_nI (show base + m < ln 204 from (by show base + m < 34; omega)) (by decide), cond_true, nI_clamp (by omega), hn.2.1]
  dsimp only [st1]
  obtain ⟨c3, e3⟩ : ∃ c3, sI c 204 (base + m) (nI t.length) = c3 := ⟨_, rfl⟩
  have f3 : fm (fun o i => o = 204 ∧ i = base + m) c c3 := by rw [← e3]; exact fm.sI ⟨rfl, rfl⟩
  have v4 : c3.1 204 (base + m) = nI t.length := by rw [← e3, sI_s]
  rw [e3]
  have n3 : c3.1 201 14 = nI t.length := by rw [f3.1 _ _ (by omega), hn.2.1]
  obtain ⟨c4, e4, _, w4, f4⟩ := cp_loop (F := fun n c k => f_X12_stand_66 N (nI base) p2 n c (nI m) (nI (base + m)) k) (X := fun c => f_X12_stand_66 N (nI base) p2 1 c (nI m) (nI (base + m)) (nI t.length)) (o := 205) (o' := 209) (a := 0) (b := 90 * (base + m)) (len := t.length) (fun c => c.1 201 14 = nI t.length) (fun c j x q => by rw [sI_o (by decide)]; exact q) (fun n c k hk q => by
    show f_X12_stand_66 N (nI base) p2 (n + 1) c (nI m) (nI (base + m)) (nI k) = _
    rw [f_X12_stand_66, q, if_neg (nI_ge hk (by omega)), mul90 (base + m) k, j_in_nI (show k < ln 209 from (by show k < 300; omega)) (by decide), cond_true, j_in_nI (show 90 * (base + m) + k < ln 205 from (by show 90 * (base + m) + k < 3060; omega)) (by decide), cond_true, nI_clamp (by omega), nI_clamp (by omega), Nat.zero_add]
    rfl) (fun n c q => by
    show f_X12_stand_66 N (nI base) p2 (n + 1) c (nI m) (nI (base + m)) (nI t.length) = f_X12_stand_66 N (nI base) p2 (0 + 1) c (nI m) (nI (base + m)) (nI t.length)
    rw [f_X12_stand_66, f_X12_stand_66, q, if_pos (nI_le (Nat.le_refl _) (by omega)), if_pos (nI_le (Nat.le_refl _) (by omega))]) (by omega) t.length N c3 0 (by omega) (by omega) n3
  have e4' : f_X12_stand_66 N (nI base) p2 N c3 (nI m) (nI (base + m)) 0 = f_X12_stand_66 N (nI base) p2 (0 + 1) c4 (nI m) (nI (base + m)) (nI t.length) := e4
  have g4 : c4.1 201 14 = nI t.length := by rw [f4.1 _ _ (by omega), n3]
  have g6 : c4.1 201 16 = nI g.length := by rw [f4.1 _ _ (by omega), f3.1 _ _ (by omega), hg.2.1]
  rw [e4', f_X12_stand_66, g4, if_pos (nI_le (Nat.le_refl _) (by omega)), j_in_nI (show base + m < ln 206 from (by show base + m < 34; omega)) (by decide), cond_true, nI_clamp (by omega), g6]
  dsimp only [st1]
  obtain ⟨c5, e5⟩ : ∃ c5, sI c4 206 (base + m) (nI g.length) = c5 := ⟨_, rfl⟩
  have f5 : fm (fun o i => o = 206 ∧ i = base + m) c4 c5 := by rw [← e5]; exact fm.sI ⟨rfl, rfl⟩
  have v5 : c5.1 206 (base + m) = nI g.length := by rw [← e5, sI_s]
  rw [e5]
  have g5 : c5.1 201 16 = nI g.length := by rw [f5.1 _ _ (by omega), g6]
  obtain ⟨c6, e6, _, w6, f6⟩ := cp_loop (F := fun n c k => f_X12_stand_115 N (nI base) p2 n c (nI m) (nI (base + m)) k) (X := fun c => f_X12_stand_115 N (nI base) p2 1 c (nI m) (nI (base + m)) (nI g.length)) (o := 207) (o' := 210) (a := 0) (b := 400 * (base + m)) (len := g.length) (fun c => c.1 201 16 = nI g.length) (fun c j x q => by rw [sI_o (by decide)]; exact q) (fun n c k hk q => by
    show f_X12_stand_115 N (nI base) p2 (n + 1) c (nI m) (nI (base + m)) (nI k) = _
    rw [f_X12_stand_115, q, if_neg (nI_ge hk (by omega)), mul400 (base + m) k, j_in_nI (show k < ln 210 from (by show k < 600; omega)) (by decide), cond_true, j_in_nI (show 400 * (base + m) + k < ln 207 from (by show 400 * (base + m) + k < 13600; omega)) (by decide), cond_true, nI_clamp (by omega), nI_clamp (by omega), Nat.zero_add]
    rfl) (fun n c q => by
    show f_X12_stand_115 N (nI base) p2 (n + 1) c (nI m) (nI (base + m)) (nI g.length) = f_X12_stand_115 N (nI base) p2 (0 + 1) c (nI m) (nI (base + m)) (nI g.length)
    rw [f_X12_stand_115, f_X12_stand_115, q, if_pos (nI_le (Nat.le_refl _) (by omega)), if_pos (nI_le (Nat.le_refl _) (by omega))]) (by omega) g.length N c5 0 (by omega) (by omega) g5
  have e6' : f_X12_stand_115 N (nI base) p2 N c5 (nI m) (nI (base + m)) 0 = f_X12_stand_115 N (nI base) p2 (0 + 1) c6 (nI m) (nI (base + m)) (nI g.length) := e6
  have g7 : c6.1 201 16 = nI g.length := by rw [f6.1 _ _ (by omega), g5]
  have g8 : c6.1 201 18 = bI d := by rw [f6.1 _ _ (by omega), f5.1 _ _ (by omega), f4.1 _ _ (by omega), f3.1 _ _ (by omega), hd]
  rw [e6', f_X12_stand_115, g7, if_pos (nI_le (Nat.le_refl _) (by omega)), j_in_nI (show base + m < ln 208 from (by show base + m < 34; omega)) (by decide), cond_true, nI_clamp (by omega), g8, j_z_bI, nI_1]
  dsimp only [st1]
  have f7 : fm (fun o i => o = 208 ∧ i = base + m) c6 (sI c6 208 (base + m) (bI d)) := fm.sI ⟨rfl, rfl⟩
  have fa : fm (msl (base + m)) c (sI c6 208 (base + m) (bI d)) := ((((f3.mono (fun o i z => by unfold msl; omega)).tr (f4.mono (fun o i z => by unfold msl; omega))).tr (f5.mono (fun o i z => by unfold msl; omega))).tr (f6.mono (fun o i z => by unfold msl; omega))).tr (f7.mono (fun o i z => by unfold msl; omega))
  refine ⟨_, rfl, fun i hi => ?_, fa.mono (fun o i z => msl_rg z (by omega) (by omega))⟩
  have hi' : i < ms.length + 1 := by simpa using hi
  by_cases q : i < ms.length
  · rw [List.getElem_append_left q]
    exact mmbAt (h i q) fa (fun o j z => by unfold msl at *; omega)
  · have qi : i = ms.length := by omega
    subst qi
    rw [List.getElem_append_right (Nat.le_refl _)]
    simp only [Nat.sub_self, List.getElem_cons_zero]
    subst hm
    refine ⟨⟨?_, fun j hj => ?_, ht, hn.2.2.2⟩, ⟨?_, fun j hj => ?_, hgl, hg.2.2.2⟩, sI_s _ _ _ _⟩
    · rw [f7.1 _ _ (by omega), f6.1 _ _ (by omega), f5.1 _ _ (by omega), f4.1 _ _ (by omega), v4]
    · have hj : j < t.length := hj
      rw [f7.1 _ _ (by omega), f6.1 _ _ (by omega), f5.1 _ _ (by omega), w4 j (Nat.zero_le _) hj, f3.1 _ _ (by omega), Nat.zero_add]
      exact hn.2.2.1 j hj
    · rw [f7.1 _ _ (by omega), f6.1 _ _ (by omega), v5]
    · have hj : j < g.length := hj
      rw [f7.1 _ _ (by omega), w6 j (Nat.zero_le _) hj, f5.1 _ _ (by omega), f4.1 _ _ (by omega), f3.1 _ _ (by omega), Nat.zero_add]
      exact hg.2.2.1 j hj
theorem comeM_len {ms : List Mb} {x : Mb} : (comeM ms x).length ≤ ms.length + 1 := by
  unfold comeM
  have := List.length_eraseP_le (p := fun y : Mb => decide (y.1 = x.1)) (l := ms)
  simp
  omega
theorem m_stand {N base : Nat} {c : hS} {ms : List Mb} {t g : List Nat} {d : Bool} (hN : 1000000 ≤ N) (h : msh c base ms) (hml : ms.length ≤ 16) (hroom : ms.length < 16 ∨ ∃ x ∈ ms, x.1 = t) (hb : base = 0 ∨ base = 17) (hn : mrw c 14 209 t) (hg : mrw c 16 210 g) (hd : c.1 201 18 = bI d) (ht : t.length ≤ 90) (hgl : g.length ≤ 400) : ∃ c', f_X12_stand N c (nI base) (nI ms.length) = some (nI (comeM ms (t, g, d)).length, c') ∧ msh c' base (comeM ms (t, g, d)) ∧ (comeM ms (t, g, d)).length ≤ 16 ∧ fm (rg base) c c' := by
  unfold f_X12_stand comeM
  rw [m_seek hN h (by omega) hn, bnd_some]
  show ∃ c', _ ∧ msh c' base (ms.eraseP (fun y => decide (y.1 = t)) ++ [(t, g, d)]) ∧ _
  rcases fnI_er (t := t) (ms := ms) (i := base) with ⟨e1, e2⟩ | ⟨k, hk, e1, e2⟩
  · have hms : ms.length < 16 := by
      rcases hroom with q | ⟨x, hx, q⟩
      · exact q
      · rcases fnI_at (t := t) (ms := ms) (i := base) with ⟨_, z2⟩ | ⟨k, z1, z2, _⟩
        · exact absurd q (z2 x hx)
        · rw [e1] at z2
          exact absurd (show nI (base + k) < 0 from by rw [← z2]; decide) (nI_pos (by omega))
    rw [e1, if_pos (by decide), e2]
    obtain ⟨c', w1, w2, w3⟩ := m_lay (p2 := nI ms.length) hN h rfl hms (by omega) hn hg hd ht hgl
    exact ⟨c', by rw [w1]; simp, w2, by simp; omega, w3⟩
  · rw [e1, if_neg (nI_pos (by omega)), e2]
    have key : ∀ r n m c, m + r + 1 = ms.length → r < n → k ≤ m → hol c base ms k m → ∃ c', f_X12_stand_17 N (nI base) (nI ms.length) n c (nI ms.length) (nI (base + m)) = f_X12_stand_46 N (nI base) (nI ms.length) c' (nI (ms.length - 1)) ∧ msh c' base (ms.eraseIdx k) ∧ fm (rg base) c c' := by
      intro r
      induction r with
      | zero =>
        intro n m c hm hn' hkm hh
        obtain ⟨n, rfl⟩ : ∃ m, n = m + 1 := ⟨n - 1, by omega⟩
        rw [f_X12_stand_17, nI_add, nI_1, if_pos (nI_le (by omega) (by omega))]
        refine ⟨c, ?_, hh.nd (by omega) hk, fm.rf⟩
        rw [show nI ms.length + -1 = nI (ms.length - 1) from by rw [← subI (b := 1) (by omega)]; exact (Int32.sub_eq_add_neg _ _).symm]
      | succ r ih =>
        intro n m c hm hn' hkm hh
        obtain ⟨n, rfl⟩ : ∃ m, n = m + 1 := ⟨n - 1, by omega⟩
        obtain ⟨c1, a1, a2, a3⟩ := hh.st hN (by omega) hkm (by omega)
        obtain ⟨c', b1, b2, b3⟩ := ih n (m + 1) c1 (by omega) (by omega) (by omega) a2
        rw [f_X12_stand_17, nI_add, if_neg (by rw [nI_1]; exact nI_ge (by omega) (by omega)), a1, bnd_some, nI_1]
        exact ⟨c', b1, b2, (a3.mono (fun o i z => msl_rg z (by omega) (by omega))).tr b3⟩
    obtain ⟨c1, a1, a2, a3⟩ := key (ms.length - 1 - k) N k c (by omega) (by omega) (Nat.le_refl _) (hol.bg h)
    have ll : (ms.eraseIdx k).length = ms.length - 1 := List.length_eraseIdx_of_lt hk
    have nr : ∀ o i, rg base o i → 204 ≤ o ∧ o ≤ 208 := fun o i z => by unfold rg at z; omega
    have nn : ∀ o i, ¬ (204 ≤ o ∧ o ≤ 208) → ¬ rg base o i := fun o i q z => q (nr o i z)
    obtain ⟨c', w1, w2, w3⟩ := m_lay (p2 := nI ms.length) (m := ms.length - 1) hN a2 ll.symm (by omega) (by omega) (hn.fm a3 (nn _ _ (by omega)) (fun i => nn _ _ (by omega))) (hg.fm a3 (nn _ _ (by omega)) (fun i => nn _ _ (by omega))) ((a3.1 _ _ (nn _ _ (by omega))).trans hd) ht hgl
    exact ⟨c', by rw [a1, w1, List.length_append, ll]; rfl, w2, by simp [ll]; omega, a3.tr w3⟩
