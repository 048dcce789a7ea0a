/-! PURE: the reference: tests of the tape, members that come -/
noncomputable def FQ (o i : Nat) : Prop := o = 201 ∧ (i = 5 ∨ i = 6)
/-- a test: when it holds nothing has changed -/
noncomputable def MT (X : Option (Int32 × hS)) (c : hS) (b : Bool) : Prop := ∃ c', X = some (bI b, c') ∧ fm FQ c c' ∧ (b = true → c' = c)
theorem MT.yes {c : hS} : MT (some (1, c)) c true := ⟨c, rfl, fm.rf, fun _ => rfl⟩
theorem MT.is {c : hS} {b : Bool} : MT (some (bI b, c)) c b := ⟨c, rfl, fm.rf, fun _ => rfl⟩
theorem MT.fail {c : hS} {a p : Int32} : MT (bnd (f_X12_fails c a p) fun x c2 => bif j_b x then some (x, c2) else none) c false := by
  obtain ⟨c', e1, f1⟩ := b_fail (c := c) (a := a) (p := p) (P := FQ) (fun i z => ⟨rfl, z⟩)
  exact ⟨c', e1, f1, fun z => by cases z⟩
theorem MT.fail2 {c : hS} {a p : Int32} : MT (bnd (f_X12_fails c a p) fun x c2 => if x = 0 then some (0, c2) else some (1, c2)) c false := by
  obtain ⟨c', e1, f1⟩ := m_failsX (c := c) (a := a) (p := p)
  rw [e1, bnd_some, if_pos rfl]
  exact ⟨c', rfl, f1, fun z => by cases z⟩
theorem MT.jb {X : Option (Int32 × hS)} {c : hS} {b : Bool} (h : MT X c b) : MT (bnd X fun x c2 => bif j_b x then some (x, c2) else none) c b := by
  obtain ⟨c', e1, f1, g1⟩ := h
  rw [e1, bnd_some, show j_b (bI b) = true by cases b <;> rfl]
  exact ⟨c', rfl, f1, g1⟩
theorem MT.and_ {X : Option (Int32 × hS)} {K : hS → Option (Int32 × hS)} {c : hS} {b b' : Bool} (h : MT X c b) (hK : b = true → MT (K c) c b') : MT (bnd X fun x c1 => if x = 0 then some (0, c1) else K c1) c (b && b') := by
  obtain ⟨c', e1, f1, g1⟩ := h
  rw [e1, bnd_some]
  cases b with
  | false => rw [if_pos (show bI false = 0 from rfl)]; exact ⟨c', rfl, f1, fun z => by cases z⟩
  | true => rw [if_neg (by decide), g1 rfl]; exact hK rfl
theorem MT.last2 {X : Option (Int32 × hS)} {c : hS} {b : Bool} (h : MT X c b) : MT (bnd X fun x c1 => if x = 0 then some (0, c1) else some (1, c1)) c b := by
  have := MT.and_ (K := fun c1 => some (1, c1)) h (fun _ => MT.yes)
  rwa [Bool.and_true] at this
theorem MT.ite_ {X Y : Option (Int32 × hS)} {c : hS} {b : Bool} {p : Prop} [Decidable p] {q : Prop} [Decidable q] (hp : p ↔ q) (hX : q → MT X c b) (hY : MT Y c false) : MT (if p then X else Y) c (decide q && b) := by
  by_cases w : q
  · rw [if_pos (hp.mpr w), decide_eq_true w, Bool.true_and]; exact hX w
  · rw [if_neg (fun z => w (hp.mp z)), decide_eq_false w, Bool.false_and]; exact hY
theorem MT.if1 {Y : Option (Int32 × hS)} {c : hS} {p : Prop} [Decidable p] {q : Prop} [Decidable q] (hp : p ↔ q) (hY : MT Y c false) : MT (if p then some (1, c) else Y) c (decide q) := by
  have := MT.ite_ (X := some (1, c)) (b := true) hp (fun _ => MT.yes) hY
  rwa [Bool.and_true] at this
theorem m_all {F : Nat → hS → Int32 → Option (Int32 × hS)} {c : hS} {j : Nat} {P : Nat → Bool} (hs : ∀ n k, k < j → (P k = true → F (n + 1) c (nI k) = F n c (nI k + 1)) ∧ (P k = false → MT (F (n + 1) c (nI k)) c false)) (h0 : ∀ n, MT (F (n + 1) c (nI j)) c true) : ∀ d n k, k + d = j → d < n → MT (F n c (nI k)) c ((List.range' k d).all P) := by
  intro d
  induction d with
  | zero =>
    intro n k hk hn
    obtain ⟨n, rfl⟩ : ∃ m, n = m + 1 := ⟨n - 1, by omega⟩
    have : k = j := by omega
    subst this
    exact h0 n
  | succ d ih =>
    intro n k hk hn
    obtain ⟨n, rfl⟩ : ∃ m, n = m + 1 := ⟨n - 1, by omega⟩
    obtain ⟨h1, h2⟩ := hs n k (by omega)
    rw [List.range'_succ, List.all_cons]
    cases q : P k with
    | true => rw [h1 q, nI_1, Bool.true_and]; exact ih n (k + 1) (by omega) (by omega)
    | false => rw [Bool.false_and]; exact h2 q
theorem tp_at {c : hS} {t : List Nat} {k : Nat} (h : mrw c 4 203 t) (hk : k < t.length) : j_in (nI k) (ln 203) = true ∧ c.1 203 (nI k).toNatClampNeg = nI (gt t k) := by
  have ht : t.length ≤ 20000 := h.1
  exact ⟨j_in_nI (show k < ln 203 from (by show k < 20000; omega)) (by decide), by rw [nI_clamp (by omega)]; exact h.2.2.1 k hk⟩
theorem gt_eq {t : List Nat} (h : byt t) {k v : Nat} (hv : v < 256) : nI (gt t k) = nI v ↔ gt t k = v := nI_eq (by have := h.gt k; omega) (by omega)
theorem m_reaches {c : hS} {t : List Nat} {x : Int64} {k : Nat} (h : mrw c 4 203 t) (hx : x = lN k) (hk : k < 2 ^ 62) : MT (f_X12_reaches c x) c (decide (k ≤ t.length)) := by
  have ht : t.length ≤ 20000 := h.1
  unfold f_X12_reaches
  rw [h.2.1]
  exact MT.if1 (cmp_le' hx (nI_l (by omega)) (by omega) (by omega)) MT.fail2
theorem m_areZeros {N p : Nat} {c : hS} {t : List Nat} (hN : 1000000 ≤ N) (h : mrw c 4 203 t) (hp : p ≤ t.length) : MT (f_X12_areZeros N c (nI p)) c (zerB t p) := by
  have ht : t.length ≤ 20000 := h.1
  unfold f_X12_areZeros zerB
  refine m_all (F := f_X12_areZeros_2 N (nI p)) (j := t.length) (fun n k hk => ?_) (fun n => ?_) (t.length - p) N p (by omega) (by omega)
  · obtain ⟨a1, a2⟩ := tp_at h hk
    rw [f_X12_areZeros_2, h.2.1, if_neg (nI_ge hk (by omega)), a1, cond_true, a2]
    refine ⟨fun q => ?_, fun q => ?_⟩
    · rw [if_pos (by rw [of_decide_eq_true q]; rfl)]
    · rw [if_neg (show ¬ nI (gt t k) = 0 from fun z => (of_decide_eq_false q) ((gt_eq (v := 0) h.2.2.2 (by decide)).mp z))]
      exact MT.fail
  · rw [f_X12_areZeros_2, h.2.1, if_pos (nI_le (Nat.le_refl _) (by omega))]
    exact MT.yes
theorem m_isRow {N p a b d e : Nat} {c : hS} {t : List Nat} {p1 x y z w f : Int32} (hN : 1000000 ≤ N) (h : mrw c 4 203 t) (hp : p + 4 ≤ t.length) (h1 : p1 = nI p) (hx : x = nI a) (hy : y = nI b) (hz : z = nI d) (hw : w = nI e) (hb : a < 256 ∧ b < 256 ∧ d < 256 ∧ e < 256) : MT (f_X12_isRow N c p1 x y z w f) c (mkB t p [a, b, d, e]) := by
  subst h1 hx hy hz hw
  unfold f_X12_isRow mkB
  refine m_all (F := f_X12_isRow_3 N (nI p) (nI a) (nI b) (nI d) (nI e) f) (j := 4) (fun n k hk => ?_) (fun n => ?_) 4 N 0 (by omega) (by omega)
  · obtain ⟨a1, a2⟩ := tp_at h (show p + k < t.length by omega)
    have gl : gt [a, b, d, e] k < 256 := by
      have : k = 0 ∨ k = 1 ∨ k = 2 ∨ k = 3 := by omega
      rcases this with rfl | rfl | rfl | rfl
      · exact hb.1
      · exact hb.2.1
      · exact hb.2.2.1
      · exact hb.2.2.2
    have ex : f_X12_isRow_3 N (nI p) (nI a) (nI b) (nI d) (nI e) f (n + 1) c (nI k) = f_X12_isRow_41 N (nI p) (nI a) (nI b) (nI d) (nI e) f (f_X12_isRow_3 N (nI p) (nI a) (nI b) (nI d) (nI e) f n) c (nI k) (nI (gt [a, b, d, e] k)) := by
      have : k = 0 ∨ k = 1 ∨ k = 2 ∨ k = 3 := by omega
      rcases this with rfl | rfl | rfl | rfl <;> rfl
    rw [ex]
    unfold f_X12_isRow_41
    rw [nI_add, a1, cond_true, a2]
    refine ⟨fun q => ?_, fun q => ?_⟩
    · rw [if_pos (by rw [of_decide_eq_true q])]
    · rw [if_neg (fun z => (of_decide_eq_false q) ((gt_eq h.2.2.2 gl).mp z))]
      exact MT.fail
  · rw [f_X12_isRow_3, if_pos (by decide)]
    exact MT.yes
/-- the members that have been read -/
noncomputable def RS (c : hS) (t : List Nat) (ms : List Mb) : Prop := mrw c 4 203 t ∧ msh c 17 ms ∧ c.1 201 8 = nI ms.length ∧ ms.length ≤ 16 ∧ ∀ x ∈ ms, nameB x.1 = true
theorem RS.mv {P : Nat → Nat → Prop} {c c1 : hS} {t : List Nat} {ms : List Mb} (h : RS c t ms) (hf : fm P c c1) (hP : ∀ o i, P o i → (o = 201 ∧ i ≠ 4 ∧ i ≠ 8) ∨ o = 202 ∨ 208 < o) : RS c1 t ms := by
  have n : ∀ o i, ¬ ((o = 201 ∧ i ≠ 4 ∧ i ≠ 8) ∨ o = 202 ∨ 208 < o) → ¬ P o i := fun o i q z => q (hP o i z)
  exact ⟨h.1.fm hf (n _ _ (by omega)) (fun i => n _ _ (by omega)), fun i hi => (h.2.1 i hi).fm hf (fun o j a b => n _ _ (by omega)), (hf.1 _ _ (n _ _ (by omega))).trans h.2.2.1, h.2.2.2⟩
noncomputable def CF (o i : Nat) : Prop := FQ o i ∨ (o = 201 ∧ i = 8) ∨ rg 17 o i
theorem rg_n {base o i : Nat} (h : rg base o i) : 204 ≤ o ∧ o ≤ 208 := by unfold rg at h; omega
theorem m_comes {N : Nat} {c : hS} {t nm g : List Nat} {ms : List Mb} {d : Bool} {p : Int32} (hN : 1000000 ≤ N) (h : RS c t ms) (hn : mrw c 14 209 nm) (hg : mrw c 16 210 g) (hd : c.1 201 18 = bI d) (hnm : nameB nm = true) (hgl : g.length ≤ 400) : ∃ c', f_X12_comes N c p = some (bI (mayB ms nm d), c') ∧ fm CF c c' ∧ (mayB ms nm d = true → RS c' t (comeM ms (nm, g, d)) ∧ c'.1 201 5 = c.1 201 5) := by
  have h16 := h.2.2.2.1
  have bad : ∀ {a : Int32}, ∃ c', (bnd (f_X12_fails c a p) fun x c2 => bif j_b x then some (x, c2) else none) = some (0, c') ∧ fm CF c c' := by
    intro a
    obtain ⟨c', e1, f1⟩ := b_fail (c := c) (a := a) (p := p) (P := FQ) (fun i z => ⟨rfl, z⟩)
    exact ⟨c', e1, f1.mono (fun o i z => Or.inl z)⟩
  unfold f_X12_comes mayB
  have ew := m_isInTheWay (base := 17) (d := d) hN h.2.1 (by omega) hn hd (nameB_pos hnm) (fun x hx => nameB_pos (h.2.2.2.2 x hx))
  have ew' : f_X12_isInTheWay N c 17 (nI ms.length) = _ := ew
  have es' : f_X12_seek N c 17 (nI ms.length) = _ := m_seek (base := 17) hN h.2.1 (by omega) hn
  rw [h.2.2.1, ew', bnd_some]
  cases hw : ms.any (wayB nm d) with
  | true =>
    rw [if_neg (by decide)]
    obtain ⟨c', e1, f1⟩ := bad (a := 11)
    exact ⟨c', e1, f1, fun z => by cases z⟩
  | false =>
    rw [if_pos (show bI false = 0 from rfl), Bool.not_false, Bool.true_and, h.2.2.1]
    have room : (decide (ms.length < 16) || ms.any fun x => decide (x.1 = nm)) = true → ∃ c', f_X12_comes_43 N p c = some (bI (decide (ms.length < 16) || ms.any fun x => decide (x.1 = nm)), c') ∧ fm CF c c' ∧ ((decide (ms.length < 16) || ms.any fun x => decide (x.1 = nm)) = true → RS c' t (comeM ms (nm, g, d)) ∧ c'.1 201 5 = c.1 201 5) := by
      intro hr
      have hrm : ms.length < 16 ∨ ∃ x ∈ ms, x.1 = nm := by
        rcases Bool.or_eq_true_iff.mp hr with q | q
        · exact Or.inl (of_decide_eq_true q)
        · obtain ⟨x, hx, q⟩ := List.any_eq_true.mp q
          exact Or.inr ⟨x, hx, of_decide_eq_true q⟩
      obtain ⟨c6, e6, s6, l6, f6⟩ := m_stand (base := 17) (d := d) hN h.2.1 h16 hrm (Or.inr rfl) hn hg hd (nameB_90 hnm) hgl
      have e6' : f_X12_stand N c 17 (nI ms.length) = _ := e6
      unfold f_X12_comes_43
      rw [h.2.2.1, e6', bnd_some, hr]
      dsimp only [st1]
      have f8 : fm (fun o i => o = 201 ∧ i = 8) c6 (sI c6 201 8 (nI (comeM ms (nm, g, d)).length)) := fm.sI ⟨rfl, rfl⟩
      have fa : fm CF c (sI c6 201 8 (nI (comeM ms (nm, g, d)).length)) := (f6.mono (fun o i z => Or.inr (Or.inr z))).tr (f8.mono (fun o i z => Or.inr (Or.inl z)))
      have nr : ∀ o i, ¬ (204 ≤ o ∧ o ≤ 208) → ¬ rg 17 o i := fun o i q z => q (rg_n z)
      refine ⟨_, rfl, fa, fun _ => ⟨⟨(h.1.fm f6 (nr _ _ (by omega)) (fun i => nr _ _ (by omega))).fm f8 (by omega) (fun i => by omega), fun i hi => (s6 i hi).fm f8 (fun o j a b => by omega), sI_s _ _ _ _, l6, fun x hx => ?_⟩, by rw [f8.1 _ _ (by omega), f6.1 _ _ (nr _ _ (by omega))]⟩⟩
      rcases comeM_mem hx with q | q
      · exact h.2.2.2.2 x q
      · rw [q]; exact hnm
    by_cases q16 : ms.length = 16
    · rw [if_pos (show nI ms.length = 16 by rw [q16]; rfl), es', bnd_some]
      rcases fnI_at (t := nm) (ms := ms) (i := 17) with ⟨a1, a2⟩ | ⟨k, a1, a2, a3⟩
      · rw [a1, if_neg (by decide)]
        have hr : (decide (ms.length < 16) || ms.any fun x => decide (x.1 = nm)) = false := by
          rw [decide_eq_false (by omega), Bool.false_or]
          cases z : (ms.any fun x => decide (x.1 = nm)) with
          | false => rfl
          | true =>
            obtain ⟨x, hx, q⟩ := List.any_eq_true.mp z
            exact absurd (of_decide_eq_true q) (a2 x hx)
        obtain ⟨c', e1, f1⟩ := bad (a := 11)
        rw [hr]
        exact ⟨c', e1, f1, fun z => by cases z⟩
      · rw [a2, if_pos (nI_pos'' (by omega))]
        apply room
        rw [Bool.or_eq_true_iff]
        exact Or.inr (List.any_eq_true.mpr ⟨ms[k], List.getElem_mem a1, decide_eq_true (a3 a1)⟩)
    · rw [if_neg (show ¬ nI ms.length = 16 from fun z => q16 ((nI_eq (b := 16) (by omega) (by decide)).mp z))]
      apply room
      rw [decide_eq_true (by omega), Bool.true_or]
theorem m_takeBytes {N p n : Nat} {c : hS} {t : List Nat} {x y : Int32} (hN : 1000000 ≤ N) (h : mrw c 4 203 t) (hp : p + n ≤ t.length) (hn : n ≤ 600) (hx : x = nI p) (hy : y = nI n) : ∃ c', f_X12_takeBytes N c x y = some ((), c') ∧ mrw c' 16 210 ((t.drop p).take n) ∧ fm (fun o i => (o = 201 ∧ i = 16) ∨ o = 210) c c' := by
  subst hx hy
  have ht : t.length ≤ 20000 := h.1
  unfold f_X12_takeBytes
  dsimp only [st1]
  have f1 : fm (fun o i => o = 201 ∧ i = 16) c (sI c 201 16 (nI n)) := fm.sI ⟨rfl, rfl⟩
  obtain ⟨c3, e3, i3, w3, f3⟩ := cp_loop (F := f_X12_takeBytes_7 N (nI p) (nI n)) (X := fun c => some ((), c)) (o := 210) (o' := 203) (a := p) (b := 0) (len := n) (fun c => c.1 201 16 = nI n) (fun c i x q => by rw [sI_o (by decide)]; exact q) (fun m c i hi q => by
    rw [f_X12_takeBytes_7, if_neg (nI_ge hi (by omega)), nI_add, j_in_nI (show p + i < ln 203 from (by show p + i < 20000; omega)) (by decide), cond_true, j_in_nI (show i < ln 210 from (by show i < 600; omega)) (by decide), cond_true, nI_clamp (by omega), nI_clamp (by omega), Nat.zero_add]
    rfl) (fun m c q => by rw [f_X12_takeBytes_7, if_pos (nI_le (Nat.le_refl _) (by omega))]) (by omega) n N (sI c 201 16 (nI n)) 0 (by omega) (by omega) (sI_s _ _ _ _)
  refine ⟨c3, e3, ?_, (f1.mono (fun o i z => Or.inl z)).tr (f3.mono (fun o i z => Or.inr z.1))⟩
  exact mrw.cp (c := sI c 201 16 (nI n)) (c' := c3) (j := 16) (o := 210) (o' := 203) (a := p) (len := n) (l := t) hp (fun i hi => (f1.1 _ _ (by omega)).trans (h.2.2.1 i hi)) w3 i3 hn h.2.2.2
