/-! THE HEAP'S INSTRUCTIONS, as one function, and that the machine follows it -/
def am_find (t : List (Nat × Nat × Nat × Nat × Nat)) (idx ci : Nat) : Option (Nat × Nat × Nat) := match t with
  | [] => none
  | e :: r => bif Nat.beq e.1 idx && Nat.beq e.2.1 ci then some e.2.2 else am_find r idx ci
theorem am_find_mem {t : List (Nat × Nat × Nat × Nat × Nat)} {idx ci : Nat} {u : Nat × Nat × Nat} (h : am_find t idx ci = some u) : (idx, ci, u) ∈ t := by
  induction t with
  | nil => cases h
  | cons e r ih =>
    unfold am_find at h
    cases hb : (Nat.beq e.1 idx && Nat.beq e.2.1 ci) with
    | true =>
      rw [hb] at h
      simp only [Bool.and_eq_true] at hb
      obtain ⟨e1, e2, e3⟩ := e
      cases h
      have h1 : e1 = idx := Nat.eq_of_beq_eq_true hb.1
      have h2 : e2 = ci := Nat.eq_of_beq_eq_true hb.2
      subst h1; subst h2
      exact List.mem_cons_self
    | false =>
      rw [hb] at h
      exact List.mem_cons_of_mem _ (ih h)
def am_fnd {α : Type} (t : List (Nat × α)) (idx : Nat) : Option α := match t with
  | [] => none
  | e :: r => bif Nat.beq e.1 idx then some e.2 else am_fnd r idx
theorem am_fnd_mem {α : Type} {t : List (Nat × α)} {idx : Nat} {u : α} (h : am_fnd t idx = some u) : (idx, u) ∈ t := by
  induction t with
  | nil => cases h
  | cons e r ih =>
    unfold am_fnd at h
    cases hb : Nat.beq e.1 idx with
    | true =>
      rw [hb] at h
      obtain ⟨e1, e2⟩ := e
      cases h
      have h1 : e1 = idx := Nat.eq_of_beq_eq_true hb
      subst h1
      exact List.mem_cons_self
    | false =>
      rw [hb] at h
      exact List.mem_cons_of_mem _ (ih h)
theorem am_all {α : Type} {n : Nat} {t : Nat → List α} {f : Nat → α → Bool} (h : (List.range n).all (fun o => (t o).all (f o)) = true) {o : Nat} (ho : o < n) {e : α} (he : e ∈ t o) : f o e = true := List.all_eq_true.mp (List.all_eq_true.mp h o (List.mem_range.mpr ho)) e he
theorem am_gd_of {w : Cond} (hd : decide (w ∈ lw_tbl) = true) (hg : goodWord w = true) : w ∈ am_gd := am_gd_in (of_decide_eq_true hd) hg
theorem am_nw_of {w : Cond} (hd : decide (w ∈ lw_tbl) = true) (hg : am_isN w = true) : w ∈ am_nw := List.mem_filter.mpr ⟨of_decide_eq_true hd, hg⟩
/-- an index within -/
def am_in (i : Int32) (n : Nat) : Bool := !decide (i < 0) && Nat.blt i.toNatClampNeg n
theorem am_in_ok2 {i : Int32} {n : Nat} (h : am_in i n = true) : vp_in i n := by
  unfold am_in at h
  simp only [Bool.and_eq_true, Bool.not_eq_true', decide_eq_false_iff_not] at h
  intro q
  rcases q with q | q
  · exact h.1 q
  · exact absurd (Nat.blt_eq.mp h.2) (Nat.not_lt.mpr q)
def am_isA (kd : Nat) : Bool := Nat.beq kd 20 || Nat.beq kd 21 || Nat.beq kd 22 || Nat.beq kd 23 || Nat.beq kd 24
/-- the old ones: static arrays from 1000000000 on, texts from 1000000100 on, their bytes from 1000000200 on -/
def am_oarr (o : Nat) : Option (List Int32) := match am_sa[o - 1000000000]? with
  | some q => some q.2.2
  | none => none
def am_obyt (o : Nat) : Option (List Int32) := match am_st[o - 1000000200]? with
  | some q => some q.2.2.2
  | none => none
def am_s1 (own : Nat) (ini : Bool) (i : Instr) (pc : Nat) (st : List Value) (h : am_H) : Option (Nat × List Value × am_H) := match i with
  | .getfield idx => match st with
    | .ref o :: r => bif Nat.blt o h.1 then (match am_find (am_ft own) idx (h.2.2.2 o).1 with
      | some u => some (pc + 3, (h.2.2.2 o).2.2 u.1 :: r, h)
      | none => none) else none
    | _ => none
  | .putfield idx => match st with
    | v :: .ref o :: r => bif Nat.blt o h.1 then (match am_find (am_ft own) idx (h.2.2.2 o).1 with
      | some u => bif (Nat.beq u.2.2 0 || (Nat.beq u.2.2 1 && ini)) && am_fit (am_ty0 (h.2.2.2 o).1 u.1) v then some (pc + 3, r, am_put h o ((h.2.2.2 o).1, (h.2.2.2 o).2.1, am_up (h.2.2.2 o).2.2 u.1 v)) else none
      | none => none) else none
    | _ => none
  | .iaload => match st with
    | .int j :: .ref o :: r => bif Nat.blt o h.1 then (bif Nat.beq (h.2.2.2 o).1 20 && am_in j (h.2.2.2 o).2.1 then some (pc + 1, .int (am_i ((h.2.2.2 o).2.2 j.toNatClampNeg)) :: r, h) else none) else none
    | _ => none
  | .iastore => match st with
    | .int x :: .int j :: .ref o :: r => bif Nat.blt o h.1 && Nat.beq (h.2.2.2 o).1 20 && am_in j (h.2.2.2 o).2.1 then some (pc + 1, r, am_put h o ((h.2.2.2 o).1, (h.2.2.2 o).2.1, am_up (h.2.2.2 o).2.2 j.toNatClampNeg (.int x))) else none
    | _ => none
  | .laload => match st with
    | .int j :: .ref o :: r => bif Nat.blt o h.1 && Nat.beq (h.2.2.2 o).1 21 && am_in j (h.2.2.2 o).2.1 then some (pc + 1, .long (am_l ((h.2.2.2 o).2.2 j.toNatClampNeg)) :: r, h) else none
    | _ => none
  | .lastore => match st with
    | .long x :: .int j :: .ref o :: r => bif Nat.blt o h.1 && Nat.beq (h.2.2.2 o).1 21 && am_in j (h.2.2.2 o).2.1 then some (pc + 1, r, am_put h o ((h.2.2.2 o).1, (h.2.2.2 o).2.1, am_up (h.2.2.2 o).2.2 j.toNatClampNeg (.long x))) else none
    | _ => none
  | .baload => match st with
    | .int j :: .ref o :: r => bif Nat.blt o h.1 && Nat.beq (h.2.2.2 o).1 22 && am_in j (h.2.2.2 o).2.1 then some (pc + 1, .int (am_i ((h.2.2.2 o).2.2 j.toNatClampNeg)) :: r, h) else none
    | _ => none
  | .bastore => match st with
    | .int x :: .int j :: .ref o :: r => bif Nat.blt o h.1 && Nat.beq (h.2.2.2 o).1 22 && am_in j (h.2.2.2 o).2.1 then some (pc + 1, r, am_put h o ((h.2.2.2 o).1, (h.2.2.2 o).2.1, am_up (h.2.2.2 o).2.2 j.toNatClampNeg (.int (vp_nar .boolean x)))) else none
    | _ => none
  | .aaload => match st with
    | .int j :: .ref o :: r => bif Nat.blt o h.1 && (Nat.beq (h.2.2.2 o).1 23 || Nat.beq (h.2.2.2 o).1 24) && am_in j (h.2.2.2 o).2.1 then some (pc + 1, am_rv ((h.2.2.2 o).2.2 j.toNatClampNeg) :: r, h) else none
    | _ => none
  | .aastore => match st with
    | .ref q :: .int j :: .ref o :: r => bif Nat.blt o h.1 && Nat.blt q h.1 && am_in j (h.2.2.2 o).2.1 && ((Nat.beq (h.2.2.2 o).1 24 && Nat.beq (h.2.2.2 q).1 6) || (Nat.beq (h.2.2.2 o).1 23 && (Nat.beq (h.2.2.2 q).1 0 || Nat.beq (h.2.2.2 q).1 3 || Nat.beq (h.2.2.2 q).1 4))) then some (pc + 1, r, am_put h o ((h.2.2.2 o).1, (h.2.2.2 o).2.1, am_up (h.2.2.2 o).2.2 j.toNatClampNeg (.ref q))) else none
    | _ => none
  | .arraylength => match st with
    | .ref o :: r => bif Nat.blt o h.1 && am_isA (h.2.2.2 o).1 then some (pc + 1, .int (Int32.ofNat (h.2.2.2 o).2.1) :: r, h) else none
    | _ => none
  | .new idx => match am_fnd (am_nt own) idx with
    | some ci => bif Nat.blt h.1 1000000000 then some (pc + 3, .ref h.1 :: st, am_new h (am_nf ci) (ci, 0, fun j => defaultValue (am_ty0 ci j))) else none
    | none => none
  | .newarray ty => match st, am_at ty with
    | .int n :: r, some u => bif Nat.blt h.1 1000000000 && !decide (n < 0) && Nat.ble (n.toNatClampNeg * 8) 536870912 then some (pc + 2, .ref h.1 :: r, am_new h n.toNatClampNeg (u.2.1, n.toNatClampNeg, fun _ => u.2.2)) else none
    | _, _ => none
  | .anewarray idx => match st, am_fnd (am_qt own) idx with
    | .int n :: r, some kd => bif Nat.blt h.1 1000000000 && !decide (n < 0) && Nat.ble (n.toNatClampNeg * 4) 536870912 then some (pc + 3, .ref h.1 :: r, am_new h n.toNatClampNeg (kd, n.toNatClampNeg, fun _ => .null)) else none
    | _, _ => none
  | .ldc idx => match am_fnd (am_ct own) idx with
    | some v => some (pc + 2, .int v :: st, h)
    | none => none
  | .ldc2_w idx => match am_fnd (am_lt0 own) idx with
    | some v => some (pc + 3, .long v :: st, h)
    | none => none
  | .ldc_w idx => match am_fnd (am_ct own) idx with
    | some v => some (pc + 3, .int v :: st, h)
    | none => none
  | _ => none
theorem am_b2 {a b : Bool} (h : (a && b) = true) : a = true ∧ b = true := by simpa using h
theorem am_cf {α : Type} {b : Bool} {x u : α} (h : (bif b then some x else none) = some u) : b = true ∧ x = u := by
  cases b with
  | true => exact ⟨rfl, Option.some.inj h⟩
  | false => cases h
theorem am_cg {α : Type} {b : Bool} {x : Option α} {u : α} (h : (bif b then x else none) = some u) : b = true ∧ x = some u := by
  cases b with
  | true => exact ⟨rfl, h⟩
  | false => cases h
section AM1
variable {p : Program} {l : Launch} {e : Env} {R : Room} {s : State} {m : MethodId} {args : Array Value} {below : List Frame} {meth : Method} {c : Code} {H : Heap} {locs : List Loc} {cells slots : Nat} {Q : State → Prop}
variable {cc : ByteArray} {pc own : Nat} {ls : Array Slot} {ad : Nat → Nat} {st : List Value} {D : va_G} {cy : Nat → ClassId} {A : Nat → Prop} {h : am_H} {i : Instr} {len : Nat} {u : Nat × List Value × am_H}
/-- what the road behind a heap's instruction owes -/
def am_K1 (p : Program) (l : Launch) (e : Env) (R : Room) (s : State) (m : MethodId) (args : Array Value) (below : List Frame) (meth : Method) (c : Code) (cells slots : Nat) (Q : State → Prop) (D : va_G) (cy : Nat → ClassId) (A : Nat → Prop) (ad : Nat → Nat) (h : am_H) (ls : Array Slot) (u : Nat × List Value × am_H) : Prop :=
  ∀ (ad' : Nat → Nat) (H1 : Heap) (locs1 : List Loc), (∀ k, k < h.1 ∨ 1000000000 ≤ k → ad' k = ad k) → am_R D cy A ad' u.2.2 s H1 locs1 → W p l e R s m args below meth c H1 locs1 (cells + (u.2.2.2.1 - h.2.1)) (slots + (u.2.2.2.2.1 - h.2.2.1)) Q (F0 m u.1 ls (u.2.1.map (am_v ad')))
theorem am_K1.same (k : am_K1 p l e R s m args below meth c cells slots Q D cy A ad h ls u) {H1 : Heap} {locs1 : List Loc} (r : am_R D cy A ad u.2.2 s H1 locs1) (h1 : u.2.2.2.1 = h.2.1) (h2 : u.2.2.2.2.1 = h.2.2.1) : W p l e R s m args below meth c H1 locs1 cells slots Q (F0 m u.1 ls (u.2.1.map (am_v ad))) := by
  have := k ad H1 locs1 (fun _ _ => rfl) r
  rw [h1, h2, Nat.sub_self, Nat.sub_self, Nat.add_zero, Nat.add_zero] at this
  exact this
theorem am_adn {n q : Nat} (hn : n < 1000000000) : ∀ k, k < n ∨ 1000000000 ≤ k → am_up ad n q k = ad k := fun k hk => am_up_n (am_lt hk hn)
theorem am_st_ext {n q : Nat} (hn : n < 1000000000) {st : List Value} (hs : ∀ v ∈ st, am_cv n v) : st.map (am_v (am_up ad n q)) = st.map (am_v ad) := List.map_congr_left fun v hv => am_v_ext hn (hs v hv)
theorem am_K1.fresh {sl : Nat} {cl : am_C} {r : List Value} (hn : h.1 < 1000000000) (hs : ∀ v ∈ r, am_cv h.1 v) {pc' : Nat} (k : am_K1 p l e R s m args below meth c cells slots Q D cy A ad h ls (pc', .ref h.1 :: r, am_new h sl cl)) (q : Nat) (H1 : Heap) (locs1 : List Loc) (rr : am_R D cy A (am_up ad h.1 q) (am_new h sl cl) s H1 locs1) : W p l e R s m args below meth c H1 locs1 (cells + 1) (slots + sl) Q (F0 m pc' ls (.ref q :: r.map (am_v ad))) := by
  have w := k (am_up ad h.1 q) H1 locs1 (am_adn hn) rr
  have e1 : (am_new h sl cl).2.1 - h.2.1 = 1 := by show h.2.1 + 1 - h.2.1 = 1; omega
  have e2 : (am_new h sl cl).2.2.1 - h.2.2.1 = sl := by show h.2.2.1 + sl - h.2.2.1 = sl; omega
  simp only [e1, e2, List.map_cons] at w
  rw [am_st_ext hn hs] at w
  have e3 : am_v (am_up ad h.1 q) (.ref h.1) = .ref q := by simp [am_v, am_up_s]
  rw [e3] at w
  exact w
set_option maxHeartbeats 4000000 in
theorem am_s1_ok {ini : Bool} (X : am_X cc (am_cn own) p s m args c) (hown : own < 17) (hini : ini = true → meth.name = "<init>") (hd : decode cc pc = .ok (i, len)) (hlen : am_len i = 0 ∨ len = am_len i) (hs : am_s1 own ini i pc st h = some u) (r : am_R D cy A ad h s H locs) (hao : va_AO "ArchiveShelf$Archive" s ∧ va_AO "ArchiveShelf$Member" s) (hcv : ∀ v ∈ st, am_cv h.1 v) (hrc : cells + (u.2.2.2.1 - h.2.1) ≤ R.cells) (hrs : slots + (u.2.2.2.2.1 - h.2.2.1) ≤ R.slots)
    (k : am_K1 p l e R s m args below meth c cells slots Q D cy A ad h ls u) : W p l e R s m args below meth c H locs cells slots Q (F0 m pc ls (st.map (am_v ad))) := by
  unfold am_s1 at hs
  split at hs
  · -- getfield
    replace hlen : len = 3 := by rcases hlen with q | q; exact absurd q (by simp [am_len]); simpa [am_len] using q
    subst hlen
    split at hs
    · rename_i idx o r0
      obtain ⟨ho, hs⟩ := am_cg hs
      split at hs
      · rename_i w hf
        cases hs
        have hok := am_all am_ft_all hown (am_find_mem hf)
        unfold am_ftok at hok
        split at hok
        · rename_i C T N hc
          simp only [Bool.and_eq_true] at hok
          obtain ⟨⟨hk, hl⟩, hp⟩ := hok
          have ho : o < h.1 := Nat.blt_eq.mp ho
          have hk : w.1 < N := Nat.blt_eq.mp hk
          have kk := k.same r rfl rfl
          split at hl
          · exact am_r_get X r ho rfl hc hk (am_gd_of hl rfl) (Or.inl rfl) hd kk
          · have hl := am_b2 hl
            exact am_r_get X r ho rfl hc hk (am_gd_of hl.1 rfl) (Or.inr (am_gd_of hl.2 rfl)) hd kk
          · exact am_r_getN X r ho rfl hc hk (am_nw_of hl rfl) rfl hd kk
        · cases hok
      · cases hs
    · cases hs
  · -- putfield
    replace hlen : len = 3 := by rcases hlen with q | q; exact absurd q (by simp [am_len]); simpa [am_len] using q
    subst hlen
    split at hs
    · rename_i idx v o r0
      obtain ⟨ho, hs⟩ := am_cg hs
      split at hs
      · rename_i w hf
        obtain ⟨hb, rfl⟩ := am_cf hs
        obtain ⟨hpf, hfit⟩ := am_b2 hb
        have hok := am_all am_ft_all hown (am_find_mem hf)
        have hv : am_cv h.1 v := hcv v List.mem_cons_self
        have kk : ∀ (H1 : Heap) (locs1 : List Loc), am_R D cy A ad (am_put h o ((h.2.2.2 o).1, (h.2.2.2 o).2.1, am_up (h.2.2.2 o).2.2 w.1 v)) s H1 locs1 → W p l e R s m args below meth c H1 locs1 cells slots Q (F0 m (pc + 3) ls (r0.map (am_v ad))) := fun H1 locs1 r1 => k.same r1 rfl rfl
        unfold am_ftok at hok
        split at hok
        · rename_i C T N hc
          simp only [Bool.and_eq_true] at hok
          obtain ⟨⟨hk, hl⟩, hp⟩ := hok
          have ho : o < h.1 := Nat.blt_eq.mp ho
          have hk : w.1 < N := Nat.blt_eq.mp hk
          have hfin : (T w.1).2.2.2 = false ∨ (meth.name = "<init>" ∧ (T w.1).1 = am_cn own ∧ Nat.blt w.2.1 2 = true) := by
            simp only [Bool.or_eq_true, Bool.and_eq_true] at hpf
            rcases hpf with e1 | ⟨e1, e2⟩
            · have e1 := Nat.eq_of_beq_eq_true e1
              rw [e1] at hp
              exact Or.inl (by simpa using hp)
            · have e1 := Nat.eq_of_beq_eq_true e1
              rw [e1] at hp
              have hp := am_b2 hp
              exact Or.inr ⟨hini e2, of_decide_eq_true hp.1, hp.2⟩
          have hfin2 : (T w.1).2.2.2 = false ∨ (meth.name = "<init>" ∧ (T w.1).1 = am_cn own) := hfin.imp id (fun q => ⟨q.1, q.2.1⟩)
          split at hl
          · exact am_r_put X r ho rfl hc hk (am_gd_of hl rfl) (Or.inl rfl) hfin2 hfit hv hd kk
          · have hl := am_b2 hl
            exact am_r_put X r ho rfl hc hk (am_gd_of hl.1 rfl) (Or.inr (am_gd_of hl.2 rfl)) hfin2 hfit hv hd kk
          · refine am_r_putN X r ho rfl hc hk (am_nw_of hl rfl) rfl ?_ hfit hv hd kk
            rcases hfin with q | q
            · exact q
            · have h2 : w.2.1 < 2 := Nat.blt_eq.mp q.2.2
              have h3 : w.2.1 = 0 ∨ w.2.1 = 1 := by omega
              rcases h3 with h3 | h3
              · exact absurd h3 (by assumption)
              · exact absurd h3 (by assumption)
        · cases hok
      · cases hs
    · cases hs
  · -- iaload
    replace hlen : len = 1 := by rcases hlen with q | q; exact absurd q (by simp [am_len]); simpa [am_len] using q
    subst hlen
    split at hs
    · obtain ⟨ho, hs⟩ := am_cg hs
      obtain ⟨hb, rfl⟩ := am_cf hs
      obtain ⟨hk, hi⟩ := am_b2 hb
      exact am_r_iald X r (Nat.blt_eq.mp ho) (Nat.eq_of_beq_eq_true hk) (am_in_ok2 hi) hd (k.same r rfl rfl)
    · cases hs
  · -- iastore
    replace hlen : len = 1 := by rcases hlen with q | q; exact absurd q (by simp [am_len]); simpa [am_len] using q
    subst hlen
    split at hs
    · obtain ⟨hb, rfl⟩ := am_cf hs
      obtain ⟨hb, hi⟩ := am_b2 hb
      obtain ⟨ho, hk⟩ := am_b2 hb
      exact am_r_iast X r (Nat.blt_eq.mp ho) (Nat.eq_of_beq_eq_true hk) (am_in_ok2 hi) hd (fun H1 locs1 r1 => k.same r1 rfl rfl)
    · cases hs
  · -- laload
    replace hlen : len = 1 := by rcases hlen with q | q; exact absurd q (by simp [am_len]); simpa [am_len] using q
    subst hlen
    split at hs
    · obtain ⟨hb, rfl⟩ := am_cf hs
      obtain ⟨hb, hi⟩ := am_b2 hb
      obtain ⟨ho, hk⟩ := am_b2 hb
      exact am_r_lald X r (Nat.blt_eq.mp ho) (Nat.eq_of_beq_eq_true hk) (am_in_ok2 hi) hd (k.same r rfl rfl)
    · cases hs
  · -- lastore
    replace hlen : len = 1 := by rcases hlen with q | q; exact absurd q (by simp [am_len]); simpa [am_len] using q
    subst hlen
    split at hs
    · obtain ⟨hb, rfl⟩ := am_cf hs
      obtain ⟨hb, hi⟩ := am_b2 hb
      obtain ⟨ho, hk⟩ := am_b2 hb
      exact am_r_last X r (Nat.blt_eq.mp ho) (Nat.eq_of_beq_eq_true hk) (am_in_ok2 hi) hd (fun H1 locs1 r1 => k.same r1 rfl rfl)
    · cases hs
  · -- baload
    replace hlen : len = 1 := by rcases hlen with q | q; exact absurd q (by simp [am_len]); simpa [am_len] using q
    subst hlen
    split at hs
    · obtain ⟨hb, rfl⟩ := am_cf hs
      obtain ⟨hb, hi⟩ := am_b2 hb
      obtain ⟨ho, hk⟩ := am_b2 hb
      exact am_r_zald X r (Nat.blt_eq.mp ho) (Nat.eq_of_beq_eq_true hk) (am_in_ok2 hi) hd (k.same r rfl rfl)
    · cases hs
  · -- bastore
    replace hlen : len = 1 := by rcases hlen with q | q; exact absurd q (by simp [am_len]); simpa [am_len] using q
    subst hlen
    split at hs
    · obtain ⟨hb, rfl⟩ := am_cf hs
      obtain ⟨hb, hi⟩ := am_b2 hb
      obtain ⟨ho, hk⟩ := am_b2 hb
      exact am_r_zast X r (Nat.blt_eq.mp ho) (Nat.eq_of_beq_eq_true hk) (am_in_ok2 hi) hd (fun H1 locs1 r1 => k.same r1 rfl rfl)
    · cases hs
  · -- aaload
    replace hlen : len = 1 := by rcases hlen with q | q; exact absurd q (by simp [am_len]); simpa [am_len] using q
    subst hlen
    split at hs
    · obtain ⟨hb, rfl⟩ := am_cf hs
      obtain ⟨hb, hi⟩ := am_b2 hb
      obtain ⟨ho, hk⟩ := am_b2 hb
      simp only [Bool.or_eq_true] at hk
      exact am_r_aald X r (Nat.blt_eq.mp ho) (hk.imp Nat.eq_of_beq_eq_true Nat.eq_of_beq_eq_true) (am_in_ok2 hi) hd (k.same r rfl rfl)
    · cases hs
  · -- aastore
    replace hlen : len = 1 := by rcases hlen with q | q; exact absurd q (by simp [am_len]); simpa [am_len] using q
    subst hlen
    split at hs
    · obtain ⟨hb, rfl⟩ := am_cf hs
      obtain ⟨hb, hk⟩ := am_b2 hb
      obtain ⟨hb, hi⟩ := am_b2 hb
      obtain ⟨ho, hq⟩ := am_b2 hb
      simp only [Bool.or_eq_true, Bool.and_eq_true] at hk
      rcases hk with ⟨k1, k2⟩ | ⟨k1, (k2 | k2) | k2⟩
      · exact am_r_aastM X r (Nat.blt_eq.mp ho) (Nat.eq_of_beq_eq_true k1) (Nat.blt_eq.mp hq) (Nat.eq_of_beq_eq_true k2) (am_in_ok2 hi) hd (fun H1 locs1 r1 => k.same r1 rfl rfl)
      · exact am_r_aastA X r (Nat.blt_eq.mp ho) (Nat.eq_of_beq_eq_true k1) (Nat.blt_eq.mp hq) (Nat.eq_of_beq_eq_true k2) (C := RX1) (T := TX1) (N := 3) rfl (List.mem_filter.mpr ⟨am_ca0.1, rfl⟩) (am_in_ok2 hi) hd (fun H1 locs1 r1 => k.same r1 rfl rfl)
      · exact am_r_aastA X r (Nat.blt_eq.mp ho) (Nat.eq_of_beq_eq_true k1) (Nat.blt_eq.mp hq) (Nat.eq_of_beq_eq_true k2) (C := RX4) (T := TX4) (N := 3) rfl (List.mem_filter.mpr ⟨am_ca0.2.1, rfl⟩) (am_in_ok2 hi) hd (fun H1 locs1 r1 => k.same r1 rfl rfl)
      · exact am_r_aastA X r (Nat.blt_eq.mp ho) (Nat.eq_of_beq_eq_true k1) (Nat.blt_eq.mp hq) (Nat.eq_of_beq_eq_true k2) (C := RX5) (T := TX5) (N := 16) rfl (List.mem_filter.mpr ⟨am_ca0.2.2, rfl⟩) (am_in_ok2 hi) hd (fun H1 locs1 r1 => k.same r1 rfl rfl)
    · cases hs
  · -- arraylength
    replace hlen : len = 1 := by rcases hlen with q | q; exact absurd q (by simp [am_len]); simpa [am_len] using q
    subst hlen
    split at hs
    · obtain ⟨hb, rfl⟩ := am_cf hs
      obtain ⟨ho, hk⟩ := am_b2 hb
      refine am_r_alen X r (Nat.blt_eq.mp ho) ?_ hd (k.same r rfl rfl)
      unfold am_isA at hk
      simp only [Bool.or_eq_true] at hk
      rcases hk with (((q | q) | q) | q) | q
      · exact Or.inl (Nat.eq_of_beq_eq_true q)
      · exact Or.inr (Or.inl (Nat.eq_of_beq_eq_true q))
      · exact Or.inr (Or.inr (Or.inl (Nat.eq_of_beq_eq_true q)))
      · exact Or.inr (Or.inr (Or.inr (Or.inl (Nat.eq_of_beq_eq_true q))))
      · exact Or.inr (Or.inr (Or.inr (Or.inr (Nat.eq_of_beq_eq_true q))))
    · cases hs
  · -- new
    replace hlen : len = 3 := by rcases hlen with q | q; exact absurd q (by simp [am_len]); simpa [am_len] using q
    subst hlen
    split at hs
    · rename_i ci hf
      obtain ⟨hb, rfl⟩ := am_cf hs
      have hn : h.1 < 1000000000 := Nat.blt_eq.mp hb
      have hok := am_all am_nt_all hown (am_fnd_mem hf)
      unfold am_ntok at hok
      split at hok
      · rename_i C T N hc
        have hc : am_cl[ci]? = some (C, T, N) := hc
        obtain ⟨hok, h3⟩ := am_b2 hok
        obtain ⟨h1, h2⟩ := am_b2 hok
        have e1 : (am_new h (am_nf ci) (ci, 0, fun j => defaultValue (am_ty0 ci j))).2.1 - h.2.1 = 1 := by show h.2.1 + 1 - h.2.1 = 1; omega
        have e2 : (am_new h (am_nf ci) (ci, 0, fun j => defaultValue (am_ty0 ci j))).2.2.1 - h.2.2.1 = am_nf ci := by show h.2.2.1 + am_nf ci - h.2.2.1 = am_nf ci; omega
        simp only [e1, e2] at hrc hrs
        rw [am_nf_eq hc] at hrs
        refine am_r_new X r hn hc (am_gd_of h1 rfl) (am_gd_of h2 rfl) (am_gd_of h3 rfl) hrc hrs hd (fun q H1 rr => ?_)
        have w := am_K1.fresh hn hcv k q H1 locs (by rw [am_nf_eq hc]; exact rr)
        rw [am_nf_eq hc] at w
        exact w
      · cases hok
    · cases hs
  · -- newarray
    replace hlen : len = 2 := by rcases hlen with q | q; exact absurd q (by simp [am_len]); simpa [am_len] using q
    subst hlen
    split at hs
    · rename_i ty st0 nn n r0 w hat
      obtain ⟨hb, rfl⟩ := am_cf hs
      obtain ⟨hb, h3⟩ := am_b2 hb
      obtain ⟨h1, h2⟩ := am_b2 hb
      have hn : h.1 < 1000000000 := Nat.blt_eq.mp h1
      have e1 : (am_new h n.toNatClampNeg (w.2.1, n.toNatClampNeg, fun _ => w.2.2)).2.1 - h.2.1 = 1 := by show h.2.1 + 1 - h.2.1 = 1; omega
      have e2 : (am_new h n.toNatClampNeg (w.2.1, n.toNatClampNeg, fun _ => w.2.2)).2.2.1 - h.2.2.1 = n.toNatClampNeg := by show h.2.2.1 + n.toNatClampNeg - h.2.2.1 = n.toNatClampNeg; omega
      simp only [e1, e2] at hrc hrs
      have harr : Cond.arrayClass (newarray.typeOf ty) ∈ am_gd := by
        cases ty <;> simp only [am_at, reduceCtorEq] at hat
        · exact am_gd_in am_ac_z rfl
        · exact am_gd_in am_ac_i rfl
        · exact am_gd_in am_ac_l rfl
      exact am_r_newa X r hn hat harr (by simpa using h2) (Nat.le_of_ble_eq_true h3) hrc hrs hd (fun q H1 rr => am_K1.fresh hn (fun v hv => hcv v (List.mem_cons_of_mem _ hv)) k q H1 locs rr)
    · cases hs
  · -- anewarray
    replace hlen : len = 3 := by rcases hlen with q | q; exact absurd q (by simp [am_len]); simpa [am_len] using q
    subst hlen
    split at hs
    · rename_i idx st0 nn n r0 kd hf
      obtain ⟨hb, rfl⟩ := am_cf hs
      obtain ⟨hb, h3⟩ := am_b2 hb
      obtain ⟨h1, h2⟩ := am_b2 hb
      have hn : h.1 < 1000000000 := Nat.blt_eq.mp h1
      have e1 : (am_new h n.toNatClampNeg (kd, n.toNatClampNeg, fun _ => .null)).2.1 - h.2.1 = 1 := by show h.2.1 + 1 - h.2.1 = 1; omega
      have e2 : (am_new h n.toNatClampNeg (kd, n.toNatClampNeg, fun _ => .null)).2.2.1 - h.2.2.1 = n.toNatClampNeg := by show h.2.2.1 + n.toNatClampNeg - h.2.2.1 = n.toNatClampNeg; omega
      simp only [e1, e2] at hrc hrs
      have hok := am_all am_qt_all hown (am_fnd_mem hf)
      unfold am_qtok at hok
      obtain ⟨hq1, hq2⟩ := am_b2 hok
      simp only [Bool.or_eq_true] at hq1
      rcases hq1 with hq1 | hq1
      · have hq1 : kd = 23 := Nat.eq_of_beq_eq_true hq1
        subst hq1
        exact am_r_newq X r hn (C := "ArchiveShelf$Archive") (t := 3) rfl (am_gd_of hq2 rfl) hao.1 (by simpa using h2) (Nat.le_of_ble_eq_true h3) hrc hrs hd (fun q H1 rr => am_K1.fresh hn (fun v hv => hcv v (List.mem_cons_of_mem _ hv)) k q H1 locs rr)
      · have hq1 : kd = 24 := Nat.eq_of_beq_eq_true hq1
        subst hq1
        exact am_r_newq X r hn (C := "ArchiveShelf$Member") (t := 4) rfl (am_gd_of hq2 rfl) hao.2 (by simpa using h2) (Nat.le_of_ble_eq_true h3) hrc hrs hd (fun q H1 rr => am_K1.fresh hn (fun v hv => hcv v (List.mem_cons_of_mem _ hv)) k q H1 locs rr)
    · cases hs
  · -- ldc
    replace hlen : len = 2 := by rcases hlen with q | q; exact absurd q (by simp [am_len]); simpa [am_len] using q
    subst hlen
    split at hs
    · rename_i v hf
      cases hs
      exact lv_ldc X.1 X.2.1 X.2.2.1 (X.2.2.2.1 _ (am_gd_of (am_all am_ct_all hown (am_fnd_mem hf)) rfl)) hd (k.same r rfl rfl)
    · cases hs
  · -- ldc2_w
    replace hlen : len = 3 := by rcases hlen with q | q; exact absurd q (by simp [am_len]); simpa [am_len] using q
    subst hlen
    split at hs
    · rename_i v hf
      cases hs
      exact lv_ldc2 X.1 X.2.1 X.2.2.1 (X.2.2.2.1 _ (am_gd_of (am_all am_lt_all hown (am_fnd_mem hf)) rfl)) hd (k.same r rfl rfl)
    · cases hs
  · -- ldc_w
    replace hlen : len = 3 := by rcases hlen with q | q; exact absurd q (by simp [am_len]); simpa [am_len] using q
    subst hlen
    split at hs
    · rename_i v hf
      cases hs
      exact lv_ldcw X.1 X.2.1 X.2.2.1 (X.2.2.2.1 _ (am_gd_of (am_all am_ct_all hown (am_fnd_mem hf)) rfl)) hd (k.same r rfl rfl)
    · cases hs
  · cases hs
end AM1
