/-! THE LAW'S LOOP; printed by wip/whole/gen_loop.py -/
section LWL
variable {sl N x : Nat} {xs : Nat → Int32} {G : Nat → Nat → List (Option Value) → List Value → am_H → Prop} {i a1 a2 a3 a4 a5 : Int32} {c : hS} {h : am_H} {b t : List Nat} {ms : List Mb}
set_option maxRecDepth 100000 in
theorem lw_sw (hN : 1000000 ≤ N) (g : LG sl xs G) (sb : SB sl xs i a1 a2 a3 a4 a5) (q : JP c h b t ms) (hx : x ≤ 600) (kk : ∀ x' c' h' b' t' ms', x' ≤ x + 1 → JP c' h' b' t' ms' → G x' 866 [some (.ref 1000000300), some (.ref 0), some (.ref 201), some (.ref 219), some (.int i)] [] h') (z : Int32) : G x 40 [some (.ref 1000000300), some (.ref 0), some (.ref 201), some (.ref 219), some (.int i)] [.int (z &&& 31)] h := by
  generalize hy : z &&& 31 = y
  have h1 : y.toBitVec.toNat < 32 := by
    rw [← hy, Int32.toBitVec_and, BitVec.toNat_and]
    exact Nat.lt_of_le_of_lt Nat.and_le_right (by decide)
  have h2 : ∀ c : Int32, y.toBitVec.toNat = c.toBitVec.toNat → y = c := fun c h => Int32.toBitVec_inj.mp (BitVec.eq_of_toNat_eq h)
  generalize hn : y.toBitVec.toNat = n at h1 h2
  match n, h1 with
  | 0, _ => rw [h2 0 (by decide +kernel)]; exact g.many (pc' := 136) (L' := [some (.ref 1000000300), some (.ref 0), some (.ref 201), some (.ref 219), some (.int i)]) (st' := []) 1 rfl (lw_0 hN g sb q hx kk)
  | 1, _ => rw [h2 1 (by decide +kernel)]; exact g.many (pc' := 208) (L' := [some (.ref 1000000300), some (.ref 0), some (.ref 201), some (.ref 219), some (.int i)]) (st' := []) 1 rfl (lw_1 hN g sb q hx kk)
  | 2, _ => rw [h2 2 (by decide +kernel)]; exact g.many (pc' := 233) (L' := [some (.ref 1000000300), some (.ref 0), some (.ref 201), some (.ref 219), some (.int i)]) (st' := []) 1 rfl (lw_2 hN g sb q hx kk)
  | 3, _ => rw [h2 3 (by decide +kernel)]; exact g.many (pc' := 261) (L' := [some (.ref 1000000300), some (.ref 0), some (.ref 201), some (.ref 219), some (.int i)]) (st' := []) 1 rfl (lw_3 hN g sb q hx kk)
  | 4, _ => rw [h2 4 (by decide +kernel)]; exact g.many (pc' := 317) (L' := [some (.ref 1000000300), some (.ref 0), some (.ref 201), some (.ref 219), some (.int i)]) (st' := []) 1 rfl (lw_4 hN g sb q hx kk)
  | 5, _ => rw [h2 5 (by decide +kernel)]; exact g.many (pc' := 345) (L' := [some (.ref 1000000300), some (.ref 0), some (.ref 201), some (.ref 219), some (.int i)]) (st' := []) 1 rfl (lw_5 hN g sb q hx kk)
  | 6, _ => rw [h2 6 (by decide +kernel)]; exact g.many (pc' := 385) (L' := [some (.ref 1000000300), some (.ref 0), some (.ref 201), some (.ref 219), some (.int i)]) (st' := []) 1 rfl (lw_6 hN g sb q hx kk)
  | 7, _ => rw [h2 7 (by decide +kernel)]; exact g.many (pc' := 425) (L' := [some (.ref 1000000300), some (.ref 0), some (.ref 201), some (.ref 219), some (.int i)]) (st' := []) 1 rfl (lw_7 hN g sb q hx kk)
  | 8, _ => rw [h2 8 (by decide +kernel)]; exact g.many (pc' := 438) (L' := [some (.ref 1000000300), some (.ref 0), some (.ref 201), some (.ref 219), some (.int i)]) (st' := []) 1 rfl (lw_8 hN g sb q hx kk)
  | 9, _ => rw [h2 9 (by decide +kernel)]; exact g.many (pc' := 478) (L' := [some (.ref 1000000300), some (.ref 0), some (.ref 201), some (.ref 219), some (.int i)]) (st' := []) 1 rfl (lw_9 hN g sb q hx kk)
  | 10, _ => rw [h2 10 (by decide +kernel)]; exact g.many (pc' := 534) (L' := [some (.ref 1000000300), some (.ref 0), some (.ref 201), some (.ref 219), some (.int i)]) (st' := []) 1 rfl (lw_10 hN g sb q hx kk)
  | 11, _ => rw [h2 11 (by decide +kernel)]; exact g.many (pc' := 562) (L' := [some (.ref 1000000300), some (.ref 0), some (.ref 201), some (.ref 219), some (.int i)]) (st' := []) 1 rfl (lw_11 hN g sb q hx kk)
  | 12, _ => rw [h2 12 (by decide +kernel)]; exact g.many (pc' := 590) (L' := [some (.ref 1000000300), some (.ref 0), some (.ref 201), some (.ref 219), some (.int i)]) (st' := []) 1 rfl (lw_12 hN g sb q hx kk)
  | 13, _ => rw [h2 13 (by decide +kernel)]; exact g.many (pc' := 603) (L' := [some (.ref 1000000300), some (.ref 0), some (.ref 201), some (.ref 219), some (.int i)]) (st' := []) 1 rfl (lw_13 hN g sb q hx kk)
  | 14, _ => rw [h2 14 (by decide +kernel)]; exact g.many (pc' := 616) (L' := [some (.ref 1000000300), some (.ref 0), some (.ref 201), some (.ref 219), some (.int i)]) (st' := []) 1 rfl (lw_14 hN g sb q hx kk)
  | 15, _ => rw [h2 15 (by decide +kernel)]; exact g.many (pc' := 629) (L' := [some (.ref 1000000300), some (.ref 0), some (.ref 201), some (.ref 219), some (.int i)]) (st' := []) 1 rfl (lw_15 hN g sb q hx kk)
  | 16, _ => rw [h2 16 (by decide +kernel)]; exact g.many (pc' := 705) (L' := [some (.ref 1000000300), some (.ref 0), some (.ref 201), some (.ref 219), some (.int i)]) (st' := []) 1 rfl (lw_16 hN g sb q hx kk)
  | 17, _ => rw [h2 17 (by decide +kernel)]; exact g.many (pc' := 730) (L' := [some (.ref 1000000300), some (.ref 0), some (.ref 201), some (.ref 219), some (.int i)]) (st' := []) 1 rfl (lw_17 hN g sb q hx kk)
  | 18, _ => rw [h2 18 (by decide +kernel)]; exact g.many (pc' := 770) (L' := [some (.ref 1000000300), some (.ref 0), some (.ref 201), some (.ref 219), some (.int i)]) (st' := []) 1 rfl (lw_18 hN g sb q hx kk)
  | 19, _ => rw [h2 19 (by decide +kernel)]; exact g.many (pc' := 810) (L' := [some (.ref 1000000300), some (.ref 0), some (.ref 201), some (.ref 219), some (.int i)]) (st' := []) 1 rfl (lw_19 hN g sb q hx kk)
  | 20, _ => rw [h2 20 (by decide +kernel)]; exact g.many (pc' := 866) (L' := [some (.ref 1000000300), some (.ref 0), some (.ref 201), some (.ref 219), some (.int i)]) (st' := []) 1 rfl (kk _ _ _ _ _ _ (Nat.le_succ _) q)
  | 21, _ => rw [h2 21 (by decide +kernel)]; exact g.many (pc' := 866) (L' := [some (.ref 1000000300), some (.ref 0), some (.ref 201), some (.ref 219), some (.int i)]) (st' := []) 1 rfl (kk _ _ _ _ _ _ (Nat.le_succ _) q)
  | 22, _ => rw [h2 22 (by decide +kernel)]; exact g.many (pc' := 866) (L' := [some (.ref 1000000300), some (.ref 0), some (.ref 201), some (.ref 219), some (.int i)]) (st' := []) 1 rfl (kk _ _ _ _ _ _ (Nat.le_succ _) q)
  | 23, _ => rw [h2 23 (by decide +kernel)]; exact g.many (pc' := 866) (L' := [some (.ref 1000000300), some (.ref 0), some (.ref 201), some (.ref 219), some (.int i)]) (st' := []) 1 rfl (kk _ _ _ _ _ _ (Nat.le_succ _) q)
  | 24, _ => rw [h2 24 (by decide +kernel)]; exact g.many (pc' := 866) (L' := [some (.ref 1000000300), some (.ref 0), some (.ref 201), some (.ref 219), some (.int i)]) (st' := []) 1 rfl (kk _ _ _ _ _ _ (Nat.le_succ _) q)
  | 25, _ => rw [h2 25 (by decide +kernel)]; exact g.many (pc' := 866) (L' := [some (.ref 1000000300), some (.ref 0), some (.ref 201), some (.ref 219), some (.int i)]) (st' := []) 1 rfl (kk _ _ _ _ _ _ (Nat.le_succ _) q)
  | 26, _ => rw [h2 26 (by decide +kernel)]; exact g.many (pc' := 866) (L' := [some (.ref 1000000300), some (.ref 0), some (.ref 201), some (.ref 219), some (.int i)]) (st' := []) 1 rfl (kk _ _ _ _ _ _ (Nat.le_succ _) q)
  | 27, _ => rw [h2 27 (by decide +kernel)]; exact g.many (pc' := 866) (L' := [some (.ref 1000000300), some (.ref 0), some (.ref 201), some (.ref 219), some (.int i)]) (st' := []) 1 rfl (kk _ _ _ _ _ _ (Nat.le_succ _) q)
  | 28, _ => rw [h2 28 (by decide +kernel)]; exact g.many (pc' := 866) (L' := [some (.ref 1000000300), some (.ref 0), some (.ref 201), some (.ref 219), some (.int i)]) (st' := []) 1 rfl (kk _ _ _ _ _ _ (Nat.le_succ _) q)
  | 29, _ => rw [h2 29 (by decide +kernel)]; exact g.many (pc' := 866) (L' := [some (.ref 1000000300), some (.ref 0), some (.ref 201), some (.ref 219), some (.int i)]) (st' := []) 1 rfl (kk _ _ _ _ _ _ (Nat.le_succ _) q)
  | 30, _ => rw [h2 30 (by decide +kernel)]; exact g.many (pc' := 866) (L' := [some (.ref 1000000300), some (.ref 0), some (.ref 201), some (.ref 219), some (.int i)]) (st' := []) 1 rfl (kk _ _ _ _ _ _ (Nat.le_succ _) q)
  | 31, _ => rw [h2 31 (by decide +kernel)]; exact g.many (pc' := 866) (L' := [some (.ref 1000000300), some (.ref 0), some (.ref 201), some (.ref 219), some (.int i)]) (st' := []) 1 rfl (kk _ _ _ _ _ _ (Nat.le_succ _) q)
  | n + 32, h => exact absurd h (by omega)
theorem gt_t {k : Nat} (hs : sl < 6 * k + 6) (hk : k ≤ 600) (hsl : sl ≤ 3072) : am_cc .gt (nI (6 * k)) (Int32.ofNat sl - 6) = true := by
  refine decide_eq_true (?_ : Int32.ofNat sl - 6 < nI (6 * k))
  by_cases e : 6 ≤ sl
  · have e2 : Int32.ofNat sl - 6 = nI (sl - 6) := by
      have : nI (sl - 6) + nI 6 = nI sl := by rw [nI_add]; congr 1; omega
      show nI sl - nI 6 = nI (sl - 6)
      rw [← this, Int32.add_sub_cancel]
    rw [e2]
    exact nI_lt (by omega) (by omega)
  · have e3 : Int32.ofNat sl - 6 < 0 := by
      match sl, (show sl < 6 by omega) with
      | 0, _ => decide
      | 1, _ => decide
      | 2, _ => decide
      | 3, _ => decide
      | 4, _ => decide
      | 5, _ => decide
      | n + 6, h => exact absurd h (by omega)
    exact Int32.lt_of_lt_of_le e3 (nI_pos' (by omega))
theorem gt_f {k : Nat} (hs : 6 * k + 6 ≤ sl) (hsl : sl ≤ 3072) : am_cc .gt (nI (6 * k)) (Int32.ofNat sl - 6) = false := by
  refine decide_eq_false (?_ : ¬ Int32.ofNat sl - 6 < nI (6 * k))
  have e2 : Int32.ofNat sl - 6 = nI (sl - 6) := by
    have : nI (sl - 6) + nI 6 = nI sl := by rw [nI_add]; congr 1; omega
    show nI sl - nI 6 = nI (sl - 6)
    rw [← this, Int32.add_sub_cancel]
  rw [e2]
  exact Int32.not_lt.mpr (nI_le (by omega) (by omega))
set_option maxRecDepth 100000 in
theorem lw_exit (g : LG sl xs G) {k : Nat} (hs : sl < 6 * k + 6) (hk : k ≤ 600) (hsl : sl ≤ 3072) : G x 26 [some (.ref 1000000300), some (.ref 0), some (.ref 201), some (.ref 219), some (.int (nI (6 * k)))] [.ref 1000000300, .int (nI (6 * k))] h := by
  refine g.slen rfl ?_
  refine g.many (pc' := (bif am_cc .gt (nI (6 * k)) (Int32.ofNat sl - 6) then 872 else 33)) (L' := [some (.ref 1000000300), some (.ref 0), some (.ref 201), some (.ref 219), some (.int (nI (6 * k)))]) (st' := []) 3 rfl ?_
  rw [gt_t hs hk hsl, cond_true]
  refine g.many (pc' := 873) (L' := [some (.ref 1000000300), some (.ref 0), some (.ref 201), some (.ref 219), some (.int (nI (6 * k)))]) (st' := [.int 1]) 1 rfl ?_
  exact g.ret rfl
set_option maxRecDepth 100000 in
theorem lw_turn (hN : 1000000 ≤ N) (g : LG sl xs G) {k : Nat} (hs : 6 * k + 6 ≤ sl) (hsl : sl ≤ 3072) (q : JP c h b t ms) (hx : x ≤ 600) (kk : ∀ x' c' h' b' t' ms', x' ≤ x + 1 → JP c' h' b' t' ms' → G x' 866 [some (.ref 1000000300), some (.ref 0), some (.ref 201), some (.ref 219), some (.int (nI (6 * k)))] [] h') : G x 26 [some (.ref 1000000300), some (.ref 0), some (.ref 201), some (.ref 219), some (.int (nI (6 * k)))] [.ref 1000000300, .int (nI (6 * k))] h := by
  have hb : ∀ d, 6 * k + d < sl → am_in (nI (6 * k) + nI d) sl = true := fun d hd => by
    rw [nI_add]
    exact j_in_nI hd (by omega)
  have sb : SB sl xs (nI (6 * k)) (xs (nI (6 * k) + 1).toNatClampNeg) (xs (nI (6 * k) + 2).toNatClampNeg) (xs (nI (6 * k) + 3).toNatClampNeg) (xs (nI (6 * k) + 4).toNatClampNeg) (xs (nI (6 * k) + 5).toNatClampNeg) := ⟨⟨hb 1 (by omega), rfl⟩, ⟨hb 2 (by omega), rfl⟩, ⟨hb 3 (by omega), rfl⟩, ⟨hb 4 (by omega), rfl⟩, ⟨hb 5 (by omega), rfl⟩⟩
  refine g.slen rfl ?_
  refine g.many (pc' := (bif am_cc .gt (nI (6 * k)) (Int32.ofNat sl - 6) then 872 else 33)) (L' := [some (.ref 1000000300), some (.ref 0), some (.ref 201), some (.ref 219), some (.int (nI (6 * k)))]) (st' := []) 3 rfl ?_
  rw [gt_f hs hsl, cond_false]
  refine g.many (pc' := 36) (L' := [some (.ref 1000000300), some (.ref 0), some (.ref 201), some (.ref 219), some (.int (nI (6 * k)))]) (st' := [.int (nI (6 * k)), .ref 1000000300]) 2 rfl ?_
  refine g.sld rfl (j_in_nI (show 6 * k < sl by omega) (by omega)) ?_
  generalize xs (nI (6 * k)).toNatClampNeg = y
  refine g.many (pc' := 40) (L' := [some (.ref 1000000300), some (.ref 0), some (.ref 201), some (.ref 219), some (.int (nI (6 * k)))]) (st' := [.int (y &&& 31)]) 2 rfl ?_
  exact lw_sw hN g sb q hx kk y
end LWL
set_option maxRecDepth 100000 in
theorem lw_loop {sl N : Nat} {xs : Nat → Int32} {G : Nat → Nat → List (Option Value) → List Value → am_H → Prop} (hN : 1000000 ≤ N) (g : LG sl xs G) (hsl : sl ≤ 3072) : ∀ (n k x : Nat) (c : hS) (h : am_H) (b t : List Nat) (ms : List Mb), sl < 6 * (k + n) + 6 → x ≤ k → k ≤ 512 → JP c h b t ms → G x 26 [some (.ref 1000000300), some (.ref 0), some (.ref 201), some (.ref 219), some (.int (nI (6 * k)))] [.ref 1000000300, .int (nI (6 * k))] h := by
  intro n
  induction n with
  | zero =>
    intro k x c h b t ms hs hx hk q
    exact lw_exit g (by omega) (by omega) hsl
  | succ n ih =>
    intro k x c h b t ms hs hx hk q
    by_cases e : sl < 6 * k + 6
    · exact lw_exit g e (by omega) hsl
    · refine lw_turn hN g (by omega) hsl q (by omega) (fun x' c' h' b' t' ms' hx' q' => ?_)
      refine g.many (pc' := 26) (L' := [some (.ref 1000000300), some (.ref 0), some (.ref 201), some (.ref 219), some (.int (nI (6 * k) + 6))]) (st' := [.ref 1000000300, .int (nI (6 * k) + 6)]) 4 rfl ?_
      have := ih (k + 1) x' c' h' b' t' ms' (by omega) (by omega) (by omega) q'
      rw [show nI (6 * k) + 6 = nI (6 * (k + 1)) from nI_add (6 * k) 6]
      exact this
