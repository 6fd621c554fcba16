/-! ===== the law's now: one number of the whole table ===== -/
/-- n rounds, from the round 0 on -/
def fN (f : Nat → Int64 → Int64) : Nat → Int64 → Int64
  | 0, v => v
  | n + 1, v => f n (fN f n v)
def nw1 (p : pt_T) (k : Nat) (v : Int64) : Int64 := 31 * v + lI (tab p k : Int)
def nw2 (p : pt_T) (k : Nat) (v : Int64) : Int64 := 31 * v + lI (tV p (k + 1) : Int)
def nw3 (p : pt_T) (r k : Nat) (v : Int64) : Int64 := 31 * v + lI (trow p r k : Int)
def nw4 (p : pt_T) (r c : Nat) (v : Int64) : Int64 := 31 * v + lI (tA p r c)
def nw5 (p : pt_T) (r : Nat) (v : Int64) : Int64 := fN (nw4 p r) (tC p) (fN (nw3 p r) 5 v)
def nw6 (p : pt_T) (k : Nat) (v : Int64) : Int64 := 31 * v + lI (tspn p (k / 4) (k % 4) : Int)
def nwa (p : pt_T) : Int64 := fN (nw2 p) 6 (fN (nw1 p) 8 47)
def nwb (p : pt_T) : Int64 := fN (nw5 p) (tn p) (nwa p)
def nowv (p : pt_T) : Int64 := fN (nw6 p) (4 * tm p) (nwb p)
theorem ar_mod2 {a b : Nat} (h0 : 0 < b) : nI a - nI (a / b) * nI b = nI (a % b) := by
  rw [pk_mul, ar_sub (Nat.div_mul_le_self a b)]
  congr 1
  have := Nat.div_add_mod a b
  rw [Nat.mul_comm] at this
  omega
theorem tab_e (p : pt_T) : tab p 0 = tC p ∧ tab p 1 = tn p ∧ tab p 2 = tm p ∧ tab p 3 = tP p ∧ tab p 4 = tE p ∧ tab p 5 = (tpg p (tP p)).length ∧ tab p 6 = tov (tpg p (tP p)) ∧ tab p 7 = tcs (tpg p (tP p)) p (tm p) := ⟨rfl, rfl, rfl, rfl, rfl, rfl, rfl, rfl⟩
section NW
variable {l : Launch} {D : Nat} {I : am_I} {J : am_J} {P : am_P} {s : pt_G}
theorem s_L_now (hD : 9 ≤ D) (h : st I s) (k : ∀ I', st I' s → P (.inl (some (vL (nowv s.2.1)))) am_G0 I' J) : am_T l D y_L_now [vR (0, 0)] am_G0 I J P := by
  obtain ⟨d, rfl⟩ : ∃ d, D = d + 1 := ⟨D - 1, by omega⟩
  have hw := h.w
  have h24 := hw.2.2.2.2.1
  have h6 := hw.2.2.2.2.2.1
  have h4 := hw.1
  have l4 : ∀ m j kc ks I (x4 : Option am_V), st I s → j + m = 4 * tm s.2.1 → kc + (3 * m + 1) ≤ 700 → ks + (18 * m + 6) ≤ 4200 → am_X l (0, fun _ => 0) (d + 1) y_L_now P 141 [some (vR (0, 0)), some (vL (fN (nw6 s.2.1) j (nwb s.2.1))), none, some (vI (nI j)), x4] [] kc ks am_G0 I J := by
    intro m
    induction m with
    | zero =>
      intro j kc ks I x4 h hj hk1 hk2
      refine rn_L_now 40 ?_
      simp (disch := omega) only [am_z, cq_L_now, Nat.reduceAdd, Nat.zero_le, Nat.reduceLeDiff, ar_lit, leT]
      refine s_V_about (by omega) h (by omega) (fun I1 h => ?_)
      simp only [am_z, Nat.reduceAdd, Nat.zero_le, Nat.reduceLeDiff]
      refine rn_L_now 40 ?_
      simp (disch := omega) only [am_z, cq_L_now, Nat.reduceAdd, Nat.zero_le, Nat.reduceLeDiff, ar_lit, leT, nI_lI, lI_lit.2.2.1, lI_mul, lc_ge, tab_e, lI_le, pk_div, ar_mod2, ar_eq, Nat.reduceEqDiff, not_false_eq_true]
      rw [if_pos (by omega)]
      rw [show j = 4 * tm s.2.1 by omega]
      exact k I1 h
    | succ m ih =>
      intro j kc ks I x4 h hj hk1 hk2
      refine rn_L_now 40 ?_
      simp (disch := omega) only [am_z, cq_L_now, Nat.reduceAdd, Nat.zero_le, Nat.reduceLeDiff, ar_lit, leT]
      refine s_V_about (by omega) h (by omega) (fun I1 h => ?_)
      simp only [am_z, Nat.reduceAdd, Nat.zero_le, Nat.reduceLeDiff]
      refine rn_L_now 40 ?_
      simp (disch := omega) only [am_z, cq_L_now, Nat.reduceAdd, Nat.zero_le, Nat.reduceLeDiff, ar_lit, leT, nI_lI, lI_lit.2.2.1, lI_mul, lc_ge, tab_e, lI_le, pk_div, ar_mod2, ar_eq, Nat.reduceEqDiff, not_false_eq_true]
      rw [if_neg (by omega)]
      refine s_V_span (by omega) h (by omega) (by omega) (fun I2 h => ?_)
      simp only [am_z, Nat.reduceAdd, Nat.zero_le, Nat.reduceLeDiff]
      refine rn_L_now 40 ?_
      simp (disch := omega) only [am_z, cq_L_now, Nat.reduceAdd, Nat.zero_le, Nat.reduceLeDiff, ar_lit, leT, nI_add]
      exact ih (j + 1) _ _ I2 x4 h (by omega) (by omega) (by omega)
  have l3 : ∀ m j kc ks I (x4 : Option am_V), st I s → j + m = tn s.2.1 → kc + (24 * m + 1) + 73 ≤ 700 → ks + (144 * m + 6) + 438 ≤ 4200 → am_X l (0, fun _ => 0) (d + 1) y_L_now P 58 [some (vR (0, 0)), some (vL (fN (nw5 s.2.1) j (nwa s.2.1))), none, some (vI (nI j)), x4] [] kc ks am_G0 I J := by
    intro m
    induction m with
    | zero =>
      intro j kc ks I x4 h hj hk1 hk2
      refine rn_L_now 40 ?_
      simp (disch := omega) only [am_z, cq_L_now, Nat.reduceAdd, Nat.zero_le, Nat.reduceLeDiff, ar_lit, leT]
      refine s_V_about (by omega) h (by omega) (fun I1 h => ?_)
      simp only [am_z, Nat.reduceAdd, Nat.zero_le, Nat.reduceLeDiff]
      refine rn_L_now 40 ?_
      simp (disch := omega) only [am_z, cq_L_now, Nat.reduceAdd, Nat.zero_le, Nat.reduceLeDiff, ar_lit, leT, nI_lI, lc_ge, tab_e, lI_le, nI_add]
      rw [if_pos (by omega)]
      rw [show j = tn s.2.1 by omega]
      exact l4 (4 * tm s.2.1) 0 _ _ I1 x4 h (by omega) (by omega) (by omega)
    | succ m ih =>
      intro j kc ks I x4 h hj hk1 hk2
      have lc : ∀ i c kc' ks' I, st I s → c + i = tC s.2.1 → kc' + (3 * i + 1) + (24 * m + 1) + 73 ≤ 700 → ks' + (18 * i + 6) + (144 * m + 6) + 438 ≤ 4200 → am_X l (0, fun _ => 0) (d + 1) y_L_now P 101 [some (vR (0, 0)), some (vL (fN (nw4 s.2.1 j) c (fN (nw3 s.2.1 j) 5 (fN (nw5 s.2.1) j (nwa s.2.1))))), none, some (vI (nI j)), some (vI (nI c))] [] kc' ks' am_G0 I J := by
        intro i
        induction i with
        | zero =>
          intro c kc' ks' I h hc hk1 hk2
          refine rn_L_now 40 ?_
          simp (disch := omega) only [am_z, cq_L_now, Nat.reduceAdd, Nat.zero_le, Nat.reduceLeDiff, ar_lit, leT]
          refine s_V_about (by omega) h (by omega) (fun I1 h => ?_)
          simp only [am_z, Nat.reduceAdd, Nat.zero_le, Nat.reduceLeDiff]
          refine rn_L_now 40 ?_
          simp (disch := omega) only [am_z, cq_L_now, Nat.reduceAdd, Nat.zero_le, Nat.reduceLeDiff, ar_lit, leT, nI_lI, lc_ge, tab_e, lI_le, nI_add]
          rw [if_pos (by omega)]
          rw [show c = tC s.2.1 by omega]
          exact ih (j + 1) _ _ I1 _ h (by omega) (by omega) (by omega)
        | succ i ihc =>
          intro c kc' ks' I h hc hk1 hk2
          refine rn_L_now 40 ?_
          simp (disch := omega) only [am_z, cq_L_now, Nat.reduceAdd, Nat.zero_le, Nat.reduceLeDiff, ar_lit, leT]
          refine s_V_about (by omega) h (by omega) (fun I1 h => ?_)
          simp only [am_z, Nat.reduceAdd, Nat.zero_le, Nat.reduceLeDiff]
          refine rn_L_now 40 ?_
          simp (disch := omega) only [am_z, cq_L_now, Nat.reduceAdd, Nat.zero_le, Nat.reduceLeDiff, ar_lit, leT, nI_lI, lc_ge, tab_e, lI_le, nI_add]
          rw [if_neg (by omega)]
          refine s_V_amount (by omega) h (by omega) (by omega) (fun I2 h => ?_)
          simp only [am_z, Nat.reduceAdd, Nat.zero_le, Nat.reduceLeDiff]
          refine rn_L_now 40 ?_
          simp (disch := omega) only [am_z, cq_L_now, Nat.reduceAdd, Nat.zero_le, Nat.reduceLeDiff, ar_lit, leT, nI_add]
          exact ihc (c + 1) _ _ I2 h (by omega) (by omega) (by omega)
      have lr : ∀ i c kc' ks' I, st I s → c + i = 5 → kc' + 2 * i + 13 + (24 * m + 1) + 73 ≤ 700 → ks' + 12 * i + 78 + (144 * m + 6) + 438 ≤ 4200 → am_X l (0, fun _ => 0) (d + 1) y_L_now P 72 [some (vR (0, 0)), some (vL (fN (nw3 s.2.1 j) c (fN (nw5 s.2.1) j (nwa s.2.1)))), none, some (vI (nI j)), some (vI (nI c))] [] kc' ks' am_G0 I J := by
        intro i
        induction i with
        | zero =>
          intro c kc' ks' I h hc hk1 hk2
          obtain rfl : c = 5 := by omega
          refine rn_L_now 40 ?_
          simp (disch := omega) only [am_z, cq_L_now, Nat.reduceAdd, Nat.zero_le, Nat.reduceLeDiff, ar_lit, leT, ar_le]
          exact lc (tC s.2.1) 0 _ _ I h (by omega) (by omega) (by omega)
        | succ i ihc =>
          intro c kc' ks' I h hc hk1 hk2
          refine rn_L_now 40 ?_
          simp (disch := omega) only [am_z, cq_L_now, Nat.reduceAdd, Nat.zero_le, Nat.reduceLeDiff, ar_lit, leT, ar_le]
          rw [if_neg (by omega)]
          refine s_V_row (by omega) h (by omega) (by omega) (fun I2 h => ?_)
          simp only [am_z, Nat.reduceAdd, Nat.zero_le, Nat.reduceLeDiff]
          refine rn_L_now 40 ?_
          simp (disch := omega) only [am_z, cq_L_now, Nat.reduceAdd, Nat.zero_le, Nat.reduceLeDiff, ar_lit, leT, nI_add]
          exact ihc (c + 1) _ _ I2 h (by omega) (by omega) (by omega)
      refine rn_L_now 40 ?_
      simp (disch := omega) only [am_z, cq_L_now, Nat.reduceAdd, Nat.zero_le, Nat.reduceLeDiff, ar_lit, leT]
      refine s_V_about (by omega) h (by omega) (fun I1 h => ?_)
      simp only [am_z, Nat.reduceAdd, Nat.zero_le, Nat.reduceLeDiff]
      refine rn_L_now 40 ?_
      simp (disch := omega) only [am_z, cq_L_now, Nat.reduceAdd, Nat.zero_le, Nat.reduceLeDiff, ar_lit, leT, nI_lI, lc_ge, tab_e, lI_le, nI_add]
      rw [if_neg (by omega)]
      exact lr 5 0 _ _ I1 h (by omega) (by omega) (by omega)
  have l2 : ∀ m j kc ks I, st I s → j + m = 6 → kc + m ≤ 14 → ks + 6 * m ≤ 84 → am_X l (0, fun _ => 0) (d + 1) y_L_now P 32 [some (vR (0, 0)), some (vL (fN (nw2 s.2.1) j (fN (nw1 s.2.1) 8 47))), none, some (vI (nI (j + 1))), none] [] kc ks am_G0 I J := by
    intro m
    induction m with
    | zero =>
      intro j kc ks I h hj hk1 hk2
      obtain rfl : j = 6 := by omega
      refine rn_L_now 40 ?_
      simp (disch := omega) only [am_z, cq_L_now, Nat.reduceAdd, Nat.zero_le, Nat.reduceLeDiff, ar_lit, leT, ar_le]
      exact l3 (tn s.2.1) 0 _ _ I none h (by omega) (by omega) (by omega)
    | succ m ih =>
      intro j kc ks I h hj hk1 hk2
      refine rn_L_now 40 ?_
      simp (disch := omega) only [am_z, cq_L_now, Nat.reduceAdd, Nat.zero_le, Nat.reduceLeDiff, ar_lit, leT, ar_le]
      rw [if_neg (by omega)]
      refine s_V_note (by omega) h (by omega) (by omega) (fun I2 h => ?_)
      simp only [am_z, Nat.reduceAdd, Nat.zero_le, Nat.reduceLeDiff]
      refine rn_L_now 40 ?_
      simp (disch := omega) only [am_z, cq_L_now, Nat.reduceAdd, Nat.zero_le, Nat.reduceLeDiff, ar_lit, leT, nI_add]
      exact ih (j + 1) _ _ I2 h (by omega) (by omega) (by omega)
  have l1 : ∀ m j kc ks I, st I s → j + m = 8 → kc + m ≤ 8 → ks + 6 * m ≤ 48 → am_X l (0, fun _ => 0) (d + 1) y_L_now P 6 [some (vR (0, 0)), some (vL (fN (nw1 s.2.1) j 47)), none, some (vI (nI j)), none] [] kc ks am_G0 I J := by
    intro m
    induction m with
    | zero =>
      intro j kc ks I h hj hk1 hk2
      obtain rfl : j = 8 := by omega
      refine rn_L_now 40 ?_
      simp (disch := omega) only [am_z, cq_L_now, Nat.reduceAdd, Nat.zero_le, Nat.reduceLeDiff, ar_lit, leT, ar_le]
      exact l2 6 0 _ _ I h (by omega) (by omega) (by omega)
    | succ m ih =>
      intro j kc ks I h hj hk1 hk2
      refine rn_L_now 40 ?_
      simp (disch := omega) only [am_z, cq_L_now, Nat.reduceAdd, Nat.zero_le, Nat.reduceLeDiff, ar_lit, leT, ar_le]
      rw [if_neg (by omega)]
      refine s_V_about (by omega) h (by omega) (fun I2 h => ?_)
      simp only [am_z, Nat.reduceAdd, Nat.zero_le, Nat.reduceLeDiff]
      refine rn_L_now 40 ?_
      simp (disch := omega) only [am_z, cq_L_now, Nat.reduceAdd, Nat.zero_le, Nat.reduceLeDiff, ar_lit, leT, nI_add]
      exact ih (j + 1) _ _ I2 h (by omega) (by omega) (by omega)
  refine en_L_now 40 (Nat.le_of_ble_eq_true rfl) ?_
  simp (disch := omega) only [am_z, cq_L_now, Nat.reduceAdd, Nat.zero_le, Nat.reduceLeDiff, ar_lit]
  exact l1 8 0 _ _ I h (by omega) (by omega) (by omega)
end NW
