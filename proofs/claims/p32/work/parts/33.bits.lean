/-! ===== bits of ints; where the table may be cut ===== -/
def xb (x : Int32) (r : Nat) : Bool := x.toBitVec.getLsbD r
theorem xb_and (a b : Int32) (r : Nat) : xb (a &&& b) r = (xb a r && xb b r) := by simp [xb]
theorem xb_or (a b : Int32) (r : Nat) : xb (a ||| b) r = (xb a r || xb b r) := by simp [xb]
theorem xb_m1 : ∀ r, r < 32 → xb (-nI 1) r = true := by decide +kernel
theorem xb_not (a : Int32) {r : Nat} (h : r < 32) : xb (a ^^^ -nI 1) r = !xb a r := by
  have : xb (a ^^^ -nI 1) r = (xb a r ^^ xb (-nI 1) r) := by simp [xb]
  rw [this, xb_m1 r h]
  cases xb a r <;> rfl
theorem xb_bit : ∀ k, k < 32 → ∀ r, r < 32 → xb (nI 1 <<< (nI k &&& 31)) r = decide (r = k) := by decide +kernel
theorem xb_upTo : ∀ k, k < 25 → ∀ r, r < 32 → xb (nI 1 <<< (nI k &&& 31) - nI 1) r = decide (r < k) := by decide +kernel
theorem xb_sh : ∀ r, r < 32 → (((nI r).toUInt32 &&& Int32.toUInt32 31).toBitVec % 32).toNat = r := by decide +kernel
theorem xb_in (x : Int32) {r : Nat} (h : r < 32) : (x.toUInt32 >>> ((nI r).toUInt32 &&& Int32.toUInt32 31)).toInt32 &&& nI 1 = nI (b01 (xb x r)) := by
  rw [pk_and _ 1 (by decide +kernel), pk_ushr x (nI r) r (xb_sh r h)]
  congr 1
  unfold b01 xb
  show _ = if Nat.testBit x.toBitVec.toNat r = true then 1 else 0
  rw [Nat.testBit_eq_decide_div_mod_eq]
  rcases Nat.mod_two_eq_zero_or_one (x.toBitVec.toNat / 2 ^ r) with e | e
  · rw [e, if_neg (by simp)]
  · rw [e, if_pos (by simp)]
section TAB
variable {l : Launch} {D t u : Nat} {I : am_I} {J : am_J} {P : am_P} {p : pt_T}
theorem s_isIn {G : am_G} {x : Int32} {r : Nat} (hD : 1 ≤ D) (hr : r < 32) (k : P (.inl (some (vI (nI (b01 (xb x r)))))) G I J) : am_T l D y_P_isIn [vI x, vI (nI r)] G I J P := by
  obtain ⟨d, rfl⟩ : ∃ d, D = d + 1 := ⟨D - 1, by omega⟩
  refine en_P_isIn 20 (Nat.le_of_ble_eq_true rfl) ?_
  simp only [am_z, cq_P_isIn, Nat.reduceAdd, ar_lit, xb_in x hr]
  by_cases h : xb x r = true
  · rw [h] at k ⊢
    rw [if_neg (show ¬ nI (b01 true) = nI 0 by decide +kernel)]
    exact k
  · have h' : xb x r = false := by simpa using h
    rw [h'] at k ⊢
    rw [if_pos (show nI (b01 false) = nI 0 by decide +kernel)]
    exact k
theorem s_upTo {G : am_G} {a : Nat} (hD : 1 ≤ D) (k : P (.inl (some (vI (nI 1 <<< (nI a &&& 31) - nI 1)))) G I J) : am_T l D y_Table_upTo [vI (nI a)] G I J P := by
  obtain ⟨d, rfl⟩ : ∃ d, D = d + 1 := ⟨D - 1, by omega⟩
  refine en_Table_upTo 20 (Nat.le_of_ble_eq_true rfl) ?_
  simp only [am_z, cq_Table_upTo, Nat.reduceAdd, ar_lit]
  exact k
/-- where a page may end, but for the last row -/
def tcutA (p : pt_T) (s r : Nat) : Bool := (List.range s).all fun s => tM p s == 1 || decide (r < tF p s) || decide (tL p s ≤ r)
theorem tcutA_s (p : pt_T) (s r : Nat) : tcutA p (s + 1) r = (tcutA p s r && (tM p s == 1 || decide (r < tF p s) || decide (tL p s ≤ r))) := by
  unfold tcutA
  rw [List.range_succ, List.all_append]
  simp
theorem s_cutRows (hD : 2 ≤ D) (hr : rC I t p) (hw : tW p) (k : ∀ x : Int32, (∀ r, r < 32 → xb x r = (decide (r + 1 < tn p) && tcut p r)) → P (.inl (some (vI x))) am_G0 I J) : am_T l D y_Table_cutRows [vR (7, t)] am_G0 I J P := by
  obtain ⟨d, rfl⟩ : ∃ d, D = d + 1 := ⟨D - 1, by omega⟩
  have hn := hw.2.2.2.2.1
  have hm6 := hw.2.2.2.2.2.1
  have loop2 : ∀ m s x, s + m = tm p → (∀ r, r < 32 → xb x r = (decide (r + 1 < tn p) && ((tK p r == 0) && tcutA p s r))) → am_X l (0, fun _ => 0) (d + 1) y_Table_cutRows P 54 [some (vR (7, t)), some (vI x), some (vI (nI s))] [] 0 0 am_G0 I J := by
    intro m
    induction m with
    | zero =>
      intro s x hs hx
      have : s = tm p := by omega
      subst this
      refine rn_Table_cutRows 20 ?_
      simp (disch := omega) only [am_z, cq_Table_cutRows, Nat.reduceAdd, hr.1.2.2.1, ar_lit, ar_le, ↓reduceIte]
      exact k x hx
    | succ m ih =>
      intro s x hs hx
      obtain ⟨g1, g2, g3⟩ := hr.2.2.1 s (by omega)
      obtain ⟨w1, w2, w3⟩ := hw.span (s := s) (by omega)
      have h6 : s < 6 := by omega
      refine rn_Table_cutRows 40 ?_
      simp (disch := omega) only [am_z, cq_Table_cutRows, Nat.reduceAdd, hr.1.2.2.1, ar_lit, ar_le, ar_in, ar_cl, g1, g2, g3, h6, nI_add]
      rw [if_neg (by omega)]
      by_cases q : tM p s = 0
      · rw [if_pos (by rw [q])]
        refine s_upTo (by omega) ?_
        simp only [am_z, Nat.reduceAdd]
        refine rn_Table_cutRows 40 ?_
        simp (disch := omega) only [am_z, cq_Table_cutRows, Nat.reduceAdd, ar_in, ar_cl, g1, h6]
        refine s_upTo (by omega) ?_
        simp only [am_z, Nat.reduceAdd]
        refine rn_Table_cutRows 40 ?_
        simp only [am_z, cq_Table_cutRows, Nat.reduceAdd, ar_lit, nI_add]
        refine @ih (s + 1) _ (by omega) (fun r hr => ?_)
        rw [xb_and, xb_not _ hr, xb_and, xb_not _ hr, xb_upTo _ (by unfold tL; omega) r hr, xb_upTo _ (by unfold tF; omega) r hr, hx r hr, tcutA_s, q]
        have e : (!(decide (r < tL p s) && !decide (r < tF p s))) = ((0 : Nat) == 1 || decide (r < tF p s) || decide (tL p s ≤ r)) := by
          by_cases a : r < tF p s
          · simp [a]
          · by_cases b : r < tL p s
            · simp [a, b]
            · simp [a, b]; omega
        rw [e]
        simp only [Bool.and_assoc]
      · have q1 : tM p s = 1 := by unfold tM at q ⊢; omega
        rw [if_neg (by rw [ar_eq (by unfold tM; omega) (by omega)]; exact q)]
        refine @ih (s + 1) x (by omega) (fun r hr => ?_)
        rw [hx r hr, tcutA_s, q1]
        simp
  have loop1 : ∀ m j x, j + m = tn p → (∀ r, r < 32 → xb x r = (decide (r + 1 < tn p) && (decide (j ≤ r) || (tK p r == 0)))) → am_X l (0, fun _ => 0) (d + 1) y_Table_cutRows P 21 [some (vR (7, t)), some (vI x), some (vI (nI j))] [] 0 0 am_G0 I J := by
    intro m
    induction m with
    | zero =>
      intro j x hj hx
      refine rn_Table_cutRows 20 ?_
      simp (disch := omega) only [am_z, cq_Table_cutRows, Nat.reduceAdd, hr.1.2.1, ar_lit, ar_le]
      rw [if_pos (by omega)]
      refine @loop2 (tm p) 0 x (by omega) (fun r h => ?_)
      rw [hx r h]
      by_cases a : r + 1 < tn p
      · simp [a, tcutA, show ¬ j ≤ r by omega]
      · simp [a]
    | succ m ih =>
      intro j x hj hx
      have g3 := (hr.2.1 j (by omega)).2.2.1
      have hb : tK p j ≤ 1 := (hw.row (r := j) (by omega)).2.2.2.1
      have h6 : j < 24 := by omega
      refine rn_Table_cutRows 40 ?_
      simp (disch := omega) only [am_z, cq_Table_cutRows, Nat.reduceAdd, hr.1.2.1, ar_lit, ar_le, ar_in, ar_cl, g3, h6, nI_add, ar_eq]
      rw [if_neg (by omega)]
      by_cases q : tK p j = 0
      · rw [if_pos q]
        refine @ih (j + 1) x (by omega) (fun r h => ?_)
        rw [hx r h]
        by_cases a : r = j
        · subst a; simp [q]
        · rw [show decide (j + 1 ≤ r) = decide (j ≤ r) from decide_eq_decide.mpr (by omega)]
      · rw [if_neg q]
        refine @ih (j + 1) _ (by omega) (fun r h => ?_)
        rw [xb_and, xb_not _ h, xb_bit _ (by omega) r h, hx r h]
        by_cases a : r = j
        · subst a; simp [q]
        · rw [show decide (j + 1 ≤ r) = decide (j ≤ r) from decide_eq_decide.mpr (by omega)]
          simp [a]
  refine en_Table_cutRows 20 (Nat.le_of_ble_eq_true rfl) ?_
  simp (disch := omega) only [am_z, cq_Table_cutRows, Nat.reduceAdd, hr.1.2.1, ar_lit, ar_eq]
  by_cases n0 : tn p = 0
  · rw [if_pos n0]
    refine k _ (fun r h => ?_)
    rw [n0]
    simp [xb]
    rw [show nI 0 = 0 from rfl]
    simp
  · rw [if_neg n0, ar_sub (by omega)]
    refine s_upTo (by omega) ?_
    simp only [am_z, Nat.reduceAdd]
    refine rn_Table_cutRows 40 ?_
    simp only [am_z, cq_Table_cutRows, Nat.reduceAdd, ar_lit]
    refine @loop1 (tn p) 0 _ (by omega) (fun r h => ?_)
    rw [xb_upTo _ (by omega) r h]
    simp
    omega
theorem s_endRows (hD : 3 ≤ D) (hr : rC I t p) (hw : tW p) (k : ∀ x : Int32, (∀ r, r < tn p → xb x r = tend p r) → P (.inl (some (vI x))) am_G0 I J) : am_T l D y_Table_endRows [vR (7, t)] am_G0 I J P := by
  obtain ⟨d, rfl⟩ : ∃ d, D = d + 1 := ⟨D - 1, by omega⟩
  have hn := hw.2.2.2.2.1
  refine en_Table_endRows 20 (Nat.le_of_ble_eq_true rfl) ?_
  simp (disch := omega) only [am_z, cq_Table_endRows, Nat.reduceAdd, hr.1.2.1, ar_lit, ar_eq]
  by_cases n0 : tn p = 0
  · rw [if_pos n0]
    exact k _ (fun r h => by omega)
  · rw [if_neg n0]
    refine s_cutRows (by omega) hr hw (fun x hx => ?_)
    simp only [am_z, Nat.reduceAdd]
    refine rn_Table_endRows 40 ?_
    simp (disch := omega) only [am_z, cq_Table_endRows, Nat.reduceAdd, hr.1.2.1, ar_lit, ar_sub]
    refine k _ (fun r h => ?_)
    rw [xb_or, xb_bit _ (by omega) r (by omega), hx r (by omega)]
    unfold tend
    by_cases a : r + 1 = tn p
    · rw [decide_eq_true a, decide_eq_true (show r = tn p - 1 by omega)]; simp
    · simp [a, show ¬ r = tn p - 1 by omega, show r + 1 < tn p by omega]
end TAB
