/-! ===== the class Command: what holds; runOn ===== -/
def tdo6 (g : Nat) (p : pt_T) : Bool := decide (g / 1000 % 10 = 0) && decide (g / 100 % 10 = 0) && decide ((tpg p (tP p)).length ≤ 10 * (g / 10 % 10) + g % 10)
def tdo7 (g : Nat) (p : pt_T) : Bool := decide (g / 100 % 100 < (tpg p (tP p)).length) && decide ((pgA (tpg p (tP p)) (g / 100 % 100)).2.1 = 10 * (g / 10 % 10) + g % 10)
def tdo8 (g : Nat) (p : pt_T) : Bool := decide (g / 10 % 10 = 0) && decide (g % 10 = 0) && decide (g / 1000 % 10 < tm p) && decide (tps (tpg p (tP p)) p (g / 1000 % 10) = g / 100 % 10)
def tdo9 (g : Nat) (p : pt_T) : Bool := decide (g / 1000 % 10 = 0) && decide (g / 100 % 10 = 0) && decide (g / 10 % 10 = 0) && decide (tov (tpg p (tP p)) ≤ g % 10)
def tholds (g : Nat) (p : pt_T) : Bool := if g / 10000 = 6 then tdo6 g p else if g / 10000 = 7 then tdo7 g p else if g / 10000 = 8 then tdo8 g p else if g / 10000 = 9 then tdo9 g p else false
theorem tsw_n : ∀ n, n < 10 → (nI n).toInt = (n : Int) := fun n h => nI_toInt (by omega)
section CM
variable {l : Launch} {D t : Nat} {I : am_I} {J : am_J} {P : am_P} {p : pt_T} {g : Nat}
theorem s_holds (hD : 5 ≤ D) (hk : rK I g) (hg : g < 100000) (hr : rC I t p) (hw : tW p) (k : ∀ I', am_fr isY I I' → P (.inl (some (vI (nI (b01 (tholds g p)))))) am_G0 I' J) : am_T l D y_Command_holds [vR (1, 0), vR (7, t), vR (4, 0)] am_G0 I J P := by
  obtain ⟨d, rfl⟩ : ∃ d, D = d + 1 := ⟨D - 1, by omega⟩
  have hP := hw.2.1.2
  refine en_Command_holds 60 (Nat.le_of_ble_eq_true rfl) ?_
  simp only [am_z, cq_Command_holds, Nat.reduceAdd, hr.1.2.2.2.1]
  refine s_lay (by omega) hr hw (by omega) (fun I1 f1 l1 => ?_)
  have r1 : rC I1 t p := hr.fr f1 (fun c => isY_t)
  have k1 : rK I1 g := by
    have e : I1 (1, 0) = I (1, 0) := f1 _ (fun q => by rcases q with q | q | q <;> simp at q)
    unfold rK
    rw [e]
    exact hk
  have hlen := tpg_len (p := p) (h := tP p)
  have hov := tov_le (tpg p (tP p))
  have c1 : ∀ I', am_fr isY I I' → tholds g p = true → P (.inl (some (vI (nI 1)))) am_G0 I' J := fun I' f e => by
    have := k I' f
    rw [e] at this
    exact this
  have c0 : ∀ I', am_fr isY I I' → tholds g p = false → P (.inl (some (vI (nI 0)))) am_G0 I' J := fun I' f e => by
    have := k I' f
    rw [e] at this
    exact this
  simp only [am_z, Nat.reduceAdd]
  refine rn_Command_holds 60 ?_
  by_cases q6 : g / 10000 = 6
  · have e0 : I1 (1, 0) 0 = nI 6 := by rw [k1.1, q6]
    have ti : (nI 6).toInt = 6 := by decide +kernel
    have eh : tholds g p = tdo6 g p := by unfold tholds; rw [if_pos q6]
    rw [eh] at c0 c1
    simp (disch := omega) only [am_z, cq_Command_holds, Nat.reduceAdd, ar_lit, e0, ti, k1.2.1, k1.2.2.1, k1.2.2.2.1, k1.2.2.2.2, l1.1, l1.2.1, ar_eq, pk_mul, nI_add, ar_lt, Int.reduceLT, Int.reduceSub, Int.reduceToNat, List.getElem?_cons_zero, List.getElem?_cons_succ, ↓reduceIte, Nat.reduceEqDiff]
    split
    · split
      · split
        · exact c0 I1 f1 (by unfold tdo6; simp; omega)
        · exact c1 I1 f1 (by unfold tdo6; simp; omega)
      · exact c0 I1 f1 (by unfold tdo6; simp; omega)
    · exact c0 I1 f1 (by unfold tdo6; simp; omega)
  · by_cases q7 : g / 10000 = 7
    · have e0 : I1 (1, 0) 0 = nI 7 := by rw [k1.1, q7]
      have ti : (nI 7).toInt = 7 := by decide +kernel
      have eh : tholds g p = tdo7 g p := by unfold tholds; rw [if_neg q6, if_pos q7]
      rw [eh] at c0 c1
      simp (disch := omega) only [am_z, cq_Command_holds, Nat.reduceAdd, ar_lit, e0, ti, k1.2.1, k1.2.2.1, k1.2.2.2.1, k1.2.2.2.2, l1.1, l1.2.1, ar_eq, pk_mul, nI_add, ar_lt, Int.reduceLT, Int.reduceSub, Int.reduceToNat, List.getElem?_cons_zero, List.getElem?_cons_succ, ↓reduceIte, Nat.reduceEqDiff]
      refine s_firstPair (by omega) k1 ?_
      simp only [am_z, Nat.reduceAdd]
      refine rn_Command_holds 60 ?_
      simp (disch := omega) only [am_z, cq_Command_holds, Nat.reduceAdd, ar_lit, e0, ti, k1.2.1, k1.2.2.1, k1.2.2.2.1, k1.2.2.2.2, l1.1, l1.2.1, ar_eq, pk_mul, nI_add, ar_lt, Int.reduceLT, Int.reduceSub, Int.reduceToNat, List.getElem?_cons_zero, List.getElem?_cons_succ, ↓reduceIte, Nat.reduceEqDiff]
      refine s_hasPage (by omega) l1 hlen (fun hno => ?_) (fun j hj ej => ?_)
      · simp only [am_z, Nat.reduceAdd]
        refine rn_Command_holds 60 ?_
        simp (disch := omega) only [am_z, cq_Command_holds, Nat.reduceAdd, ar_lit, e0, ti, k1.2.1, k1.2.2.1, k1.2.2.2.1, k1.2.2.2.2, l1.1, l1.2.1, ar_eq, pk_mul, nI_add, ar_lt, Int.reduceLT, Int.reduceSub, Int.reduceToNat, List.getElem?_cons_zero, List.getElem?_cons_succ, ↓reduceIte, Nat.reduceEqDiff]
        refine c0 I1 f1 ?_
        unfold tdo7
        rw [decide_eq_false (fun q => hno _ q rfl)]
        rfl
      · rw [ar_eq (by omega) (by omega)] at ej
        subst ej
        have hb := (tpg_at (p := p) (h := tP p) _ hj).2.1
        have hn := hw.2.2.2.2.1
        simp only [am_z, Nat.reduceAdd]
        refine rn_Command_holds 60 ?_
        simp (disch := omega) only [am_z, cq_Command_holds, Nat.reduceAdd, ar_lit, e0, ti, k1.2.1, k1.2.2.1, k1.2.2.2.1, k1.2.2.2.2, l1.1, l1.2.1, ar_eq, pk_mul, nI_add, ar_lt, Int.reduceLT, Int.reduceSub, Int.reduceToNat, List.getElem?_cons_zero, List.getElem?_cons_succ, ↓reduceIte, Nat.reduceEqDiff]
        refine s_firstPair (by omega) k1 ?_
        simp only [am_z, Nat.reduceAdd]
        refine rn_Command_holds 60 ?_
        simp (disch := omega) only [am_z, cq_Command_holds, Nat.reduceAdd, ar_lit, e0, ti, k1.2.1, k1.2.2.1, k1.2.2.2.1, k1.2.2.2.2, l1.1, l1.2.1, ar_eq, pk_mul, nI_add, ar_lt, Int.reduceLT, Int.reduceSub, Int.reduceToNat, List.getElem?_cons_zero, List.getElem?_cons_succ, ↓reduceIte, Nat.reduceEqDiff]
        refine s_lastOf (by omega) l1 hlen hj ?_
        simp only [am_z, Nat.reduceAdd]
        refine rn_Command_holds 60 ?_
        simp (disch := omega) only [am_z, cq_Command_holds, Nat.reduceAdd, ar_lit, e0, ti, k1.2.1, k1.2.2.1, k1.2.2.2.1, k1.2.2.2.2, l1.1, l1.2.1, ar_eq, pk_mul, nI_add, ar_lt, Int.reduceLT, Int.reduceSub, Int.reduceToNat, List.getElem?_cons_zero, List.getElem?_cons_succ, ↓reduceIte, Nat.reduceEqDiff]
        split
        · rename_i q
          refine c1 I1 f1 ?_
          unfold tdo7
          rw [decide_eq_true hj, decide_eq_true q]
          rfl
        · rename_i q
          refine c0 I1 f1 ?_
          unfold tdo7
          rw [decide_eq_true hj, decide_eq_false q]
          rfl
    · by_cases q8 : g / 10000 = 8
      · have e0 : I1 (1, 0) 0 = nI 8 := by rw [k1.1, q8]
        have ti : (nI 8).toInt = 8 := by decide +kernel
        have eh : tholds g p = tdo8 g p := by unfold tholds; rw [if_neg q6, if_neg q7, if_pos q8]
        rw [eh] at c0 c1
        simp (disch := omega) only [am_z, cq_Command_holds, Nat.reduceAdd, ar_lit, e0, ti, k1.2.1, k1.2.2.1, k1.2.2.2.1, k1.2.2.2.2, l1.1, l1.2.1, ar_eq, pk_mul, nI_add, ar_lt, Int.reduceLT, Int.reduceSub, Int.reduceToNat, List.getElem?_cons_zero, List.getElem?_cons_succ, ↓reduceIte, Nat.reduceEqDiff]
        split
        · rename_i z1
          split
          · rename_i z2
            refine s_hasSpan (by omega) r1 hw (fun hno => ?_) (fun j hj ej => ?_)
            · simp only [am_z, Nat.reduceAdd]
              refine rn_Command_holds 60 ?_
              simp (disch := omega) only [am_z, cq_Command_holds, Nat.reduceAdd, ar_lit, e0, ti, k1.2.1, k1.2.2.1, k1.2.2.2.1, k1.2.2.2.2, l1.1, l1.2.1, ar_eq, pk_mul, nI_add, ar_lt, Int.reduceLT, Int.reduceSub, Int.reduceToNat, List.getElem?_cons_zero, List.getElem?_cons_succ, ↓reduceIte, Nat.reduceEqDiff]
              refine c0 I1 f1 ?_
              unfold tdo8
              rw [decide_eq_false (fun q : g / 1000 % 10 < tm p => hno _ q rfl)]
              simp
            · have h6 := hw.2.2.2.2.2.1
              rw [ar_eq (by omega) (by omega)] at ej
              subst ej
              have hb : tps (tpg p (tP p)) p (g / 1000 % 10) < 100 := by
                have := tpo_len (tpg p (tP p)) (tL p (g / 1000 % 10))
                unfold tps
                omega
              simp only [am_z, Nat.reduceAdd]
              refine rn_Command_holds 60 ?_
              simp (disch := omega) only [am_z, cq_Command_holds, Nat.reduceAdd, ar_lit, e0, ti, k1.2.1, k1.2.2.1, k1.2.2.2.1, k1.2.2.2.2, l1.1, l1.2.1, ar_eq, pk_mul, nI_add, ar_lt, Int.reduceLT, Int.reduceSub, Int.reduceToNat, List.getElem?_cons_zero, List.getElem?_cons_succ, ↓reduceIte, Nat.reduceEqDiff]
              refine s_pagesOfSpan (by omega) r1 hw l1 hj ?_
              simp only [am_z, Nat.reduceAdd]
              refine rn_Command_holds 60 ?_
              simp (disch := omega) only [am_z, cq_Command_holds, Nat.reduceAdd, ar_lit, e0, ti, k1.2.1, k1.2.2.1, k1.2.2.2.1, k1.2.2.2.2, l1.1, l1.2.1, ar_eq, pk_mul, nI_add, ar_lt, Int.reduceLT, Int.reduceSub, Int.reduceToNat, List.getElem?_cons_zero, List.getElem?_cons_succ, ↓reduceIte, Nat.reduceEqDiff]
              split
              · rename_i q
                refine c1 I1 f1 ?_
                unfold tdo8
                rw [decide_eq_true hj, decide_eq_true q, decide_eq_true z1, decide_eq_true z2]
                rfl
              · rename_i q
                refine c0 I1 f1 ?_
                unfold tdo8
                rw [decide_eq_false q]
                simp
          · rename_i z2
            exact c0 I1 f1 (by unfold tdo8; rw [decide_eq_false z2]; simp)
        · rename_i z1
          exact c0 I1 f1 (by unfold tdo8; rw [decide_eq_false z1]; simp)
      · by_cases q9 : g / 10000 = 9
        · have e0 : I1 (1, 0) 0 = nI 9 := by rw [k1.1, q9]
          have ti : (nI 9).toInt = 9 := by decide +kernel
          have eh : tholds g p = tdo9 g p := by unfold tholds; rw [if_neg q6, if_neg q7, if_neg q8, if_pos q9]
          rw [eh] at c0 c1
          simp (disch := omega) only [am_z, cq_Command_holds, Nat.reduceAdd, ar_lit, e0, ti, k1.2.1, k1.2.2.1, k1.2.2.2.1, k1.2.2.2.2, l1.1, l1.2.1, ar_eq, pk_mul, nI_add, ar_lt, Int.reduceLT, Int.reduceSub, Int.reduceToNat, List.getElem?_cons_zero, List.getElem?_cons_succ, ↓reduceIte, Nat.reduceEqDiff]
          split
          · split
            · split
              · split
                · exact c0 I1 f1 (by unfold tdo9; simp; omega)
                · exact c1 I1 f1 (by unfold tdo9; simp; omega)
              · exact c0 I1 f1 (by unfold tdo9; simp; omega)
            · exact c0 I1 f1 (by unfold tdo9; simp; omega)
          · exact c0 I1 f1 (by unfold tdo9; simp; omega)
        · have e0 : I1 (1, 0) 0 = nI (g / 10000) := k1.1
          have ti : (nI (g / 10000)).toInt = ((g / 10000 : Nat) : Int) := nI_toInt (by omega)
          have lt : ((g / 10000 : Nat) : Int) < 6 := by omega
          simp (disch := omega) only [am_z, cq_Command_holds, Nat.reduceAdd, ar_lit, e0, ti, k1.2.1, k1.2.2.1, k1.2.2.2.1, k1.2.2.2.2, l1.1, l1.2.1, ar_eq, pk_mul, nI_add, ar_lt, Int.reduceLT, Int.reduceSub, Int.reduceToNat, List.getElem?_cons_zero, List.getElem?_cons_succ, ↓reduceIte, Nat.reduceEqDiff, if_pos lt]
          exact c0 I1 f1 (by unfold tholds; rw [if_neg q6, if_neg q7, if_neg q8, if_neg q9])
end CM
