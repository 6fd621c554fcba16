/-! ===== the reference: names ===== -/
section RF
variable {l : Launch} {D u : Nat} {I : am_I} {J : am_J} {P : am_P} {p : pt_T}
theorem s_M_names {a : Nat} (hD : 2 ≤ D) (hu : isU u) (h : rF (I (u, 0)) p) (hw : tW p) (ha : a < 100) (k : P (.inl (some (vI (nI (tnam p a))))) am_G0 I J) : am_T l D y_M_names [vR (u, 0), vI (nI a)] am_G0 I J P := by
  obtain ⟨d, rfl⟩ : ∃ d, D = d + 1 := ⟨D - 1, by omega⟩
  have hn := hw.2.2.2.2.1
  have hm6 := hw.2.2.2.2.2.1
  have loop : ∀ m j, j + m = tm p → am_X l (0, fun _ => 0) (d + 1) y_M_names P 4 [some (vR (u, 0)), some (vI (nI a)), some (vI (nI (sumN (fun s => b01 (decide (tF p s < a) && decide (a ≤ tL p s))) j))), some (vI (nI j))] [] 0 0 am_G0 I J := by
    intro m
    induction m with
    | zero =>
      intro j hj
      have : j = tm p := by omega
      subst this
      refine rn_M_names 20 ?_
      simp (disch := omega) only [am_z, cq_M_names, Nat.reduceAdd, Nat.zero_le, Nat.reduceLeDiff, ar_lit, hu.1, hu.2.1, h.1.2.2.1, ar_in, ar_cl, ar_eq, ar_lt, ar_le, ar_sub, nI_add, Nat.reduceEqDiff, ↓reduceIte, Nat.reduceLT, am_tt, Nat.le_refl]
      exact k
    | succ m ih =>
      intro j hj
      obtain ⟨w1, w2, w3⟩ := hw.span (s := j) (by omega)
      have bF : tF p j < 24 := by unfold tF; omega
      have bL : tL p j < 24 := by unfold tL; omega
      have hi := @ih (j + 1) (by omega)
      have es : sumN (fun s => b01 (decide (tF p s < a) && decide (a ≤ tL p s))) (j + 1) = sumN (fun s => b01 (decide (tF p s < a) && decide (a ≤ tL p s))) j + b01 (decide (tF p j < a) && decide (a ≤ tL p j)) := rfl
      rw [es] at hi
      refine rn_M_names 20 ?_
      simp (disch := omega) only [am_z, cq_M_names, Nat.reduceAdd, Nat.zero_le, Nat.reduceLeDiff, ar_lit, hu.1, hu.2.1, h.1.2.2.1, ar_in, ar_cl, ar_le, Nat.reduceLT, am_tt]
      rw [if_neg (by omega)]
      refine s_M_first (by omega) hu h hw (by omega) ?_
      simp only [am_z, Nat.reduceAdd, Nat.zero_le, Nat.reduceLeDiff]
      refine rn_M_names 40 ?_
      simp (disch := omega) only [am_z, cq_M_names, Nat.reduceAdd, Nat.zero_le, Nat.reduceLeDiff, ar_lit, ar_le, nI_add]
      by_cases q : a ≤ tF p j
      · rw [if_pos q]
        rw [decide_eq_false (by omega)] at hi
        exact hi
      · rw [if_neg q]
        refine s_M_last (by omega) hu h hw (by omega) ?_
        simp only [am_z, Nat.reduceAdd, Nat.zero_le, Nat.reduceLeDiff]
        refine rn_M_names 40 ?_
        simp (disch := omega) only [am_z, cq_M_names, Nat.reduceAdd, Nat.zero_le, Nat.reduceLeDiff, ar_lit, ar_lt, nI_add]
        by_cases q2 : tL p j < a
        · rw [if_pos q2]
          rw [decide_eq_false (show ¬ a ≤ tL p j by omega), Bool.and_false] at hi
          exact hi
        · rw [if_neg q2]
          rw [decide_eq_true (show a ≤ tL p j by omega), decide_eq_true (show tF p j < a by omega)] at hi
          exact hi
  refine en_M_names 20 (Nat.le_of_ble_eq_true rfl) ?_
  simp (disch := omega) only [am_z, cq_M_names, Nat.reduceAdd, Nat.zero_le, Nat.reduceLeDiff, ar_lit]
  exact @loop (tm p) 0 (by omega)
end RF
