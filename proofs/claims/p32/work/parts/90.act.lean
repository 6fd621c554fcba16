/-! ===== the law: one action, told by two numbers ===== -/
theorem ac_lit : (16 : Int32) = nI 16 ∧ (35 : Int32) = nI 35 ∧ (21 : Int32) = nI 21 ∧ (199 : Int32) = nI 199 := ⟨rfl, rfl, rfl, rfl⟩
section AC
theorem act_36 (s : pt_G) (X W : Nat) (rr : Int32) (hX : X < 2147483648) (hW : W < 2147483648) : ∃ (v : Int64) (s' : pt_G), ∀ (l : Launch) (d : Nat) (J : am_J) (P : am_P) (I : am_I) (Y x3 : Int32), 9 ≤ d + 1 → st I s → (∀ I', st I' s' → P (.inl (some (vL v))) am_G0 I' J) → am_X l (0, fun _ => 0) (d + 1) y_L_act P 36 [some (vR (0, 0)), some (vI (nI X)), some (vI Y), some (vI x3), some (vI rr), some (vI (nI W))] [] 1 6 am_G0 I J := by
  rcases (show X % 16 = 0 ∨ X % 16 = 1 ∨ X % 16 = 2 ∨ X % 16 = 3 ∨ X % 16 = 4 ∨ X % 16 = 5 ∨ X % 16 = 6 ∨ X % 16 = 7 ∨ X % 16 = 8 ∨ X % 16 = 9 ∨ X % 16 = 10 ∨ X % 16 = 11 ∨ X % 16 = 12 ∨ X % 16 = 13 ∨ X % 16 = 14 ∨ X % 16 = 15 by omega) with e | e | e | e | e | e | e | e | e | e | e | e | e | e | e | e
  · by_cases q : W / 6 % 9 ≤ 6
    · apply Exists.intro
      apply Exists.intro
      intro l d J P I Y x3 hD h k
      refine rn_L_act 40 ?_
      simp (disch := omega) only [am_z, cq_L_act, Nat.reduceAdd, Nat.zero_le, Nat.reduceLeDiff, ar_lit, ac_lit, pk_div, ar_mod2, ar_eq, ar_le, Nat.reduceEqDiff, not_false_eq_true, nI_add, am_tt, leT, ↓reduceIte, e, show (nI 0).toInt = 0 by decide +kernel, Int.reduceLT, Int.reduceSub, Int.reduceToNat, List.getElem?_cons_zero, List.getElem?_cons_succ, ↓reduceIte, List.getElem?_nil]
      try rw [if_pos q]
      refine rn_L_act 40 ?_
      simp (disch := omega) only [am_z, cq_L_act, Nat.reduceAdd, Nat.zero_le, Nat.reduceLeDiff, ar_lit, ac_lit, pk_div, ar_mod2, ar_eq, ar_le, Nat.reduceEqDiff, not_false_eq_true, nI_add, am_tt, leT, ↓reduceIte]
      refine s_L_addRow (by omega) h (fun I1 h => ?_)
      simp only [am_z, Nat.reduceAdd, Nat.zero_le, Nat.reduceLeDiff]
      refine rn_L_act 40 ?_
      simp (disch := omega) only [am_z, cq_L_act, Nat.reduceAdd, Nat.zero_le, Nat.reduceLeDiff, ar_lit, ac_lit, pk_div, ar_mod2, ar_eq, ar_le, Nat.reduceEqDiff, not_false_eq_true, nI_add, am_tt, leT, ↓reduceIte]
      exact k I1 h
    · apply Exists.intro
      apply Exists.intro
      intro l d J P I Y x3 hD h k
      refine rn_L_act 40 ?_
      simp (disch := omega) only [am_z, cq_L_act, Nat.reduceAdd, Nat.zero_le, Nat.reduceLeDiff, ar_lit, ac_lit, pk_div, ar_mod2, ar_eq, ar_le, Nat.reduceEqDiff, not_false_eq_true, nI_add, am_tt, leT, ↓reduceIte, e, show (nI 0).toInt = 0 by decide +kernel, Int.reduceLT, Int.reduceSub, Int.reduceToNat, List.getElem?_cons_zero, List.getElem?_cons_succ, ↓reduceIte, List.getElem?_nil]
      try rw [if_neg q]
      refine rn_L_act 40 ?_
      simp (disch := omega) only [am_z, cq_L_act, Nat.reduceAdd, Nat.zero_le, Nat.reduceLeDiff, ar_lit, ac_lit, pk_div, ar_mod2, ar_eq, ar_le, Nat.reduceEqDiff, not_false_eq_true, nI_add, am_tt, leT, ↓reduceIte]
      refine s_L_addRow (by omega) h (fun I1 h => ?_)
      simp only [am_z, Nat.reduceAdd, Nat.zero_le, Nat.reduceLeDiff]
      refine rn_L_act 40 ?_
      simp (disch := omega) only [am_z, cq_L_act, Nat.reduceAdd, Nat.zero_le, Nat.reduceLeDiff, ar_lit, ac_lit, pk_div, ar_mod2, ar_eq, ar_le, Nat.reduceEqDiff, not_false_eq_true, nI_add, am_tt, leT, ↓reduceIte]
      exact k I1 h
  · by_cases q : W / 6 % 9 ≤ 6
    · apply Exists.intro
      apply Exists.intro
      intro l d J P I Y x3 hD h k
      refine rn_L_act 40 ?_
      simp (disch := omega) only [am_z, cq_L_act, Nat.reduceAdd, Nat.zero_le, Nat.reduceLeDiff, ar_lit, ac_lit, pk_div, ar_mod2, ar_eq, ar_le, Nat.reduceEqDiff, not_false_eq_true, nI_add, am_tt, leT, ↓reduceIte, e, show (nI 1).toInt = 1 by decide +kernel, Int.reduceLT, Int.reduceSub, Int.reduceToNat, List.getElem?_cons_zero, List.getElem?_cons_succ, ↓reduceIte, List.getElem?_nil]
      try rw [if_pos q]
      refine rn_L_act 40 ?_
      simp (disch := omega) only [am_z, cq_L_act, Nat.reduceAdd, Nat.zero_le, Nat.reduceLeDiff, ar_lit, ac_lit, pk_div, ar_mod2, ar_eq, ar_le, Nat.reduceEqDiff, not_false_eq_true, nI_add, am_tt, leT, ↓reduceIte]
      refine s_L_addRow (by omega) h (fun I1 h => ?_)
      simp only [am_z, Nat.reduceAdd, Nat.zero_le, Nat.reduceLeDiff]
      refine rn_L_act 40 ?_
      simp (disch := omega) only [am_z, cq_L_act, Nat.reduceAdd, Nat.zero_le, Nat.reduceLeDiff, ar_lit, ac_lit, pk_div, ar_mod2, ar_eq, ar_le, Nat.reduceEqDiff, not_false_eq_true, nI_add, am_tt, leT, ↓reduceIte]
      exact k I1 h
    · apply Exists.intro
      apply Exists.intro
      intro l d J P I Y x3 hD h k
      refine rn_L_act 40 ?_
      simp (disch := omega) only [am_z, cq_L_act, Nat.reduceAdd, Nat.zero_le, Nat.reduceLeDiff, ar_lit, ac_lit, pk_div, ar_mod2, ar_eq, ar_le, Nat.reduceEqDiff, not_false_eq_true, nI_add, am_tt, leT, ↓reduceIte, e, show (nI 1).toInt = 1 by decide +kernel, Int.reduceLT, Int.reduceSub, Int.reduceToNat, List.getElem?_cons_zero, List.getElem?_cons_succ, ↓reduceIte, List.getElem?_nil]
      try rw [if_neg q]
      refine rn_L_act 40 ?_
      simp (disch := omega) only [am_z, cq_L_act, Nat.reduceAdd, Nat.zero_le, Nat.reduceLeDiff, ar_lit, ac_lit, pk_div, ar_mod2, ar_eq, ar_le, Nat.reduceEqDiff, not_false_eq_true, nI_add, am_tt, leT, ↓reduceIte]
      refine s_L_addRow (by omega) h (fun I1 h => ?_)
      simp only [am_z, Nat.reduceAdd, Nat.zero_le, Nat.reduceLeDiff]
      refine rn_L_act 40 ?_
      simp (disch := omega) only [am_z, cq_L_act, Nat.reduceAdd, Nat.zero_le, Nat.reduceLeDiff, ar_lit, ac_lit, pk_div, ar_mod2, ar_eq, ar_le, Nat.reduceEqDiff, not_false_eq_true, nI_add, am_tt, leT, ↓reduceIte]
      exact k I1 h
  · by_cases q : W / 6 % 9 ≤ 6
    · apply Exists.intro
      apply Exists.intro
      intro l d J P I Y x3 hD h k
      refine rn_L_act 40 ?_
      simp (disch := omega) only [am_z, cq_L_act, Nat.reduceAdd, Nat.zero_le, Nat.reduceLeDiff, ar_lit, ac_lit, pk_div, ar_mod2, ar_eq, ar_le, Nat.reduceEqDiff, not_false_eq_true, nI_add, am_tt, leT, ↓reduceIte, e, show (nI 2).toInt = 2 by decide +kernel, Int.reduceLT, Int.reduceSub, Int.reduceToNat, List.getElem?_cons_zero, List.getElem?_cons_succ, ↓reduceIte, List.getElem?_nil]
      try rw [if_pos q]
      refine rn_L_act 40 ?_
      simp (disch := omega) only [am_z, cq_L_act, Nat.reduceAdd, Nat.zero_le, Nat.reduceLeDiff, ar_lit, ac_lit, pk_div, ar_mod2, ar_eq, ar_le, Nat.reduceEqDiff, not_false_eq_true, nI_add, am_tt, leT, ↓reduceIte]
      refine s_L_addRow (by omega) h (fun I1 h => ?_)
      simp only [am_z, Nat.reduceAdd, Nat.zero_le, Nat.reduceLeDiff]
      refine rn_L_act 40 ?_
      simp (disch := omega) only [am_z, cq_L_act, Nat.reduceAdd, Nat.zero_le, Nat.reduceLeDiff, ar_lit, ac_lit, pk_div, ar_mod2, ar_eq, ar_le, Nat.reduceEqDiff, not_false_eq_true, nI_add, am_tt, leT, ↓reduceIte]
      exact k I1 h
    · apply Exists.intro
      apply Exists.intro
      intro l d J P I Y x3 hD h k
      refine rn_L_act 40 ?_
      simp (disch := omega) only [am_z, cq_L_act, Nat.reduceAdd, Nat.zero_le, Nat.reduceLeDiff, ar_lit, ac_lit, pk_div, ar_mod2, ar_eq, ar_le, Nat.reduceEqDiff, not_false_eq_true, nI_add, am_tt, leT, ↓reduceIte, e, show (nI 2).toInt = 2 by decide +kernel, Int.reduceLT, Int.reduceSub, Int.reduceToNat, List.getElem?_cons_zero, List.getElem?_cons_succ, ↓reduceIte, List.getElem?_nil]
      try rw [if_neg q]
      refine rn_L_act 40 ?_
      simp (disch := omega) only [am_z, cq_L_act, Nat.reduceAdd, Nat.zero_le, Nat.reduceLeDiff, ar_lit, ac_lit, pk_div, ar_mod2, ar_eq, ar_le, Nat.reduceEqDiff, not_false_eq_true, nI_add, am_tt, leT, ↓reduceIte]
      refine s_L_addRow (by omega) h (fun I1 h => ?_)
      simp only [am_z, Nat.reduceAdd, Nat.zero_le, Nat.reduceLeDiff]
      refine rn_L_act 40 ?_
      simp (disch := omega) only [am_z, cq_L_act, Nat.reduceAdd, Nat.zero_le, Nat.reduceLeDiff, ar_lit, ac_lit, pk_div, ar_mod2, ar_eq, ar_le, Nat.reduceEqDiff, not_false_eq_true, nI_add, am_tt, leT, ↓reduceIte]
      exact k I1 h
  · apply Exists.intro
    apply Exists.intro
    intro l d J P I Y x3 hD h k
    refine rn_L_act 40 ?_
    simp (disch := omega) only [am_z, cq_L_act, Nat.reduceAdd, Nat.zero_le, Nat.reduceLeDiff, ar_lit, ac_lit, pk_div, ar_mod2, ar_eq, ar_le, Nat.reduceEqDiff, not_false_eq_true, nI_add, am_tt, leT, ↓reduceIte, e, show (nI 3).toInt = 3 by decide +kernel, Int.reduceLT, Int.reduceSub, Int.reduceToNat, List.getElem?_cons_zero, List.getElem?_cons_succ, ↓reduceIte, List.getElem?_nil]
    refine s_L_setAmount (by omega) h (fun I1 h => ?_)
    simp only [am_z, Nat.reduceAdd, Nat.zero_le, Nat.reduceLeDiff]
    refine rn_L_act 40 ?_
    simp (disch := omega) only [am_z, cq_L_act, Nat.reduceAdd, Nat.zero_le, Nat.reduceLeDiff, ar_lit, ac_lit, pk_div, ar_mod2, ar_eq, ar_le, Nat.reduceEqDiff, not_false_eq_true, nI_add, am_tt, leT, ↓reduceIte]
    exact k I1 h
  · apply Exists.intro
    apply Exists.intro
    intro l d J P I Y x3 hD h k
    refine rn_L_act 40 ?_
    simp (disch := omega) only [am_z, cq_L_act, Nat.reduceAdd, Nat.zero_le, Nat.reduceLeDiff, ar_lit, ac_lit, pk_div, ar_mod2, ar_eq, ar_le, Nat.reduceEqDiff, not_false_eq_true, nI_add, am_tt, leT, ↓reduceIte, e, show (nI 4).toInt = 4 by decide +kernel, Int.reduceLT, Int.reduceSub, Int.reduceToNat, List.getElem?_cons_zero, List.getElem?_cons_succ, ↓reduceIte, List.getElem?_nil]
    refine s_L_setAmount (by omega) h (fun I1 h => ?_)
    simp only [am_z, Nat.reduceAdd, Nat.zero_le, Nat.reduceLeDiff]
    refine rn_L_act 40 ?_
    simp (disch := omega) only [am_z, cq_L_act, Nat.reduceAdd, Nat.zero_le, Nat.reduceLeDiff, ar_lit, ac_lit, pk_div, ar_mod2, ar_eq, ar_le, Nat.reduceEqDiff, not_false_eq_true, nI_add, am_tt, leT, ↓reduceIte]
    exact k I1 h
  · by_cases q : W % 3 ≤ 0
    · apply Exists.intro
      apply Exists.intro
      intro l d J P I Y x3 hD h k
      refine rn_L_act 40 ?_
      simp (disch := omega) only [am_z, cq_L_act, Nat.reduceAdd, Nat.zero_le, Nat.reduceLeDiff, ar_lit, ac_lit, pk_div, ar_mod2, ar_eq, ar_le, Nat.reduceEqDiff, not_false_eq_true, nI_add, am_tt, leT, ↓reduceIte, e, show (nI 5).toInt = 5 by decide +kernel, Int.reduceLT, Int.reduceSub, Int.reduceToNat, List.getElem?_cons_zero, List.getElem?_cons_succ, ↓reduceIte, List.getElem?_nil]
      try rw [if_pos q]
      refine rn_L_act 40 ?_
      simp (disch := omega) only [am_z, cq_L_act, Nat.reduceAdd, Nat.zero_le, Nat.reduceLeDiff, ar_lit, ac_lit, pk_div, ar_mod2, ar_eq, ar_le, Nat.reduceEqDiff, not_false_eq_true, nI_add, am_tt, leT, ↓reduceIte]
      refine s_L_keep (by omega) (by omega) h (fun I1 h => ?_)
      simp only [am_z, Nat.reduceAdd, Nat.zero_le, Nat.reduceLeDiff]
      refine rn_L_act 40 ?_
      simp (disch := omega) only [am_z, cq_L_act, Nat.reduceAdd, Nat.zero_le, Nat.reduceLeDiff, ar_lit, ac_lit, pk_div, ar_mod2, ar_eq, ar_le, Nat.reduceEqDiff, not_false_eq_true, nI_add, am_tt, leT, ↓reduceIte]
      exact k I1 h
    · apply Exists.intro
      apply Exists.intro
      intro l d J P I Y x3 hD h k
      refine rn_L_act 40 ?_
      simp (disch := omega) only [am_z, cq_L_act, Nat.reduceAdd, Nat.zero_le, Nat.reduceLeDiff, ar_lit, ac_lit, pk_div, ar_mod2, ar_eq, ar_le, Nat.reduceEqDiff, not_false_eq_true, nI_add, am_tt, leT, ↓reduceIte, e, show (nI 5).toInt = 5 by decide +kernel, Int.reduceLT, Int.reduceSub, Int.reduceToNat, List.getElem?_cons_zero, List.getElem?_cons_succ, ↓reduceIte, List.getElem?_nil]
      try rw [if_neg q]
      refine rn_L_act 40 ?_
      simp (disch := omega) only [am_z, cq_L_act, Nat.reduceAdd, Nat.zero_le, Nat.reduceLeDiff, ar_lit, ac_lit, pk_div, ar_mod2, ar_eq, ar_le, Nat.reduceEqDiff, not_false_eq_true, nI_add, am_tt, leT, ↓reduceIte]
      refine s_L_keep (by omega) (by omega) h (fun I1 h => ?_)
      simp only [am_z, Nat.reduceAdd, Nat.zero_le, Nat.reduceLeDiff]
      refine rn_L_act 40 ?_
      simp (disch := omega) only [am_z, cq_L_act, Nat.reduceAdd, Nat.zero_le, Nat.reduceLeDiff, ar_lit, ac_lit, pk_div, ar_mod2, ar_eq, ar_le, Nat.reduceEqDiff, not_false_eq_true, nI_add, am_tt, leT, ↓reduceIte]
      exact k I1 h
  · by_cases q : W % 3 ≤ 0
    · apply Exists.intro
      apply Exists.intro
      intro l d J P I Y x3 hD h k
      refine rn_L_act 40 ?_
      simp (disch := omega) only [am_z, cq_L_act, Nat.reduceAdd, Nat.zero_le, Nat.reduceLeDiff, ar_lit, ac_lit, pk_div, ar_mod2, ar_eq, ar_le, Nat.reduceEqDiff, not_false_eq_true, nI_add, am_tt, leT, ↓reduceIte, e, show (nI 6).toInt = 6 by decide +kernel, Int.reduceLT, Int.reduceSub, Int.reduceToNat, List.getElem?_cons_zero, List.getElem?_cons_succ, ↓reduceIte, List.getElem?_nil]
      try rw [if_pos q]
      refine rn_L_act 40 ?_
      simp (disch := omega) only [am_z, cq_L_act, Nat.reduceAdd, Nat.zero_le, Nat.reduceLeDiff, ar_lit, ac_lit, pk_div, ar_mod2, ar_eq, ar_le, Nat.reduceEqDiff, not_false_eq_true, nI_add, am_tt, leT, ↓reduceIte]
      refine s_L_keep (by omega) (by omega) h (fun I1 h => ?_)
      simp only [am_z, Nat.reduceAdd, Nat.zero_le, Nat.reduceLeDiff]
      refine rn_L_act 40 ?_
      simp (disch := omega) only [am_z, cq_L_act, Nat.reduceAdd, Nat.zero_le, Nat.reduceLeDiff, ar_lit, ac_lit, pk_div, ar_mod2, ar_eq, ar_le, Nat.reduceEqDiff, not_false_eq_true, nI_add, am_tt, leT, ↓reduceIte]
      exact k I1 h
    · apply Exists.intro
      apply Exists.intro
      intro l d J P I Y x3 hD h k
      refine rn_L_act 40 ?_
      simp (disch := omega) only [am_z, cq_L_act, Nat.reduceAdd, Nat.zero_le, Nat.reduceLeDiff, ar_lit, ac_lit, pk_div, ar_mod2, ar_eq, ar_le, Nat.reduceEqDiff, not_false_eq_true, nI_add, am_tt, leT, ↓reduceIte, e, show (nI 6).toInt = 6 by decide +kernel, Int.reduceLT, Int.reduceSub, Int.reduceToNat, List.getElem?_cons_zero, List.getElem?_cons_succ, ↓reduceIte, List.getElem?_nil]
      try rw [if_neg q]
      refine rn_L_act 40 ?_
      simp (disch := omega) only [am_z, cq_L_act, Nat.reduceAdd, Nat.zero_le, Nat.reduceLeDiff, ar_lit, ac_lit, pk_div, ar_mod2, ar_eq, ar_le, Nat.reduceEqDiff, not_false_eq_true, nI_add, am_tt, leT, ↓reduceIte]
      refine s_L_keep (by omega) (by omega) h (fun I1 h => ?_)
      simp only [am_z, Nat.reduceAdd, Nat.zero_le, Nat.reduceLeDiff]
      refine rn_L_act 40 ?_
      simp (disch := omega) only [am_z, cq_L_act, Nat.reduceAdd, Nat.zero_le, Nat.reduceLeDiff, ar_lit, ac_lit, pk_div, ar_mod2, ar_eq, ar_le, Nat.reduceEqDiff, not_false_eq_true, nI_add, am_tt, leT, ↓reduceIte]
      exact k I1 h
  · by_cases q : W % 3 ≤ 0
    · apply Exists.intro
      apply Exists.intro
      intro l d J P I Y x3 hD h k
      refine rn_L_act 40 ?_
      simp (disch := omega) only [am_z, cq_L_act, Nat.reduceAdd, Nat.zero_le, Nat.reduceLeDiff, ar_lit, ac_lit, pk_div, ar_mod2, ar_eq, ar_le, Nat.reduceEqDiff, not_false_eq_true, nI_add, am_tt, leT, ↓reduceIte, e, show (nI 7).toInt = 7 by decide +kernel, Int.reduceLT, Int.reduceSub, Int.reduceToNat, List.getElem?_cons_zero, List.getElem?_cons_succ, ↓reduceIte, List.getElem?_nil]
      try rw [if_pos q]
      refine rn_L_act 40 ?_
      simp (disch := omega) only [am_z, cq_L_act, Nat.reduceAdd, Nat.zero_le, Nat.reduceLeDiff, ar_lit, ac_lit, pk_div, ar_mod2, ar_eq, ar_le, Nat.reduceEqDiff, not_false_eq_true, nI_add, am_tt, leT, ↓reduceIte]
      refine s_L_keep (by omega) (by omega) h (fun I1 h => ?_)
      simp only [am_z, Nat.reduceAdd, Nat.zero_le, Nat.reduceLeDiff]
      refine rn_L_act 40 ?_
      simp (disch := omega) only [am_z, cq_L_act, Nat.reduceAdd, Nat.zero_le, Nat.reduceLeDiff, ar_lit, ac_lit, pk_div, ar_mod2, ar_eq, ar_le, Nat.reduceEqDiff, not_false_eq_true, nI_add, am_tt, leT, ↓reduceIte]
      exact k I1 h
    · apply Exists.intro
      apply Exists.intro
      intro l d J P I Y x3 hD h k
      refine rn_L_act 40 ?_
      simp (disch := omega) only [am_z, cq_L_act, Nat.reduceAdd, Nat.zero_le, Nat.reduceLeDiff, ar_lit, ac_lit, pk_div, ar_mod2, ar_eq, ar_le, Nat.reduceEqDiff, not_false_eq_true, nI_add, am_tt, leT, ↓reduceIte, e, show (nI 7).toInt = 7 by decide +kernel, Int.reduceLT, Int.reduceSub, Int.reduceToNat, List.getElem?_cons_zero, List.getElem?_cons_succ, ↓reduceIte, List.getElem?_nil]
      try rw [if_neg q]
      refine rn_L_act 40 ?_
      simp (disch := omega) only [am_z, cq_L_act, Nat.reduceAdd, Nat.zero_le, Nat.reduceLeDiff, ar_lit, ac_lit, pk_div, ar_mod2, ar_eq, ar_le, Nat.reduceEqDiff, not_false_eq_true, nI_add, am_tt, leT, ↓reduceIte]
      refine s_L_keep (by omega) (by omega) h (fun I1 h => ?_)
      simp only [am_z, Nat.reduceAdd, Nat.zero_le, Nat.reduceLeDiff]
      refine rn_L_act 40 ?_
      simp (disch := omega) only [am_z, cq_L_act, Nat.reduceAdd, Nat.zero_le, Nat.reduceLeDiff, ar_lit, ac_lit, pk_div, ar_mod2, ar_eq, ar_le, Nat.reduceEqDiff, not_false_eq_true, nI_add, am_tt, leT, ↓reduceIte]
      exact k I1 h
  · apply Exists.intro
    apply Exists.intro
    intro l d J P I Y x3 hD h k
    refine rn_L_act 40 ?_
    simp (disch := omega) only [am_z, cq_L_act, Nat.reduceAdd, Nat.zero_le, Nat.reduceLeDiff, ar_lit, ac_lit, pk_div, ar_mod2, ar_eq, ar_le, Nat.reduceEqDiff, not_false_eq_true, nI_add, am_tt, leT, ↓reduceIte, e, show (nI 8).toInt = 8 by decide +kernel, Int.reduceLT, Int.reduceSub, Int.reduceToNat, List.getElem?_cons_zero, List.getElem?_cons_succ, ↓reduceIte, List.getElem?_nil]
    refine s_L_removeRow (by omega) h (fun I1 h => ?_)
    simp only [am_z, Nat.reduceAdd, Nat.zero_le, Nat.reduceLeDiff]
    refine rn_L_act 40 ?_
    simp (disch := omega) only [am_z, cq_L_act, Nat.reduceAdd, Nat.zero_le, Nat.reduceLeDiff, ar_lit, ac_lit, pk_div, ar_mod2, ar_eq, ar_le, Nat.reduceEqDiff, not_false_eq_true, nI_add, am_tt, leT, ↓reduceIte]
    exact k I1 h
  · by_cases q : W / 6 % 2 = 0
    · apply Exists.intro
      apply Exists.intro
      intro l d J P I Y x3 hD h k
      refine rn_L_act 40 ?_
      simp (disch := omega) only [am_z, cq_L_act, Nat.reduceAdd, Nat.zero_le, Nat.reduceLeDiff, ar_lit, ac_lit, pk_div, ar_mod2, ar_eq, ar_le, Nat.reduceEqDiff, not_false_eq_true, nI_add, am_tt, leT, ↓reduceIte, e, show (nI 9).toInt = 9 by decide +kernel, Int.reduceLT, Int.reduceSub, Int.reduceToNat, List.getElem?_cons_zero, List.getElem?_cons_succ, ↓reduceIte, List.getElem?_nil]
      try rw [if_pos q]
      refine rn_L_act 40 ?_
      simp (disch := omega) only [am_z, cq_L_act, Nat.reduceAdd, Nat.zero_le, Nat.reduceLeDiff, ar_lit, ac_lit, pk_div, ar_mod2, ar_eq, ar_le, Nat.reduceEqDiff, not_false_eq_true, nI_add, am_tt, leT, ↓reduceIte]
      refine s_L_addSpan (by omega) (by omega) h (fun I1 h => ?_)
      simp only [am_z, Nat.reduceAdd, Nat.zero_le, Nat.reduceLeDiff]
      refine rn_L_act 40 ?_
      simp (disch := omega) only [am_z, cq_L_act, Nat.reduceAdd, Nat.zero_le, Nat.reduceLeDiff, ar_lit, ac_lit, pk_div, ar_mod2, ar_eq, ar_le, Nat.reduceEqDiff, not_false_eq_true, nI_add, am_tt, leT, ↓reduceIte]
      exact k I1 h
    · apply Exists.intro
      apply Exists.intro
      intro l d J P I Y x3 hD h k
      refine rn_L_act 40 ?_
      simp (disch := omega) only [am_z, cq_L_act, Nat.reduceAdd, Nat.zero_le, Nat.reduceLeDiff, ar_lit, ac_lit, pk_div, ar_mod2, ar_eq, ar_le, Nat.reduceEqDiff, not_false_eq_true, nI_add, am_tt, leT, ↓reduceIte, e, show (nI 9).toInt = 9 by decide +kernel, Int.reduceLT, Int.reduceSub, Int.reduceToNat, List.getElem?_cons_zero, List.getElem?_cons_succ, ↓reduceIte, List.getElem?_nil]
      try rw [if_neg q]
      refine rn_L_act 40 ?_
      simp (disch := omega) only [am_z, cq_L_act, Nat.reduceAdd, Nat.zero_le, Nat.reduceLeDiff, ar_lit, ac_lit, pk_div, ar_mod2, ar_eq, ar_le, Nat.reduceEqDiff, not_false_eq_true, nI_add, am_tt, leT, ↓reduceIte]
      refine s_L_addSpan (by omega) (by omega) h (fun I1 h => ?_)
      simp only [am_z, Nat.reduceAdd, Nat.zero_le, Nat.reduceLeDiff]
      refine rn_L_act 40 ?_
      simp (disch := omega) only [am_z, cq_L_act, Nat.reduceAdd, Nat.zero_le, Nat.reduceLeDiff, ar_lit, ac_lit, pk_div, ar_mod2, ar_eq, ar_le, Nat.reduceEqDiff, not_false_eq_true, nI_add, am_tt, leT, ↓reduceIte]
      exact k I1 h
  · by_cases q : W / 6 % 2 = 0
    · apply Exists.intro
      apply Exists.intro
      intro l d J P I Y x3 hD h k
      refine rn_L_act 40 ?_
      simp (disch := omega) only [am_z, cq_L_act, Nat.reduceAdd, Nat.zero_le, Nat.reduceLeDiff, ar_lit, ac_lit, pk_div, ar_mod2, ar_eq, ar_le, Nat.reduceEqDiff, not_false_eq_true, nI_add, am_tt, leT, ↓reduceIte, e, show (nI 10).toInt = 10 by decide +kernel, Int.reduceLT, Int.reduceSub, Int.reduceToNat, List.getElem?_cons_zero, List.getElem?_cons_succ, ↓reduceIte, List.getElem?_nil]
      try rw [if_pos q]
      refine rn_L_act 40 ?_
      simp (disch := omega) only [am_z, cq_L_act, Nat.reduceAdd, Nat.zero_le, Nat.reduceLeDiff, ar_lit, ac_lit, pk_div, ar_mod2, ar_eq, ar_le, Nat.reduceEqDiff, not_false_eq_true, nI_add, am_tt, leT, ↓reduceIte]
      refine s_L_addSpan (by omega) (by omega) h (fun I1 h => ?_)
      simp only [am_z, Nat.reduceAdd, Nat.zero_le, Nat.reduceLeDiff]
      refine rn_L_act 40 ?_
      simp (disch := omega) only [am_z, cq_L_act, Nat.reduceAdd, Nat.zero_le, Nat.reduceLeDiff, ar_lit, ac_lit, pk_div, ar_mod2, ar_eq, ar_le, Nat.reduceEqDiff, not_false_eq_true, nI_add, am_tt, leT, ↓reduceIte]
      exact k I1 h
    · apply Exists.intro
      apply Exists.intro
      intro l d J P I Y x3 hD h k
      refine rn_L_act 40 ?_
      simp (disch := omega) only [am_z, cq_L_act, Nat.reduceAdd, Nat.zero_le, Nat.reduceLeDiff, ar_lit, ac_lit, pk_div, ar_mod2, ar_eq, ar_le, Nat.reduceEqDiff, not_false_eq_true, nI_add, am_tt, leT, ↓reduceIte, e, show (nI 10).toInt = 10 by decide +kernel, Int.reduceLT, Int.reduceSub, Int.reduceToNat, List.getElem?_cons_zero, List.getElem?_cons_succ, ↓reduceIte, List.getElem?_nil]
      try rw [if_neg q]
      refine rn_L_act 40 ?_
      simp (disch := omega) only [am_z, cq_L_act, Nat.reduceAdd, Nat.zero_le, Nat.reduceLeDiff, ar_lit, ac_lit, pk_div, ar_mod2, ar_eq, ar_le, Nat.reduceEqDiff, not_false_eq_true, nI_add, am_tt, leT, ↓reduceIte]
      refine s_L_addSpan (by omega) (by omega) h (fun I1 h => ?_)
      simp only [am_z, Nat.reduceAdd, Nat.zero_le, Nat.reduceLeDiff]
      refine rn_L_act 40 ?_
      simp (disch := omega) only [am_z, cq_L_act, Nat.reduceAdd, Nat.zero_le, Nat.reduceLeDiff, ar_lit, ac_lit, pk_div, ar_mod2, ar_eq, ar_le, Nat.reduceEqDiff, not_false_eq_true, nI_add, am_tt, leT, ↓reduceIte]
      exact k I1 h
  · apply Exists.intro
    apply Exists.intro
    intro l d J P I Y x3 hD h k
    refine rn_L_act 40 ?_
    simp (disch := omega) only [am_z, cq_L_act, Nat.reduceAdd, Nat.zero_le, Nat.reduceLeDiff, ar_lit, ac_lit, pk_div, ar_mod2, ar_eq, ar_le, Nat.reduceEqDiff, not_false_eq_true, nI_add, am_tt, leT, ↓reduceIte, e, show (nI 11).toInt = 11 by decide +kernel, Int.reduceLT, Int.reduceSub, Int.reduceToNat, List.getElem?_cons_zero, List.getElem?_cons_succ, ↓reduceIte, List.getElem?_nil]
    refine s_L_removeSpan (by omega) h (fun I1 h => ?_)
    simp only [am_z, Nat.reduceAdd, Nat.zero_le, Nat.reduceLeDiff]
    refine rn_L_act 40 ?_
    simp (disch := omega) only [am_z, cq_L_act, Nat.reduceAdd, Nat.zero_le, Nat.reduceLeDiff, ar_lit, ac_lit, pk_div, ar_mod2, ar_eq, ar_le, Nat.reduceEqDiff, not_false_eq_true, nI_add, am_tt, leT, ↓reduceIte]
    exact k I1 h
  · apply Exists.intro
    apply Exists.intro
    intro l d J P I Y x3 hD h k
    refine rn_L_act 40 ?_
    simp (disch := omega) only [am_z, cq_L_act, Nat.reduceAdd, Nat.zero_le, Nat.reduceLeDiff, ar_lit, ac_lit, pk_div, ar_mod2, ar_eq, ar_le, Nat.reduceEqDiff, not_false_eq_true, nI_add, am_tt, leT, ↓reduceIte, e, show (nI 12).toInt = 12 by decide +kernel, Int.reduceLT, Int.reduceSub, Int.reduceToNat, List.getElem?_cons_zero, List.getElem?_cons_succ, ↓reduceIte, List.getElem?_nil]
    refine s_L_undo (by omega) h (fun I1 h => ?_)
    simp only [am_z, Nat.reduceAdd, Nat.zero_le, Nat.reduceLeDiff]
    refine rn_L_act 40 ?_
    simp (disch := omega) only [am_z, cq_L_act, Nat.reduceAdd, Nat.zero_le, Nat.reduceLeDiff, ar_lit, ac_lit, pk_div, ar_mod2, ar_eq, ar_le, Nat.reduceEqDiff, not_false_eq_true, nI_add, am_tt, leT, ↓reduceIte]
    exact k I1 h
  · by_cases q : W % 2 = 0
    · apply Exists.intro
      apply Exists.intro
      intro l d J P I Y x3 hD h k
      refine rn_L_act 40 ?_
      simp (disch := omega) only [am_z, cq_L_act, Nat.reduceAdd, Nat.zero_le, Nat.reduceLeDiff, ar_lit, ac_lit, pk_div, ar_mod2, ar_eq, ar_le, Nat.reduceEqDiff, not_false_eq_true, nI_add, am_tt, leT, ↓reduceIte, e, show (nI 13).toInt = 13 by decide +kernel, Int.reduceLT, Int.reduceSub, Int.reduceToNat, List.getElem?_cons_zero, List.getElem?_cons_succ, ↓reduceIte, List.getElem?_nil]
      try rw [if_pos q]
      refine s_L_save (by omega) h (fun I1 h => ?_)
      simp only [am_z, Nat.reduceAdd, Nat.zero_le, Nat.reduceLeDiff]
      refine rn_L_act 40 ?_
      simp (disch := omega) only [am_z, cq_L_act, Nat.reduceAdd, Nat.zero_le, Nat.reduceLeDiff, ar_lit, ac_lit, pk_div, ar_mod2, ar_eq, ar_le, Nat.reduceEqDiff, not_false_eq_true, nI_add, am_tt, leT, ↓reduceIte]
      exact k I1 h
    · apply Exists.intro
      apply Exists.intro
      intro l d J P I Y x3 hD h k
      refine rn_L_act 40 ?_
      simp (disch := omega) only [am_z, cq_L_act, Nat.reduceAdd, Nat.zero_le, Nat.reduceLeDiff, ar_lit, ac_lit, pk_div, ar_mod2, ar_eq, ar_le, Nat.reduceEqDiff, not_false_eq_true, nI_add, am_tt, leT, ↓reduceIte, e, show (nI 13).toInt = 13 by decide +kernel, Int.reduceLT, Int.reduceSub, Int.reduceToNat, List.getElem?_cons_zero, List.getElem?_cons_succ, ↓reduceIte, List.getElem?_nil]
      try rw [if_neg q]
      refine s_L_restore (by omega) h (fun I1 h => ?_)
      simp only [am_z, Nat.reduceAdd, Nat.zero_le, Nat.reduceLeDiff]
      refine rn_L_act 40 ?_
      simp (disch := omega) only [am_z, cq_L_act, Nat.reduceAdd, Nat.zero_le, Nat.reduceLeDiff, ar_lit, ac_lit, pk_div, ar_mod2, ar_eq, ar_le, Nat.reduceEqDiff, not_false_eq_true, nI_add, am_tt, leT, ↓reduceIte]
      exact k I1 h
  · by_cases q : W % 3 = 0
    · apply Exists.intro
      apply Exists.intro
      intro l d J P I Y x3 hD h k
      refine rn_L_act 40 ?_
      simp (disch := omega) only [am_z, cq_L_act, Nat.reduceAdd, Nat.zero_le, Nat.reduceLeDiff, ar_lit, ac_lit, pk_div, ar_mod2, ar_eq, ar_le, Nat.reduceEqDiff, not_false_eq_true, nI_add, am_tt, leT, ↓reduceIte, e, show (nI 14).toInt = 14 by decide +kernel, Int.reduceLT, Int.reduceSub, Int.reduceToNat, List.getElem?_cons_zero, List.getElem?_cons_succ, ↓reduceIte, List.getElem?_nil]
      try rw [if_pos q]
      refine s_L_setHeight (by omega) h (fun I1 h => ?_)
      simp only [am_z, Nat.reduceAdd, Nat.zero_le, Nat.reduceLeDiff]
      refine rn_L_act 40 ?_
      simp (disch := omega) only [am_z, cq_L_act, Nat.reduceAdd, Nat.zero_le, Nat.reduceLeDiff, ar_lit, ac_lit, pk_div, ar_mod2, ar_eq, ar_le, Nat.reduceEqDiff, not_false_eq_true, nI_add, am_tt, leT, ↓reduceIte]
      exact k I1 h
    · apply Exists.intro
      apply Exists.intro
      intro l d J P I Y x3 hD h k
      refine rn_L_act 40 ?_
      simp (disch := omega) only [am_z, cq_L_act, Nat.reduceAdd, Nat.zero_le, Nat.reduceLeDiff, ar_lit, ac_lit, pk_div, ar_mod2, ar_eq, ar_le, Nat.reduceEqDiff, not_false_eq_true, nI_add, am_tt, leT, ↓reduceIte, e, show (nI 14).toInt = 14 by decide +kernel, Int.reduceLT, Int.reduceSub, Int.reduceToNat, List.getElem?_cons_zero, List.getElem?_cons_succ, ↓reduceIte, List.getElem?_nil]
      try rw [if_neg q]
      refine s_L_setHeight (by omega) h (fun I1 h => ?_)
      simp only [am_z, Nat.reduceAdd, Nat.zero_le, Nat.reduceLeDiff]
      refine rn_L_act 40 ?_
      simp (disch := omega) only [am_z, cq_L_act, Nat.reduceAdd, Nat.zero_le, Nat.reduceLeDiff, ar_lit, ac_lit, pk_div, ar_mod2, ar_eq, ar_le, Nat.reduceEqDiff, not_false_eq_true, nI_add, am_tt, leT, ↓reduceIte]
      exact k I1 h
  · by_cases q : W % 3 = 0
    · apply Exists.intro
      apply Exists.intro
      intro l d J P I Y x3 hD h k
      refine rn_L_act 40 ?_
      simp (disch := omega) only [am_z, cq_L_act, Nat.reduceAdd, Nat.zero_le, Nat.reduceLeDiff, ar_lit, ac_lit, pk_div, ar_mod2, ar_eq, ar_le, Nat.reduceEqDiff, not_false_eq_true, nI_add, am_tt, leT, ↓reduceIte, e, show (nI 15).toInt = 15 by decide +kernel, Int.reduceLT, Int.reduceSub, Int.reduceToNat, List.getElem?_cons_zero, List.getElem?_cons_succ, ↓reduceIte, List.getElem?_nil]
      try rw [if_pos q]
      refine s_L_setHeight (by omega) h (fun I1 h => ?_)
      simp only [am_z, Nat.reduceAdd, Nat.zero_le, Nat.reduceLeDiff]
      refine rn_L_act 40 ?_
      simp (disch := omega) only [am_z, cq_L_act, Nat.reduceAdd, Nat.zero_le, Nat.reduceLeDiff, ar_lit, ac_lit, pk_div, ar_mod2, ar_eq, ar_le, Nat.reduceEqDiff, not_false_eq_true, nI_add, am_tt, leT, ↓reduceIte]
      exact k I1 h
    · apply Exists.intro
      apply Exists.intro
      intro l d J P I Y x3 hD h k
      refine rn_L_act 40 ?_
      simp (disch := omega) only [am_z, cq_L_act, Nat.reduceAdd, Nat.zero_le, Nat.reduceLeDiff, ar_lit, ac_lit, pk_div, ar_mod2, ar_eq, ar_le, Nat.reduceEqDiff, not_false_eq_true, nI_add, am_tt, leT, ↓reduceIte, e, show (nI 15).toInt = 15 by decide +kernel, Int.reduceLT, Int.reduceSub, Int.reduceToNat, List.getElem?_cons_zero, List.getElem?_cons_succ, ↓reduceIte, List.getElem?_nil]
      try rw [if_neg q]
      refine s_L_setHeight (by omega) h (fun I1 h => ?_)
      simp only [am_z, Nat.reduceAdd, Nat.zero_le, Nat.reduceLeDiff]
      refine rn_L_act 40 ?_
      simp (disch := omega) only [am_z, cq_L_act, Nat.reduceAdd, Nat.zero_le, Nat.reduceLeDiff, ar_lit, ac_lit, pk_div, ar_mod2, ar_eq, ar_le, Nat.reduceEqDiff, not_false_eq_true, nI_add, am_tt, leT, ↓reduceIte]
      exact k I1 h
/-- what one action answers and does is told by the state and the two numbers -/
theorem act_ex (s : pt_G) (X Y : Nat) (hw : tW s.2.1) (hX : X < 2147483648) (hY : Y < 2147483648) : ∃ (v : Int64) (s' : pt_G), ∀ (l : Launch) (D : Nat) (J : am_J) (P : am_P) (I : am_I), 9 ≤ D → st I s → (∀ I', st I' s' → P (.inl (some (vL v))) am_G0 I' J) → am_T l D y_L_act [vR (0, 0), vI (nI X), vI (nI Y)] am_G0 I J P := by
  have h24 := hw.2.2.2.2.1
  obtain ⟨v, s', go⟩ := act_36 s X (Y / 24) (if tn s.2.1 = 0 ∨ Y % 9 = 0 then nI (Y % 24) else nI (Y % tn s.2.1)) hX (by omega)
  refine ⟨v, s', fun l D J P I hD h k => ?_⟩
  obtain ⟨d, rfl⟩ : ∃ d, D = d + 1 := ⟨D - 1, by omega⟩
  refine en_L_act 40 (Nat.le_of_ble_eq_true rfl) ?_
  simp (disch := omega) only [am_z, cq_L_act, Nat.reduceAdd, Nat.zero_le, Nat.reduceLeDiff, ar_lit, leT]
  refine s_V_about (by omega) h (by omega) (fun I1 h => ?_)
  simp only [am_z, Nat.reduceAdd, Nat.zero_le, Nat.reduceLeDiff]
  refine rn_L_act 40 ?_
  simp (disch := omega) only [am_z, cq_L_act, Nat.reduceAdd, Nat.zero_le, Nat.reduceLeDiff, ar_lit, tab_e, lI_n, ar_eq]
  have g28 : ∀ x4, x4 = (if tn s.2.1 = 0 ∨ Y % 9 = 0 then nI (Y % 24) else nI (Y % tn s.2.1)) → am_X l (0, fun _ => 0) (d + 1) y_L_act P 28 [some (vR (0, 0)), some (vI (nI X)), some (vI (nI Y)), some (vI (nI (tn s.2.1))), none, none] [vI x4] 1 6 am_G0 I1 J := by
    intro x4 e4
    refine rn_L_act 40 ?_
    simp (disch := omega) only [am_z, cq_L_act, Nat.reduceAdd, Nat.zero_le, Nat.reduceLeDiff, ar_lit, pk_div, ar_eq, Nat.reduceEqDiff, not_false_eq_true, am_tt]
    rw [e4]
    exact go l d J P I1 _ _ hD h k
  by_cases q0 : tn s.2.1 = 0
  · rw [if_pos q0]
    refine rn_L_act 40 ?_
    simp (disch := omega) only [am_z, cq_L_act, Nat.reduceAdd, Nat.zero_le, Nat.reduceLeDiff, ar_lit, pk_div, ar_mod2, ar_eq, Nat.reduceEqDiff, not_false_eq_true, am_tt]
    exact g28 _ (by rw [if_pos (Or.inl q0)])
  · rw [if_neg q0]
    refine rn_L_act 40 ?_
    simp (disch := omega) only [am_z, cq_L_act, Nat.reduceAdd, Nat.zero_le, Nat.reduceLeDiff, ar_lit, pk_div, ar_mod2, ar_eq, Nat.reduceEqDiff, not_false_eq_true, am_tt]
    by_cases q1 : Y % 9 = 0
    · rw [if_pos q1]
      refine rn_L_act 40 ?_
      simp (disch := omega) only [am_z, cq_L_act, Nat.reduceAdd, Nat.zero_le, Nat.reduceLeDiff, ar_lit, pk_div, ar_mod2, ar_eq, Nat.reduceEqDiff, not_false_eq_true, am_tt]
      exact g28 _ (by rw [if_pos (Or.inr q1)])
    · rw [if_neg q1]
      refine rn_L_act 40 ?_
      simp (disch := omega) only [am_z, cq_L_act, Nat.reduceAdd, Nat.zero_le, Nat.reduceLeDiff, ar_lit, pk_div, ar_mod2, ar_eq, q0, Nat.reduceEqDiff, not_false_eq_true, am_tt]
      exact g28 _ (by rw [if_neg (fun z => z.elim q0 q1)])
end AC
