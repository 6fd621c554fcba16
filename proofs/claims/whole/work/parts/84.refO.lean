/-! ===== the reference: the commands of a script ===== -/
section RG
variable {l : Launch} {D : Nat} {I : am_I} {J : am_J} {P : am_P} {p : pt_T} {g : Nat}
theorem tpg_pos {h : Nat} (hw : tW p) (hn : 0 < tn p) : 0 < (tpg p h).length := by
  have := tpg_row (h := h) hw hn
  omega
theorem s_M_does (hD : 8 ≤ D) (hg : g < 100000) (h : rF (I (28, 0)) p) (hw : tW p) (k : ∀ I', fM [28, 32] [13] I I' → rF (I' (28, 0)) ((tdo g p).getD p) → P (.inl (some (vI (nI (b01 (tdo g p).isSome))))) am_G0 I' J) : am_T l D y_M_does [vR (9, 0), vI (nI g)] am_G0 I J P := by
  obtain ⟨d, rfl⟩ : ∃ d, D = d + 1 := ⟨D - 1, by omega⟩
  have hn := hw.2.2.2.2.1
  have hm6 := hw.2.2.2.2.2.1
  have hC := hw.1.2
  have c0 : tdo g p = none → P (.inl (some (vI (nI 0)))) am_G0 I J := fun e => by
    have := k I fM.rf (by rw [e]; exact h)
    rw [e] at this
    exact this
  have c0' : ∀ I', fM [32] [13] I I' → tdo g p = none → P (.inl (some (vI (nI 0)))) am_G0 I' J := fun I' f e => by
    have := k I' (f.mono (by simp) (by simp)) (by rw [e]; exact h.fM f (by simp) (by omega))
    rw [e] at this
    exact this
  have c1 : ∀ q I', tdo g p = some q → fM [28, 32] [13] I I' → rF (I' (28, 0)) q → P (.inl (some (vI (nI 1)))) am_G0 I' J := fun q I' e f r => by
    have := k I' f (by rw [e]; exact r)
    rw [e] at this
    exact this
  have c1' : ∀ I', fM [32] [13] I I' → tdo g p = some p → P (.inl (some (vI (nI 1)))) am_G0 I' J := fun I' f e =>
    c1 p I' e (f.mono (by simp) (by simp)) (h.fM f (by simp) (by omega))
  have e1 : nI g / nI 10000 = nI (g / 10000) := pk_div (by omega) (by omega) (by omega)
  have e2 : nI g / nI 1000 = nI (g / 1000) := pk_div (by omega) (by omega) (by omega)
  have e3 : nI g / nI 100 = nI (g / 100) := pk_div (by omega) (by omega) (by omega)
  have e6 : nI g / nI 10 = nI (g / 10) := pk_div (by omega) (by omega) (by omega)
  have e7 : nI (g / 10) * nI 10 = nI (g / 10 * 10) := pk_mul _ _
  have e8 : nI g - nI (g / 10 * 10) = nI (g % 10) := by rw [ar_sub (by omega)]; congr 1; omega
  generalize hw_ : g / 10000 = w at *
  generalize ha_ : g / 1000 % 10 = a at *
  generalize hb_ : g / 100 % 10 = b at *
  generalize hc_ : g / 10 % 10 = c at *
  generalize hd_ : g % 10 = e at *
  generalize hr_ : g / 100 % 100 = r at *
  have w9 : w < 10 := by omega
  have a9 : a < 10 := by omega
  have b9 : b < 10 := by omega
  have c9 : c < 10 := by omega
  have d9 : e < 10 := by omega
  have r99 : r < 100 := by omega
  have hT : tdo g p = if w = 1 then (if (1 ≤ a ∧ a ≤ 6) ∧ b ≤ 6 ∧ c = 0 ∧ e = 0 ∧ tn p < 24 then some (tputR p a b) else none) else if w = 2 then (if r < tn p ∧ c < tC p then some (tsetA p r c ((e : Nat) : Int)) else none) else if w = 3 then (if r < tn p ∧ c ≤ 1 ∧ e = 0 then some (tsetK p r c) else none) else if w = 4 then (if r < tn p ∧ c = 0 ∧ e = 0 then some (tdropR p r) else none) else if w = 5 then (if tokH a (10 * b + c) = true ∧ e = 0 then some (tsetH p a (10 * b + c)) else none) else if tholds g p = true then some p else none := by
    unfold tdo tdo1 tdo2 tdo3 tdo4 tdo5
    rw [hw_, ha_, hb_, hc_, hd_, hr_]
  have hH : tholds g p = if w = 6 then (decide (a = 0) && decide (b = 0) && decide ((tpg p (tP p)).length ≤ 10 * c + e)) else if w = 7 then (decide (r < (tpg p (tP p)).length) && decide ((pgA (tpg p (tP p)) r).2.1 = 10 * c + e)) else if w = 8 then (decide (c = 0) && decide (e = 0) && decide (a < tm p) && decide (tps (tpg p (tP p)) p a = b)) else if w = 9 then (decide (a = 0) && decide (b = 0) && decide (c = 0) && decide (tov (tpg p (tP p)) ≤ e)) else false := by
    unfold tholds tdo6 tdo7 tdo8 tdo9
    rw [hw_, ha_, hb_, hc_, hd_, hr_]
  have hlen := tpg_len (p := p) (h := tP p)
  have hov := tov_le (tpg p (tP p))
  have main : ∀ t, t = b01 (decide (r < tn p)) → am_X l (0, fun _ => 0) (d + 1) y_M_does P 67 [some (vR (9, 0)), some (vI (nI g)), some (vI (nI w)), some (vI (nI a)), some (vI (nI b)), some (vI (nI c)), some (vI (nI e)), some (vI (nI r)), some (vI (nI t))] [vI (nI w)] 0 0 am_G0 I J := by
    intro t ht
    have t1 : t = 0 ∧ ¬ r < tn p ∨ t = 1 ∧ r < tn p := by
      by_cases q : r < tn p
      · rw [decide_eq_true q] at ht; exact Or.inr ⟨ht, q⟩
      · rw [decide_eq_false q] at ht; exact Or.inl ⟨ht, q⟩
    have hw0 := w9
    rcases (show w = 0 ∨ w = 1 ∨ w = 2 ∨ w = 3 ∨ w = 4 ∨ w = 5 ∨ w = 6 ∨ w = 7 ∨ w = 8 ∨ w = 9 by omega) with rfl | rfl | rfl | rfl | rfl | rfl | rfl | rfl | rfl | rfl
    · simp only [Nat.reduceEqDiff, ↓reduceIte] at hT hH
      rw [hH, if_neg (by simp)] at hT
      refine rn_M_does 20 ?_
      simp (disch := omega) only [am_z, cq_M_does, Nat.reduceAdd, Nat.zero_le, Nat.reduceLeDiff, ar_lit, show (nI 0).toInt = 0 by decide +kernel, Int.reduceLT, Int.reduceSub, Int.reduceToNat, List.getElem?_cons_zero, List.getElem?_cons_succ, ↓reduceIte]
      exact c0 hT
    · simp only [Nat.reduceEqDiff, ↓reduceIte] at hT
      refine rn_M_does 20 ?_
      simp (disch := omega) only [am_z, cq_M_does, Nat.reduceAdd, Nat.zero_le, Nat.reduceLeDiff, ar_lit, show (nI 1).toInt = 1 by decide +kernel, Int.reduceLT, Int.reduceSub, Int.reduceToNat, List.getElem?_cons_zero, List.getElem?_cons_succ, ↓reduceIte]
      refine s_M_inL (lo := 1) (hi := 6) (by omega) ((i64_i _).trans (nI_toInt (by omega))) (by decide +kernel) (by decide +kernel) ?_
      by_cases q1 : 1 ≤ a ∧ a ≤ 6
      · rw [decide_eq_true (by omega)]
        by_cases q2 : b ≤ 6 ∧ c = 0 ∧ e = 0 ∧ tn p < 24
        · rw [if_pos ⟨q1, q2⟩] at hT
          obtain ⟨z1, rfl, rfl, z2⟩ := q2
          simp only [am_z, Nat.reduceAdd, Nat.zero_le, Nat.reduceLeDiff]
          refine rn_M_does 60 ?_
          simp (disch := omega) only [am_z, cq_M_does, Nat.reduceAdd, Nat.zero_le, Nat.reduceLeDiff, ar_lit, b01, Bool.false_eq_true, ↓reduceIte, ar_eq, Nat.reduceEqDiff, ar_lt, if_neg (show ¬ 6 < b by omega), if_neg (show ¬ tn p = 24 by omega), ar_in, ar_cl, h.1.2.1, Nat.reduceLT, am_tt]
          refine s_M_addTo (by omega) isU_28 h z2 (fun I2 f2 r2 => ?_)
          simp only [am_z, Nat.reduceAdd, Nat.zero_le, Nat.reduceLeDiff]
          refine rn_M_does 20 ?_
          simp (disch := omega) only [am_z, cq_M_does, Nat.reduceAdd, Nat.zero_le, Nat.reduceLeDiff, ar_lit]
          exact c1 _ I2 hT (f2.mono (by simp) (by simp)) r2
        · rw [if_neg (fun z => q2 z.2)] at hT
          have kx := c0 hT
          simp only [am_z, Nat.reduceAdd, Nat.zero_le, Nat.reduceLeDiff]
          refine rn_M_does 60 ?_
          simp (disch := omega) only [am_z, cq_M_does, Nat.reduceAdd, Nat.zero_le, Nat.reduceLeDiff, ar_lit, b01, Bool.false_eq_true, ↓reduceIte, ar_eq, Nat.reduceEqDiff, ar_lt, ar_in, ar_cl, h.1.2.1, Nat.reduceLT, am_tt]
          split
          · exact kx
          · split
            · split
              · split
                · exact kx
                · omega
              · exact kx
            · exact kx
      · rw [decide_eq_false (by omega)]
        rw [if_neg (fun z => q1 z.1)] at hT
        simp only [am_z, Nat.reduceAdd, Nat.zero_le, Nat.reduceLeDiff]
        refine rn_M_does 60 ?_
        simp (disch := omega) only [am_z, cq_M_does, Nat.reduceAdd, Nat.zero_le, Nat.reduceLeDiff, ar_lit, b01, Bool.false_eq_true, ↓reduceIte]
        exact c0 hT
    · simp only [Nat.reduceEqDiff, ↓reduceIte] at hT
      rcases t1 with ⟨rfl, q⟩ | ⟨rfl, q⟩
      · rw [if_neg (fun z => q z.1)] at hT
        refine rn_M_does 20 ?_
        simp (disch := omega) only [am_z, cq_M_does, Nat.reduceAdd, Nat.zero_le, Nat.reduceLeDiff, ar_lit, show (nI 2).toInt = 2 by decide +kernel, Int.reduceLT, Int.reduceSub, Int.reduceToNat, List.getElem?_cons_zero, List.getElem?_cons_succ, ↓reduceIte]
        exact c0 hT
      · by_cases q2 : c < tC p
        · rw [if_pos ⟨q, q2⟩] at hT
          refine rn_M_does 40 ?_
          simp (disch := omega) only [am_z, cq_M_does, Nat.reduceAdd, Nat.zero_le, Nat.reduceLeDiff, ar_lit, show (nI 2).toInt = 2 by decide +kernel, Int.reduceLT, Int.reduceSub, Int.reduceToNat, List.getElem?_cons_zero, List.getElem?_cons_succ, ↓reduceIte, ar_eq, Nat.reduceEqDiff, ar_lt, if_pos q2, ar_in, ar_cl, h.1.1, Nat.reduceLT, am_tt, nI_add]
          refine s_M_cell (by omega) ?_
          simp only [am_z, Nat.reduceAdd, Nat.zero_le, Nat.reduceLeDiff]
          refine rn_M_does 20 ?_
          simp (disch := omega) only [am_z, cq_M_does, Nat.reduceAdd, Nat.zero_le, Nat.reduceLeDiff, ar_lit, ar_in, ar_cl]
          refine ⟨by omega, ?_⟩
          refine c1 _ _ hT (fM.rf.up (Or.inl (by simp))) ?_
          rw [am_uE, iI_nI]
          exact h.setA hw q (by omega)
        · rw [if_neg (fun z => q2 z.2)] at hT
          refine rn_M_does 40 ?_
          simp (disch := omega) only [am_z, cq_M_does, Nat.reduceAdd, Nat.zero_le, Nat.reduceLeDiff, ar_lit, show (nI 2).toInt = 2 by decide +kernel, Int.reduceLT, Int.reduceSub, Int.reduceToNat, List.getElem?_cons_zero, List.getElem?_cons_succ, ↓reduceIte, ar_eq, Nat.reduceEqDiff, ar_lt, if_neg q2, ar_in, ar_cl, h.1.1, Nat.reduceLT, am_tt, nI_add]
          exact c0 hT
    · simp only [Nat.reduceEqDiff, ↓reduceIte] at hT
      rcases t1 with ⟨rfl, q⟩ | ⟨rfl, q⟩
      · rw [if_neg (fun z => q z.1)] at hT
        refine rn_M_does 20 ?_
        simp (disch := omega) only [am_z, cq_M_does, Nat.reduceAdd, Nat.zero_le, Nat.reduceLeDiff, ar_lit, show (nI 3).toInt = 3 by decide +kernel, Int.reduceLT, Int.reduceSub, Int.reduceToNat, List.getElem?_cons_zero, List.getElem?_cons_succ, ↓reduceIte]
        exact c0 hT
      · by_cases q2 : c ≤ 1 ∧ e = 0
        · rw [if_pos ⟨q, q2⟩] at hT
          obtain ⟨z1, rfl⟩ := q2
          refine rn_M_does 40 ?_
          simp (disch := omega) only [am_z, cq_M_does, Nat.reduceAdd, Nat.zero_le, Nat.reduceLeDiff, ar_lit, show (nI 3).toInt = 3 by decide +kernel, Int.reduceLT, Int.reduceSub, Int.reduceToNat, List.getElem?_cons_zero, List.getElem?_cons_succ, ↓reduceIte, ar_eq, Nat.reduceEqDiff, ar_lt, if_neg (show ¬ 1 < c by omega)]
          refine s_M_cell (by omega) ?_
          simp only [am_z, Nat.reduceAdd, Nat.zero_le, Nat.reduceLeDiff]
          refine rn_M_does 20 ?_
          simp (disch := omega) only [am_z, cq_M_does, Nat.reduceAdd, Nat.zero_le, Nat.reduceLeDiff, ar_lit, ar_in, ar_cl]
          refine ⟨by omega, ?_⟩
          refine c1 _ _ hT (fM.rf.up (Or.inl (by simp))) ?_
          rw [am_uE]
          exact h.setK hw q
        · rw [if_neg (fun z => q2 z.2)] at hT
          have kx := c0 hT
          refine rn_M_does 40 ?_
          simp (disch := omega) only [am_z, cq_M_does, Nat.reduceAdd, Nat.zero_le, Nat.reduceLeDiff, ar_lit, show (nI 3).toInt = 3 by decide +kernel, Int.reduceLT, Int.reduceSub, Int.reduceToNat, List.getElem?_cons_zero, List.getElem?_cons_succ, ↓reduceIte, ar_eq, Nat.reduceEqDiff, ar_lt]
          split
          · exact kx
          · split
            · omega
            · exact kx
    · simp only [Nat.reduceEqDiff, ↓reduceIte] at hT
      rcases t1 with ⟨rfl, q⟩ | ⟨rfl, q⟩
      · rw [if_neg (fun z => q z.1)] at hT
        refine rn_M_does 20 ?_
        simp (disch := omega) only [am_z, cq_M_does, Nat.reduceAdd, Nat.zero_le, Nat.reduceLeDiff, ar_lit, show (nI 4).toInt = 4 by decide +kernel, Int.reduceLT, Int.reduceSub, Int.reduceToNat, List.getElem?_cons_zero, List.getElem?_cons_succ, ↓reduceIte]
        exact c0 hT
      · by_cases q2 : c = 0 ∧ e = 0
        · rw [if_pos ⟨q, q2⟩] at hT
          obtain ⟨rfl, rfl⟩ := q2
          refine rn_M_does 40 ?_
          simp (disch := omega) only [am_z, cq_M_does, Nat.reduceAdd, Nat.zero_le, Nat.reduceLeDiff, ar_lit, show (nI 4).toInt = 4 by decide +kernel, Int.reduceLT, Int.reduceSub, Int.reduceToNat, List.getElem?_cons_zero, List.getElem?_cons_succ, ↓reduceIte, ar_eq, Nat.reduceEqDiff]
          refine s_M_dropRow (by omega) isU_28 h hw q (fun I2 f2 r2 => ?_)
          simp only [am_z, Nat.reduceAdd, Nat.zero_le, Nat.reduceLeDiff]
          refine rn_M_does 20 ?_
          simp (disch := omega) only [am_z, cq_M_does, Nat.reduceAdd, Nat.zero_le, Nat.reduceLeDiff, ar_lit]
          exact c1 _ I2 hT (f2.mono (by simp) (by simp)) r2
        · rw [if_neg (fun z => q2 z.2)] at hT
          have kx := c0 hT
          refine rn_M_does 40 ?_
          simp (disch := omega) only [am_z, cq_M_does, Nat.reduceAdd, Nat.zero_le, Nat.reduceLeDiff, ar_lit, show (nI 4).toInt = 4 by decide +kernel, Int.reduceLT, Int.reduceSub, Int.reduceToNat, List.getElem?_cons_zero, List.getElem?_cons_succ, ↓reduceIte, ar_eq, Nat.reduceEqDiff]
          split
          · split
            · omega
            · exact kx
          · exact kx
    · simp only [Nat.reduceEqDiff, ↓reduceIte] at hT
      refine rn_M_does 40 ?_
      simp (disch := omega) only [am_z, cq_M_does, Nat.reduceAdd, Nat.zero_le, Nat.reduceLeDiff, ar_lit, show (nI 5).toInt = 5 by decide +kernel, Int.reduceLT, Int.reduceSub, Int.reduceToNat, List.getElem?_cons_zero, List.getElem?_cons_succ, ↓reduceIte, pk_mul, nI_add]
      refine s_M_isHeight (by omega) ?_
      have et : tokI (nI a) (nI (10 * b + c)) = tokH a (10 * b + c) := by
        by_cases z1 : a < 8
        · by_cases z2 : 10 * b + c < 41
          · unfold tokI
            rw [tix_i rfl z1 (by omega), tix_i rfl z2 (by omega)]
          · have : ¬ tokH a (10 * b + c) = true := by rw [tokH_iff]; omega
            rw [eq_false_of_ne_true this]
            unfold tokI
            rw [tix_i rfl z1 (by omega), tix_x (by omega) (fun j hj q => by rw [ar_eq (by omega) (by omega)] at q; omega)]
        · have : ¬ tokH a (10 * b + c) = true := by rw [tokH_iff]; omega
          rw [eq_false_of_ne_true this]
          unfold tokI
          rw [tix_x (by omega) (fun j hj q => by rw [ar_eq (by omega) (by omega)] at q; omega)]
      rw [et]
      cases ht : tokH a (10 * b + c)
      · rw [ht, if_neg (by simp)] at hT
        simp only [am_z, Nat.reduceAdd, Nat.zero_le, Nat.reduceLeDiff]
        refine rn_M_does 40 ?_
        simp (disch := omega) only [am_z, cq_M_does, Nat.reduceAdd, Nat.zero_le, Nat.reduceLeDiff, ar_lit, b01, Bool.false_eq_true, ↓reduceIte]
        exact c0 hT
      · by_cases q : e = 0
        · rw [if_pos ⟨ht, q⟩] at hT
          subst q
          have a8 : a < 8 := by rw [tokH_iff] at ht; omega
          simp only [am_z, Nat.reduceAdd, Nat.zero_le, Nat.reduceLeDiff]
          refine rn_M_does 40 ?_
          simp (disch := omega) only [am_z, cq_M_does, Nat.reduceAdd, Nat.zero_le, Nat.reduceLeDiff, ar_lit, b01, Bool.false_eq_true, ↓reduceIte, ar_eq, Nat.reduceEqDiff, ar_in, ar_cl, pk_mul, nI_add]
          refine ⟨by omega, ?_⟩
          refine c1 _ _ hT (fM.rf.up (Or.inl (by simp))) ?_
          rw [am_uE]
          exact h.setH hw a8
        · rw [if_neg (fun z => q z.2)] at hT
          simp only [am_z, Nat.reduceAdd, Nat.zero_le, Nat.reduceLeDiff]
          refine rn_M_does 40 ?_
          simp (disch := omega) only [am_z, cq_M_does, Nat.reduceAdd, Nat.zero_le, Nat.reduceLeDiff, ar_lit, b01, Bool.false_eq_true, ↓reduceIte, ar_eq, Nat.reduceEqDiff, if_neg q]
          exact c0 hT
    · simp only [Nat.reduceEqDiff, ↓reduceIte] at hT hH
      by_cases q : a = 0 ∧ b = 0
      · obtain ⟨rfl, rfl⟩ := q
        refine rn_M_does 40 ?_
        simp (disch := omega) only [am_z, cq_M_does, Nat.reduceAdd, Nat.zero_le, Nat.reduceLeDiff, ar_lit, show (nI 6).toInt = 6 by decide +kernel, Int.reduceLT, Int.reduceSub, Int.reduceToNat, List.getElem?_cons_zero, List.getElem?_cons_succ, ↓reduceIte]
        refine s_M_lay (by omega) isU_28 h hw (fun I2 f2 l2 => ?_)
        simp only [am_z, Nat.reduceAdd, Nat.zero_le, Nat.reduceLeDiff]
        refine rn_M_does 40 ?_
        simp (disch := omega) only [am_z, cq_M_does, Nat.reduceAdd, Nat.zero_le, Nat.reduceLeDiff, ar_lit, pk_mul, nI_add, ar_lt]
        by_cases q2 : 10 * c + e < (tpg p (tP p)).length
        · rw [if_pos q2]
          rw [hH, decide_eq_false (show ¬ (tpg p (tP p)).length ≤ 10 * c + e by omega), Bool.and_false, if_neg (by simp)] at hT
          exact c0' I2 f2 hT
        · rw [if_neg q2]
          rw [hH, decide_eq_true (show (tpg p (tP p)).length ≤ 10 * c + e by omega)] at hT
          exact c1' I2 f2 (by rw [hT]; rfl)
      · have eh : tholds g p = false := by
          rw [hH]
          by_cases z : a = 0
          · rw [decide_eq_false (show ¬ b = 0 by omega), Bool.and_false, Bool.false_and]
          · rw [decide_eq_false z, Bool.false_and, Bool.false_and]
        rw [eh, if_neg (by simp)] at hT
        have kx := c0 hT
        by_cases z : a = 0
        · refine rn_M_does 40 ?_
          simp (disch := omega) only [am_z, cq_M_does, Nat.reduceAdd, Nat.zero_le, Nat.reduceLeDiff, ar_lit, show (nI 6).toInt = 6 by decide +kernel, Int.reduceLT, Int.reduceSub, Int.reduceToNat, List.getElem?_cons_zero, List.getElem?_cons_succ, ↓reduceIte, ar_eq, if_pos z, if_neg (show ¬ b = 0 by omega)]
          exact kx
        · refine rn_M_does 40 ?_
          simp (disch := omega) only [am_z, cq_M_does, Nat.reduceAdd, Nat.zero_le, Nat.reduceLeDiff, ar_lit, show (nI 6).toInt = 6 by decide +kernel, Int.reduceLT, Int.reduceSub, Int.reduceToNat, List.getElem?_cons_zero, List.getElem?_cons_succ, ↓reduceIte, ar_eq, if_neg z]
          exact kx
    · simp only [Nat.reduceEqDiff, ↓reduceIte] at hT hH
      refine rn_M_does 40 ?_
      simp (disch := omega) only [am_z, cq_M_does, Nat.reduceAdd, Nat.zero_le, Nat.reduceLeDiff, ar_lit, show (nI 7).toInt = 7 by decide +kernel, Int.reduceLT, Int.reduceSub, Int.reduceToNat, List.getElem?_cons_zero, List.getElem?_cons_succ, ↓reduceIte]
      refine s_M_lay (by omega) isU_28 h hw (fun I2 f2 l2 => ?_)
      by_cases q : r < (tpg p (tP p)).length
      · have hb := (tpg_at (p := p) (h := tP p) r q).2.1
        have r24 : r < 24 := by omega
        simp only [am_z, Nat.reduceAdd, Nat.zero_le, Nat.reduceLeDiff]
        refine rn_M_does 40 ?_
        simp (disch := omega) only [am_z, cq_M_does, Nat.reduceAdd, Nat.zero_le, Nat.reduceLeDiff, ar_lit, pk_mul, nI_add, ar_le, if_neg (show ¬ (tpg p (tP p)).length ≤ r by omega), ar_in, ar_cl, l2.2 r q, ar_eq]
        refine ⟨r24, ?_⟩
        by_cases q2 : (pgA (tpg p (tP p)) r).2.1 = 10 * c + e
        · rw [if_pos q2]
          rw [hH, decide_eq_true q, decide_eq_true q2] at hT
          exact c1' I2 f2 (by rw [hT]; rfl)
        · rw [if_neg q2]
          rw [hH, decide_eq_false q2, Bool.and_false, if_neg (by simp)] at hT
          exact c0' I2 f2 hT
      · simp only [am_z, Nat.reduceAdd, Nat.zero_le, Nat.reduceLeDiff]
        refine rn_M_does 40 ?_
        simp (disch := omega) only [am_z, cq_M_does, Nat.reduceAdd, Nat.zero_le, Nat.reduceLeDiff, ar_lit, ar_le, if_pos (show (tpg p (tP p)).length ≤ r by omega)]
        rw [hH, decide_eq_false q, Bool.false_and, if_neg (by simp)] at hT
        exact c0' I2 f2 hT
    · simp only [Nat.reduceEqDiff, ↓reduceIte] at hT hH
      by_cases q1 : a < tm p
      · by_cases q2 : c = 0
        · by_cases q3 : e = 0
          · subst q2
            subst q3
            obtain ⟨w1, w2, w3⟩ := hw.span q1
            have hpos := tpg_pos (h := tP p) hw (by omega)
            have hb : tps (tpg p (tP p)) p a < 100 := by
              have := tpo_len (tpg p (tP p)) (tL p a)
              unfold tps
              omega
            refine rn_M_does 40 ?_
            simp (disch := omega) only [am_z, cq_M_does, Nat.reduceAdd, Nat.zero_le, Nat.reduceLeDiff, ar_lit, show (nI 8).toInt = 8 by decide +kernel, Int.reduceLT, Int.reduceSub, Int.reduceToNat, List.getElem?_cons_zero, List.getElem?_cons_succ, ↓reduceIte, ar_in, ar_cl, h.1.2.2.1, ar_le, if_neg (show ¬ tm p ≤ a by omega), Nat.reduceLT, am_tt]
            refine s_M_lay (by omega) isU_28 h hw (fun I2 f2 l2 => ?_)
            simp only [am_z, Nat.reduceAdd, Nat.zero_le, Nat.reduceLeDiff]
            refine rn_M_does 40 ?_
            simp (disch := omega) only [am_z, cq_M_does, Nat.reduceAdd, Nat.zero_le, Nat.reduceLeDiff, ar_lit, ar_le, if_neg (show ¬ (tpg p (tP p)).length ≤ 0 by omega)]
            refine s_M_pagesOf (by omega) isU_28 (h.fM f2 (by simp) (by omega)) hw l2 q1 ?_
            simp only [am_z, Nat.reduceAdd, Nat.zero_le, Nat.reduceLeDiff]
            refine rn_M_does 40 ?_
            simp (disch := omega) only [am_z, cq_M_does, Nat.reduceAdd, Nat.zero_le, Nat.reduceLeDiff, ar_lit, ar_eq]
            by_cases q4 : tps (tpg p (tP p)) p a = b
            · rw [if_pos q4]
              rw [hH, decide_eq_true q1, decide_eq_true q4] at hT
              exact c1' I2 f2 (by rw [hT]; rfl)
            · rw [if_neg q4]
              rw [hH, decide_eq_false q4, Bool.and_false, if_neg (by simp)] at hT
              exact c0' I2 f2 hT
          · rw [hH, decide_eq_false q3, Bool.and_false, Bool.false_and, Bool.false_and, if_neg (by simp)] at hT
            refine rn_M_does 40 ?_
            simp (disch := omega) only [am_z, cq_M_does, Nat.reduceAdd, Nat.zero_le, Nat.reduceLeDiff, ar_lit, show (nI 8).toInt = 8 by decide +kernel, Int.reduceLT, Int.reduceSub, Int.reduceToNat, List.getElem?_cons_zero, List.getElem?_cons_succ, ↓reduceIte, ar_in, ar_cl, h.1.2.2.1, ar_le, if_neg (show ¬ tm p ≤ a by omega), ar_eq, if_pos q2, if_neg q3, Nat.reduceLT, am_tt]
            exact c0 hT
        · rw [hH, decide_eq_false q2, Bool.false_and, Bool.false_and, Bool.false_and, if_neg (by simp)] at hT
          refine rn_M_does 40 ?_
          simp (disch := omega) only [am_z, cq_M_does, Nat.reduceAdd, Nat.zero_le, Nat.reduceLeDiff, ar_lit, show (nI 8).toInt = 8 by decide +kernel, Int.reduceLT, Int.reduceSub, Int.reduceToNat, List.getElem?_cons_zero, List.getElem?_cons_succ, ↓reduceIte, ar_in, ar_cl, h.1.2.2.1, ar_le, if_neg (show ¬ tm p ≤ a by omega), ar_eq, if_neg q2, Nat.reduceLT, am_tt]
          exact c0 hT
      · rw [hH, decide_eq_false q1, Bool.and_false, Bool.false_and, if_neg (by simp)] at hT
        refine rn_M_does 40 ?_
        simp (disch := omega) only [am_z, cq_M_does, Nat.reduceAdd, Nat.zero_le, Nat.reduceLeDiff, ar_lit, show (nI 8).toInt = 8 by decide +kernel, Int.reduceLT, Int.reduceSub, Int.reduceToNat, List.getElem?_cons_zero, List.getElem?_cons_succ, ↓reduceIte, ar_in, ar_cl, h.1.2.2.1, ar_le, if_pos (show tm p ≤ a by omega), Nat.reduceLT, am_tt]
        exact c0 hT
    · simp only [Nat.reduceEqDiff, ↓reduceIte] at hT hH
      by_cases q1 : a = 0
      · by_cases q2 : b = 0
        · by_cases q3 : c = 0
          · subst q1
            subst q2
            subst q3
            refine rn_M_does 40 ?_
            simp (disch := omega) only [am_z, cq_M_does, Nat.reduceAdd, Nat.zero_le, Nat.reduceLeDiff, ar_lit, show (nI 9).toInt = 9 by decide +kernel, Int.reduceLT, Int.reduceSub, Int.reduceToNat, List.getElem?_cons_zero, List.getElem?_cons_succ, ↓reduceIte]
            refine s_M_lay (by omega) isU_28 h hw (fun I2 f2 l2 => ?_)
            simp only [am_z, Nat.reduceAdd, Nat.zero_le, Nat.reduceLeDiff]
            refine rn_M_does 40 ?_
            simp (disch := omega) only [am_z, cq_M_does, Nat.reduceAdd, Nat.zero_le, Nat.reduceLeDiff, ar_lit, ar_lt, Nat.not_lt_zero, ↓reduceIte]
            refine s_M_overfull (by omega) isU_28 (h.fM f2 (by simp) (by omega)) hw l2 ?_
            simp only [am_z, Nat.reduceAdd, Nat.zero_le, Nat.reduceLeDiff]
            refine rn_M_does 40 ?_
            simp (disch := omega) only [am_z, cq_M_does, Nat.reduceAdd, Nat.zero_le, Nat.reduceLeDiff, ar_lit, ar_lt]
            by_cases q4 : e < tov (tpg p (tP p))
            · rw [if_pos q4]
              rw [hH, decide_eq_false (show ¬ tov (tpg p (tP p)) ≤ e by omega), Bool.and_false, if_neg (by simp)] at hT
              exact c0' I2 f2 hT
            · rw [if_neg q4]
              rw [hH, decide_eq_true (show tov (tpg p (tP p)) ≤ e by omega)] at hT
              exact c1' I2 f2 (by rw [hT]; rfl)
          · rw [hH, decide_eq_false q3, Bool.and_false, Bool.false_and, if_neg (by simp)] at hT
            refine rn_M_does 40 ?_
            simp (disch := omega) only [am_z, cq_M_does, Nat.reduceAdd, Nat.zero_le, Nat.reduceLeDiff, ar_lit, show (nI 9).toInt = 9 by decide +kernel, Int.reduceLT, Int.reduceSub, Int.reduceToNat, List.getElem?_cons_zero, List.getElem?_cons_succ, ↓reduceIte, ar_eq, if_pos q1, if_pos q2, if_neg q3]
            exact c0 hT
        · rw [hH, decide_eq_false q2, Bool.and_false, Bool.false_and, Bool.false_and, if_neg (by simp)] at hT
          refine rn_M_does 40 ?_
          simp (disch := omega) only [am_z, cq_M_does, Nat.reduceAdd, Nat.zero_le, Nat.reduceLeDiff, ar_lit, show (nI 9).toInt = 9 by decide +kernel, Int.reduceLT, Int.reduceSub, Int.reduceToNat, List.getElem?_cons_zero, List.getElem?_cons_succ, ↓reduceIte, ar_eq, if_pos q1, if_neg q2]
          exact c0 hT
      · rw [hH, decide_eq_false q1, Bool.false_and, Bool.false_and, Bool.false_and, if_neg (by simp)] at hT
        refine rn_M_does 40 ?_
        simp (disch := omega) only [am_z, cq_M_does, Nat.reduceAdd, Nat.zero_le, Nat.reduceLeDiff, ar_lit, show (nI 9).toInt = 9 by decide +kernel, Int.reduceLT, Int.reduceSub, Int.reduceToNat, List.getElem?_cons_zero, List.getElem?_cons_succ, ↓reduceIte, ar_eq, if_neg q1]
        exact c0 hT
  have m1 : nI (g / 1000) - nI (g / 1000) / nI 10 * nI 10 = nI a := by rw [ar_mod (by omega) (by omega) (by omega), ha_]
  have m2 : nI (g / 100) - nI (g / 100) / nI 10 * nI 10 = nI b := by rw [ar_mod (by omega) (by omega) (by omega), hb_]
  have m3 : nI (g / 10) - nI (g / 10) / nI 10 * nI 10 = nI c := by rw [ar_mod (by omega) (by omega) (by omega), hc_]
  have m4 : nI (g / 100) - nI (g / 100) / nI 100 * nI 100 = nI r := by rw [ar_mod (by omega) (by omega) (by omega), hr_]
  by_cases q : r < tn p
  · refine en_M_does 42 (Nat.le_of_ble_eq_true rfl) ?_
    simp (disch := omega) only [am_z, cq_M_does, Nat.reduceAdd, Nat.zero_le, Nat.reduceLeDiff, ar_lit, e1, e2, e3, e6, e7, e8, m1, m2, m3, m4, ar_eq, Nat.reduceEqDiff, not_false_eq_true, ar_le, ar_in, ar_cl, h.1.2.1, Nat.reduceLT, am_tt, if_neg (show ¬ tn p ≤ r by omega)]
    exact main 1 (by rw [decide_eq_true q]; rfl)
  · refine en_M_does 41 (Nat.le_of_ble_eq_true rfl) ?_
    simp (disch := omega) only [am_z, cq_M_does, Nat.reduceAdd, Nat.zero_le, Nat.reduceLeDiff, ar_lit, e1, e2, e3, e6, e7, e8, m1, m2, m3, m4, ar_eq, Nat.reduceEqDiff, not_false_eq_true, ar_le, ar_in, ar_cl, h.1.2.1, Nat.reduceLT, am_tt, if_pos (show tn p ≤ r by omega)]
    exact main 0 (by rw [decide_eq_false q]; rfl)
end RG
