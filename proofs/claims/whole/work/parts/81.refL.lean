/-! ===== the reference: actions ===== -/
section RG
variable {l : Launch} {D : Nat} {I I' : am_I} {J : am_J} {P : am_P} {s : pt_G}
theorem fM.m27 (h : fM [27] [] I I') : am_fr isM I I' := h.toM (by simp)
theorem fM.z27 (h : fM [27] [] I I') : I' (9, 0) 0 = I (9, 0) 0 := h.f9 (by simp) (by simp)
theorem s_M_rem (hD : 2 ≤ D) (h : sm I s) (k : ∀ I', am_fr isM I I' → sm I' (tact s s.2.1) → I' (9, 0) 0 = I (9, 0) 0 → P (.inl none) am_G0 I' J) : am_T l D y_M_remember [vR (9, 0)] am_G0 I J P :=
  s_M_remember hD h (fun I' hf h' => k I' (hf.toM (by simp)) h' (hf.f9 (by simp) (by simp)))
theorem fM.up27 {k : Nat} {x : Int32} : fM [27] [] I (am_upI I (27, 0) k x) := fM.rf.up (Or.inl (by simp))
theorem s_M_addRow {a b : Int32} (hD : 9 ≤ D) (h : sm I s) (k : mk P J I (q_addRow s a b)) : am_T l D y_M_addRow [vR (9, 0), vI a, vI b] am_G0 I J P := by
  obtain ⟨d, rfl⟩ : ∃ d, D = d + 1 := ⟨D - 1, by omega⟩
  have h24 := h.w.2.2.2.2.1
  have bad : ∀ I1, fM [] [0] I I1 → I1 (9, 0) 0 = nI 1 → q_addRow s a b = ((1, 0), s) → P (.inl (some (vI (nI 0)))) am_G0 I1 J := fun I1 f1 e1 e => by
    rw [e] at k
    exact k I1 f1.m0 (h.r0 f1) e1
  refine en_M_addRow 20 (Nat.le_of_ble_eq_true rfl) ?_
  simp (disch := omega) only [am_z, cq_M_addRow, Nat.reduceAdd, Nat.zero_le, Nat.reduceLeDiff, ar_lit]
  refine s_M_inL (lo := 1) (hi := 6) (by omega) (i64_i a) (by decide +kernel) (by decide +kernel) ?_
  by_cases qa : 1 ≤ a.toInt ∧ a.toInt ≤ 6
  · rw [decide_eq_true qa]
    have ea : a = nI a.toInt.toNat := ar_nat (by omega)
    have hb : a.toInt.toNat < 7 ∧ 0 < a.toInt.toNat := by omega
    generalize a.toInt.toNat = i at ea hb
    subst ea
    simp only [am_z, Nat.reduceAdd, Nat.zero_le, Nat.reduceLeDiff]
    refine rn_M_addRow 20 ?_
    simp (disch := omega) only [am_z, cq_M_addRow, Nat.reduceAdd, Nat.zero_le, Nat.reduceLeDiff, ar_lit, b01, Bool.false_eq_true, ↓reduceIte, ar_eq, Nat.reduceEqDiff, lc_z.1]
    refine s_M_inT (n := 7) (by omega) (by decide +kernel) ?_
    rcases tix_c 7 b (by omega) with ⟨e, hs⟩ | ⟨j, hj, eb, e⟩
    · rw [e]
      simp only [Option.isSome_none]
      simp only [am_z, Nat.reduceAdd, Nat.zero_le, Nat.reduceLeDiff]
      refine rn_M_addRow 20 ?_
      simp (disch := omega) only [am_z, cq_M_addRow, Nat.reduceAdd, Nat.zero_le, Nat.reduceLeDiff, ar_lit, b01, Bool.false_eq_true, ↓reduceIte]
      refine s_M_refN (by omega) (by omega) (by omega) (fun I1 f1 e1 => ?_)
      simp only [am_z, Nat.reduceAdd, Nat.zero_le, Nat.reduceLeDiff]
      refine rn_M_addRow 20 ?_
      simp (disch := omega) only [am_z, cq_M_addRow, Nat.reduceAdd, Nat.zero_le, Nat.reduceLeDiff, ar_lit, ar_eq, Nat.reduceEqDiff, ↓reduceIte]
      refine bad I1 f1 e1 ?_
      unfold q_addRow
      rw [tix_i rfl (by omega) (by omega), e]
    · rw [e]
      subst eb
      have eq : q_addRow s (nI i) (nI j) = if tn s.2.1 = 24 then ((2, 0), s) else ((0, nI (tn s.2.1)), tact s (tputR s.2.1 i j)) := by
        unfold q_addRow
        rw [tix_i rfl (by omega) (by omega), e]
        simp only
        rw [if_neg (by omega)]
      rw [eq] at k
      simp only [Option.isSome_some]
      by_cases q : tn s.2.1 = 24
      · rw [if_pos q] at k
        simp only [am_z, Nat.reduceAdd, Nat.zero_le, Nat.reduceLeDiff]
        refine rn_M_addRow 20 ?_
        simp (disch := omega) only [am_z, cq_M_addRow, Nat.reduceAdd, Nat.zero_le, Nat.reduceLeDiff, ar_lit, b01, Bool.false_eq_true, ↓reduceIte, ar_eq, Nat.reduceEqDiff, ar_in, ar_cl, h.p.1.2.1, if_pos q, Nat.reduceLT, am_tt]
        refine s_M_refN (by omega) (by omega) (by omega) (fun I1 f1 e1 => ?_)
        simp only [am_z, Nat.reduceAdd, Nat.zero_le, Nat.reduceLeDiff]
        refine rn_M_addRow 20 ?_
        simp (disch := omega) only [am_z, cq_M_addRow, Nat.reduceAdd, Nat.zero_le, Nat.reduceLeDiff, ar_lit, ar_eq, Nat.reduceEqDiff, ↓reduceIte]
        exact k I1 f1.m0 (h.r0 f1) e1
      · rw [if_neg q] at k
        simp only [am_z, Nat.reduceAdd, Nat.zero_le, Nat.reduceLeDiff]
        refine rn_M_addRow 20 ?_
        simp (disch := omega) only [am_z, cq_M_addRow, Nat.reduceAdd, Nat.zero_le, Nat.reduceLeDiff, ar_lit, b01, Bool.false_eq_true, ↓reduceIte, ar_eq, Nat.reduceEqDiff, ar_in, ar_cl, h.p.1.2.1, if_neg q, Nat.reduceLT, am_tt]
        refine s_M_ref0 (by omega) (fun I1 f1 e1 => ?_)
        simp only [am_z, Nat.reduceAdd, Nat.zero_le, Nat.reduceLeDiff]
        refine rn_M_addRow 20 ?_
        simp (disch := omega) only [am_z, cq_M_addRow, Nat.reduceAdd, Nat.zero_le, Nat.reduceLeDiff, ar_lit, ↓reduceIte]
        refine s_M_rem (by omega) (h.r0 f1) (fun I2 f2 h2 e2 => ?_)
        simp only [am_z, Nat.reduceAdd, Nat.zero_le, Nat.reduceLeDiff]
        refine rn_M_addRow 20 ?_
        simp (disch := omega) only [am_z, cq_M_addRow, Nat.reduceAdd, Nat.zero_le, Nat.reduceLeDiff, ar_lit]
        refine s_M_addTo (by omega) isU_27 h2.p (by show tn s.2.1 < 24; omega) (fun I3 f3 r3 => ?_)
        have h3 := h2.tab f3 r3 (tputR_w h.w (by omega) (by omega) (by omega) (by omega))
        simp only [am_z, Nat.reduceAdd, Nat.zero_le, Nat.reduceLeDiff]
        refine rn_M_addRow 20 ?_
        simp (disch := omega) only [am_z, cq_M_addRow, Nat.reduceAdd, Nat.zero_le, Nat.reduceLeDiff, ar_lit, ar_in, ar_cl, r3.1.2.1, tn_put, Nat.reduceLT, am_tt]
        rw [ar_sub (by show 1 ≤ tn (tact s s.2.1).2.1 + 1; omega)]
        exact k I3 ((f1.m0.tr f2).tr f3.m27) h3 (f3.z27.trans (e2.trans e1))
  · rw [decide_eq_false qa]
    simp only [am_z, Nat.reduceAdd, Nat.zero_le, Nat.reduceLeDiff]
    refine rn_M_addRow 20 ?_
    simp (disch := omega) only [am_z, cq_M_addRow, Nat.reduceAdd, Nat.zero_le, Nat.reduceLeDiff, ar_lit, b01, Bool.false_eq_true, ↓reduceIte]
    refine s_M_refN (by omega) (by omega) (by omega) (fun I1 f1 e1 => ?_)
    simp only [am_z, Nat.reduceAdd, Nat.zero_le, Nat.reduceLeDiff]
    refine rn_M_addRow 20 ?_
    simp (disch := omega) only [am_z, cq_M_addRow, Nat.reduceAdd, Nat.zero_le, Nat.reduceLeDiff, ar_lit, ar_eq, Nat.reduceEqDiff, ↓reduceIte]
    refine bad I1 f1 e1 ?_
    unfold q_addRow
    rcases tix_c 7 a (by omega) with ⟨e, _⟩ | ⟨i, hi, ea, e⟩
    · rw [e]
    · rw [e]
      subst ea
      rw [nI_toInt (by omega)] at qa
      rcases tix_c 7 b (by omega) with ⟨e2, _⟩ | ⟨j, hj, eb, e2⟩
      · rw [e2]
      · rw [e2]
        simp only
        rw [if_pos (by omega)]
theorem s_M_setAmount {r c v : Int32} (hD : 9 ≤ D) (h : sm I s) (k : mk P J I (q_setAmount s r c v)) : am_T l D y_M_setAmount [vR (9, 0), vI r, vI c, vI v] am_G0 I J P := by
  obtain ⟨d, rfl⟩ : ∃ d, D = d + 1 := ⟨D - 1, by omega⟩
  have hn := h.w.2.2.2.2.1
  have h4 := h.w.1.2
  unfold q_setAmount at k
  refine en_M_setAmount 20 (Nat.le_of_ble_eq_true rfl) ?_
  simp (disch := omega) only [am_z, cq_M_setAmount, Nat.reduceAdd, Nat.zero_le, Nat.reduceLeDiff, ar_lit]
  refine s_M_isRow (by omega) h.p h.w ?_
  rcases tix_c (tn s.2.1) r (by omega) with ⟨e, hs⟩ | ⟨i, hi, er, e⟩
  · rw [e] at k ⊢
    simp only [Option.isSome_none]
    simp only [am_z, Nat.reduceAdd, Nat.zero_le, Nat.reduceLeDiff]
    refine rn_M_setAmount 20 ?_
    simp (disch := omega) only [am_z, cq_M_setAmount, Nat.reduceAdd, Nat.zero_le, Nat.reduceLeDiff, ar_lit, b01, Bool.false_eq_true, ↓reduceIte]
    refine s_M_refN (by omega) (by omega) (by omega) (fun I1 f1 e1 => ?_)
    simp only [am_z, Nat.reduceAdd, Nat.zero_le, Nat.reduceLeDiff]
    refine rn_M_setAmount 20 ?_
    simp (disch := omega) only [am_z, cq_M_setAmount, Nat.reduceAdd, Nat.zero_le, Nat.reduceLeDiff, ar_lit, ar_eq, Nat.reduceEqDiff, ↓reduceIte]
    exact k I1 f1.m0 (h.r0 f1) e1
  · rw [e] at k ⊢
    subst er
    simp only [Option.isSome_some]
    simp only [am_z, Nat.reduceAdd, Nat.zero_le, Nat.reduceLeDiff]
    refine rn_M_setAmount 20 ?_
    simp (disch := omega) only [am_z, cq_M_setAmount, Nat.reduceAdd, Nat.zero_le, Nat.reduceLeDiff, ar_lit, b01, Bool.false_eq_true, ↓reduceIte, ar_eq, Nat.reduceEqDiff]
    refine s_M_isColumn (by omega) h.p h.w ?_
    rcases tix_c (tC s.2.1) c (by omega) with ⟨e, hs⟩ | ⟨j, hj, ec, e⟩
    · rw [e] at k ⊢
      simp only [Option.isSome_none]
      simp only [am_z, Nat.reduceAdd, Nat.zero_le, Nat.reduceLeDiff]
      refine rn_M_setAmount 20 ?_
      simp (disch := omega) only [am_z, cq_M_setAmount, Nat.reduceAdd, Nat.zero_le, Nat.reduceLeDiff, ar_lit, b01, Bool.false_eq_true, ↓reduceIte]
      refine s_M_refN (by omega) (by omega) (by omega) (fun I1 f1 e1 => ?_)
      simp only [am_z, Nat.reduceAdd, Nat.zero_le, Nat.reduceLeDiff]
      refine rn_M_setAmount 20 ?_
      simp (disch := omega) only [am_z, cq_M_setAmount, Nat.reduceAdd, Nat.zero_le, Nat.reduceLeDiff, ar_lit, ar_eq, Nat.reduceEqDiff, ↓reduceIte]
      exact k I1 f1.m0 (h.r0 f1) e1
    · rw [e] at k ⊢
      subst ec
      simp only [Option.isSome_some] at k ⊢
      simp only [am_z, Nat.reduceAdd, Nat.zero_le, Nat.reduceLeDiff]
      refine rn_M_setAmount 20 ?_
      simp (disch := omega) only [am_z, cq_M_setAmount, Nat.reduceAdd, Nat.zero_le, Nat.reduceLeDiff, ar_lit, b01, Bool.false_eq_true, ↓reduceIte, ar_eq, Nat.reduceEqDiff]
      refine s_M_inL (lo := -99) (hi := 99) (by omega) (i64_i v) (by decide +kernel) (by decide +kernel) ?_
      by_cases q : -99 ≤ v.toInt ∧ v.toInt ≤ 99
      · rw [if_pos q] at k
        rw [decide_eq_true q]
        simp only [am_z, Nat.reduceAdd, Nat.zero_le, Nat.reduceLeDiff]
        refine rn_M_setAmount 20 ?_
        simp (disch := omega) only [am_z, cq_M_setAmount, Nat.reduceAdd, Nat.zero_le, Nat.reduceLeDiff, ar_lit, b01, Bool.false_eq_true, ↓reduceIte, ar_eq, Nat.reduceEqDiff]
        refine s_M_ref0 (by omega) (fun I1 f1 e1 => ?_)
        simp only [am_z, Nat.reduceAdd, Nat.zero_le, Nat.reduceLeDiff]
        refine rn_M_setAmount 20 ?_
        simp (disch := omega) only [am_z, cq_M_setAmount, Nat.reduceAdd, Nat.zero_le, Nat.reduceLeDiff, ar_lit, ↓reduceIte]
        refine s_M_rem (by omega) (h.r0 f1) (fun I2 f2 h2 e2 => ?_)
        obtain ⟨_, _, _, g4⟩ := h2.p.2.2.1 i hi
        simp only [am_z, Nat.reduceAdd, Nat.zero_le, Nat.reduceLeDiff]
        refine rn_M_setAmount 20 ?_
        simp (disch := omega) only [am_z, cq_M_setAmount, Nat.reduceAdd, Nat.zero_le, Nat.reduceLeDiff, ar_lit, nI_add]
        refine s_M_cell (by omega) ?_
        simp only [am_z, Nat.reduceAdd, Nat.zero_le, Nat.reduceLeDiff]
        refine rn_M_setAmount 20 ?_
        simp (disch := omega) only [am_z, cq_M_setAmount, Nat.reduceAdd, Nat.zero_le, Nat.reduceLeDiff, ar_lit, ar_in, ar_cl, g4 j (by omega), nI_add]
        refine ⟨by omega, ?_⟩
        refine s_M_cell (by omega) ?_
        simp only [am_z, Nat.reduceAdd, Nat.zero_le, Nat.reduceLeDiff]
        refine rn_M_setAmount 20 ?_
        simp (disch := omega) only [am_z, cq_M_setAmount, Nat.reduceAdd, Nat.zero_le, Nat.reduceLeDiff, ar_lit, ar_in, ar_cl]
        refine ⟨by omega, ?_⟩
        have h3 := h2.tab (q := tsetA s.2.1 i j v.toInt) (fM.up27 (k := 11 + 7 * i + (3 + j)) (x := v)) (by rw [am_uE]; have := h2.p.setA (v := v.toInt) h2.w hi (show j < 4 by omega); rw [← iI_of] at this; exact this) (tsetA_w h.w hi q.1 q.2)
        exact k _ ((f1.m0.tr f2).tr fM.up27.m27) h3 (fM.up27.z27.trans (e2.trans e1))
      · rw [if_neg q] at k
        rw [decide_eq_false q]
        simp only [am_z, Nat.reduceAdd, Nat.zero_le, Nat.reduceLeDiff]
        refine rn_M_setAmount 20 ?_
        simp (disch := omega) only [am_z, cq_M_setAmount, Nat.reduceAdd, Nat.zero_le, Nat.reduceLeDiff, ar_lit, b01, Bool.false_eq_true, ↓reduceIte]
        refine s_M_refN (by omega) (by omega) (by omega) (fun I1 f1 e1 => ?_)
        simp only [am_z, Nat.reduceAdd, Nat.zero_le, Nat.reduceLeDiff]
        refine rn_M_setAmount 20 ?_
        simp (disch := omega) only [am_z, cq_M_setAmount, Nat.reduceAdd, Nat.zero_le, Nat.reduceLeDiff, ar_lit, ar_eq, Nat.reduceEqDiff, ↓reduceIte]
        exact k I1 f1.m0 (h.r0 f1) e1
theorem s_M_keep {r : Int32} {b : Nat} (hD : 9 ≤ D) (hb : b ≤ 1) (h : sm I s) (k : mk P J I (q_keep s r b)) : am_T l D y_M_keep [vR (9, 0), vI r, vI (nI b)] am_G0 I J P := by
  obtain ⟨d, rfl⟩ : ∃ d, D = d + 1 := ⟨D - 1, by omega⟩
  have hn := h.w.2.2.2.2.1
  unfold q_keep at k
  refine en_M_keep 20 (Nat.le_of_ble_eq_true rfl) ?_
  simp (disch := omega) only [am_z, cq_M_keep, Nat.reduceAdd, Nat.zero_le, Nat.reduceLeDiff, ar_lit]
  refine s_M_isRow (by omega) h.p h.w ?_
  rcases tix_c (tn s.2.1) r (by omega) with ⟨e, hs⟩ | ⟨i, hi, er, e⟩
  · rw [e] at k ⊢
    simp only [Option.isSome_none]
    simp only [am_z, Nat.reduceAdd, Nat.zero_le, Nat.reduceLeDiff]
    refine rn_M_keep 20 ?_
    simp (disch := omega) only [am_z, cq_M_keep, Nat.reduceAdd, Nat.zero_le, Nat.reduceLeDiff, ar_lit, b01, Bool.false_eq_true, ↓reduceIte]
    refine s_M_refN (by omega) (by omega) (by omega) (fun I1 f1 e1 => ?_)
    simp only [am_z, Nat.reduceAdd, Nat.zero_le, Nat.reduceLeDiff]
    refine rn_M_keep 20 ?_
    simp (disch := omega) only [am_z, cq_M_keep, Nat.reduceAdd, Nat.zero_le, Nat.reduceLeDiff, ar_lit, ar_eq, Nat.reduceEqDiff, ↓reduceIte]
    exact k I1 f1.m0 (h.r0 f1) e1
  · rw [e] at k ⊢
    subst er
    simp only [Option.isSome_some]
    simp only [am_z, Nat.reduceAdd, Nat.zero_le, Nat.reduceLeDiff]
    refine rn_M_keep 20 ?_
    simp (disch := omega) only [am_z, cq_M_keep, Nat.reduceAdd, Nat.zero_le, Nat.reduceLeDiff, ar_lit, b01, Bool.false_eq_true, ↓reduceIte, ar_eq, Nat.reduceEqDiff]
    refine s_M_ref0 (by omega) (fun I1 f1 e1 => ?_)
    simp only [am_z, Nat.reduceAdd, Nat.zero_le, Nat.reduceLeDiff]
    refine rn_M_keep 20 ?_
    simp (disch := omega) only [am_z, cq_M_keep, Nat.reduceAdd, Nat.zero_le, Nat.reduceLeDiff, ar_lit, ↓reduceIte]
    refine s_M_rem (by omega) (h.r0 f1) (fun I2 f2 h2 e2 => ?_)
    simp only [am_z, Nat.reduceAdd, Nat.zero_le, Nat.reduceLeDiff]
    refine rn_M_keep 20 ?_
    simp (disch := omega) only [am_z, cq_M_keep, Nat.reduceAdd, Nat.zero_le, Nat.reduceLeDiff, ar_lit]
    refine s_M_cell (by omega) ?_
    have h3 := h2.tab (q := tsetK s.2.1 i b) (fM.up27 (k := 11 + 7 * i + 2) (x := nI b)) (by rw [am_uE]; exact h2.p.setK h2.w hi) (tsetK_w h.w hi hb)
    rcases (show b = 0 ∨ b = 1 by omega) with rfl | rfl
    · simp only [am_z, Nat.reduceAdd, Nat.zero_le, Nat.reduceLeDiff]
      refine rn_M_keep 20 ?_
      simp (disch := omega) only [am_z, cq_M_keep, Nat.reduceAdd, Nat.zero_le, Nat.reduceLeDiff, ar_lit, ar_in, ar_cl, ar_eq, Nat.reduceEqDiff, ↓reduceIte]
      refine ⟨by omega, ?_⟩
      refine s_M_lay (by omega) isU_27 h3.p h3.w (fun I4 f4 l4 => ?_)
      simp only [am_z, Nat.reduceAdd, Nat.zero_le, Nat.reduceLeDiff]
      refine rn_M_keep 20 ?_
      simp (disch := omega) only [am_z, cq_M_keep, Nat.reduceAdd, Nat.zero_le, Nat.reduceLeDiff, ar_lit]
      exact k I4 (((f1.m0.tr f2).tr fM.up27.m27).tr f4.mL) (h3.rL f4) (f4.l0.trans (fM.up27.z27.trans (e2.trans e1)))
    · simp only [am_z, Nat.reduceAdd, Nat.zero_le, Nat.reduceLeDiff]
      refine rn_M_keep 20 ?_
      simp (disch := omega) only [am_z, cq_M_keep, Nat.reduceAdd, Nat.zero_le, Nat.reduceLeDiff, ar_lit, ar_in, ar_cl, ar_eq, Nat.reduceEqDiff, ↓reduceIte]
      refine ⟨by omega, ?_⟩
      refine s_M_lay (by omega) isU_27 h3.p h3.w (fun I4 f4 l4 => ?_)
      simp only [am_z, Nat.reduceAdd, Nat.zero_le, Nat.reduceLeDiff]
      refine rn_M_keep 20 ?_
      simp (disch := omega) only [am_z, cq_M_keep, Nat.reduceAdd, Nat.zero_le, Nat.reduceLeDiff, ar_lit]
      exact k I4 (((f1.m0.tr f2).tr fM.up27.m27).tr f4.mL) (h3.rL f4) (f4.l0.trans (fM.up27.z27.trans (e2.trans e1)))
theorem s_M_removeRow {r : Int32} (hD : 9 ≤ D) (h : sm I s) (k : mk P J I (q_removeRow s r)) : am_T l D y_M_removeRow [vR (9, 0), vI r] am_G0 I J P := by
  obtain ⟨d, rfl⟩ : ∃ d, D = d + 1 := ⟨D - 1, by omega⟩
  have hn := h.w.2.2.2.2.1
  unfold q_removeRow at k
  refine en_M_removeRow 20 (Nat.le_of_ble_eq_true rfl) ?_
  simp (disch := omega) only [am_z, cq_M_removeRow, Nat.reduceAdd, Nat.zero_le, Nat.reduceLeDiff, ar_lit]
  refine s_M_isRow (by omega) h.p h.w ?_
  rcases tix_c (tn s.2.1) r (by omega) with ⟨e, hs⟩ | ⟨i, hi, er, e⟩
  · rw [e] at k ⊢
    simp only [Option.isSome_none]
    simp only [am_z, Nat.reduceAdd, Nat.zero_le, Nat.reduceLeDiff]
    refine rn_M_removeRow 20 ?_
    simp (disch := omega) only [am_z, cq_M_removeRow, Nat.reduceAdd, Nat.zero_le, Nat.reduceLeDiff, ar_lit, b01, Bool.false_eq_true, ↓reduceIte]
    refine s_M_refN (by omega) (by omega) (by omega) (fun I1 f1 e1 => ?_)
    simp only [am_z, Nat.reduceAdd, Nat.zero_le, Nat.reduceLeDiff]
    refine rn_M_removeRow 20 ?_
    simp (disch := omega) only [am_z, cq_M_removeRow, Nat.reduceAdd, Nat.zero_le, Nat.reduceLeDiff, ar_lit, ar_eq, Nat.reduceEqDiff, ↓reduceIte]
    exact k I1 f1.m0 (h.r0 f1) e1
  · rw [e] at k ⊢
    subst er
    simp only [Option.isSome_some]
    simp only [am_z, Nat.reduceAdd, Nat.zero_le, Nat.reduceLeDiff]
    refine rn_M_removeRow 20 ?_
    simp (disch := omega) only [am_z, cq_M_removeRow, Nat.reduceAdd, Nat.zero_le, Nat.reduceLeDiff, ar_lit, b01, Bool.false_eq_true, ↓reduceIte, ar_eq, Nat.reduceEqDiff]
    refine s_M_ref0 (by omega) (fun I1 f1 e1 => ?_)
    simp only [am_z, Nat.reduceAdd, Nat.zero_le, Nat.reduceLeDiff]
    refine rn_M_removeRow 20 ?_
    simp (disch := omega) only [am_z, cq_M_removeRow, Nat.reduceAdd, Nat.zero_le, Nat.reduceLeDiff, ar_lit, ↓reduceIte]
    refine s_M_rem (by omega) (h.r0 f1) (fun I2 f2 h2 e2 => ?_)
    simp only [am_z, Nat.reduceAdd, Nat.zero_le, Nat.reduceLeDiff]
    refine rn_M_removeRow 20 ?_
    simp (disch := omega) only [am_z, cq_M_removeRow, Nat.reduceAdd, Nat.zero_le, Nat.reduceLeDiff, ar_lit]
    refine s_M_dropRow (by omega) isU_27 h2.p h2.w hi (fun I3 f3 r3 => ?_)
    have h3 := h2.tab f3 r3 (tdropR_w h.w hi)
    simp only [am_z, Nat.reduceAdd, Nat.zero_le, Nat.reduceLeDiff]
    refine rn_M_removeRow 20 ?_
    simp (disch := omega) only [am_z, cq_M_removeRow, Nat.reduceAdd, Nat.zero_le, Nat.reduceLeDiff, ar_lit]
    exact k I3 ((f1.m0.tr f2).tr f3.m27) h3 (f3.z27.trans (e2.trans e1))
theorem s_M_addSpan {a b : Int32} {c : Nat} (hD : 9 ≤ D) (hc : c ≤ 1) (h : sm I s) (k : mk P J I (q_addSpan s a b c)) : am_T l D y_M_addSpan [vR (9, 0), vI a, vI b, vI (nI c)] am_G0 I J P := by
  obtain ⟨d, rfl⟩ : ∃ d, D = d + 1 := ⟨D - 1, by omega⟩
  have hn := h.w.2.2.2.2.1
  have h6 := h.w.2.2.2.2.2.1
  unfold q_addSpan at k
  refine en_M_addSpan 20 (Nat.le_of_ble_eq_true rfl) ?_
  simp (disch := omega) only [am_z, cq_M_addSpan, Nat.reduceAdd, Nat.zero_le, Nat.reduceLeDiff, ar_lit]
  refine s_M_isRow (by omega) h.p h.w ?_
  rcases tix_c (tn s.2.1) a (by omega) with ⟨e, hs⟩ | ⟨i, hi, er, e⟩
  · rw [e] at k ⊢
    simp only [Option.isSome_none]
    simp only [am_z, Nat.reduceAdd, Nat.zero_le, Nat.reduceLeDiff]
    refine rn_M_addSpan 20 ?_
    simp (disch := omega) only [am_z, cq_M_addSpan, Nat.reduceAdd, Nat.zero_le, Nat.reduceLeDiff, ar_lit, b01, Bool.false_eq_true, ↓reduceIte]
    refine s_M_refN (by omega) (by omega) (by omega) (fun I1 f1 e1 => ?_)
    simp only [am_z, Nat.reduceAdd, Nat.zero_le, Nat.reduceLeDiff]
    refine rn_M_addSpan 20 ?_
    simp (disch := omega) only [am_z, cq_M_addSpan, Nat.reduceAdd, Nat.zero_le, Nat.reduceLeDiff, ar_lit, ar_eq, Nat.reduceEqDiff, ↓reduceIte]
    exact k I1 f1.m0 (h.r0 f1) e1
  · rw [e] at k ⊢
    subst er
    simp only [Option.isSome_some]
    simp only [am_z, Nat.reduceAdd, Nat.zero_le, Nat.reduceLeDiff]
    refine rn_M_addSpan 20 ?_
    simp (disch := omega) only [am_z, cq_M_addSpan, Nat.reduceAdd, Nat.zero_le, Nat.reduceLeDiff, ar_lit, b01, Bool.false_eq_true, ↓reduceIte, ar_eq, Nat.reduceEqDiff]
    refine s_M_isRow (by omega) h.p h.w ?_
    rcases tix_c (tn s.2.1) b (by omega) with ⟨e, hs⟩ | ⟨j, hj, ec, e⟩
    · rw [e] at k ⊢
      simp only [Option.isSome_none]
      simp only [am_z, Nat.reduceAdd, Nat.zero_le, Nat.reduceLeDiff]
      refine rn_M_addSpan 20 ?_
      simp (disch := omega) only [am_z, cq_M_addSpan, Nat.reduceAdd, Nat.zero_le, Nat.reduceLeDiff, ar_lit, b01, Bool.false_eq_true, ↓reduceIte]
      refine s_M_refN (by omega) (by omega) (by omega) (fun I1 f1 e1 => ?_)
      simp only [am_z, Nat.reduceAdd, Nat.zero_le, Nat.reduceLeDiff]
      refine rn_M_addSpan 20 ?_
      simp (disch := omega) only [am_z, cq_M_addSpan, Nat.reduceAdd, Nat.zero_le, Nat.reduceLeDiff, ar_lit, ar_eq, Nat.reduceEqDiff, ↓reduceIte]
      exact k I1 f1.m0 (h.r0 f1) e1
    · rw [e] at k ⊢
      subst ec
      simp only [Option.isSome_some] at k ⊢
      by_cases q : i < j
      · rw [if_pos q] at k
        by_cases q6 : tm s.2.1 = 6
        · rw [if_pos q6] at k
          simp only [am_z, Nat.reduceAdd, Nat.zero_le, Nat.reduceLeDiff]
          refine rn_M_addSpan 20 ?_
          simp (disch := omega) only [am_z, cq_M_addSpan, Nat.reduceAdd, Nat.zero_le, Nat.reduceLeDiff, ar_lit, b01, Bool.false_eq_true, ↓reduceIte, ar_eq, Nat.reduceEqDiff, ar_lt, if_pos q, ar_in, ar_cl, h.p.1.2.2.1, if_pos q6, Nat.reduceLT, am_tt]
          refine s_M_refN (by omega) (by omega) (by omega) (fun I1 f1 e1 => ?_)
          simp only [am_z, Nat.reduceAdd, Nat.zero_le, Nat.reduceLeDiff]
          refine rn_M_addSpan 20 ?_
          simp (disch := omega) only [am_z, cq_M_addSpan, Nat.reduceAdd, Nat.zero_le, Nat.reduceLeDiff, ar_lit, ar_eq, Nat.reduceEqDiff, ↓reduceIte]
          exact k I1 f1.m0 (h.r0 f1) e1
        · rw [if_neg q6] at k
          simp only [am_z, Nat.reduceAdd, Nat.zero_le, Nat.reduceLeDiff]
          refine rn_M_addSpan 20 ?_
          simp (disch := omega) only [am_z, cq_M_addSpan, Nat.reduceAdd, Nat.zero_le, Nat.reduceLeDiff, ar_lit, b01, Bool.false_eq_true, ↓reduceIte, ar_eq, Nat.reduceEqDiff, ar_lt, if_pos q, ar_in, ar_cl, h.p.1.2.2.1, if_neg q6, Nat.reduceLT, am_tt]
          refine s_M_ref0 (by omega) (fun I1 f1 e1 => ?_)
          simp only [am_z, Nat.reduceAdd, Nat.zero_le, Nat.reduceLeDiff]
          refine rn_M_addSpan 20 ?_
          simp (disch := omega) only [am_z, cq_M_addSpan, Nat.reduceAdd, Nat.zero_le, Nat.reduceLeDiff, ar_lit, ↓reduceIte]
          refine s_M_rem (by omega) (h.r0 f1) (fun I2 f2 h2 e2 => ?_)
          have fin : ∀ x, x = c → am_T l d y_M_putSpan [vR (27, 0), vI (nI i), vI (nI j), vI (nI x)] am_G0 I2 J (am_k (am_X l (0, fun _ => 0) (d + 1) y_M_addSpan P) P 76 [some (vR (9, 0)), some (vI (nI i)), some (vI (nI j)), some (vI (nI c))] [] 0 0) := by
            intro x hx
            subst hx
            refine s_M_putSpan (by omega) isU_27 h2.p h2.w (by show tm s.2.1 < 6; omega) (fun I3 f3 r3 => ?_)
            have h3 := h2.tab f3 r3 (tputS_w h.w (by omega) ⟨q, hj, hc⟩)
            simp only [am_z, Nat.reduceAdd, Nat.zero_le, Nat.reduceLeDiff]
            refine rn_M_addSpan 20 ?_
            simp (disch := omega) only [am_z, cq_M_addSpan, Nat.reduceAdd, Nat.zero_le, Nat.reduceLeDiff, ar_lit, ar_in, ar_cl, r3.1.2.2.1, tm_put, Nat.reduceLT, am_tt]
            rw [ar_sub (by show 1 ≤ tm (tact s s.2.1).2.1 + 1; omega)]
            exact k I3 ((f1.m0.tr f2).tr f3.m27) h3 (f3.z27.trans (e2.trans e1))
          rcases (show c = 0 ∨ c = 1 by omega) with rfl | rfl
          · simp only [am_z, Nat.reduceAdd, Nat.zero_le, Nat.reduceLeDiff]
            refine rn_M_addSpan 20 ?_
            simp (disch := omega) only [am_z, cq_M_addSpan, Nat.reduceAdd, Nat.zero_le, Nat.reduceLeDiff, ar_lit, ar_eq, Nat.reduceEqDiff, ↓reduceIte]
            exact fin 0 rfl
          · simp only [am_z, Nat.reduceAdd, Nat.zero_le, Nat.reduceLeDiff]
            refine rn_M_addSpan 20 ?_
            simp (disch := omega) only [am_z, cq_M_addSpan, Nat.reduceAdd, Nat.zero_le, Nat.reduceLeDiff, ar_lit, ar_eq, Nat.reduceEqDiff, ↓reduceIte]
            exact fin 1 rfl
      · rw [if_neg q] at k
        simp only [am_z, Nat.reduceAdd, Nat.zero_le, Nat.reduceLeDiff]
        refine rn_M_addSpan 20 ?_
        simp (disch := omega) only [am_z, cq_M_addSpan, Nat.reduceAdd, Nat.zero_le, Nat.reduceLeDiff, ar_lit, b01, Bool.false_eq_true, ↓reduceIte, ar_eq, Nat.reduceEqDiff, ar_lt, if_neg q]
        refine s_M_refN (by omega) (by omega) (by omega) (fun I1 f1 e1 => ?_)
        simp only [am_z, Nat.reduceAdd, Nat.zero_le, Nat.reduceLeDiff]
        refine rn_M_addSpan 20 ?_
        simp (disch := omega) only [am_z, cq_M_addSpan, Nat.reduceAdd, Nat.zero_le, Nat.reduceLeDiff, ar_lit, ar_eq, Nat.reduceEqDiff, ↓reduceIte]
        exact k I1 f1.m0 (h.r0 f1) e1
theorem s_M_removeSpan {r : Int32} (hD : 9 ≤ D) (h : sm I s) (k : mk P J I (q_removeSpan s r)) : am_T l D y_M_removeSpan [vR (9, 0), vI r] am_G0 I J P := by
  obtain ⟨d, rfl⟩ : ∃ d, D = d + 1 := ⟨D - 1, by omega⟩
  have hn := h.w.2.2.2.2.1
  have h6 := h.w.2.2.2.2.2.1
  unfold q_removeSpan at k
  refine en_M_removeSpan 20 (Nat.le_of_ble_eq_true rfl) ?_
  simp (disch := omega) only [am_z, cq_M_removeSpan, Nat.reduceAdd, Nat.zero_le, Nat.reduceLeDiff, ar_lit]
  refine s_M_isSpan (by omega) h.p h.w ?_
  rcases tix_c (tm s.2.1) r (by omega) with ⟨e, hs⟩ | ⟨i, hi, er, e⟩
  · rw [e] at k ⊢
    simp only [Option.isSome_none]
    simp only [am_z, Nat.reduceAdd, Nat.zero_le, Nat.reduceLeDiff]
    refine rn_M_removeSpan 20 ?_
    simp (disch := omega) only [am_z, cq_M_removeSpan, Nat.reduceAdd, Nat.zero_le, Nat.reduceLeDiff, ar_lit, b01, Bool.false_eq_true, ↓reduceIte]
    refine s_M_refN (by omega) (by omega) (by omega) (fun I1 f1 e1 => ?_)
    simp only [am_z, Nat.reduceAdd, Nat.zero_le, Nat.reduceLeDiff]
    refine rn_M_removeSpan 20 ?_
    simp (disch := omega) only [am_z, cq_M_removeSpan, Nat.reduceAdd, Nat.zero_le, Nat.reduceLeDiff, ar_lit, ar_eq, Nat.reduceEqDiff, ↓reduceIte]
    exact k I1 f1.m0 (h.r0 f1) e1
  · rw [e] at k ⊢
    subst er
    simp only [Option.isSome_some]
    simp only [am_z, Nat.reduceAdd, Nat.zero_le, Nat.reduceLeDiff]
    refine rn_M_removeSpan 20 ?_
    simp (disch := omega) only [am_z, cq_M_removeSpan, Nat.reduceAdd, Nat.zero_le, Nat.reduceLeDiff, ar_lit, b01, Bool.false_eq_true, ↓reduceIte, ar_eq, Nat.reduceEqDiff]
    refine s_M_ref0 (by omega) (fun I1 f1 e1 => ?_)
    simp only [am_z, Nat.reduceAdd, Nat.zero_le, Nat.reduceLeDiff]
    refine rn_M_removeSpan 20 ?_
    simp (disch := omega) only [am_z, cq_M_removeSpan, Nat.reduceAdd, Nat.zero_le, Nat.reduceLeDiff, ar_lit, ↓reduceIte]
    refine s_M_rem (by omega) (h.r0 f1) (fun I2 f2 h2 e2 => ?_)
    simp only [am_z, Nat.reduceAdd, Nat.zero_le, Nat.reduceLeDiff]
    refine rn_M_removeSpan 20 ?_
    simp (disch := omega) only [am_z, cq_M_removeSpan, Nat.reduceAdd, Nat.zero_le, Nat.reduceLeDiff, ar_lit]
    refine s_M_dropSpan (by omega) isU_27 h2.p hn h6 hi (fun I3 f3 r3 => ?_)
    have h3 := h2.tab f3 r3 (tdropS_w h.w hi)
    simp only [am_z, Nat.reduceAdd, Nat.zero_le, Nat.reduceLeDiff]
    refine rn_M_removeSpan 20 ?_
    simp (disch := omega) only [am_z, cq_M_removeSpan, Nat.reduceAdd, Nat.zero_le, Nat.reduceLeDiff, ar_lit]
    refine s_M_lay (by omega) isU_27 h3.p h3.w (fun I4 f4 l4 => ?_)
    simp only [am_z, Nat.reduceAdd, Nat.zero_le, Nat.reduceLeDiff]
    refine rn_M_removeSpan 20 ?_
    simp (disch := omega) only [am_z, cq_M_removeSpan, Nat.reduceAdd, Nat.zero_le, Nat.reduceLeDiff, ar_lit]
    exact k I4 (((f1.m0.tr f2).tr f3.m27).tr f4.mL) (h3.rL f4) (f4.l0.trans (f3.z27.trans (e2.trans e1)))
theorem q_setHeight_eq (s : pt_G) (a b : Int32) : (tokI a b = false → q_setHeight s a b = ((1, 0), s)) ∧ (tokI a b = true → ∃ i j, i < 8 ∧ j < 41 ∧ a = nI i ∧ b = nI j ∧ tokH i j = true ∧ q_setHeight s a b = ((0, nI (tpg (tsetH s.2.1 i j) (tP (tsetH s.2.1 i j))).length), tact s (tsetH s.2.1 i j))) := by
  unfold tokI q_setHeight
  rcases tix_c 8 a (by omega) with ⟨e, _⟩ | ⟨i, hi, ea, e⟩
  · rw [e]
    exact ⟨fun _ => rfl, fun q => by cases q⟩
  · rw [e]
    simp only
    rcases tix_c 41 b (by omega) with ⟨e2, _⟩ | ⟨j, hj, eb, e2⟩
    · rw [e2]
      exact ⟨fun _ => rfl, fun q => by cases q⟩
    · rw [e2]
      simp only
      refine ⟨fun q => by rw [if_neg (by rw [q]; simp)], fun q => ⟨i, j, hi, hj, ea, eb, q, by rw [if_pos q]⟩⟩
theorem s_M_setHeight {a b : Int32} (hD : 9 ≤ D) (h : sm I s) (k : mk P J I (q_setHeight s a b)) : am_T l D y_M_setHeight [vR (9, 0), vI a, vI b] am_G0 I J P := by
  obtain ⟨d, rfl⟩ : ∃ d, D = d + 1 := ⟨D - 1, by omega⟩
  obtain ⟨z0, z1⟩ := q_setHeight_eq s a b
  refine en_M_setHeight 20 (Nat.le_of_ble_eq_true rfl) ?_
  simp (disch := omega) only [am_z, cq_M_setHeight, Nat.reduceAdd, Nat.zero_le, Nat.reduceLeDiff, ar_lit]
  refine s_M_isHeight (by omega) ?_
  cases ht : tokI a b
  · rw [z0 ht] at k
    simp only [am_z, Nat.reduceAdd, Nat.zero_le, Nat.reduceLeDiff]
    refine rn_M_setHeight 20 ?_
    simp (disch := omega) only [am_z, cq_M_setHeight, Nat.reduceAdd, Nat.zero_le, Nat.reduceLeDiff, ar_lit, b01, Bool.false_eq_true, ↓reduceIte]
    refine s_M_refN (by omega) (by omega) (by omega) (fun I1 f1 e1 => ?_)
    simp only [am_z, Nat.reduceAdd, Nat.zero_le, Nat.reduceLeDiff]
    refine rn_M_setHeight 20 ?_
    simp (disch := omega) only [am_z, cq_M_setHeight, Nat.reduceAdd, Nat.zero_le, Nat.reduceLeDiff, ar_lit, ar_eq, Nat.reduceEqDiff, ↓reduceIte]
    exact k I1 f1.m0 (h.r0 f1) e1
  · obtain ⟨i, j, hi, hj, ea, eb, hh, eq⟩ := z1 ht
    rw [eq] at k
    subst ea
    subst eb
    simp only [am_z, Nat.reduceAdd, Nat.zero_le, Nat.reduceLeDiff]
    refine rn_M_setHeight 20 ?_
    simp (disch := omega) only [am_z, cq_M_setHeight, Nat.reduceAdd, Nat.zero_le, Nat.reduceLeDiff, ar_lit, b01, Bool.false_eq_true, ↓reduceIte, ar_eq, Nat.reduceEqDiff]
    refine s_M_ref0 (by omega) (fun I1 f1 e1 => ?_)
    simp only [am_z, Nat.reduceAdd, Nat.zero_le, Nat.reduceLeDiff]
    refine rn_M_setHeight 20 ?_
    simp (disch := omega) only [am_z, cq_M_setHeight, Nat.reduceAdd, Nat.zero_le, Nat.reduceLeDiff, ar_lit, ↓reduceIte]
    refine s_M_rem (by omega) (h.r0 f1) (fun I2 f2 h2 e2 => ?_)
    have h3 := h2.tab (q := tsetH s.2.1 i j) (fM.up27 (k := 3 + i) (x := nI j)) (by rw [am_uE]; exact h2.p.setH h2.w hi) (tsetH_w h.w hh)
    simp only [am_z, Nat.reduceAdd, Nat.zero_le, Nat.reduceLeDiff]
    refine rn_M_setHeight 20 ?_
    simp (disch := omega) only [am_z, cq_M_setHeight, Nat.reduceAdd, Nat.zero_le, Nat.reduceLeDiff, ar_lit, ar_in, ar_cl, nI_add]
    refine ⟨by omega, ?_⟩
    refine s_M_lay (by omega) isU_27 h3.p h3.w (fun I4 f4 l4 => ?_)
    simp only [am_z, Nat.reduceAdd, Nat.zero_le, Nat.reduceLeDiff]
    refine rn_M_setHeight 20 ?_
    simp (disch := omega) only [am_z, cq_M_setHeight, Nat.reduceAdd, Nat.zero_le, Nat.reduceLeDiff, ar_lit]
    exact k I4 (((f1.m0.tr f2).tr fM.up27.m27).tr f4.mL) (h3.rL f4) (f4.l0.trans (fM.up27.z27.trans (e2.trans e1)))
theorem s_M_undo (hD : 9 ≤ D) (h : sm I s) (k : mk P J I (q_undo s)) : am_T l D y_M_undo [vR (9, 0)] am_G0 I J P := by
  obtain ⟨d, rfl⟩ : ∃ d, D = d + 1 := ⟨D - 1, by omega⟩
  obtain ⟨ss, p, L, z⟩ := s
  unfold q_undo at k
  have y1 : I (9, 0) 9 = nI L.length := h.2.2.2.1.1
  have y2 : L.length ≤ 14 := h.2.2.2.1.2.1
  cases L with
  | nil =>
    refine en_M_undo 20 (Nat.le_of_ble_eq_true rfl) ?_
    simp (disch := omega) only [am_z, cq_M_undo, Nat.reduceAdd, Nat.zero_le, Nat.reduceLeDiff, ar_lit, y1, List.length_nil, ↓reduceIte]
    refine s_M_refN (by omega) (by omega) (by omega) (fun I1 f1 e1 => ?_)
    simp only [am_z, Nat.reduceAdd, Nat.zero_le, Nat.reduceLeDiff]
    refine rn_M_undo 20 ?_
    simp (disch := omega) only [am_z, cq_M_undo, Nat.reduceAdd, Nat.zero_le, Nat.reduceLeDiff, ar_lit, ar_eq, Nat.reduceEqDiff, ↓reduceIte]
    exact k I1 f1.m0 (h.r0 f1) e1
  | cons q L =>
    rw [List.length_cons] at y1 y2
    refine en_M_undo 20 (Nat.le_of_ble_eq_true rfl) ?_
    simp (disch := omega) only [am_z, cq_M_undo, Nat.reduceAdd, Nat.zero_le, Nat.reduceLeDiff, ar_lit, y1, ar_eq, Nat.succ_ne_zero, ↓reduceIte]
    refine s_M_ref0 (by omega) (fun I1 f1 e1 => ?_)
    have h1 := h.r0 f1
    have y1 : I1 (9, 0) 9 = nI (L.length + 1) := h1.2.2.2.1.1
    have y3 := h1.2.2.2.1.2.2
    simp only [am_z, Nat.reduceAdd, Nat.zero_le, Nat.reduceLeDiff]
    refine rn_M_undo 40 ?_
    simp (disch := omega) only [am_z, cq_M_undo, Nat.reduceAdd, Nat.zero_le, Nat.reduceLeDiff, ar_lit, ↓reduceIte, y1, ar_sub, am_uE, am_uS, upd_n, upd_e, pk_mul, Nat.add_sub_cancel]
    refine s_M_copy (a := (29, 0)) (b := (27, 0)) (fa := 197 * L.length) (tb := 0) (n := 197) (by omega) ⟨rfl, by show 197 * L.length + 197 ≤ 2758; omega⟩ ⟨rfl, by decide⟩ ⟨by decide, by decide⟩ (Or.inl (by simp)) ?_
    simp only [am_z, Nat.reduceAdd, Nat.zero_le, Nat.reduceLeDiff]
    refine rn_M_undo 40 ?_
    simp (disch := omega) only [am_z, cq_M_undo, Nat.reduceAdd, Nat.zero_le, Nat.reduceLeDiff, ar_lit, am_cqS, am_uE, am_uS, upd_n, upd_e]
    have ff : fM [27] [9] I1 (am_cq (am_upI I1 (9, 0) 9 (nI L.length)) (29, 0) (27, 0) (197 * L.length) 0 197) := (fM.rf.up (Or.inr ⟨rfl, by simp⟩)).cq (by simp)
    obtain ⟨g1, g2⟩ := y3 0 (by simp)
    refine k _ (f1.m0.tr (ff.toM (by simp))) ⟨h1.1.fM ff (by simp) (by simp), ?_, g2, ⟨?_, by show L.length ≤ 14; omega, fun i hi => ?_⟩, h1.2.2.2.2.fM ff (by simp)⟩ ?_
    · refine g1.ext g2 (fun j hj => ?_)
      rw [am_cq_at, if_pos (by omega), am_uS _ _ _ _ _ (by omega)]
      simp only [List.length_cons]
      congr 1
    · rw [am_cqS _ _ _ _ _ (by omega), am_uE, upd_e]
    · have hi : i < L.length := hi
      obtain ⟨z1, z2⟩ := y3 (i + 1) (by rw [List.length_cons]; omega)
      rw [ff.at (by simp) (by omega)]
      rw [List.length_cons, show L.length + 1 - 1 - (i + 1) = L.length - 1 - i by omega] at z1
      exact ⟨z1, z2⟩
    · rw [ff.f9 (by simp) (by simp)]
      exact e1
theorem s_M_save {a : Int32} (hD : 9 ≤ D) (h : sm I s) (k : mk P J I (q_save s a)) : am_T l D y_M_save [vR (9, 0), vI a] am_G0 I J P := by
  obtain ⟨d, rfl⟩ : ∃ d, D = d + 1 := ⟨D - 1, by omega⟩
  unfold q_save at k
  refine en_M_save 20 (Nat.le_of_ble_eq_true rfl) ?_
  simp (disch := omega) only [am_z, cq_M_save, Nat.reduceAdd, Nat.zero_le, Nat.reduceLeDiff, ar_lit, lc_z.1]
  refine s_M_inT (n := 2) (by omega) (by decide +kernel) ?_
  rcases tix_c 2 a (by omega) with ⟨e, hs⟩ | ⟨i, hi, er, e⟩
  · rw [e] at k ⊢
    simp only [Option.isSome_none]
    simp only [am_z, Nat.reduceAdd, Nat.zero_le, Nat.reduceLeDiff]
    refine rn_M_save 20 ?_
    simp (disch := omega) only [am_z, cq_M_save, Nat.reduceAdd, Nat.zero_le, Nat.reduceLeDiff, ar_lit, b01, Bool.false_eq_true, ↓reduceIte]
    refine s_M_refN (by omega) (by omega) (by omega) (fun I1 f1 e1 => ?_)
    simp only [am_z, Nat.reduceAdd, Nat.zero_le, Nat.reduceLeDiff]
    refine rn_M_save 20 ?_
    simp (disch := omega) only [am_z, cq_M_save, Nat.reduceAdd, Nat.zero_le, Nat.reduceLeDiff, ar_lit, ar_eq, Nat.reduceEqDiff, ↓reduceIte]
    exact k I1 f1.m0 (h.r0 f1) e1
  · rw [e] at k ⊢
    subst er
    simp only [Option.isSome_some]
    simp only [am_z, Nat.reduceAdd, Nat.zero_le, Nat.reduceLeDiff]
    refine rn_M_save 20 ?_
    simp (disch := omega) only [am_z, cq_M_save, Nat.reduceAdd, Nat.zero_le, Nat.reduceLeDiff, ar_lit, b01, Bool.false_eq_true, ↓reduceIte, ar_eq, Nat.reduceEqDiff]
    refine s_M_ref0 (by omega) (fun I1 f1 e1 => ?_)
    have h1 := h.r0 f1
    simp only [am_z, Nat.reduceAdd, Nat.zero_le, Nat.reduceLeDiff]
    refine rn_M_save 20 ?_
    simp (disch := omega) only [am_z, cq_M_save, Nat.reduceAdd, Nat.zero_le, Nat.reduceLeDiff, ar_lit, ↓reduceIte, pk_mul]
    refine s_M_copy (a := (27, 0)) (b := (30, 0)) (fa := 0) (tb := 197 * i) (n := 197) (by omega) ⟨rfl, by decide⟩ ⟨rfl, by show 197 * i + 197 ≤ 394; omega⟩ ⟨by decide, by decide⟩ (Or.inl (by simp)) ?_
    simp only [am_z, Nat.reduceAdd, Nat.zero_le, Nat.reduceLeDiff]
    refine rn_M_save 40 ?_
    simp (disch := omega) only [am_z, cq_M_save, Nat.reduceAdd, Nat.zero_le, Nat.reduceLeDiff, ar_lit, ar_in, ar_cl, am_cqS, am_uE, am_uS, upd_n, upd_e, h1.p.1.2.1, nar_b, Nat.reduceLT, am_tt]
    refine ⟨hi, ?_⟩
    have ff : fM [30, 31] [] I1 (am_upI (am_cq I1 (27, 0) (30, 0) 0 (197 * i) 197) (31, 0) i (nI 1)) := (fM.rf.cq (by simp)).up (Or.inl (by simp))
    refine k _ (f1.m0.tr (ff.toM (by simp))) ⟨h1.1.fM ff (by simp) (by simp), h1.2.1.fM ff (by simp) (by omega), h1.w, h1.2.2.2.1.fM ff (by simp) (by simp), fun j hj => ?_⟩ ?_
    · obtain ⟨z1, z2⟩ := h1.2.2.2.2 j hj
      rw [am_uE, upd_at, am_uS _ _ _ _ _ (by omega), am_cqS _ _ _ _ _ (by omega)]
      show _ = nI (b01 (if j = i then some s.2.1 else s.2.2.2 j).isSome) ∧ ∀ q, (if j = i then some s.2.1 else s.2.2.2 j) = some q → _
      by_cases q : j = i
      · subst q
        simp only [↓reduceIte]
        refine ⟨rfl, fun q hq => ?_⟩
        cases hq
        refine ⟨h1.p.ext h1.w (fun m hm => ?_), h1.w⟩
        rw [am_cq_at, if_pos (by omega)]
        congr 1
        omega
      · simp only [if_neg q]
        refine ⟨z1, fun q' hq => ?_⟩
        obtain ⟨g1, g2⟩ := z2 q' hq
        refine ⟨g1.ext g2 (fun m hm => ?_), g2⟩
        rw [am_cq_at, if_neg (by omega)]
    · rw [ff.f9 (by simp) (by simp)]
      exact e1
theorem s_M_restore {a : Int32} (hD : 9 ≤ D) (h : sm I s) (k : mk P J I (q_restore s a)) : am_T l D y_M_restore [vR (9, 0), vI a] am_G0 I J P := by
  obtain ⟨d, rfl⟩ : ∃ d, D = d + 1 := ⟨D - 1, by omega⟩
  unfold q_restore at k
  refine en_M_restore 20 (Nat.le_of_ble_eq_true rfl) ?_
  simp (disch := omega) only [am_z, cq_M_restore, Nat.reduceAdd, Nat.zero_le, Nat.reduceLeDiff, ar_lit, lc_z.1]
  refine s_M_inT (n := 2) (by omega) (by decide +kernel) ?_
  rcases tix_c 2 a (by omega) with ⟨e, hs⟩ | ⟨i, hi, er, e⟩
  · rw [e] at k ⊢
    simp only [Option.isSome_none]
    simp only [am_z, Nat.reduceAdd, Nat.zero_le, Nat.reduceLeDiff]
    refine rn_M_restore 20 ?_
    simp (disch := omega) only [am_z, cq_M_restore, Nat.reduceAdd, Nat.zero_le, Nat.reduceLeDiff, ar_lit, b01, Bool.false_eq_true, ↓reduceIte]
    refine s_M_refN (by omega) (by omega) (by omega) (fun I1 f1 e1 => ?_)
    simp only [am_z, Nat.reduceAdd, Nat.zero_le, Nat.reduceLeDiff]
    refine rn_M_restore 20 ?_
    simp (disch := omega) only [am_z, cq_M_restore, Nat.reduceAdd, Nat.zero_le, Nat.reduceLeDiff, ar_lit, ar_eq, Nat.reduceEqDiff, ↓reduceIte]
    exact k I1 f1.m0 (h.r0 f1) e1
  · rw [e] at k ⊢
    subst er
    simp only [Option.isSome_some] at k ⊢
    obtain ⟨z1, z2⟩ := h.2.2.2.2 i hi
    cases ez : s.2.2.2 i with
    | none =>
      rw [ez] at k z1
      simp only [am_z, Nat.reduceAdd, Nat.zero_le, Nat.reduceLeDiff]
      refine rn_M_restore 20 ?_
      simp (disch := omega) only [am_z, cq_M_restore, Nat.reduceAdd, Nat.zero_le, Nat.reduceLeDiff, ar_lit, b01, Bool.false_eq_true, ↓reduceIte, ar_eq, Nat.reduceEqDiff, ar_in, ar_cl, z1, Option.isSome_none]
      refine ⟨hi, ?_⟩
      refine s_M_refN (by omega) (by omega) (by omega) (fun I1 f1 e1 => ?_)
      simp only [am_z, Nat.reduceAdd, Nat.zero_le, Nat.reduceLeDiff]
      refine rn_M_restore 20 ?_
      simp (disch := omega) only [am_z, cq_M_restore, Nat.reduceAdd, Nat.zero_le, Nat.reduceLeDiff, ar_lit, ar_eq, Nat.reduceEqDiff, ↓reduceIte]
      exact k I1 f1.m0 (h.r0 f1) e1
    | some q =>
      rw [ez] at k z1
      obtain ⟨g1, g2⟩ := z2 q ez
      simp only [am_z, Nat.reduceAdd, Nat.zero_le, Nat.reduceLeDiff]
      refine rn_M_restore 20 ?_
      simp (disch := omega) only [am_z, cq_M_restore, Nat.reduceAdd, Nat.zero_le, Nat.reduceLeDiff, ar_lit, b01, Bool.false_eq_true, ↓reduceIte, ar_eq, Nat.reduceEqDiff, ar_in, ar_cl, z1, Option.isSome_some]
      refine ⟨hi, ?_⟩
      refine s_M_ref0 (by omega) (fun I1 f1 e1 => ?_)
      have h1 := h.r0 f1
      simp only [am_z, Nat.reduceAdd, Nat.zero_le, Nat.reduceLeDiff]
      refine rn_M_restore 20 ?_
      simp (disch := omega) only [am_z, cq_M_restore, Nat.reduceAdd, Nat.zero_le, Nat.reduceLeDiff, ar_lit, ↓reduceIte, pk_mul]
      refine s_M_copy (a := (30, 0)) (b := (27, 0)) (fa := 197 * i) (tb := 0) (n := 197) (by omega) ⟨rfl, by show 197 * i + 197 ≤ 394; omega⟩ ⟨rfl, by decide⟩ ⟨by decide, by decide⟩ (Or.inl (by simp)) ?_
      have r2 : rF (am_cq I1 (30, 0) (27, 0) (197 * i) 0 197 (27, 0)) q := g1.ext g2 (fun m hm => by
        rw [am_cq_at, if_pos (by omega), f1.at (s := 30) (by simp) (by omega)]
        congr 1)
      simp only [am_z, Nat.reduceAdd, Nat.zero_le, Nat.reduceLeDiff]
      refine rn_M_restore 40 ?_
      simp (disch := omega) only [am_z, cq_M_restore, Nat.reduceAdd, Nat.zero_le, Nat.reduceLeDiff, ar_lit, ar_in, ar_cl, am_uS, r2.1.2.1, Nat.reduceLT, am_tt]
      have ff : fM [27] [9] I1 (am_upI (am_cq I1 (30, 0) (27, 0) (197 * i) 0 197) (9, 0) 9 (nI 0)) := (fM.rf.cq (by simp)).up (Or.inr ⟨rfl, by simp⟩)
      refine k _ (f1.m0.tr (ff.toM (by simp))) ⟨h1.1.fM ff (by simp) (by simp), ?_, g2, ⟨?_, Nat.zero_le _, fun i hi => absurd hi (Nat.not_lt_zero _)⟩, h1.2.2.2.2.fM ff (by simp)⟩ ?_
      · rw [am_uS _ _ _ _ _ (by omega)]; exact r2
      · rw [am_uE, upd_e]; rfl
      · rw [ff.f9 (by simp) (by simp)]
        exact e1
end RG
