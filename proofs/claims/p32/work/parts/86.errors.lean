/-! ===== the law: calls that must be refused ===== -/
section ER
variable {l : Launch} {D : Nat} {I : am_I} {J : am_J} {P : am_P} {s : pt_G}
theorem s_L_errors (hD : 10 ≤ D) (h : st I s) (k : ∀ I', st I' s → P (.inl (some (vI (nI 1)))) am_G0 I' J) : am_T l D y_L_errors [vR (0, 0)] am_G0 I J P := by
  obtain ⟨d, rfl⟩ : ∃ d, D = d + 1 := ⟨D - 1, by omega⟩
  have hw := h.w
  have hn24 := hw.2.2.2.2.1
  have hm6 := hw.2.2.2.2.2.1
  have hc4 := hw.1
  have hp24 : (tpg s.2.1 (tP s.2.1)).length ≤ 24 := tpg_len
  have b457 : ∀ I kc ks, st I s → kc ≤ 754 → ks ≤ 4524 → am_X l (0, fun _ => 0) (d + 1) y_L_errors P 457 [some (vR (0, 0)), some (vL (nowv s.2.1)), none, some (vI (nI (tC s.2.1))), some (vI (nI (tn s.2.1))), some (vI (nI (tm s.2.1))), some (vI (nI (tpg s.2.1 (tP s.2.1)).length)), some (vI (nI 1))] [] kc ks am_G0 I J := by
    intro I kc ks h hk1 hk2
    refine rn_L_errors 60 ?_
    simp (disch := omega) only [am_z, cq_L_errors, Nat.reduceAdd, Nat.zero_le, Nat.reduceLeDiff, ar_lit, leT, lI_n, tab_e, wxe, lc_eq, ar_sub, ar_eq, ar_lt, Nat.reduceEqDiff, ↓reduceIte]
    refine s_L_removeSpan (by omega) h (fun I1 h => ?_)
    rw [r_remS hw] at h ⊢
    replace h : st I1 s := h
    simp only [am_z, Nat.reduceAdd, Nat.zero_le, Nat.reduceLeDiff]
    refine rn_L_errors 60 ?_
    simp (disch := omega) only [am_z, cq_L_errors, Nat.reduceAdd, Nat.zero_le, Nat.reduceLeDiff, ar_lit, leT, lI_n, tab_e, wxe, lc_eq, ar_sub, ar_eq, ar_lt, Nat.reduceEqDiff, ↓reduceIte]
    refine s_L_setHeight (by omega) h (fun I1 h => ?_)
    rw [r_setH05] at h ⊢
    replace h : st I1 s := h
    simp only [am_z, Nat.reduceAdd, Nat.zero_le, Nat.reduceLeDiff]
    refine rn_L_errors 60 ?_
    simp (disch := omega) only [am_z, cq_L_errors, Nat.reduceAdd, Nat.zero_le, Nat.reduceLeDiff, ar_lit, leT, lI_n, tab_e, wxe, lc_eq, ar_sub, ar_eq, ar_lt, Nat.reduceEqDiff, ↓reduceIte]
    refine s_L_setHeight (by omega) h (fun I1 h => ?_)
    rw [r_setH15] at h ⊢
    replace h : st I1 s := h
    simp only [am_z, Nat.reduceAdd, Nat.zero_le, Nat.reduceLeDiff]
    refine rn_L_errors 60 ?_
    simp (disch := omega) only [am_z, cq_L_errors, Nat.reduceAdd, Nat.zero_le, Nat.reduceLeDiff, ar_lit, leT, lI_n, tab_e, wxe, lc_eq, ar_sub, ar_eq, ar_lt, Nat.reduceEqDiff, ↓reduceIte]
    refine s_L_setHeight (by omega) h (fun I1 h => ?_)
    rw [r_setH70] at h ⊢
    replace h : st I1 s := h
    simp only [am_z, Nat.reduceAdd, Nat.zero_le, Nat.reduceLeDiff]
    refine rn_L_errors 60 ?_
    simp (disch := omega) only [am_z, cq_L_errors, Nat.reduceAdd, Nat.zero_le, Nat.reduceLeDiff, ar_lit, leT, lI_n, tab_e, wxe, lc_eq, ar_sub, ar_eq, ar_lt, Nat.reduceEqDiff, ↓reduceIte]
    refine s_L_setHeight (by omega) h (fun I1 h => ?_)
    rw [r_setH81] at h ⊢
    replace h : st I1 s := h
    simp only [am_z, Nat.reduceAdd, Nat.zero_le, Nat.reduceLeDiff]
    refine rn_L_errors 60 ?_
    simp (disch := omega) only [am_z, cq_L_errors, Nat.reduceAdd, Nat.zero_le, Nat.reduceLeDiff, ar_lit, leT, lI_n, tab_e, wxe, lc_eq, ar_sub, ar_eq, ar_lt, Nat.reduceEqDiff, ↓reduceIte]
    refine s_L_heightFor (by omega) h (fun I1 h => ?_)
    rw [r_height]
    simp only [am_z, Nat.reduceAdd, Nat.zero_le, Nat.reduceLeDiff]
    refine rn_L_errors 60 ?_
    simp (disch := omega) only [am_z, cq_L_errors, Nat.reduceAdd, Nat.zero_le, Nat.reduceLeDiff, ar_lit, leT, lI_n, tab_e, wxe, lc_eq, ar_sub, ar_eq, ar_lt, Nat.reduceEqDiff, ↓reduceIte]
    refine s_L_evenCut (by omega) h (fun I1 h => ?_)
    rw [r_even]
    simp only [am_z, Nat.reduceAdd, Nat.zero_le, Nat.reduceLeDiff]
    refine rn_L_errors 60 ?_
    simp (disch := omega) only [am_z, cq_L_errors, Nat.reduceAdd, Nat.zero_le, Nat.reduceLeDiff, ar_lit, leT, lI_n, tab_e, wxe, lc_eq, ar_sub, ar_eq, ar_lt, Nat.reduceEqDiff, ↓reduceIte]
    refine s_L_emptyFrom (by omega) h (fun I1 h => ?_)
    rw [r_empty hw]
    simp only [am_z, Nat.reduceAdd, Nat.zero_le, Nat.reduceLeDiff]
    refine rn_L_errors 60 ?_
    simp (disch := omega) only [am_z, cq_L_errors, Nat.reduceAdd, Nat.zero_le, Nat.reduceLeDiff, ar_lit, leT, lI_n, tab_e, wxe, lc_eq, ar_sub, ar_eq, ar_lt, Nat.reduceEqDiff, ↓reduceIte]
    refine s_L_script (by omega) h (fun I1 h => ?_)
    rw [r_script0]
    simp only [am_z, Nat.reduceAdd, Nat.zero_le, Nat.reduceLeDiff]
    refine rn_L_errors 60 ?_
    simp (disch := omega) only [am_z, cq_L_errors, Nat.reduceAdd, Nat.zero_le, Nat.reduceLeDiff, ar_lit, leT, lI_n, tab_e, wxe, lc_eq, ar_sub, ar_eq, ar_lt, Nat.reduceEqDiff, ↓reduceIte]
    refine s_L_script (by omega) h (fun I1 h => ?_)
    rw [r_script3]
    simp only [am_z, Nat.reduceAdd, Nat.zero_le, Nat.reduceLeDiff]
    refine rn_L_errors 60 ?_
    simp (disch := omega) only [am_z, cq_L_errors, Nat.reduceAdd, Nat.zero_le, Nat.reduceLeDiff, ar_lit, leT, lI_n, tab_e, wxe, lc_eq, ar_sub, ar_eq, ar_lt, Nat.reduceEqDiff, ↓reduceIte]
    refine s_L_simulate (by omega) h (fun I1 h => ?_)
    rw [r_simulate]
    simp only [am_z, Nat.reduceAdd, Nat.zero_le, Nat.reduceLeDiff]
    refine rn_L_errors 60 ?_
    simp (disch := omega) only [am_z, cq_L_errors, Nat.reduceAdd, Nat.zero_le, Nat.reduceLeDiff, ar_lit, leT, lI_n, tab_e, wxe, lc_eq, ar_sub, ar_eq, ar_lt, Nat.reduceEqDiff, ↓reduceIte]
    refine s_L_save (by omega) h (fun I1 h => ?_)
    rw [r_save] at h ⊢
    replace h : st I1 s := h
    simp only [am_z, Nat.reduceAdd, Nat.zero_le, Nat.reduceLeDiff]
    refine rn_L_errors 60 ?_
    simp (disch := omega) only [am_z, cq_L_errors, Nat.reduceAdd, Nat.zero_le, Nat.reduceLeDiff, ar_lit, leT, lI_n, tab_e, wxe, lc_eq, ar_sub, ar_eq, ar_lt, Nat.reduceEqDiff, ↓reduceIte]
    refine s_L_restore (by omega) h (fun I1 h => ?_)
    rw [r_restore] at h ⊢
    replace h : st I1 s := h
    simp only [am_z, Nat.reduceAdd, Nat.zero_le, Nat.reduceLeDiff]
    refine rn_L_errors 60 ?_
    simp (disch := omega) only [am_z, cq_L_errors, Nat.reduceAdd, Nat.zero_le, Nat.reduceLeDiff, ar_lit, leT, lI_n, tab_e, wxe, lc_eq, ar_sub, ar_eq, ar_lt, Nat.reduceEqDiff, ↓reduceIte]
    refine s_L_append (by omega) h (fun I1 h => ?_)
    rw [r_append] at h ⊢
    replace h : st I1 s := h
    simp only [am_z, Nat.reduceAdd, Nat.zero_le, Nat.reduceLeDiff]
    refine rn_L_errors 60 ?_
    simp (disch := omega) only [am_z, cq_L_errors, Nat.reduceAdd, Nat.zero_le, Nat.reduceLeDiff, ar_lit, leT, lI_n, tab_e, wxe, lc_eq, ar_sub, ar_eq, ar_lt, Nat.reduceEqDiff, ↓reduceIte]
    refine s_L_now (by omega) h (fun I1 h => ?_)
    simp only [am_z, Nat.reduceAdd, Nat.zero_le, Nat.reduceLeDiff]
    refine rn_L_errors 60 ?_
    simp (disch := omega) only [am_z, cq_L_errors, Nat.reduceAdd, Nat.zero_le, Nat.reduceLeDiff, ar_lit, leT, lI_n, tab_e, wxe, lc_eq, ar_sub, ar_eq, ar_lt, Nat.reduceEqDiff, ↓reduceIte]
    exact k I1 h
  have b386 : ∀ I kc ks, st I s → kc ≤ 746 → ks ≤ 4476 → am_X l (0, fun _ => 0) (d + 1) y_L_errors P 386 [some (vR (0, 0)), some (vL (nowv s.2.1)), none, some (vI (nI (tC s.2.1))), some (vI (nI (tn s.2.1))), some (vI (nI (tm s.2.1))), some (vI (nI (tpg s.2.1 (tP s.2.1)).length)), some (vI (nI 1))] [] kc ks am_G0 I J := by
    intro I kc ks h hk1 hk2
    refine rn_L_errors 60 ?_
    simp (disch := omega) only [am_z, cq_L_errors, Nat.reduceAdd, Nat.zero_le, Nat.reduceLeDiff, ar_lit, leT, lI_n, tab_e, wxe, lc_eq, ar_sub, ar_eq, ar_lt, Nat.reduceEqDiff, ↓reduceIte]
    refine s_L_keep (by omega) (by omega) h (fun I1 h => ?_)
    rw [r_keep hw] at h ⊢
    replace h : st I1 s := h
    simp only [am_z, Nat.reduceAdd, Nat.zero_le, Nat.reduceLeDiff]
    refine rn_L_errors 60 ?_
    simp (disch := omega) only [am_z, cq_L_errors, Nat.reduceAdd, Nat.zero_le, Nat.reduceLeDiff, ar_lit, leT, lI_n, tab_e, wxe, lc_eq, ar_sub, ar_eq, ar_lt, Nat.reduceEqDiff, ↓reduceIte]
    refine s_L_removeRow (by omega) h (fun I1 h => ?_)
    rw [r_remove] at h ⊢
    replace h : st I1 s := h
    simp only [am_z, Nat.reduceAdd, Nat.zero_le, Nat.reduceLeDiff]
    refine rn_L_errors 60 ?_
    simp (disch := omega) only [am_z, cq_L_errors, Nat.reduceAdd, Nat.zero_le, Nat.reduceLeDiff, ar_lit, leT, lI_n, tab_e, wxe, lc_eq, ar_sub, ar_eq, ar_lt, Nat.reduceEqDiff, ↓reduceIte]
    refine s_L_addSpan (by omega) (by omega) h (fun I1 h => ?_)
    rw [r_addSn hw] at h ⊢
    replace h : st I1 s := h
    simp only [am_z, Nat.reduceAdd, Nat.zero_le, Nat.reduceLeDiff]
    refine rn_L_errors 60 ?_
    simp (disch := omega) only [am_z, cq_L_errors, Nat.reduceAdd, Nat.zero_le, Nat.reduceLeDiff, ar_lit, leT, lI_n, tab_e, wxe, lc_eq, ar_sub, ar_eq, ar_lt, Nat.reduceEqDiff, ↓reduceIte]
    by_cases q6 : tm s.2.1 < 6
    · rw [if_pos q6]; exact b457 _ _ _ h (by omega) (by omega)
    · rw [if_neg q6]
      refine rn_L_errors 60 ?_
      simp (disch := omega) only [am_z, cq_L_errors, Nat.reduceAdd, Nat.zero_le, Nat.reduceLeDiff, ar_lit, leT, lI_n, tab_e, wxe, lc_eq, ar_sub, ar_eq, ar_lt, Nat.reduceEqDiff, ↓reduceIte]
      by_cases q2 : tn s.2.1 < 2
      · rw [if_pos q2]; exact b457 _ _ _ h (by omega) (by omega)
      · rw [if_neg q2]
        have hm6 : tm s.2.1 = 6 := by omega
        have hn2 : 2 ≤ tn s.2.1 := by omega
        refine rn_L_errors 60 ?_
        simp (disch := omega) only [am_z, cq_L_errors, Nat.reduceAdd, Nat.zero_le, Nat.reduceLeDiff, ar_lit, leT, lI_n, tab_e, wxe, lc_eq, ar_sub, ar_eq, ar_lt, Nat.reduceEqDiff, ↓reduceIte]
        refine s_L_addSpan (by omega) (by omega) h (fun I1 h => ?_)
        rw [r_addS6 hn2 hm6 hw] at h ⊢
        replace h : st I1 s := h
        simp only [am_z, Nat.reduceAdd, Nat.zero_le, Nat.reduceLeDiff]
        refine rn_L_errors 60 ?_
        simp (disch := omega) only [am_z, cq_L_errors, Nat.reduceAdd, Nat.zero_le, Nat.reduceLeDiff, ar_lit, leT, lI_n, tab_e, wxe, lc_eq, ar_sub, ar_eq, ar_lt, Nat.reduceEqDiff, ↓reduceIte]
        exact b457 _ _ _ h (by omega) (by omega)
  have b319 : ∀ I kc ks, st I s → kc ≤ 734 → ks ≤ 4404 → am_X l (0, fun _ => 0) (d + 1) y_L_errors P 319 [some (vR (0, 0)), some (vL (nowv s.2.1)), none, some (vI (nI (tC s.2.1))), some (vI (nI (tn s.2.1))), some (vI (nI (tm s.2.1))), some (vI (nI (tpg s.2.1 (tP s.2.1)).length)), some (vI (nI 1))] [] kc ks am_G0 I J := by
    intro I kc ks h hk1 hk2
    refine rn_L_errors 60 ?_
    simp (disch := omega) only [am_z, cq_L_errors, Nat.reduceAdd, Nat.zero_le, Nat.reduceLeDiff, ar_lit, leT, lI_n, tab_e, wxe, lc_eq, ar_sub, ar_eq, ar_lt, Nat.reduceEqDiff, ↓reduceIte]
    refine s_L_setAmount (by omega) h (fun I1 h => ?_)
    rw [r_setAn hw] at h ⊢
    replace h : st I1 s := h
    simp only [am_z, Nat.reduceAdd, Nat.zero_le, Nat.reduceLeDiff]
    refine rn_L_errors 60 ?_
    simp (disch := omega) only [am_z, cq_L_errors, Nat.reduceAdd, Nat.zero_le, Nat.reduceLeDiff, ar_lit, leT, lI_n, tab_e, wxe, lc_eq, ar_sub, ar_eq, ar_lt, Nat.reduceEqDiff, ↓reduceIte]
    by_cases q0 : tn s.2.1 = 0
    · rw [if_pos q0]; exact b386 _ _ _ h (by omega) (by omega)
    · rw [if_neg q0]
      have hn : 0 < tn s.2.1 := by omega
      refine rn_L_errors 60 ?_
      simp (disch := omega) only [am_z, cq_L_errors, Nat.reduceAdd, Nat.zero_le, Nat.reduceLeDiff, ar_lit, leT, lI_n, tab_e, wxe, lc_eq, ar_sub, ar_eq, ar_lt, Nat.reduceEqDiff, ↓reduceIte]
      refine s_L_setAmount (by omega) h (fun I1 h => ?_)
      rw [r_setAv hn hw] at h ⊢
      replace h : st I1 s := h
      simp only [am_z, Nat.reduceAdd, Nat.zero_le, Nat.reduceLeDiff]
      refine rn_L_errors 60 ?_
      simp (disch := omega) only [am_z, cq_L_errors, Nat.reduceAdd, Nat.zero_le, Nat.reduceLeDiff, ar_lit, leT, lI_n, tab_e, wxe, lc_eq, ar_sub, ar_eq, ar_lt, Nat.reduceEqDiff, ↓reduceIte]
      refine s_L_setAmount (by omega) h (fun I1 h => ?_)
      rw [r_setAm hn hw] at h ⊢
      replace h : st I1 s := h
      simp only [am_z, Nat.reduceAdd, Nat.zero_le, Nat.reduceLeDiff]
      refine rn_L_errors 60 ?_
      simp (disch := omega) only [am_z, cq_L_errors, Nat.reduceAdd, Nat.zero_le, Nat.reduceLeDiff, ar_lit, leT, lI_n, tab_e, wxe, lc_eq, ar_sub, ar_eq, ar_lt, Nat.reduceEqDiff, ↓reduceIte]
      refine s_L_addSpan (by omega) (by omega) h (fun I1 h => ?_)
      rw [r_addSe hn hw] at h ⊢
      replace h : st I1 s := h
      simp only [am_z, Nat.reduceAdd, Nat.zero_le, Nat.reduceLeDiff]
      refine rn_L_errors 60 ?_
      simp (disch := omega) only [am_z, cq_L_errors, Nat.reduceAdd, Nat.zero_le, Nat.reduceLeDiff, ar_lit, leT, lI_n, tab_e, wxe, lc_eq, ar_sub, ar_eq, ar_lt, Nat.reduceEqDiff, ↓reduceIte]
      exact b386 _ _ _ h (by omega) (by omega)
  have b181 : ∀ I kc ks, st I s → kc ≤ 722 → ks ≤ 4332 → am_X l (0, fun _ => 0) (d + 1) y_L_errors P 181 [some (vR (0, 0)), some (vL (nowv s.2.1)), none, some (vI (nI (tC s.2.1))), some (vI (nI (tn s.2.1))), some (vI (nI (tm s.2.1))), some (vI (nI (tpg s.2.1 (tP s.2.1)).length)), none] [] kc ks am_G0 I J := by
    intro I kc ks h hk1 hk2
    refine rn_L_errors 60 ?_
    simp (disch := omega) only [am_z, cq_L_errors, Nat.reduceAdd, Nat.zero_le, Nat.reduceLeDiff, ar_lit, leT, lI_n, tab_e, wxe, lc_eq, ar_sub, ar_eq, ar_lt, Nat.reduceEqDiff, ↓reduceIte]
    refine s_L_note (by omega) h (fun I1 h => ?_)
    rw [r_note0]
    simp only [am_z, Nat.reduceAdd, Nat.zero_le, Nat.reduceLeDiff]
    refine rn_L_errors 60 ?_
    simp (disch := omega) only [am_z, cq_L_errors, Nat.reduceAdd, Nat.zero_le, Nat.reduceLeDiff, ar_lit, leT, lI_n, tab_e, wxe, lc_eq, ar_sub, ar_eq, ar_lt, Nat.reduceEqDiff, ↓reduceIte]
    refine s_L_note (by omega) h (fun I1 h => ?_)
    rw [r_note7]
    simp only [am_z, Nat.reduceAdd, Nat.zero_le, Nat.reduceLeDiff]
    refine rn_L_errors 60 ?_
    simp (disch := omega) only [am_z, cq_L_errors, Nat.reduceAdd, Nat.zero_le, Nat.reduceLeDiff, ar_lit, leT, lI_n, tab_e, wxe, lc_eq, ar_sub, ar_eq, ar_lt, Nat.reduceEqDiff, ↓reduceIte]
    refine s_L_page (by omega) h (fun I1 h => ?_)
    rw [r_page]
    simp only [am_z, Nat.reduceAdd, Nat.zero_le, Nat.reduceLeDiff]
    refine rn_L_errors 60 ?_
    simp (disch := omega) only [am_z, cq_L_errors, Nat.reduceAdd, Nat.zero_le, Nat.reduceLeDiff, ar_lit, leT, lI_n, tab_e, wxe, lc_eq, ar_sub, ar_eq, ar_lt, Nat.reduceEqDiff, ↓reduceIte]
    refine s_L_brought (by omega) h (fun I1 h => ?_)
    rw [r_brought]
    simp only [am_z, Nat.reduceAdd, Nat.zero_le, Nat.reduceLeDiff]
    refine rn_L_errors 60 ?_
    simp (disch := omega) only [am_z, cq_L_errors, Nat.reduceAdd, Nat.zero_le, Nat.reduceLeDiff, ar_lit, leT, lI_n, tab_e, wxe, lc_eq, ar_sub, ar_eq, ar_lt, Nat.reduceEqDiff, ↓reduceIte]
    refine s_L_carried (by omega) h (fun I1 h => ?_)
    rw [r_carried]
    simp only [am_z, Nat.reduceAdd, Nat.zero_le, Nat.reduceLeDiff]
    refine rn_L_errors 60 ?_
    simp (disch := omega) only [am_z, cq_L_errors, Nat.reduceAdd, Nat.zero_le, Nat.reduceLeDiff, ar_lit, leT, lI_n, tab_e, wxe, lc_eq, ar_sub, ar_eq, ar_lt, Nat.reduceEqDiff, ↓reduceIte]
    refine s_L_richest (by omega) h (fun I1 h => ?_)
    rw [r_richest hw]
    simp only [am_z, Nat.reduceAdd, Nat.zero_le, Nat.reduceLeDiff]
    refine rn_L_errors 60 ?_
    simp (disch := omega) only [am_z, cq_L_errors, Nat.reduceAdd, Nat.zero_le, Nat.reduceLeDiff, ar_lit, leT, lI_n, tab_e, wxe, lc_eq, ar_sub, ar_eq, ar_lt, Nat.reduceEqDiff, ↓reduceIte]
    refine s_L_addRow (by omega) h (fun I1 h => ?_)
    rw [r_addRow00] at h ⊢
    replace h : st I1 s := h
    simp only [am_z, Nat.reduceAdd, Nat.zero_le, Nat.reduceLeDiff]
    refine rn_L_errors 60 ?_
    simp (disch := omega) only [am_z, cq_L_errors, Nat.reduceAdd, Nat.zero_le, Nat.reduceLeDiff, ar_lit, leT, lI_n, tab_e, wxe, lc_eq, ar_sub, ar_eq, ar_lt, Nat.reduceEqDiff, ↓reduceIte]
    refine s_L_addRow (by omega) h (fun I1 h => ?_)
    rw [r_addRow17] at h ⊢
    replace h : st I1 s := h
    simp only [am_z, Nat.reduceAdd, Nat.zero_le, Nat.reduceLeDiff]
    refine rn_L_errors 60 ?_
    simp (disch := omega) only [am_z, cq_L_errors, Nat.reduceAdd, Nat.zero_le, Nat.reduceLeDiff, ar_lit, leT, lI_n, tab_e, wxe, lc_eq, ar_sub, ar_eq, ar_lt, Nat.reduceEqDiff, ↓reduceIte]
    by_cases q0 : tn s.2.1 < 24
    · rw [if_pos q0]; exact b319 _ _ _ h (by omega) (by omega)
    · rw [if_neg q0]
      have h24 : tn s.2.1 = 24 := by omega
      refine rn_L_errors 60 ?_
      simp (disch := omega) only [am_z, cq_L_errors, Nat.reduceAdd, Nat.zero_le, Nat.reduceLeDiff, ar_lit, leT, lI_n, tab_e, wxe, lc_eq, ar_sub, ar_eq, ar_lt, Nat.reduceEqDiff, ↓reduceIte]
      refine s_L_addRow (by omega) h (fun I1 h => ?_)
      rw [r_addRow24 h24] at h ⊢
      replace h : st I1 s := h
      simp only [am_z, Nat.reduceAdd, Nat.zero_le, Nat.reduceLeDiff]
      refine rn_L_errors 60 ?_
      simp (disch := omega) only [am_z, cq_L_errors, Nat.reduceAdd, Nat.zero_le, Nat.reduceLeDiff, ar_lit, leT, lI_n, tab_e, wxe, lc_eq, ar_sub, ar_eq, ar_lt, Nat.reduceEqDiff, ↓reduceIte]
      exact b319 _ _ _ h (by omega) (by omega)
  have b134 : ∀ I kc ks, st I s → kc ≤ 716 → ks ≤ 4296 → am_X l (0, fun _ => 0) (d + 1) y_L_errors P 134 [some (vR (0, 0)), some (vL (nowv s.2.1)), none, some (vI (nI (tC s.2.1))), some (vI (nI (tn s.2.1))), some (vI (nI (tm s.2.1))), some (vI (nI (tpg s.2.1 (tP s.2.1)).length)), none] [] kc ks am_G0 I J := by
    intro I kc ks h hk1 hk2
    refine rn_L_errors 60 ?_
    simp (disch := omega) only [am_z, cq_L_errors, Nat.reduceAdd, Nat.zero_le, Nat.reduceLeDiff, ar_lit, leT, lI_n, tab_e, wxe, lc_eq, ar_sub, ar_eq, ar_lt, Nat.reduceEqDiff, ↓reduceIte]
    refine s_L_amount (by omega) h (fun I1 h => ?_)
    rw [r_amountn hw]
    simp only [am_z, Nat.reduceAdd, Nat.zero_le, Nat.reduceLeDiff]
    refine rn_L_errors 60 ?_
    simp (disch := omega) only [am_z, cq_L_errors, Nat.reduceAdd, Nat.zero_le, Nat.reduceLeDiff, ar_lit, leT, lI_n, tab_e, wxe, lc_eq, ar_sub, ar_eq, ar_lt, Nat.reduceEqDiff, ↓reduceIte]
    refine s_L_span (by omega) h (fun I1 h => ?_)
    rw [r_span hw]
    simp only [am_z, Nat.reduceAdd, Nat.zero_le, Nat.reduceLeDiff]
    refine rn_L_errors 60 ?_
    simp (disch := omega) only [am_z, cq_L_errors, Nat.reduceAdd, Nat.zero_le, Nat.reduceLeDiff, ar_lit, leT, lI_n, tab_e, wxe, lc_eq, ar_sub, ar_eq, ar_lt, Nat.reduceEqDiff, ↓reduceIte]
    by_cases q0 : tm s.2.1 = 0
    · rw [if_pos q0]; exact b181 _ _ _ h (by omega) (by omega)
    · rw [if_neg q0]
      have hm : 0 < tm s.2.1 := by omega
      refine rn_L_errors 60 ?_
      simp (disch := omega) only [am_z, cq_L_errors, Nat.reduceAdd, Nat.zero_le, Nat.reduceLeDiff, ar_lit, leT, lI_n, tab_e, wxe, lc_eq, ar_sub, ar_eq, ar_lt, Nat.reduceEqDiff, ↓reduceIte]
      refine s_L_span (by omega) h (fun I1 h => ?_)
      rw [r_span4 hm hw]
      simp only [am_z, Nat.reduceAdd, Nat.zero_le, Nat.reduceLeDiff]
      refine rn_L_errors 60 ?_
      simp (disch := omega) only [am_z, cq_L_errors, Nat.reduceAdd, Nat.zero_le, Nat.reduceLeDiff, ar_lit, leT, lI_n, tab_e, wxe, lc_eq, ar_sub, ar_eq, ar_lt, Nat.reduceEqDiff, ↓reduceIte]
      exact b181 _ _ _ h (by omega) (by omega)
  refine en_L_errors 60 (Nat.le_of_ble_eq_true rfl) ?_
  simp (disch := omega) only [am_z, cq_L_errors, Nat.reduceAdd, Nat.zero_le, Nat.reduceLeDiff, ar_lit, leT]
  refine s_L_now (by omega) h (fun I1 h => ?_)
  simp only [am_z, Nat.reduceAdd, Nat.zero_le, Nat.reduceLeDiff]
  refine rn_L_errors 60 ?_
  simp (disch := omega) only [am_z, cq_L_errors, Nat.reduceAdd, Nat.zero_le, Nat.reduceLeDiff, ar_lit, leT, lI_n, tab_e, wxe, lc_eq, ar_sub, ar_eq, ar_lt, Nat.reduceEqDiff, ↓reduceIte]
  refine s_V_about (by omega) h (by omega) (fun I1 h => ?_)
  simp only [am_z, Nat.reduceAdd, Nat.zero_le, Nat.reduceLeDiff]
  refine rn_L_errors 60 ?_
  simp (disch := omega) only [am_z, cq_L_errors, Nat.reduceAdd, Nat.zero_le, Nat.reduceLeDiff, ar_lit, leT, lI_n, tab_e, wxe, lc_eq, ar_sub, ar_eq, ar_lt, Nat.reduceEqDiff, ↓reduceIte]
  refine s_V_about (by omega) h (by omega) (fun I1 h => ?_)
  simp only [am_z, Nat.reduceAdd, Nat.zero_le, Nat.reduceLeDiff]
  refine rn_L_errors 60 ?_
  simp (disch := omega) only [am_z, cq_L_errors, Nat.reduceAdd, Nat.zero_le, Nat.reduceLeDiff, ar_lit, leT, lI_n, tab_e, wxe, lc_eq, ar_sub, ar_eq, ar_lt, Nat.reduceEqDiff, ↓reduceIte]
  refine s_V_about (by omega) h (by omega) (fun I1 h => ?_)
  simp only [am_z, Nat.reduceAdd, Nat.zero_le, Nat.reduceLeDiff]
  refine rn_L_errors 60 ?_
  simp (disch := omega) only [am_z, cq_L_errors, Nat.reduceAdd, Nat.zero_le, Nat.reduceLeDiff, ar_lit, leT, lI_n, tab_e, wxe, lc_eq, ar_sub, ar_eq, ar_lt, Nat.reduceEqDiff, ↓reduceIte]
  refine s_V_about (by omega) h (by omega) (fun I1 h => ?_)
  simp only [am_z, Nat.reduceAdd, Nat.zero_le, Nat.reduceLeDiff]
  refine rn_L_errors 60 ?_
  simp (disch := omega) only [am_z, cq_L_errors, Nat.reduceAdd, Nat.zero_le, Nat.reduceLeDiff, ar_lit, leT, lI_n, tab_e, wxe, lc_eq, ar_sub, ar_eq, ar_lt, Nat.reduceEqDiff, ↓reduceIte]
  refine s_L_about (by omega) h (fun I1 h => ?_)
  rw [r_about1]
  simp only [am_z, Nat.reduceAdd, Nat.zero_le, Nat.reduceLeDiff]
  refine rn_L_errors 60 ?_
  simp (disch := omega) only [am_z, cq_L_errors, Nat.reduceAdd, Nat.zero_le, Nat.reduceLeDiff, ar_lit, leT, lI_n, tab_e, wxe, lc_eq, ar_sub, ar_eq, ar_lt, Nat.reduceEqDiff, ↓reduceIte]
  refine s_L_about (by omega) h (fun I1 h => ?_)
  rw [r_about8]
  simp only [am_z, Nat.reduceAdd, Nat.zero_le, Nat.reduceLeDiff]
  refine rn_L_errors 60 ?_
  simp (disch := omega) only [am_z, cq_L_errors, Nat.reduceAdd, Nat.zero_le, Nat.reduceLeDiff, ar_lit, leT, lI_n, tab_e, wxe, lc_eq, ar_sub, ar_eq, ar_lt, Nat.reduceEqDiff, ↓reduceIte]
  refine s_L_row (by omega) h (fun I1 h => ?_)
  rw [r_row hw]
  simp only [am_z, Nat.reduceAdd, Nat.zero_le, Nat.reduceLeDiff]
  refine rn_L_errors 60 ?_
  simp (disch := omega) only [am_z, cq_L_errors, Nat.reduceAdd, Nat.zero_le, Nat.reduceLeDiff, ar_lit, leT, lI_n, tab_e, wxe, lc_eq, ar_sub, ar_eq, ar_lt, Nat.reduceEqDiff, ↓reduceIte]
  by_cases q0 : tn s.2.1 = 0
  · rw [if_pos q0]; exact b134 _ _ _ h (by omega) (by omega)
  · rw [if_neg q0]
    have hn : 0 < tn s.2.1 := by omega
    have hl : 0 < (tpg s.2.1 (tP s.2.1)).length := by have := (pg_iff (h := tP s.2.1) hw); omega
    refine rn_L_errors 60 ?_
    simp (disch := omega) only [am_z, cq_L_errors, Nat.reduceAdd, Nat.zero_le, Nat.reduceLeDiff, ar_lit, leT, lI_n, tab_e, wxe, lc_eq, ar_sub, ar_eq, ar_lt, Nat.reduceEqDiff, ↓reduceIte]
    refine s_L_row (by omega) h (fun I1 h => ?_)
    rw [r_row5 hn hw]
    simp only [am_z, Nat.reduceAdd, Nat.zero_le, Nat.reduceLeDiff]
    refine rn_L_errors 60 ?_
    simp (disch := omega) only [am_z, cq_L_errors, Nat.reduceAdd, Nat.zero_le, Nat.reduceLeDiff, ar_lit, leT, lI_n, tab_e, wxe, lc_eq, ar_sub, ar_eq, ar_lt, Nat.reduceEqDiff, ↓reduceIte]
    refine s_L_amount (by omega) h (fun I1 h => ?_)
    rw [r_amountm hn hw]
    simp only [am_z, Nat.reduceAdd, Nat.zero_le, Nat.reduceLeDiff]
    refine rn_L_errors 60 ?_
    simp (disch := omega) only [am_z, cq_L_errors, Nat.reduceAdd, Nat.zero_le, Nat.reduceLeDiff, ar_lit, leT, lI_n, tab_e, wxe, lc_eq, ar_sub, ar_eq, ar_lt, Nat.reduceEqDiff, ↓reduceIte]
    refine s_L_page (by omega) h (fun I1 h => ?_)
    rw [r_page6 hl]
    simp only [am_z, Nat.reduceAdd, Nat.zero_le, Nat.reduceLeDiff]
    refine rn_L_errors 60 ?_
    simp (disch := omega) only [am_z, cq_L_errors, Nat.reduceAdd, Nat.zero_le, Nat.reduceLeDiff, ar_lit, leT, lI_n, tab_e, wxe, lc_eq, ar_sub, ar_eq, ar_lt, Nat.reduceEqDiff, ↓reduceIte]
    refine s_L_brought (by omega) h (fun I1 h => ?_)
    rw [r_broughtm hl hw]
    simp only [am_z, Nat.reduceAdd, Nat.zero_le, Nat.reduceLeDiff]
    refine rn_L_errors 60 ?_
    simp (disch := omega) only [am_z, cq_L_errors, Nat.reduceAdd, Nat.zero_le, Nat.reduceLeDiff, ar_lit, leT, lI_n, tab_e, wxe, lc_eq, ar_sub, ar_eq, ar_lt, Nat.reduceEqDiff, ↓reduceIte]
    exact b134 _ _ _ h (by omega) (by omega)
end ER
