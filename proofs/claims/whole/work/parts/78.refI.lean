/-! ===== the reference: append, clearText, about, row, amount, span, note ===== -/
def mk (P : am_P) (J : am_J) (I : am_I) (r : (Nat × Int32) × pt_G) : Prop := ∀ I', am_fr isM I I' → sm I' r.2 → I' (9, 0) 0 = nI r.1.1 → P (.inl (some (vI r.1.2))) am_G0 I' J
section RG
variable {l : Launch} {D : Nat} {I I' : am_I} {J : am_J} {P : am_P} {s : pt_G}
theorem s_M_ref0 (hD : 1 ≤ D) (k : ∀ I', fM [] [0] I I' → I' (9, 0) 0 = nI 0 → P (.inl (some (vI (nI 0)))) am_G0 I' J) : am_T l D y_M_refused [vR (9, 0), vI (nI 0)] am_G0 I J P :=
  s_M_refused (w := 0) hD (by omega) (fun I' hf e => k I' hf e)
theorem s_M_refN {w : Nat} (hD : 1 ≤ D) (hw : w < 1000) (h0 : 0 < w) (k : ∀ I', fM [] [0] I I' → I' (9, 0) 0 = nI w → P (.inl (some (vI (nI 1)))) am_G0 I' J) : am_T l D y_M_refused [vR (9, 0), vI (nI w)] am_G0 I J P :=
  s_M_refused hD hw (fun I' hf e => by rw [decide_eq_true h0]; exact k I' hf e)
theorem sm.r0 (h : sm I s) (hf : fM [] [0] I I') : sm I' s := h.fr hf (by simp) (by simp)
theorem sm.rL (h : sm I s) (hf : fM [32] [13] I I') : sm I' s := h.fr hf (by simp) (by simp)
theorem fM.m0 (h : fM [] [0] I I') : am_fr isM I I' := h.toM (by simp)
theorem fM.mL (h : fM [32] [13] I I') : am_fr isM I I' := h.toM (by simp)
theorem fM.l0 (h : fM [32] [13] I I') : I' (9, 0) 0 = I (9, 0) 0 := h.f9 (by simp) (by simp)
theorem s_M_append {c : Int32} (hD : 9 ≤ D) (h : sm I s) (k : mk P J I (q_append s c)) : am_T l D y_M_append [vR (9, 0), vI c] am_G0 I J P := by
  obtain ⟨d, rfl⟩ : ∃ d, D = d + 1 := ⟨D - 1, by omega⟩
  unfold q_append at k
  obtain ⟨n1, n2, n3, n4⟩ := h.1
  refine en_M_append 20 (Nat.le_of_ble_eq_true rfl) ?_
  simp (disch := omega) only [am_z, cq_M_append, Nat.reduceAdd, Nat.zero_le, Nat.reduceLeDiff, ar_lit, lc_z.1]
  refine s_M_inT (n := 256) (by omega) (by decide +kernel) ?_
  rcases tix_c 256 c (by omega) with ⟨e, hs⟩ | ⟨i, hi, ec, e⟩
  · rw [e]
    simp only [Option.isSome_none]
    simp only [am_z, Nat.reduceAdd, Nat.zero_le, Nat.reduceLeDiff]
    refine rn_M_append 20 ?_
    simp (disch := omega) only [am_z, cq_M_append, Nat.reduceAdd, Nat.zero_le, Nat.reduceLeDiff, ar_lit, b01, Bool.false_eq_true, ↓reduceIte]
    refine s_M_refN (by omega) (by omega) (by omega) (fun I1 f1 e1 => ?_)
    simp only [am_z, Nat.reduceAdd, Nat.zero_le, Nat.reduceLeDiff]
    refine rn_M_append 20 ?_
    simp (disch := omega) only [am_z, cq_M_append, Nat.reduceAdd, Nat.zero_le, Nat.reduceLeDiff, ar_lit, ar_eq, Nat.reduceEqDiff, ↓reduceIte]
    rw [if_neg (by omega)] at k
    exact k I1 f1.m0 (h.r0 f1) e1
  · rw [e]
    subst ec
    simp only [Option.isSome_some]
    rw [nI_toInt (by omega), if_pos (by omega), Int.toNat_natCast] at k
    by_cases q : s.1.length = 160
    · rw [if_neg (by omega)] at k
      simp only [am_z, Nat.reduceAdd, Nat.zero_le, Nat.reduceLeDiff]
      refine rn_M_append 20 ?_
      simp (disch := omega) only [am_z, cq_M_append, Nat.reduceAdd, Nat.zero_le, Nat.reduceLeDiff, ar_lit, b01, Bool.false_eq_true, ↓reduceIte, ar_eq, Nat.reduceEqDiff, n1, if_pos q]
      refine s_M_refN (by omega) (by omega) (by omega) (fun I1 f1 e1 => ?_)
      simp only [am_z, Nat.reduceAdd, Nat.zero_le, Nat.reduceLeDiff]
      refine rn_M_append 20 ?_
      simp (disch := omega) only [am_z, cq_M_append, Nat.reduceAdd, Nat.zero_le, Nat.reduceLeDiff, ar_lit, ar_eq, Nat.reduceEqDiff, ↓reduceIte]
      exact k I1 f1.m0 (h.r0 f1) e1
    · rw [if_pos (by omega)] at k
      simp only [am_z, Nat.reduceAdd, Nat.zero_le, Nat.reduceLeDiff]
      refine rn_M_append 20 ?_
      simp (disch := omega) only [am_z, cq_M_append, Nat.reduceAdd, Nat.zero_le, Nat.reduceLeDiff, ar_lit, b01, Bool.false_eq_true, ↓reduceIte, ar_eq, Nat.reduceEqDiff, n1, if_neg q]
      refine s_M_ref0 (by omega) (fun I1 f1 e1 => ?_)
      have h1 := h.r0 f1
      obtain ⟨n1, n2, n3, n4⟩ := h1.1
      simp only [am_z, Nat.reduceAdd, Nat.zero_le, Nat.reduceLeDiff]
      refine rn_M_append 40 ?_
      simp (disch := omega) only [am_z, cq_M_append, Nat.reduceAdd, Nat.zero_le, Nat.reduceLeDiff, ar_lit, ↓reduceIte, n1, ar_in, ar_cl, am_uE, am_uS, upd_n, upd_e, nI_add]
      refine ⟨by omega, ?_⟩
      have ff : fM [25] [2] I1 (am_upI (am_upI I1 (25, 0) s.1.length (nI i)) (9, 0) 2 (nI (s.1.length + 1))) := (fM.rf.up (Or.inl (by simp))).up (Or.inr ⟨rfl, by simp⟩)
      refine k _ (f1.m0.tr (ff.toM (by simp))) ⟨⟨?_, fun j hj => ?_, ?_, fun x hx => ?_⟩, h1.2.1.fM ff (by simp) (by omega), h1.2.2.1, h1.2.2.2.1.fM ff (by simp) (by simp), h1.2.2.2.2.fM ff (by simp)⟩ ?_
      · rw [am_uE, upd_e]; simp
      · rw [am_uS _ _ _ _ _ (by omega), am_uE, upd_at, gd_app]
        by_cases q : j = s.1.length
        · rw [if_pos q, if_neg (by omega), if_pos q]
        · have : j < s.1.length := by simp at hj; omega
          rw [if_neg q, if_pos this]
          exact n2 j this
      · simp; omega
      · rcases List.mem_append.mp hx with hx | hx
        · exact n4 x hx
        · rw [List.mem_singleton.mp hx]; exact hi
      · rw [ff.f9 (by simp) (by simp)]
        exact e1
theorem s_M_clearText (hD : 9 ≤ D) (h : sm I s) (k : mk P J I (q_clear s)) : am_T l D y_M_clearText [vR (9, 0)] am_G0 I J P := by
  obtain ⟨d, rfl⟩ : ∃ d, D = d + 1 := ⟨D - 1, by omega⟩
  obtain ⟨n1, n2, n3, n4⟩ := h.1
  refine en_M_clearText 20 (Nat.le_of_ble_eq_true rfl) ?_
  simp (disch := omega) only [am_z, cq_M_clearText, Nat.reduceAdd, Nat.zero_le, Nat.reduceLeDiff, ar_lit, am_uE, am_uS, upd_n, upd_e, n1]
  have ff : fM [] [0, 2] I (am_upI (am_upI I (9, 0) 0 (nI 0)) (9, 0) 2 (nI 0)) := (fM.rf.up (Or.inr ⟨rfl, by simp⟩)).up (Or.inr ⟨rfl, by simp⟩)
  refine k _ (ff.toM (by simp)) ⟨⟨?_, fun j hj => absurd hj (Nat.not_lt_zero _), by simp [q_clear], fun c hc => by cases hc⟩, h.2.1.fM ff (by simp) (by omega), h.2.2.1, h.2.2.2.1.fM ff (by simp) (by simp), h.2.2.2.2.fM ff (by simp)⟩ ?_
  · rw [am_uE, upd_e]; rfl
  · rw [am_uE, upd_n _ _ (by omega), am_uE, upd_e]; rfl
theorem s_M_about {w : Int32} (hD : 9 ≤ D) (h : sm I s) (k : mk P J I (q_about s.2.1 w, s)) : am_T l D y_M_about [vR (9, 0), vI w] am_G0 I J P := by
  obtain ⟨d, rfl⟩ : ∃ d, D = d + 1 := ⟨D - 1, by omega⟩
  unfold q_about at k
  refine en_M_about 20 (Nat.le_of_ble_eq_true rfl) ?_
  simp (disch := omega) only [am_z, cq_M_about, Nat.reduceAdd, Nat.zero_le, Nat.reduceLeDiff, ar_lit, lc_z.1]
  refine s_M_inT (n := 8) (by omega) (by decide +kernel) ?_
  rcases tix_c 8 w (by omega) with ⟨e, hs⟩ | ⟨j, hj, ew, e⟩
  · rw [e] at k ⊢
    simp only [Option.isSome_none]
    simp only [am_z, Nat.reduceAdd, Nat.zero_le, Nat.reduceLeDiff]
    refine rn_M_about 20 ?_
    simp (disch := omega) only [am_z, cq_M_about, Nat.reduceAdd, Nat.zero_le, Nat.reduceLeDiff, ar_lit, b01, Bool.false_eq_true, ↓reduceIte]
    refine s_M_refN (by omega) (by omega) (by omega) (fun I1 f1 e1 => ?_)
    simp only [am_z, Nat.reduceAdd, Nat.zero_le, Nat.reduceLeDiff]
    refine rn_M_about 20 ?_
    simp (disch := omega) only [am_z, cq_M_about, Nat.reduceAdd, Nat.zero_le, Nat.reduceLeDiff, ar_lit, ar_eq, Nat.reduceEqDiff, ↓reduceIte]
    exact k I1 f1.m0 (h.r0 f1) e1
  · rw [e] at k ⊢
    subst ew
    simp only [Option.isSome_some]
    simp only [am_z, Nat.reduceAdd, Nat.zero_le, Nat.reduceLeDiff]
    refine rn_M_about 20 ?_
    simp (disch := omega) only [am_z, cq_M_about, Nat.reduceAdd, Nat.zero_le, Nat.reduceLeDiff, ar_lit, b01, Bool.false_eq_true, ↓reduceIte, ar_eq, Nat.reduceEqDiff]
    refine s_M_ref0 (by omega) (fun I1 f1 e1 => ?_)
    have h1 := h.r0 f1
    simp only [am_z, Nat.reduceAdd, Nat.zero_le, Nat.reduceLeDiff]
    refine rn_M_about 20 ?_
    simp (disch := omega) only [am_z, cq_M_about, Nat.reduceAdd, Nat.zero_le, Nat.reduceLeDiff, ar_lit, ↓reduceIte]
    refine s_M_lay (by omega) isU_27 h1.p h1.w (fun I2 f2 l2 => ?_)
    have h2 := h1.rL f2
    have kk := k I2 (f1.m0.tr f2.mL) h2 (f2.l0.trans e1)
    obtain ⟨⟨p0, p1, p2, p3, p4⟩, _⟩ := h2.p
    rcases (show j = 0 ∨ j = 1 ∨ j = 2 ∨ j = 3 ∨ j = 4 ∨ j = 5 ∨ j = 6 ∨ j = 7 by omega) with rfl | rfl | rfl | rfl | rfl | rfl | rfl | rfl
    · simp only [am_z, Nat.reduceAdd, Nat.zero_le, Nat.reduceLeDiff]
      refine rn_M_about 20 ?_
      simp (disch := omega) only [am_z, cq_M_about, Nat.reduceAdd, Nat.zero_le, Nat.reduceLeDiff, ar_lit, ar_le, ar_in, ar_cl, Nat.reduceLT, am_tt, ↓reduceIte, p0]
      exact kk
    · simp only [am_z, Nat.reduceAdd, Nat.zero_le, Nat.reduceLeDiff]
      refine rn_M_about 20 ?_
      simp (disch := omega) only [am_z, cq_M_about, Nat.reduceAdd, Nat.zero_le, Nat.reduceLeDiff, ar_lit, ar_le, ar_in, ar_cl, Nat.reduceLT, am_tt, ↓reduceIte, p1]
      exact kk
    · simp only [am_z, Nat.reduceAdd, Nat.zero_le, Nat.reduceLeDiff]
      refine rn_M_about 20 ?_
      simp (disch := omega) only [am_z, cq_M_about, Nat.reduceAdd, Nat.zero_le, Nat.reduceLeDiff, ar_lit, ar_le, ar_in, ar_cl, Nat.reduceLT, am_tt, ↓reduceIte, p2]
      exact kk
    · simp only [am_z, Nat.reduceAdd, Nat.zero_le, Nat.reduceLeDiff]
      refine rn_M_about 20 ?_
      simp (disch := omega) only [am_z, cq_M_about, Nat.reduceAdd, Nat.zero_le, Nat.reduceLeDiff, ar_lit, ar_le, ar_in, ar_cl, Nat.reduceLT, am_tt, ↓reduceIte, p3]
      exact kk
    · simp only [am_z, Nat.reduceAdd, Nat.zero_le, Nat.reduceLeDiff]
      refine rn_M_about 20 ?_
      simp (disch := omega) only [am_z, cq_M_about, Nat.reduceAdd, Nat.zero_le, Nat.reduceLeDiff, ar_lit, ar_le, ar_in, ar_cl, Nat.reduceLT, am_tt, ↓reduceIte, p4]
      exact kk
    · simp only [am_z, Nat.reduceAdd, Nat.zero_le, Nat.reduceLeDiff]
      refine rn_M_about 20 ?_
      simp (disch := omega) only [am_z, cq_M_about, Nat.reduceAdd, Nat.zero_le, Nat.reduceLeDiff, ar_lit, ar_le, ar_eq, Nat.reduceEqDiff, ↓reduceIte, l2.1]
      exact kk
    · simp only [am_z, Nat.reduceAdd, Nat.zero_le, Nat.reduceLeDiff]
      refine rn_M_about 20 ?_
      simp (disch := omega) only [am_z, cq_M_about, Nat.reduceAdd, Nat.zero_le, Nat.reduceLeDiff, ar_lit, ar_le, ar_eq, Nat.reduceEqDiff, ↓reduceIte]
      refine s_M_overfull (by omega) isU_27 h2.p h2.w l2 ?_
      simp only [am_z, Nat.reduceAdd, Nat.zero_le, Nat.reduceLeDiff]
      refine rn_M_about 20 ?_
      simp (disch := omega) only [am_z, cq_M_about, Nat.reduceAdd, Nat.zero_le, Nat.reduceLeDiff, ar_lit]
      exact kk
    · simp only [am_z, Nat.reduceAdd, Nat.zero_le, Nat.reduceLeDiff]
      refine rn_M_about 20 ?_
      simp (disch := omega) only [am_z, cq_M_about, Nat.reduceAdd, Nat.zero_le, Nat.reduceLeDiff, ar_lit, ar_le, ar_eq, Nat.reduceEqDiff, ↓reduceIte]
      refine s_M_cutSpans (by omega) h2.p h2.w l2 ?_
      simp only [am_z, Nat.reduceAdd, Nat.zero_le, Nat.reduceLeDiff]
      refine rn_M_about 20 ?_
      simp (disch := omega) only [am_z, cq_M_about, Nat.reduceAdd, Nat.zero_le, Nat.reduceLeDiff, ar_lit]
      exact kk
theorem s_M_row {r w : Int32} (hD : 9 ≤ D) (h : sm I s) (k : mk P J I (q_row s.2.1 r w, s)) : am_T l D y_M_row [vR (9, 0), vI r, vI w] am_G0 I J P := by
  obtain ⟨d, rfl⟩ : ∃ d, D = d + 1 := ⟨D - 1, by omega⟩
  have hn := h.w.2.2.2.2.1
  unfold q_row at k
  refine en_M_row 20 (Nat.le_of_ble_eq_true rfl) ?_
  simp (disch := omega) only [am_z, cq_M_row, Nat.reduceAdd, Nat.zero_le, Nat.reduceLeDiff, ar_lit]
  refine s_M_isRow (by omega) h.p h.w ?_
  rcases tix_c (tn s.2.1) r (by omega) with ⟨e, hs⟩ | ⟨i, hi, er, e⟩
  · rw [e] at k ⊢
    simp only [Option.isSome_none]
    simp only [am_z, Nat.reduceAdd, Nat.zero_le, Nat.reduceLeDiff]
    refine rn_M_row 20 ?_
    simp (disch := omega) only [am_z, cq_M_row, Nat.reduceAdd, Nat.zero_le, Nat.reduceLeDiff, ar_lit, b01, Bool.false_eq_true, ↓reduceIte]
    refine s_M_refN (by omega) (by omega) (by omega) (fun I1 f1 e1 => ?_)
    simp only [am_z, Nat.reduceAdd, Nat.zero_le, Nat.reduceLeDiff]
    refine rn_M_row 20 ?_
    simp (disch := omega) only [am_z, cq_M_row, Nat.reduceAdd, Nat.zero_le, Nat.reduceLeDiff, ar_lit, ar_eq, Nat.reduceEqDiff, ↓reduceIte]
    exact k I1 f1.m0 (h.r0 f1) e1
  · rw [e] at k ⊢
    subst er
    simp only [Option.isSome_some]
    simp only [am_z, Nat.reduceAdd, Nat.zero_le, Nat.reduceLeDiff]
    refine rn_M_row 20 ?_
    simp (disch := omega) only [am_z, cq_M_row, Nat.reduceAdd, Nat.zero_le, Nat.reduceLeDiff, ar_lit, b01, Bool.false_eq_true, ↓reduceIte, ar_eq, Nat.reduceEqDiff, lc_z.1]
    refine s_M_inT (n := 5) (by omega) (by decide +kernel) ?_
    rcases tix_c 5 w (by omega) with ⟨e, hs⟩ | ⟨j, hj, ew, e⟩
    · rw [e] at k ⊢
      simp only [Option.isSome_none]
      simp only [am_z, Nat.reduceAdd, Nat.zero_le, Nat.reduceLeDiff]
      refine rn_M_row 20 ?_
      simp (disch := omega) only [am_z, cq_M_row, Nat.reduceAdd, Nat.zero_le, Nat.reduceLeDiff, ar_lit, b01, Bool.false_eq_true, ↓reduceIte]
      refine s_M_refN (by omega) (by omega) (by omega) (fun I1 f1 e1 => ?_)
      simp only [am_z, Nat.reduceAdd, Nat.zero_le, Nat.reduceLeDiff]
      refine rn_M_row 20 ?_
      simp (disch := omega) only [am_z, cq_M_row, Nat.reduceAdd, Nat.zero_le, Nat.reduceLeDiff, ar_lit, ar_eq, Nat.reduceEqDiff, ↓reduceIte]
      exact k I1 f1.m0 (h.r0 f1) e1
    · rw [e] at k ⊢
      subst ew
      simp only [Option.isSome_some]
      simp only [am_z, Nat.reduceAdd, Nat.zero_le, Nat.reduceLeDiff]
      refine rn_M_row 20 ?_
      simp (disch := omega) only [am_z, cq_M_row, Nat.reduceAdd, Nat.zero_le, Nat.reduceLeDiff, ar_lit, b01, Bool.false_eq_true, ↓reduceIte, ar_eq, Nat.reduceEqDiff]
      refine s_M_ref0 (by omega) (fun I1 f1 e1 => ?_)
      have h1 := h.r0 f1
      simp only [am_z, Nat.reduceAdd, Nat.zero_le, Nat.reduceLeDiff]
      refine rn_M_row 20 ?_
      simp (disch := omega) only [am_z, cq_M_row, Nat.reduceAdd, Nat.zero_le, Nat.reduceLeDiff, ar_lit, ↓reduceIte]
      refine s_M_lay (by omega) isU_27 h1.p h1.w (fun I2 f2 l2 => ?_)
      have h2 := h1.rL f2
      have kk := k I2 (f1.m0.tr f2.mL) h2 (f2.l0.trans e1)
      obtain ⟨g0, g1, g2, _⟩ := h2.p.2.2.1 i hi
      have hb : 11 + 7 * i + 2 < 197 := by omega
      rcases (show j = 0 ∨ j = 1 ∨ j = 2 ∨ j = 3 ∨ j = 4 by omega) with rfl | rfl | rfl | rfl | rfl
      · simp only [am_z, Nat.reduceAdd, Nat.zero_le, Nat.reduceLeDiff]
        refine rn_M_row 20 ?_
        simp (disch := omega) only [am_z, cq_M_row, Nat.reduceAdd, Nat.zero_le, Nat.reduceLeDiff, ar_lit, ar_le, ↓reduceIte]
        refine s_M_cell (by omega) ?_
        simp only [am_z, Nat.reduceAdd, Nat.zero_le, Nat.reduceLeDiff]
        refine rn_M_row 20 ?_
        simp (disch := omega) only [am_z, cq_M_row, Nat.reduceAdd, Nat.zero_le, Nat.reduceLeDiff, ar_lit, ar_in, ar_cl, g0]
        exact ⟨by omega, kk⟩
      · simp only [am_z, Nat.reduceAdd, Nat.zero_le, Nat.reduceLeDiff]
        refine rn_M_row 20 ?_
        simp (disch := omega) only [am_z, cq_M_row, Nat.reduceAdd, Nat.zero_le, Nat.reduceLeDiff, ar_lit, ar_le, ↓reduceIte]
        refine s_M_cell (by omega) ?_
        simp only [am_z, Nat.reduceAdd, Nat.zero_le, Nat.reduceLeDiff]
        refine rn_M_row 20 ?_
        simp (disch := omega) only [am_z, cq_M_row, Nat.reduceAdd, Nat.zero_le, Nat.reduceLeDiff, ar_lit, ar_in, ar_cl, g1]
        exact ⟨by omega, kk⟩
      · simp only [am_z, Nat.reduceAdd, Nat.zero_le, Nat.reduceLeDiff]
        refine rn_M_row 20 ?_
        simp (disch := omega) only [am_z, cq_M_row, Nat.reduceAdd, Nat.zero_le, Nat.reduceLeDiff, ar_lit, ar_le, ↓reduceIte]
        refine s_M_cell (by omega) ?_
        simp only [am_z, Nat.reduceAdd, Nat.zero_le, Nat.reduceLeDiff]
        refine rn_M_row 20 ?_
        simp (disch := omega) only [am_z, cq_M_row, Nat.reduceAdd, Nat.zero_le, Nat.reduceLeDiff, ar_lit, ar_in, ar_cl, g2]
        exact ⟨by omega, kk⟩
      · have kk : P (.inl (some (vI (nI (b01 (decide (i + 1 < tn s.2.1) && tcut s.2.1 i)))))) am_G0 I2 J := kk
        simp only [am_z, Nat.reduceAdd, Nat.zero_le, Nat.reduceLeDiff]
        refine rn_M_row 40 ?_
        simp (disch := omega) only [am_z, cq_M_row, Nat.reduceAdd, Nat.zero_le, Nat.reduceLeDiff, ar_lit, ar_le, ar_eq, Nat.reduceEqDiff, ↓reduceIte, ar_in, ar_cl, Nat.reduceLT, am_tt, h2.p.1.2.1, ar_sub]
        by_cases q : tn s.2.1 - 1 ≤ i
        · rw [decide_eq_false (by omega)] at kk
          rw [if_pos q]
          exact kk
        · rw [decide_eq_true (by omega)] at kk
          rw [if_neg q]
          refine s_M_canCut (by omega) isU_27 h2.p h2.w hi ?_
          cases hc : tcut s.2.1 i
          · rw [hc] at kk
            simp only [am_z, Nat.reduceAdd, Nat.zero_le, Nat.reduceLeDiff]
            refine rn_M_row 20 ?_
            simp (disch := omega) only [am_z, cq_M_row, Nat.reduceAdd, Nat.zero_le, Nat.reduceLeDiff, ar_lit, b01, Bool.false_eq_true, ↓reduceIte]
            exact kk
          · rw [hc] at kk
            simp only [am_z, Nat.reduceAdd, Nat.zero_le, Nat.reduceLeDiff]
            refine rn_M_row 20 ?_
            simp (disch := omega) only [am_z, cq_M_row, Nat.reduceAdd, Nat.zero_le, Nat.reduceLeDiff, ar_lit, b01, Bool.false_eq_true, ↓reduceIte, ar_eq, Nat.reduceEqDiff]
            exact kk
      · simp only [am_z, Nat.reduceAdd, Nat.zero_le, Nat.reduceLeDiff]
        refine rn_M_row 40 ?_
        simp (disch := omega) only [am_z, cq_M_row, Nat.reduceAdd, Nat.zero_le, Nat.reduceLeDiff, ar_lit, ar_le, ar_eq, Nat.reduceEqDiff, ↓reduceIte]
        refine s_M_pageOf (by omega) h2.w l2 hi ?_
        simp only [am_z, Nat.reduceAdd, Nat.zero_le, Nat.reduceLeDiff]
        refine rn_M_row 20 ?_
        simp (disch := omega) only [am_z, cq_M_row, Nat.reduceAdd, Nat.zero_le, Nat.reduceLeDiff, ar_lit]
        exact kk
theorem s_M_amount {r c : Int32} (hD : 9 ≤ D) (h : sm I s) (k : mk P J I (q_amount s.2.1 r c, s)) : am_T l D y_M_amount [vR (9, 0), vI r, vI c] am_G0 I J P := by
  obtain ⟨d, rfl⟩ : ∃ d, D = d + 1 := ⟨D - 1, by omega⟩
  have hn := h.w.2.2.2.2.1
  have h4 := h.w.1.2
  unfold q_amount at k
  refine en_M_amount 20 (Nat.le_of_ble_eq_true rfl) ?_
  simp (disch := omega) only [am_z, cq_M_amount, Nat.reduceAdd, Nat.zero_le, Nat.reduceLeDiff, ar_lit]
  refine s_M_isRow (by omega) h.p h.w ?_
  rcases tix_c (tn s.2.1) r (by omega) with ⟨e, hs⟩ | ⟨i, hi, er, e⟩
  · rw [e] at k ⊢
    simp only [Option.isSome_none]
    simp only [am_z, Nat.reduceAdd, Nat.zero_le, Nat.reduceLeDiff]
    refine rn_M_amount 20 ?_
    simp (disch := omega) only [am_z, cq_M_amount, Nat.reduceAdd, Nat.zero_le, Nat.reduceLeDiff, ar_lit, b01, Bool.false_eq_true, ↓reduceIte]
    refine s_M_refN (by omega) (by omega) (by omega) (fun I1 f1 e1 => ?_)
    simp only [am_z, Nat.reduceAdd, Nat.zero_le, Nat.reduceLeDiff]
    refine rn_M_amount 20 ?_
    simp (disch := omega) only [am_z, cq_M_amount, Nat.reduceAdd, Nat.zero_le, Nat.reduceLeDiff, ar_lit, ar_eq, Nat.reduceEqDiff, ↓reduceIte]
    exact k I1 f1.m0 (h.r0 f1) e1
  · rw [e] at k ⊢
    subst er
    simp only [Option.isSome_some]
    simp only [am_z, Nat.reduceAdd, Nat.zero_le, Nat.reduceLeDiff]
    refine rn_M_amount 20 ?_
    simp (disch := omega) only [am_z, cq_M_amount, Nat.reduceAdd, Nat.zero_le, Nat.reduceLeDiff, ar_lit, b01, Bool.false_eq_true, ↓reduceIte, ar_eq, Nat.reduceEqDiff]
    refine s_M_isColumn (by omega) h.p h.w ?_
    rcases tix_c (tC s.2.1) c (by omega) with ⟨e, hs⟩ | ⟨j, hj, ec, e⟩
    · rw [e] at k ⊢
      simp only [Option.isSome_none]
      simp only [am_z, Nat.reduceAdd, Nat.zero_le, Nat.reduceLeDiff]
      refine rn_M_amount 20 ?_
      simp (disch := omega) only [am_z, cq_M_amount, Nat.reduceAdd, Nat.zero_le, Nat.reduceLeDiff, ar_lit, b01, Bool.false_eq_true, ↓reduceIte]
      refine s_M_refN (by omega) (by omega) (by omega) (fun I1 f1 e1 => ?_)
      simp only [am_z, Nat.reduceAdd, Nat.zero_le, Nat.reduceLeDiff]
      refine rn_M_amount 20 ?_
      simp (disch := omega) only [am_z, cq_M_amount, Nat.reduceAdd, Nat.zero_le, Nat.reduceLeDiff, ar_lit, ar_eq, Nat.reduceEqDiff, ↓reduceIte]
      exact k I1 f1.m0 (h.r0 f1) e1
    · rw [e] at k ⊢
      subst ec
      simp only [Option.isSome_some]
      simp only [am_z, Nat.reduceAdd, Nat.zero_le, Nat.reduceLeDiff]
      refine rn_M_amount 20 ?_
      simp (disch := omega) only [am_z, cq_M_amount, Nat.reduceAdd, Nat.zero_le, Nat.reduceLeDiff, ar_lit, b01, Bool.false_eq_true, ↓reduceIte, ar_eq, Nat.reduceEqDiff]
      refine s_M_ref0 (by omega) (fun I1 f1 e1 => ?_)
      have h1 := h.r0 f1
      obtain ⟨_, _, _, g4⟩ := h1.p.2.2.1 i hi
      simp only [am_z, Nat.reduceAdd, Nat.zero_le, Nat.reduceLeDiff]
      refine rn_M_amount 20 ?_
      simp (disch := omega) only [am_z, cq_M_amount, Nat.reduceAdd, Nat.zero_le, Nat.reduceLeDiff, ar_lit, ↓reduceIte, nI_add]
      refine s_M_cell (by omega) ?_
      simp only [am_z, Nat.reduceAdd, Nat.zero_le, Nat.reduceLeDiff]
      refine rn_M_amount 20 ?_
      simp (disch := omega) only [am_z, cq_M_amount, Nat.reduceAdd, Nat.zero_le, Nat.reduceLeDiff, ar_lit, ar_in, ar_cl, g4 j (by omega)]
      exact ⟨by omega, k I1 f1.m0 h1 e1⟩
theorem s_M_span {r w : Int32} (hD : 9 ≤ D) (h : sm I s) (k : mk P J I (q_span s.2.1 r w, s)) : am_T l D y_M_span [vR (9, 0), vI r, vI w] am_G0 I J P := by
  obtain ⟨d, rfl⟩ : ∃ d, D = d + 1 := ⟨D - 1, by omega⟩
  have hn := h.w.2.2.2.2.2.1
  unfold q_span at k
  refine en_M_span 20 (Nat.le_of_ble_eq_true rfl) ?_
  simp (disch := omega) only [am_z, cq_M_span, Nat.reduceAdd, Nat.zero_le, Nat.reduceLeDiff, ar_lit]
  refine s_M_isSpan (by omega) h.p h.w ?_
  rcases tix_c (tm s.2.1) r (by omega) with ⟨e, hs⟩ | ⟨i, hi, er, e⟩
  · rw [e] at k ⊢
    simp only [Option.isSome_none]
    simp only [am_z, Nat.reduceAdd, Nat.zero_le, Nat.reduceLeDiff]
    refine rn_M_span 20 ?_
    simp (disch := omega) only [am_z, cq_M_span, Nat.reduceAdd, Nat.zero_le, Nat.reduceLeDiff, ar_lit, b01, Bool.false_eq_true, ↓reduceIte]
    refine s_M_refN (by omega) (by omega) (by omega) (fun I1 f1 e1 => ?_)
    simp only [am_z, Nat.reduceAdd, Nat.zero_le, Nat.reduceLeDiff]
    refine rn_M_span 20 ?_
    simp (disch := omega) only [am_z, cq_M_span, Nat.reduceAdd, Nat.zero_le, Nat.reduceLeDiff, ar_lit, ar_eq, Nat.reduceEqDiff, ↓reduceIte]
    exact k I1 f1.m0 (h.r0 f1) e1
  · rw [e] at k ⊢
    subst er
    simp only [Option.isSome_some]
    simp only [am_z, Nat.reduceAdd, Nat.zero_le, Nat.reduceLeDiff]
    refine rn_M_span 20 ?_
    simp (disch := omega) only [am_z, cq_M_span, Nat.reduceAdd, Nat.zero_le, Nat.reduceLeDiff, ar_lit, b01, Bool.false_eq_true, ↓reduceIte, ar_eq, Nat.reduceEqDiff, lc_z.1]
    refine s_M_inT (n := 4) (by omega) (by decide +kernel) ?_
    rcases tix_c 4 w (by omega) with ⟨e, hs⟩ | ⟨j, hj, ew, e⟩
    · rw [e] at k ⊢
      simp only [Option.isSome_none]
      simp only [am_z, Nat.reduceAdd, Nat.zero_le, Nat.reduceLeDiff]
      refine rn_M_span 20 ?_
      simp (disch := omega) only [am_z, cq_M_span, Nat.reduceAdd, Nat.zero_le, Nat.reduceLeDiff, ar_lit, b01, Bool.false_eq_true, ↓reduceIte]
      refine s_M_refN (by omega) (by omega) (by omega) (fun I1 f1 e1 => ?_)
      simp only [am_z, Nat.reduceAdd, Nat.zero_le, Nat.reduceLeDiff]
      refine rn_M_span 20 ?_
      simp (disch := omega) only [am_z, cq_M_span, Nat.reduceAdd, Nat.zero_le, Nat.reduceLeDiff, ar_lit, ar_eq, Nat.reduceEqDiff, ↓reduceIte]
      exact k I1 f1.m0 (h.r0 f1) e1
    · rw [e] at k ⊢
      subst ew
      simp only [Option.isSome_some]
      simp only [am_z, Nat.reduceAdd, Nat.zero_le, Nat.reduceLeDiff]
      refine rn_M_span 20 ?_
      simp (disch := omega) only [am_z, cq_M_span, Nat.reduceAdd, Nat.zero_le, Nat.reduceLeDiff, ar_lit, b01, Bool.false_eq_true, ↓reduceIte, ar_eq, Nat.reduceEqDiff]
      refine s_M_ref0 (by omega) (fun I1 f1 e1 => ?_)
      have h1 := h.r0 f1
      simp only [am_z, Nat.reduceAdd, Nat.zero_le, Nat.reduceLeDiff]
      refine rn_M_span 20 ?_
      simp (disch := omega) only [am_z, cq_M_span, Nat.reduceAdd, Nat.zero_le, Nat.reduceLeDiff, ar_lit, ↓reduceIte]
      refine s_M_lay (by omega) isU_27 h1.p h1.w (fun I2 f2 l2 => ?_)
      have h2 := h1.rL f2
      have kk := k I2 (f1.m0.tr f2.mL) h2 (f2.l0.trans e1)
      obtain ⟨g0, g1, g2⟩ := h2.p.2.2.2 i hi
      have hb : 179 + 3 * i + 2 < 197 := by omega
      rcases (show j = 0 ∨ j = 1 ∨ j = 2 ∨ j = 3 by omega) with rfl | rfl | rfl | rfl
      · simp only [am_z, Nat.reduceAdd, Nat.zero_le, Nat.reduceLeDiff]
        refine rn_M_span 20 ?_
        simp (disch := omega) only [am_z, cq_M_span, Nat.reduceAdd, Nat.zero_le, Nat.reduceLeDiff, ar_lit, ar_le, ↓reduceIte, pk_mul, nI_add, ar_in, ar_cl, Nat.add_zero, g0]
        exact ⟨by omega, kk⟩
      · simp only [am_z, Nat.reduceAdd, Nat.zero_le, Nat.reduceLeDiff]
        refine rn_M_span 20 ?_
        simp (disch := omega) only [am_z, cq_M_span, Nat.reduceAdd, Nat.zero_le, Nat.reduceLeDiff, ar_lit, ar_le, ↓reduceIte, pk_mul, nI_add, ar_in, ar_cl, g1]
        exact ⟨by omega, kk⟩
      · simp only [am_z, Nat.reduceAdd, Nat.zero_le, Nat.reduceLeDiff]
        refine rn_M_span 20 ?_
        simp (disch := omega) only [am_z, cq_M_span, Nat.reduceAdd, Nat.zero_le, Nat.reduceLeDiff, ar_lit, ar_le, ↓reduceIte, pk_mul, nI_add, ar_in, ar_cl, g2]
        exact ⟨by omega, kk⟩
      · simp only [am_z, Nat.reduceAdd, Nat.zero_le, Nat.reduceLeDiff]
        refine rn_M_span 20 ?_
        simp (disch := omega) only [am_z, cq_M_span, Nat.reduceAdd, Nat.zero_le, Nat.reduceLeDiff, ar_lit, ar_le, ↓reduceIte]
        refine s_M_pagesOf (by omega) isU_27 h2.p h2.w l2 hi ?_
        simp only [am_z, Nat.reduceAdd, Nat.zero_le, Nat.reduceLeDiff]
        refine rn_M_span 20 ?_
        simp (disch := omega) only [am_z, cq_M_span, Nat.reduceAdd, Nat.zero_le, Nat.reduceLeDiff, ar_lit]
        exact kk
theorem s_M_note {n : Int32} (hD : 9 ≤ D) (h : sm I s) (k : mk P J I (q_note s.2.1 n, s)) : am_T l D y_M_note [vR (9, 0), vI n] am_G0 I J P := by
  obtain ⟨d, rfl⟩ : ∃ d, D = d + 1 := ⟨D - 1, by omega⟩
  unfold q_note at k
  refine en_M_note 20 (Nat.le_of_ble_eq_true rfl) ?_
  simp (disch := omega) only [am_z, cq_M_note, Nat.reduceAdd, Nat.zero_le, Nat.reduceLeDiff, ar_lit]
  refine s_M_inL (lo := 1) (hi := 6) (by omega) (i64_i n) (by decide +kernel) (by decide +kernel) ?_
  by_cases q : 1 ≤ n.toInt ∧ n.toInt ≤ 6
  · rw [if_pos q] at k
    rw [decide_eq_true q]
    simp only [am_z, Nat.reduceAdd, Nat.zero_le, Nat.reduceLeDiff]
    refine rn_M_note 20 ?_
    simp (disch := omega) only [am_z, cq_M_note, Nat.reduceAdd, Nat.zero_le, Nat.reduceLeDiff, ar_lit, b01, Bool.false_eq_true, ↓reduceIte, ar_eq, Nat.reduceEqDiff]
    refine s_M_ref0 (by omega) (fun I1 f1 e1 => ?_)
    have h1 := h.r0 f1
    have en : n = nI n.toInt.toNat := ar_nat (by omega)
    have hb : n.toInt.toNat < 7 ∧ 0 < n.toInt.toNat := by omega
    have kk := k I1 f1.m0 h1 e1
    generalize n.toInt.toNat = j at en hb kk
    subst en
    have hv := h1.p.2.1 (j - 1) (by omega)
    rw [show 5 + (j - 1) = 5 + j - 1 by omega, show j - 1 + 1 = j by omega] at hv
    simp only [am_z, Nat.reduceAdd, Nat.zero_le, Nat.reduceLeDiff]
    refine rn_M_note 20 ?_
    simp (disch := omega) only [am_z, cq_M_note, Nat.reduceAdd, Nat.zero_le, Nat.reduceLeDiff, ar_lit, ↓reduceIte, nI_add, ar_sub, ar_in, ar_cl, hv]
    exact ⟨by omega, kk⟩
  · rw [if_neg q] at k
    rw [decide_eq_false q]
    simp only [am_z, Nat.reduceAdd, Nat.zero_le, Nat.reduceLeDiff]
    refine rn_M_note 20 ?_
    simp (disch := omega) only [am_z, cq_M_note, Nat.reduceAdd, Nat.zero_le, Nat.reduceLeDiff, ar_lit, b01, Bool.false_eq_true, ↓reduceIte]
    refine s_M_refN (by omega) (by omega) (by omega) (fun I1 f1 e1 => ?_)
    simp only [am_z, Nat.reduceAdd, Nat.zero_le, Nat.reduceLeDiff]
    refine rn_M_note 20 ?_
    simp (disch := omega) only [am_z, cq_M_note, Nat.reduceAdd, Nat.zero_le, Nat.reduceLeDiff, ar_lit, ar_eq, Nat.reduceEqDiff, ↓reduceIte]
    exact k I1 f1.m0 (h.r0 f1) e1
end RG
