/-! ===== the reference: spans and the rest of a text ===== -/
section RG
variable {l : Launch} {D : Nat} {I : am_I} {J : am_J} {P : am_P} {p : pt_T} {ss : List Nat} {a : Nat}
theorem s_M_readSpan (hD : 5 ≤ D) (h : rP I ss a true) (hc : ss[a]? = some 115) (hr : rF (I (26, 0)) p) (hw : tW p) (k : kq P J ss I (ppart ss a p)) : am_T l D y_M_readSpan [vR (9, 0)] am_G0 I J P := by
  obtain ⟨d, rfl⟩ : ∃ d, D = d + 1 := ⟨D - 1, by omega⟩
  have hn := hw.2.2.2.2.1
  have hm6 := hw.2.2.2.2.2.1
  have ha := pt_len hc
  have bad : ¬ (2 ≤ tn p ∧ tm p < 6) → am_T l d y_M_accept [vR (9, 0), vI (nI 0)] am_G0 I J (am_k (am_X l (0, fun _ => 0) (d + 1) y_M_readSpan P) P 30 [some (vR (9, 0)), none, none, none] [] 0 0) := by
    intro q
    have e : ppart ss a p = (a, none) := by
      unfold ppart
      rw [hc, if_neg (by simp), if_neg (by simp), if_neg (by simp), if_neg (by simp), if_neg (fun z => q z.2)]
    rw [e] at k
    refine s_M_accept (b := false) (by omega) h (fun _ q => by cases q) (fun I1 f1 p1 => ?_)
    rw [Bool.and_false, if_neg (by simp)] at p1
    simp only [am_z, Nat.reduceAdd, Nat.zero_le, Nat.reduceLeDiff]
    refine rn_M_readSpan 20 ?_
    simp (disch := omega) only [am_z, cq_M_readSpan, Nat.reduceAdd, Nat.zero_le, Nat.reduceLeDiff, ar_lit, p1.2.1, b01, Bool.false_eq_true, ↓reduceIte]
    exact k I1 f1.m34 p1 (fun q hq => by cases hq)
  by_cases q1 : tn p ≤ 1
  · refine en_M_readSpan 20 (Nat.le_of_ble_eq_true rfl) ?_
    simp (disch := omega) only [am_z, cq_M_readSpan, Nat.reduceAdd, Nat.zero_le, Nat.reduceLeDiff, ar_lit, ar_in, ar_cl, hr.1.2.1, ar_le, if_pos q1, Nat.reduceLT, am_tt]
    exact bad (by omega)
  by_cases q2 : 6 ≤ tm p
  · refine en_M_readSpan 20 (Nat.le_of_ble_eq_true rfl) ?_
    simp (disch := omega) only [am_z, cq_M_readSpan, Nat.reduceAdd, Nat.zero_le, Nat.reduceLeDiff, ar_lit, ar_in, ar_cl, hr.1.2.1, hr.1.2.2.1, ar_le, if_neg q1, if_pos q2, Nat.reduceLT, am_tt]
    exact bad (by omega)
  have e : ppart ss a p = pspan ss (a + 1) p := by
    unfold ppart
    rw [hc, if_neg (by simp), if_neg (by simp), if_neg (by simp), if_neg (by simp), if_pos ⟨rfl, by omega, by omega⟩]
  rw [e] at k
  unfold pspan at k
  refine en_M_readSpan 20 (Nat.le_of_ble_eq_true rfl) ?_
  simp (disch := omega) only [am_z, cq_M_readSpan, Nat.reduceAdd, Nat.zero_le, Nat.reduceLeDiff, ar_lit, ar_in, ar_cl, hr.1.2.1, hr.1.2.2.1, ar_le, if_neg q1, if_neg q2, Nat.reduceLT, am_tt]
  refine s_M_accept (b := true) (by omega) h (fun _ _ => ha) (fun I1 f1 p1 => ?_)
  rw [Bool.and_self, if_pos rfl] at p1
  have hr1 := rF_34 hr f1
  simp only [am_z, Nat.reduceAdd, Nat.zero_le, Nat.reduceLeDiff]
  refine rn_M_readSpan 20 ?_
  simp (disch := omega) only [am_z, cq_M_readSpan, Nat.reduceAdd, Nat.zero_le, Nat.reduceLeDiff, ar_lit, p1.2.1, b01, Bool.false_eq_true, ↓reduceIte, ar_eq, Nat.reduceEqDiff, ar_in, ar_cl, hr1.1.2.1, ar_sub, Nat.reduceLT, am_tt]
  refine s_M_two (by omega) p1 (by omega) (by omega) (fun I2 x f2 p2 hx => ?_)
  have ew : pw ss true (a + 1) 0 (tn p - 2) = ppair ss (a + 1) 0 (tn p - 2) := rfl
  rw [ew] at p2 hx
  have hr2 := rF_34 hr1 f2
  cases e2 : (ppair ss (a + 1) 0 (tn p - 2)).2 with
  | none =>
    rw [e2] at k p2
    simp only [am_z, Nat.reduceAdd, Nat.zero_le, Nat.reduceLeDiff]
    refine rn_M_readSpan 20 ?_
    simp (disch := omega) only [am_z, cq_M_readSpan, Nat.reduceAdd, Nat.zero_le, Nat.reduceLeDiff, ar_lit, p2.2.1, Option.isSome_none, b01, Bool.false_eq_true, ↓reduceIte]
    refine s_M_digit (by omega) p2 (by omega) (by omega) (fun I3 f3 p3 => ?_)
    rw [Option.isSome_none, pd_f] at p3
    simp only [am_z, Nat.reduceAdd, Nat.zero_le, Nat.reduceLeDiff]
    refine rn_M_readSpan 20 ?_
    simp (disch := omega) only [am_z, cq_M_readSpan, Nat.reduceAdd, Nat.zero_le, Nat.reduceLeDiff, ar_lit, p3.2.1, b01, Bool.false_eq_true, ↓reduceIte]
    exact k I3 ((f1.m34.tr f2.m34).tr f3.m34) p3 (fun q hq => by cases hq)
  | some f =>
    rw [e2] at k p2
    obtain ⟨u1, u2, u3⟩ := ppair_some e2
    have hx := hx f e2
    subst hx
    simp only at k
    simp only [am_z, Nat.reduceAdd, Nat.zero_le, Nat.reduceLeDiff]
    refine rn_M_readSpan 20 ?_
    simp (disch := omega) only [am_z, cq_M_readSpan, Nat.reduceAdd, Nat.zero_le, Nat.reduceLeDiff, ar_lit, p2.2.1, Option.isSome_some, b01, Bool.false_eq_true, ↓reduceIte, ar_eq, Nat.reduceEqDiff, ar_in, ar_cl, hr2.1.2.1, ar_sub, nI_add, Nat.reduceLT, am_tt]
    refine s_M_two (by omega) p2 (by omega) (by omega) (fun I3 x f3 p3 hx => ?_)
    have ew : pw ss (some f).isSome (ppair ss (a + 1) 0 (tn p - 2)).1 (f + 1) (tn p - 1) = ppair ss (ppair ss (a + 1) 0 (tn p - 2)).1 (f + 1) (tn p - 1) := rfl
    rw [ew] at p3 hx
    have hr3 := rF_34 hr2 f3
    cases e3 : (ppair ss (ppair ss (a + 1) 0 (tn p - 2)).1 (f + 1) (tn p - 1)).2 with
    | none =>
      rw [e3] at k p3
      simp only [am_z, Nat.reduceAdd, Nat.zero_le, Nat.reduceLeDiff]
      refine rn_M_readSpan 20 ?_
      simp (disch := omega) only [am_z, cq_M_readSpan, Nat.reduceAdd, Nat.zero_le, Nat.reduceLeDiff, ar_lit]
      refine s_M_digit (by omega) p3 (by omega) (by omega) (fun I4 f4 p4 => ?_)
      rw [Option.isSome_none, pd_f] at p4
      simp only [am_z, Nat.reduceAdd, Nat.zero_le, Nat.reduceLeDiff]
      refine rn_M_readSpan 20 ?_
      simp (disch := omega) only [am_z, cq_M_readSpan, Nat.reduceAdd, Nat.zero_le, Nat.reduceLeDiff, ar_lit, p4.2.1, b01, Bool.false_eq_true, ↓reduceIte]
      exact k I4 (((f1.m34.tr f2.m34).tr f3.m34).tr f4.m34) p4 (fun q hq => by cases hq)
    | some g =>
      rw [e3] at k p3
      obtain ⟨v1, v2, v3⟩ := ppair_some e3
      have hx := hx g e3
      subst hx
      simp only at k
      simp only [am_z, Nat.reduceAdd, Nat.zero_le, Nat.reduceLeDiff]
      refine rn_M_readSpan 20 ?_
      simp (disch := omega) only [am_z, cq_M_readSpan, Nat.reduceAdd, Nat.zero_le, Nat.reduceLeDiff, ar_lit]
      refine s_M_digit (by omega) p3 (by omega) (by omega) (fun I4 f4 p4 => ?_)
      rw [Option.isSome_some, pd_t] at p4 ⊢
      have hr4 := rF_34 hr3 f4
      have fr4 := ((f1.m34.tr f2.m34).tr f3.m34).tr f4.m34
      cases e4 : (pdig ss (ppair ss (ppair ss (a + 1) 0 (tn p - 2)).1 (f + 1) (tn p - 1)).1 0 1).2 with
      | none =>
        rw [e4] at k p4
        rw [pdig_none e4] at p4
        simp only [am_z, Nat.reduceAdd, Nat.zero_le, Nat.reduceLeDiff]
        refine rn_M_readSpan 20 ?_
        simp (disch := omega) only [am_z, cq_M_readSpan, Nat.reduceAdd, Nat.zero_le, Nat.reduceLeDiff, ar_lit, p4.2.1, Option.isSome_none, b01, Bool.false_eq_true, ↓reduceIte]
        exact k I4 fr4 p4 (fun q hq => by cases hq)
      | some c =>
        rw [e4] at k p4
        obtain ⟨w1, w2, w3, _⟩ := pdig_some e4
        rw [w1] at p4
        simp only [am_z, Nat.reduceAdd, Nat.zero_le, Nat.reduceLeDiff]
        refine rn_M_readSpan 20 ?_
        simp (disch := omega) only [am_z, cq_M_readSpan, Nat.reduceAdd, Nat.zero_le, Nat.reduceLeDiff, ar_lit, p4.2.1, Option.isSome_some, Option.getD_some, b01, Bool.false_eq_true, ↓reduceIte, ar_eq, Nat.reduceEqDiff]
        refine s_M_putSpan (by omega) isU_26 hr4 hw (by omega) (fun I5 f5 r5 => ?_)
        simp only [am_z, Nat.reduceAdd, Nat.zero_le, Nat.reduceLeDiff]
        refine rn_M_readSpan 20 ?_
        simp (disch := omega) only [am_z, cq_M_readSpan, Nat.reduceAdd, Nat.zero_le, Nat.reduceLeDiff, ar_lit]
        refine k I5 (fr4.tr f5.m26) (rP_26 p4 f5) (fun q hq => ?_)
        cases hq
        exact ⟨r5, tputS_w hw (by omega) ⟨by show f < g; omega, by show g < tn p; omega, w3⟩⟩
theorem s_M_readMore (hD : 5 ≤ D) (h : rP I ss a true) (hn1 : ¬ ss[a]? = some 114) (hn2 : ¬ ss[a]? = some 115) (hr : rF (I (26, 0)) p) (hw : tW p) (k : kq P J ss I (ppart ss a p)) : am_T l D y_M_readMore [vR (9, 0)] am_G0 I J P := by
  obtain ⟨d, rfl⟩ : ∃ d, D = d + 1 := ⟨D - 1, by omega⟩
  have hn := hw.2.2.2.2.1
  unfold ppart at k
  rw [if_neg (fun z => hn1 z.1)] at k
  have lt0 : (nI (tn p) - nI 1 < nI 0) = (tn p ≤ 0) := ar_m1 (by omega) (by omega)
  refine en_M_readMore 20 (Nat.le_of_ble_eq_true rfl) ?_
  simp (disch := omega) only [am_z, cq_M_readMore, Nat.reduceAdd, Nat.zero_le, Nat.reduceLeDiff, ar_lit, ar_in, ar_cl, hr.1.2.1, Nat.reduceLT, am_tt]
  refine s_M_isNext (by omega) h (by omega) ?_
  by_cases q107 : ss[a]? = some 107
  · rw [decide_eq_true q107]
    have ha := pt_len q107
    by_cases q0 : tn p ≤ 0
    · rw [if_neg (fun z => by omega), if_neg (fun z => by rw [q107] at z; simp at z), if_neg (fun z => by rw [q107] at z; simp at z), if_neg (fun z => hn2 z.1)] at k
      simp only [am_z, Nat.reduceAdd, Nat.zero_le, Nat.reduceLeDiff]
      refine rn_M_readMore 20 ?_
      simp (disch := omega) only [am_z, cq_M_readMore, Nat.reduceAdd, Nat.zero_le, Nat.reduceLeDiff, ar_lit, b01, Bool.false_eq_true, ↓reduceIte, ar_eq, Nat.reduceEqDiff, lt0, if_pos q0]
      refine s_M_accept (b := false) (by omega) h (fun _ q => by cases q) (fun I1 f1 p1 => ?_)
      rw [Bool.and_false, if_neg (by simp)] at p1
      simp only [am_z, Nat.reduceAdd, Nat.zero_le, Nat.reduceLeDiff]
      refine rn_M_readMore 20 ?_
      simp (disch := omega) only [am_z, cq_M_readMore, Nat.reduceAdd, Nat.zero_le, Nat.reduceLeDiff, ar_lit, p1.2.1, b01, Bool.false_eq_true, ↓reduceIte]
      exact k I1 f1.m34 p1 (fun q hq => by cases hq)
    · rw [if_pos ⟨q107, by omega⟩] at k
      simp only [am_z, Nat.reduceAdd, Nat.zero_le, Nat.reduceLeDiff]
      refine rn_M_readMore 20 ?_
      simp (disch := omega) only [am_z, cq_M_readMore, Nat.reduceAdd, Nat.zero_le, Nat.reduceLeDiff, ar_lit, b01, Bool.false_eq_true, ↓reduceIte, ar_eq, Nat.reduceEqDiff, lt0, if_neg q0]
      refine s_M_accept (b := true) (by omega) h (fun _ _ => ha) (fun I1 f1 p1 => ?_)
      rw [Bool.and_self, if_pos rfl] at p1
      have hr1 := rF_34 hr f1
      simp only [am_z, Nat.reduceAdd, Nat.zero_le, Nat.reduceLeDiff]
      refine rn_M_readMore 20 ?_
      simp (disch := omega) only [am_z, cq_M_readMore, Nat.reduceAdd, Nat.zero_le, Nat.reduceLeDiff, ar_lit, p1.2.1, b01, Bool.false_eq_true, ↓reduceIte, ar_eq, Nat.reduceEqDiff, ar_sub]
      refine s_M_cell (by omega) ?_
      have b197 : 11 + 7 * (tn p - 1) + 2 < 197 := by omega
      simp only [am_z, Nat.reduceAdd, Nat.zero_le, Nat.reduceLeDiff]
      refine rn_M_readMore 20 ?_
      simp (disch := omega) only [am_z, cq_M_readMore, Nat.reduceAdd, Nat.zero_le, Nat.reduceLeDiff, ar_lit, ar_in, ar_cl]
      refine ⟨b197, ?_⟩
      have f2 : fM [26] [] I1 (am_upI I1 (26, 0) (11 + 7 * (tn p - 1) + 2) (nI 1)) := fM.rf.up (Or.inl (by simp))
      refine k _ (f1.m34.tr f2.m26) (rP_26 p1 f2) (fun q hq => ?_)
      cases hq
      rw [am_uE]
      exact ⟨hr1.setK hw (by omega), tsetK_w hw (by omega) (by omega)⟩
  · rw [decide_eq_false q107]
    rw [if_neg (fun z => q107 z.1)] at k
    simp only [am_z, Nat.reduceAdd, Nat.zero_le, Nat.reduceLeDiff]
    refine rn_M_readMore 20 ?_
    simp (disch := omega) only [am_z, cq_M_readMore, Nat.reduceAdd, Nat.zero_le, Nat.reduceLeDiff, ar_lit, b01, Bool.false_eq_true, ↓reduceIte]
    refine s_M_isNext (by omega) h (by omega) ?_
    by_cases q110 : ss[a]? = some 110
    · rw [decide_eq_true q110]
      have ha := pt_len q110
      by_cases q0 : tn p ≤ 0
      · rw [if_neg (fun z => by omega), if_neg (fun z => by rw [q110] at z; simp at z), if_neg (fun z => hn2 z.1)] at k
        simp only [am_z, Nat.reduceAdd, Nat.zero_le, Nat.reduceLeDiff]
        refine rn_M_readMore 20 ?_
        simp (disch := omega) only [am_z, cq_M_readMore, Nat.reduceAdd, Nat.zero_le, Nat.reduceLeDiff, ar_lit, b01, Bool.false_eq_true, ↓reduceIte, ar_eq, Nat.reduceEqDiff, lt0, if_pos q0]
        refine s_M_accept (b := false) (by omega) h (fun _ q => by cases q) (fun I1 f1 p1 => ?_)
        rw [Bool.and_false, if_neg (by simp)] at p1
        simp only [am_z, Nat.reduceAdd, Nat.zero_le, Nat.reduceLeDiff]
        refine rn_M_readMore 20 ?_
        simp (disch := omega) only [am_z, cq_M_readMore, Nat.reduceAdd, Nat.zero_le, Nat.reduceLeDiff, ar_lit]
        refine s_M_digit (by omega) p1 (by omega) (by omega) (fun I2 f2 p2 => ?_)
        rw [pd_f] at p2
        simp only [am_z, Nat.reduceAdd, Nat.zero_le, Nat.reduceLeDiff]
        refine rn_M_readMore 20 ?_
        simp (disch := omega) only [am_z, cq_M_readMore, Nat.reduceAdd, Nat.zero_le, Nat.reduceLeDiff, ar_lit, p2.2.1, b01, Bool.false_eq_true, ↓reduceIte]
        exact k I2 (f1.m34.tr f2.m34) p2 (fun q hq => by cases hq)
      · rw [if_pos ⟨q110, by omega⟩] at k
        unfold pnote at k
        simp only [am_z, Nat.reduceAdd, Nat.zero_le, Nat.reduceLeDiff]
        refine rn_M_readMore 20 ?_
        simp (disch := omega) only [am_z, cq_M_readMore, Nat.reduceAdd, Nat.zero_le, Nat.reduceLeDiff, ar_lit, b01, Bool.false_eq_true, ↓reduceIte, ar_eq, Nat.reduceEqDiff, lt0, if_neg q0]
        refine s_M_accept (b := true) (by omega) h (fun _ _ => ha) (fun I1 f1 p1 => ?_)
        rw [Bool.and_self, if_pos rfl] at p1
        have hr1 := rF_34 hr f1
        simp only [am_z, Nat.reduceAdd, Nat.zero_le, Nat.reduceLeDiff]
        refine rn_M_readMore 20 ?_
        simp (disch := omega) only [am_z, cq_M_readMore, Nat.reduceAdd, Nat.zero_le, Nat.reduceLeDiff, ar_lit]
        refine s_M_digit (by omega) p1 (by omega) (by omega) (fun I2 f2 p2 => ?_)
        rw [pd_t] at p2 ⊢
        have hr2 := rF_34 hr1 f2
        cases e : (pdig ss (a + 1) 1 6).2 with
        | none =>
          rw [e] at k p2
          rw [pdig_none e] at p2
          simp only [am_z, Nat.reduceAdd, Nat.zero_le, Nat.reduceLeDiff]
          refine rn_M_readMore 20 ?_
          simp (disch := omega) only [am_z, cq_M_readMore, Nat.reduceAdd, Nat.zero_le, Nat.reduceLeDiff, ar_lit, p2.2.1, Option.isSome_none, b01, Bool.false_eq_true, ↓reduceIte]
          exact k I2 (f1.m34.tr f2.m34) p2 (fun q hq => by cases hq)
        | some v =>
          rw [e] at k p2
          obtain ⟨w1, w2, w3, _⟩ := pdig_some e
          rw [w1] at p2
          simp only [am_z, Nat.reduceAdd, Nat.zero_le, Nat.reduceLeDiff]
          refine rn_M_readMore 20 ?_
          simp (disch := omega) only [am_z, cq_M_readMore, Nat.reduceAdd, Nat.zero_le, Nat.reduceLeDiff, ar_lit, p2.2.1, Option.isSome_some, Option.getD_some, b01, Bool.false_eq_true, ↓reduceIte, ar_eq, Nat.reduceEqDiff, ar_sub]
          refine s_M_cell (by omega) ?_
          have b197 : 11 + 7 * (tn p - 1) + 1 < 197 := by omega
          simp only [am_z, Nat.reduceAdd, Nat.zero_le, Nat.reduceLeDiff]
          refine rn_M_readMore 20 ?_
          simp (disch := omega) only [am_z, cq_M_readMore, Nat.reduceAdd, Nat.zero_le, Nat.reduceLeDiff, ar_lit, ar_in, ar_cl]
          refine ⟨b197, ?_⟩
          have f3 : fM [26] [] I2 (am_upI I2 (26, 0) (11 + 7 * (tn p - 1) + 1) (nI v)) := fM.rf.up (Or.inl (by simp))
          refine k _ ((f1.m34.tr f2.m34).tr f3.m26) (rP_26 p2 f3) (fun q hq => ?_)
          cases hq
          rw [am_uE]
          exact ⟨hr2.setN hw (by omega), tsetN_w hw (by omega) w3⟩
    · rw [decide_eq_false q110]
      rw [if_neg (fun z => q110 z.1)] at k
      simp only [am_z, Nat.reduceAdd, Nat.zero_le, Nat.reduceLeDiff]
      refine rn_M_readMore 20 ?_
      simp (disch := omega) only [am_z, cq_M_readMore, Nat.reduceAdd, Nat.zero_le, Nat.reduceLeDiff, ar_lit, b01, Bool.false_eq_true, ↓reduceIte]
      refine s_M_isNext (by omega) h (by omega) ?_
      by_cases q104 : ss[a]? = some 104
      · rw [decide_eq_true q104]
        rw [if_pos q104] at k
        unfold pnoteH at k
        have ha := pt_len q104
        simp only [am_z, Nat.reduceAdd, Nat.zero_le, Nat.reduceLeDiff]
        refine rn_M_readMore 1 ?_
        simp only [am_z, cq_M_readMore, Nat.reduceAdd, Nat.zero_le, Nat.reduceLeDiff]
        refine s_M_accept (b := true) (by omega) h (fun _ _ => ha) (fun I1 f1 p1 => ?_)
        rw [Bool.and_self, if_pos rfl] at p1
        have hr1 := rF_34 hr f1
        simp only [am_z, Nat.reduceAdd, Nat.zero_le, Nat.reduceLeDiff]
        refine rn_M_readMore 20 ?_
        simp (disch := omega) only [am_z, cq_M_readMore, Nat.reduceAdd, Nat.zero_le, Nat.reduceLeDiff, ar_lit]
        refine s_M_digit (by omega) p1 (by omega) (by omega) (fun I2 f2 p2 => ?_)
        rw [pd_t] at p2 ⊢
        have hr2 := rF_34 hr1 f2
        cases e : (pdig ss (a + 1) 1 6).2 with
        | none =>
          rw [e] at k p2
          rw [pdig_none e] at p2
          simp only [am_z, Nat.reduceAdd, Nat.zero_le, Nat.reduceLeDiff]
          refine rn_M_readMore 20 ?_
          simp (disch := omega) only [am_z, cq_M_readMore, Nat.reduceAdd, Nat.zero_le, Nat.reduceLeDiff, ar_lit]
          refine s_M_digit (by omega) p2 (by omega) (by omega) (fun I3 f3 p3 => ?_)
          rw [Option.isSome_none, pd_f] at p3
          simp only [am_z, Nat.reduceAdd, Nat.zero_le, Nat.reduceLeDiff]
          refine rn_M_readMore 20 ?_
          simp (disch := omega) only [am_z, cq_M_readMore, Nat.reduceAdd, Nat.zero_le, Nat.reduceLeDiff, ar_lit, p3.2.1, b01, Bool.false_eq_true, ↓reduceIte]
          exact k I3 ((f1.m34.tr f2.m34).tr f3.m34) p3 (fun q hq => by cases hq)
        | some v =>
          rw [e] at k p2
          obtain ⟨w1, w2, w3, _⟩ := pdig_some e
          rw [w1] at p2
          simp only at k
          simp only [am_z, Nat.reduceAdd, Nat.zero_le, Nat.reduceLeDiff]
          refine rn_M_readMore 20 ?_
          simp (disch := omega) only [am_z, cq_M_readMore, Nat.reduceAdd, Nat.zero_le, Nat.reduceLeDiff, ar_lit]
          refine s_M_digit (by omega) p2 (by omega) (by omega) (fun I3 f3 p3 => ?_)
          rw [Option.isSome_some, pd_t] at p3 ⊢
          have hr3 := rF_34 hr2 f3
          cases e2 : (pdig ss (a + 1 + 1) 1 3).2 with
          | none =>
            rw [e2] at k p3
            rw [pdig_none e2] at p3
            simp only [am_z, Nat.reduceAdd, Nat.zero_le, Nat.reduceLeDiff]
            refine rn_M_readMore 20 ?_
            simp (disch := omega) only [am_z, cq_M_readMore, Nat.reduceAdd, Nat.zero_le, Nat.reduceLeDiff, ar_lit, p3.2.1, Option.isSome_none, b01, Bool.false_eq_true, ↓reduceIte]
            exact k I3 ((f1.m34.tr f2.m34).tr f3.m34) p3 (fun q hq => by cases hq)
          | some hh =>
            rw [e2] at k p3
            obtain ⟨x1, x2, x3, _⟩ := pdig_some e2
            rw [x1] at p3
            have ei : 5 + v - 1 = 3 + (v + 1) := by omega
            simp only [am_z, Nat.reduceAdd, Nat.zero_le, Nat.reduceLeDiff]
            refine rn_M_readMore 20 ?_
            simp (disch := omega) only [am_z, cq_M_readMore, Nat.reduceAdd, Nat.zero_le, Nat.reduceLeDiff, ar_lit, p3.2.1, Option.isSome_some, Option.getD_some, b01, Bool.false_eq_true, ↓reduceIte, ar_eq, Nat.reduceEqDiff, nI_add, ar_sub, ar_in, ar_cl]
            refine ⟨by omega, ?_⟩
            rw [ei]
            have f4 : fM [26] [] I3 (am_upI I3 (26, 0) (3 + (v + 1)) (nI hh)) := fM.rf.up (Or.inl (by simp))
            refine k _ (((f1.m34.tr f2.m34).tr f3.m34).tr f4.m26) (rP_26 p3 f4) (fun q hq => ?_)
            cases hq
            rw [am_uE]
            refine ⟨hr3.setH hw (by omega), tsetH_w hw ?_⟩
            rw [tokH_iff]
            omega
      · rw [decide_eq_false q104]
        rw [if_neg q104, if_neg (fun z => hn2 z.1)] at k
        simp only [am_z, Nat.reduceAdd, Nat.zero_le, Nat.reduceLeDiff]
        refine rn_M_readMore 1 ?_
        simp only [am_z, cq_M_readMore, Nat.reduceAdd, Nat.zero_le, Nat.reduceLeDiff]
        refine s_M_accept (b := false) (by omega) h (fun _ q => by cases q) (fun I1 f1 p1 => ?_)
        rw [Bool.and_false, if_neg (by simp)] at p1
        simp only [am_z, Nat.reduceAdd, Nat.zero_le, Nat.reduceLeDiff]
        refine rn_M_readMore 20 ?_
        simp (disch := omega) only [am_z, cq_M_readMore, Nat.reduceAdd, Nat.zero_le, Nat.reduceLeDiff, ar_lit]
        refine s_M_digit (by omega) p1 (by omega) (by omega) (fun I2 f2 p2 => ?_)
        rw [pd_f] at p2
        simp only [am_z, Nat.reduceAdd, Nat.zero_le, Nat.reduceLeDiff]
        refine rn_M_readMore 20 ?_
        simp (disch := omega) only [am_z, cq_M_readMore, Nat.reduceAdd, Nat.zero_le, Nat.reduceLeDiff, ar_lit]
        refine s_M_digit (by omega) p2 (by omega) (by omega) (fun I3 f3 p3 => ?_)
        rw [Option.isSome_none, pd_f] at p3
        simp only [am_z, Nat.reduceAdd, Nat.zero_le, Nat.reduceLeDiff]
        refine rn_M_readMore 20 ?_
        simp (disch := omega) only [am_z, cq_M_readMore, Nat.reduceAdd, Nat.zero_le, Nat.reduceLeDiff, ar_lit, p3.2.1, b01, Bool.false_eq_true, ↓reduceIte]
        exact k I3 ((f1.m34.tr f2.m34).tr f3.m34) p3 (fun q hq => by cases hq)
end RG
