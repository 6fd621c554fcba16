/-! ===== the class Text: spans, parts, the whole text ===== -/
section TX
variable {l : Launch} {D t : Nat} {I : am_I} {J : am_J} {P : am_P} {p : pt_T} {ss : List Nat} {a : Nat}
theorem s_readSpan (hD : 3 ≤ D) (h : rT I ss a) (hr : rC I t p) (hw : tW p) (hn : 2 ≤ tn p) (hm : tm p < 6) (k : pk P J t ss I (pspan ss a p)) : am_T l D y_Text_readSpan [vR (8, 0), vR (7, t)] am_G0 I J P := by
  obtain ⟨d, rfl⟩ : ∃ d, D = d + 1 := ⟨D - 1, by omega⟩
  have h24 := hw.2.2.2.2.1
  unfold pspan at k
  refine en_Text_readSpan 40 (Nat.le_of_ble_eq_true rfl) ?_
  simp (disch := omega) only [am_z, cq_Text_readSpan, Nat.reduceAdd, ar_lit, hr.1.2.1, ar_sub]
  refine s_takePair (by omega) h (by omega) (by omega) (fun I2 f2 t2 => ?_)
  have r2 := hr.frX f2
  simp only [am_z, Nat.reduceAdd]
  refine rn_Text_readSpan 40 ?_
  simp (disch := omega) only [am_z, cq_Text_readSpan, Nat.reduceAdd, ar_lit, ppair_pv]
  cases e2 : (ppair ss a 0 (tn p - 2)).2 with
  | none =>
    rw [e2] at k
    simp only [↓reduceIte]
    exact k I2 p (f2.mono fun c => isXT_x) t2 r2 hw (fun q hq => by cases hq)
  | some f =>
    obtain ⟨c1, c2, c3⟩ := ppair_some e2
    rw [e2] at k
    rw [if_neg (by simp)]
    simp only at k
    simp (disch := omega) only [pv, r2.1.2.1, ar_sub, nI_add]
    refine s_takePair (by omega) t2 (by omega) (by omega) (fun I3 f3 t3 => ?_)
    have r3 := r2.frX f3
    simp only [am_z, Nat.reduceAdd]
    refine rn_Text_readSpan 40 ?_
    simp (disch := omega) only [am_z, cq_Text_readSpan, Nat.reduceAdd, ar_lit, ppair_pv]
    cases e3 : (ppair ss (ppair ss a 0 (tn p - 2)).1 (f + 1) (tn p - 1)).2 with
    | none =>
      rw [e3] at k
      simp only [↓reduceIte]
      exact k I3 p ((f2.tr f3).mono fun c => isXT_x) t3 r3 hw (fun q hq => by cases hq)
    | some g =>
      obtain ⟨d1, d2, d3⟩ := ppair_some e3
      rw [e3] at k
      rw [if_neg (by simp)]
      simp only at k
      refine s_takeDigit (by omega) t3 (by omega) (by omega) (fun I4 f4 t4 => ?_)
      have r4 := r3.frX f4
      simp only [am_z, Nat.reduceAdd]
      refine rn_Text_readSpan 40 ?_
      simp (disch := omega) only [am_z, cq_Text_readSpan, Nat.reduceAdd, ar_lit, pdig_pv]
      cases e4 : (pdig ss (ppair ss (ppair ss a 0 (tn p - 2)).1 (f + 1) (tn p - 1)).1 0 1).2 with
      | none =>
        rw [pdig_none e4] at t4
        rw [e4] at k
        simp only [↓reduceIte]
        exact k I4 p (((f2.tr f3).tr f4).mono fun c => isXT_x) t4 r4 hw (fun q hq => by cases hq)
      | some c =>
        obtain ⟨g1, g2, g3, _⟩ := pdig_some e4
        rw [g1] at t4
        rw [e4] at k
        rw [if_neg (by simp)]
        simp only at k
        have fin : am_T l d y_Table_putSpan [vR (7, t), vI (nI f), vI (nI g), vI (nI c)] am_G0 I4 J (am_k (am_X l (0, fun _ => 0) (d + 1) y_Text_readSpan P) P 73 [some (vR (8, 0)), some (vR (7, t)), some (vI (nI f)), some (vI (nI g)), some (vI (nI c))] [] 0 0) := by
          refine s_putSpanT (x := (f, g, c)) (by omega) r4 hm g3 (fun I5 f5 r5 => ?_)
          simp only [am_z, Nat.reduceAdd]
          refine rn_Text_readSpan 40 ?_
          simp only [am_z, cq_Text_readSpan, Nat.reduceAdd, ar_lit]
          exact k I5 _ ((((f2.tr f3).tr f4).mono fun c => isXT_x).tr (f5.mono fun c => isXT_t)) (t4.frT f5) r5 (tputS_w hw hm ⟨by show f < g; omega, by show g < tn p; omega, g3⟩) (fun q hq => Option.some.inj hq)
        rcases (show c = 0 ∨ c = 1 by omega) with rfl | rfl
        · simp (disch := omega) only [show pv (some 0) = nI 0 from rfl, show pv (some f) = nI f from rfl, show pv (some g) = nI g from rfl, ar_eq, Nat.reduceEqDiff, ↓reduceIte]
          exact fin
        · simp (disch := omega) only [show pv (some 1) = nI 1 from rfl, show pv (some f) = nI f from rfl, show pv (some g) = nI g from rfl, ar_eq, Nat.reduceEqDiff, ↓reduceIte]
          exact fin
theorem s_readPart (hD : 4 ≤ D) (h : rT I ss a) (hr : rC I t p) (hw : tW p) (k : pk P J t ss I (ppart ss a p)) : am_T l D y_Text_readPart [vR (8, 0), vR (7, t)] am_G0 I J P := by
  obtain ⟨d, rfl⟩ : ∃ d, D = d + 1 := ⟨D - 1, by omega⟩
  have h24 := hw.2.2.2.2.1
  have hn31 : tn p < 2 ^ 31 := by omega
  unfold ppart at k
  have b1 : ∀ o : Option pt_T, nI (b01 o.isSome) = nI 0 ∨ nI (b01 o.isSome) = nI 1 := fun o => by
    cases o.isSome
    · exact Or.inl rfl
    · exact Or.inr rfl
  have no : ¬ (ss[a]? = some 114 ∧ tn p < 24) → ¬ (ss[a]? = some 107 ∧ 1 ≤ tn p) → ¬ (ss[a]? = some 110 ∧ 1 ≤ tn p) → ¬ ss[a]? = some 104 → ¬ (ss[a]? = some 115 ∧ 2 ≤ tn p ∧ tm p < 6) → P (.inl (some (vI (nI 0)))) am_G0 I J := fun n1 n2 n3 n4 n5 => by
    rw [if_neg n1, if_neg n2, if_neg n3, if_neg n4, if_neg n5] at k
    exact k I p am_fr.rf h hr hw (fun q hq => by cases hq)
  have t91 : ¬ (ss[a]? = some 114 ∧ tn p < 24) → ¬ (ss[a]? = some 107 ∧ 1 ≤ tn p) → ¬ (ss[a]? = some 110 ∧ 1 ≤ tn p) → ¬ ss[a]? = some 104 → am_X l (0, fun _ => 0) (d + 1) y_Text_readPart P 91 [some (vR (8, 0)), some (vR (7, t))] [] 0 0 am_G0 I J := by
    intro n1 n2 n3 n4
    refine rn_Text_readPart 40 ?_
    simp (disch := omega) only [am_z, cq_Text_readPart, Nat.reduceAdd, ar_lit, hr.1.2.1, ar_lt]
    by_cases q2 : tn p < 2
    · rw [if_pos q2]
      exact no n1 n2 n3 n4 (fun q => by omega)
    · rw [if_neg q2]
      refine s_hasAllSpans (by omega) hr hw (fun m6 => ?_) (fun m6 => ?_)
      · simp only [am_z, Nat.reduceAdd]
        refine rn_Text_readPart 40 ?_
        simp (disch := omega) only [am_z, cq_Text_readPart, Nat.reduceAdd, ar_lit, ↓reduceIte]
        refine s_takeSign (by omega) h (by omega) (fun I1 e1 f1 t1 => ?_) (fun e1 => ?_)
        · rw [if_neg n1, if_neg n2, if_neg n3, if_neg n4, if_pos ⟨e1, by omega, m6⟩] at k
          simp only [am_z, Nat.reduceAdd]
          refine rn_Text_readPart 40 ?_
          simp (disch := omega) only [am_z, cq_Text_readPart, Nat.reduceAdd, ar_lit, ar_eq, Nat.reduceEqDiff, ↓reduceIte]
          refine s_readSpan (by omega) t1 (hr.frX f1) hw (by omega) m6 (fun I2 q2 f2 t2 r2 w2 hq => ?_)
          simp only [am_z, Nat.reduceAdd]
          refine rn_Text_readPart 40 ?_
          simp only [am_z, cq_Text_readPart, Nat.reduceAdd]
          exact ⟨b1 _, (k.fr (f1.mono fun c => isXT_x)) I2 q2 f2 t2 r2 w2 hq⟩
        · simp only [am_z, Nat.reduceAdd]
          refine rn_Text_readPart 40 ?_
          simp (disch := omega) only [am_z, cq_Text_readPart, Nat.reduceAdd, ar_lit, ↓reduceIte]
          exact no n1 n2 n3 n4 (fun q => e1 q.1)
      · simp only [am_z, Nat.reduceAdd]
        refine rn_Text_readPart 40 ?_
        simp (disch := omega) only [am_z, cq_Text_readPart, Nat.reduceAdd, ar_lit, ar_eq, Nat.reduceEqDiff, ↓reduceIte]
        exact no n1 n2 n3 n4 (fun q => by omega)
  have t76 : ¬ (ss[a]? = some 114 ∧ tn p < 24) → ¬ (ss[a]? = some 107 ∧ 1 ≤ tn p) → ¬ (ss[a]? = some 110 ∧ 1 ≤ tn p) → am_X l (0, fun _ => 0) (d + 1) y_Text_readPart P 76 [some (vR (8, 0)), some (vR (7, t))] [] 0 0 am_G0 I J := by
    intro n1 n2 n3
    refine rn_Text_readPart 40 ?_
    simp (disch := omega) only [am_z, cq_Text_readPart, Nat.reduceAdd, ar_lit]
    refine s_takeSign (by omega) h (by omega) (fun I1 e1 f1 t1 => ?_) (fun e1 => ?_)
    · rw [if_neg n1, if_neg n2, if_neg n3, if_pos e1] at k
      simp only [am_z, Nat.reduceAdd]
      refine rn_Text_readPart 40 ?_
      simp (disch := omega) only [am_z, cq_Text_readPart, Nat.reduceAdd, ar_lit, ar_eq, Nat.reduceEqDiff, ↓reduceIte]
      refine s_readNoteHeight (by omega) t1 (hr.frX f1) hw (fun I2 q2 f2 t2 r2 w2 hq => ?_)
      simp only [am_z, Nat.reduceAdd]
      refine rn_Text_readPart 40 ?_
      simp only [am_z, cq_Text_readPart, Nat.reduceAdd]
      exact ⟨b1 _, (k.fr (f1.mono fun c => isXT_x)) I2 q2 f2 t2 r2 w2 hq⟩
    · simp only [am_z, Nat.reduceAdd]
      refine rn_Text_readPart 1 ?_
      simp (disch := omega) only [am_z, cq_Text_readPart, Nat.reduceAdd, ar_lit, ↓reduceIte]
      exact @t91 n1 n2 n3 e1
  have t53 : ¬ (ss[a]? = some 114 ∧ tn p < 24) → ¬ (ss[a]? = some 107 ∧ 1 ≤ tn p) → am_X l (0, fun _ => 0) (d + 1) y_Text_readPart P 53 [some (vR (8, 0)), some (vR (7, t))] [] 0 0 am_G0 I J := by
    intro n1 n2
    refine rn_Text_readPart 4 ?_
    simp (disch := omega) only [am_z, cq_Text_readPart, Nat.reduceAdd, ar_lit, hr.1.2.1, ar_lt]
    by_cases q2 : tn p < 1
    · rw [if_pos q2]
      exact @t76 n1 n2 (fun q => by omega)
    · rw [if_neg q2]
      refine rn_Text_readPart 40 ?_
      simp (disch := omega) only [am_z, cq_Text_readPart, Nat.reduceAdd, ar_lit]
      refine s_takeSign (by omega) h (by omega) (fun I1 e1 f1 t1 => ?_) (fun e1 => ?_)
      · rw [if_neg n1, if_neg n2, if_pos ⟨e1, by omega⟩] at k
        simp only [am_z, Nat.reduceAdd]
        refine rn_Text_readPart 40 ?_
        simp (disch := omega) only [am_z, cq_Text_readPart, Nat.reduceAdd, ar_lit, ar_eq, Nat.reduceEqDiff, ↓reduceIte]
        refine s_readNote (by omega) t1 (hr.frX f1) hw (by omega) (fun I2 q2 f2 t2 r2 w2 hq => ?_)
        simp only [am_z, Nat.reduceAdd]
        refine rn_Text_readPart 40 ?_
        simp only [am_z, cq_Text_readPart, Nat.reduceAdd]
        exact ⟨b1 _, (k.fr (f1.mono fun c => isXT_x)) I2 q2 f2 t2 r2 w2 hq⟩
      · simp only [am_z, Nat.reduceAdd]
        refine rn_Text_readPart 1 ?_
        simp (disch := omega) only [am_z, cq_Text_readPart, Nat.reduceAdd, ar_lit, ↓reduceIte]
        exact @t76 n1 n2 (fun q => e1 q.1)
  have t22 : ¬ (ss[a]? = some 114 ∧ tn p < 24) → am_X l (0, fun _ => 0) (d + 1) y_Text_readPart P 22 [some (vR (8, 0)), some (vR (7, t))] [] 0 0 am_G0 I J := by
    intro n1
    refine rn_Text_readPart 4 ?_
    simp (disch := omega) only [am_z, cq_Text_readPart, Nat.reduceAdd, ar_lit, hr.1.2.1, ar_lt]
    by_cases q2 : tn p < 1
    · rw [if_pos q2]
      exact @t53 n1 (fun q => by omega)
    · rw [if_neg q2]
      refine rn_Text_readPart 40 ?_
      simp (disch := omega) only [am_z, cq_Text_readPart, Nat.reduceAdd, ar_lit]
      refine s_takeSign (by omega) h (by omega) (fun I1 e1 f1 t1 => ?_) (fun e1 => ?_)
      · rw [if_neg n1, if_pos ⟨e1, by omega⟩] at k
        have r1 := hr.frX f1
        simp only [am_z, Nat.reduceAdd]
        refine rn_Text_readPart 40 ?_
        simp (disch := omega) only [am_z, cq_Text_readPart, Nat.reduceAdd, ar_lit, ar_eq, Nat.reduceEqDiff, ↓reduceIte, r1.1.2.1, ar_sub, ar_in, ar_cl, nar_b]
        refine ⟨by omega, ?_⟩
        refine k _ (tsetK p (tn p - 1) 1) ?_ ?_ (rC.setK r1 (by omega)) (tsetK_w hw (by omega) (by omega)) (fun q hq => Option.some.inj hq)
        · exact am_fr.up (f1.mono fun c => isXT_x) (isXT_t isT_12)
        · refine t1.kept ?_ ?_ <;> simp (disch := omega) only [am_uS]
      · simp only [am_z, Nat.reduceAdd]
        refine rn_Text_readPart 1 ?_
        simp (disch := omega) only [am_z, cq_Text_readPart, Nat.reduceAdd, ar_lit, ↓reduceIte]
        exact @t53 n1 (fun q => e1 q.1)
  refine en_Text_readPart 40 (Nat.le_of_ble_eq_true rfl) ?_
  simp (disch := omega) only [am_z, cq_Text_readPart, Nat.reduceAdd, ar_lit]
  refine s_isFull (by omega) hr hw (fun n24 => ?_) (fun n24 => ?_)
  · simp only [am_z, Nat.reduceAdd]
    refine rn_Text_readPart 40 ?_
    simp (disch := omega) only [am_z, cq_Text_readPart, Nat.reduceAdd, ar_lit, ↓reduceIte]
    refine s_takeSign (by omega) h (by omega) (fun I1 e1 f1 t1 => ?_) (fun e1 => ?_)
    · rw [if_pos ⟨e1, n24⟩] at k
      simp only [am_z, Nat.reduceAdd]
      refine rn_Text_readPart 40 ?_
      simp (disch := omega) only [am_z, cq_Text_readPart, Nat.reduceAdd, ar_lit, ar_eq, Nat.reduceEqDiff, ↓reduceIte]
      refine s_readRow (by omega) t1 (hr.frX f1) hw n24 (fun I2 q2 f2 t2 r2 w2 hq => ?_)
      simp only [am_z, Nat.reduceAdd]
      refine rn_Text_readPart 40 ?_
      simp only [am_z, cq_Text_readPart, Nat.reduceAdd]
      exact ⟨b1 _, (k.fr (f1.mono fun c => isXT_x)) I2 q2 f2 t2 r2 w2 hq⟩
    · simp only [am_z, Nat.reduceAdd]
      refine rn_Text_readPart 1 ?_
      simp (disch := omega) only [am_z, cq_Text_readPart, Nat.reduceAdd, ar_lit, ↓reduceIte]
      exact @t22 (fun q => e1 q.1)
  · simp only [am_z, Nat.reduceAdd]
    refine rn_Text_readPart 1 ?_
    simp (disch := omega) only [am_z, cq_Text_readPart, Nat.reduceAdd, ar_lit, ar_eq, Nat.reduceEqDiff, ↓reduceIte]
    exact @t22 (fun q => by omega)
end TX
