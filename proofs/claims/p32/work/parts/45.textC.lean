/-! ===== the class Text: rows, spans, the whole text ===== -/
section TX
variable {l : Launch} {D t : Nat} {I : am_I} {J : am_J} {P : am_P} {p : pt_T} {ss : List Nat} {a : Nat}
theorem pk.fr {I' : am_I} {r : Nat × Option pt_T} (k : pk P J t ss I r) (hf : am_fr (isXT t) I I') : pk P J t ss I' r := fun I'' q' hf' => k I'' q' (hf.tr hf')
theorem isT_13 : isT t (13, t) := ⟨rfl, Or.inr ⟨by simp, by simp⟩⟩
theorem isT_12 : isT t (12, t) := ⟨rfl, Or.inr ⟨by simp, by simp⟩⟩
theorem s_readRow (hD : 3 ≤ D) (h : rT I ss a) (hr : rC I t p) (hw : tW p) (hn : tn p < 24) (k : pk P J t ss I (prow ss a p)) : am_T l D y_Text_readRow [vR (8, 0), vR (7, t)] am_G0 I J P := by
  obtain ⟨d, rfl⟩ : ∃ d, D = d + 1 := ⟨D - 1, by omega⟩
  have hc4 := hw.1.2
  have loop : ∀ m c I' a q a2 a5 a6, c + m = tC p → tC q = tC p → tn q = tn p + 1 → tW q → rC I' t q → rT I' ss a → pk P J t ss I' (pcols ss (tn p) m c a q) → am_X l (0, fun _ => 0) (d + 1) y_Text_readRow P 29 [some (vR (8, 0)), some (vR (7, t)), a2, some (vI (nI (tn p))), some (vI (nI c)), a5, a6] [] 0 0 am_G0 I' J := by
    intro m
    induction m with
    | zero =>
      intro c I' a q a2 a5 a6 hc hq1 hq2 hqw hr' h' k'
      refine rn_Text_readRow 40 ?_
      simp (disch := omega) only [am_z, cq_Text_readRow, Nat.reduceAdd, ar_lit, hr'.1.1, ar_le]
      rw [if_pos (by omega)]
      exact k' I' q am_fr.rf h' hr' hqw (fun q hq => Option.some.inj hq)
    | succ m ih =>
      intro c I' a q a2 a5 a6 hc hq1 hq2 hqw hr' h' k'
      unfold pcols at k'
      refine rn_Text_readRow 40 ?_
      simp (disch := omega) only [am_z, cq_Text_readRow, Nat.reduceAdd, ar_lit, hr'.1.1, ar_le]
      rw [if_neg (by omega)]
      have body : ∀ I1 b v5, am_fr isX I' I1 → rT I1 ss (a + 1) → (ss[a]? = some 45 ∨ ss[a]? = some 43) → v5 = b01 b → (b = decide (ss[a]? = some 45)) → am_T l d y_Text_takePair [vR (8, 0), vI (nI 0), vI (nI 99)] am_G0 I1 J (am_k (am_X l (0, fun _ => 0) (d + 1) y_Text_readRow P) P 69 [some (vR (8, 0)), some (vR (7, t)), a2, some (vI (nI (tn p))), some (vI (nI c)), some (vI (nI v5)), a6] [] 0 0) := by
        intro I1 b v5 f1 t1 hs hv5 hb
        have r1 := hr'.frX f1
        rw [if_pos hs] at k'
        refine s_takePair (by omega) t1 (by omega) (by omega) (fun I2 f2 t2 => ?_)
        have r2 := r1.frX f2
        simp only [am_z, Nat.reduceAdd]
        refine rn_Text_readRow 40 ?_
        simp (disch := omega) only [am_z, cq_Text_readRow, Nat.reduceAdd, ar_lit, ppair_pv]
        cases e2 : (ppair ss (a + 1) 0 99).2 with
        | none =>
          rw [e2] at k'
          simp only [↓reduceIte]
          exact k' I2 q ((f1.tr f2).mono fun c => isXT_x) t2 r2 hqw (fun q hq => by cases hq)
        | some v =>
          obtain ⟨g1, g2, g3⟩ := ppair_some e2
          rw [e2] at k'
          rw [if_neg (by simp)]
          simp only at k'
          have fin : ∀ z : Int, z = (if ss[a]? = some 45 then -(v : Int) else (v : Int)) → ∀ a6, am_T l d y_Table_putAmount [vR (7, t), vI (nI (tn p)), vI (nI c), vI (iI z)] am_G0 I2 J (am_k (am_X l (0, fun _ => 0) (d + 1) y_Text_readRow P) P 99 [some (vR (8, 0)), some (vR (7, t)), a2, some (vI (nI (tn p))), some (vI (nI c)), some (vI (nI v5)), a6] [] 0 0) := by
            intro z hz a6
            rw [← hz] at k'
            have hz2 : -99 ≤ z ∧ z ≤ 99 := by rw [hz]; split <;> omega
            refine s_putAmount (by omega) hn (by omega) ?_
            simp only [am_z, Nat.reduceAdd]
            refine rn_Text_readRow 40 ?_
            simp only [am_z, cq_Text_readRow, Nat.reduceAdd, ar_lit, nI_add]
            refine @ih (c + 1) _ _ (tsetA q (tn p) c z) _ _ _ (by omega) hq1 ((tn_set _ _).trans hq2) (tsetA_w hqw (by omega) hz2.1 hz2.2) (rC.setA r2 (by omega) (by omega)) ?_ (k'.fr ?_)
            · refine t2.kept ?_ ?_ <;> simp (disch := omega) only [am_uS]
            · exact am_fr.up ((f1.tr f2).mono fun c => isXT_x) (isXT_t isT_13)
          cases b
          · simp (disch := omega) only [hv5, b01, Bool.false_eq_true, ↓reduceIte, pv, iI_nI v]
            have hb' : ¬ ss[a]? = some 45 := by simpa using hb
            rw [hv5] at fin
            exact fin v (by rw [if_neg hb']) _
          · simp (disch := omega) only [hv5, b01, ↓reduceIte, pv, iI_nI v, ar_eq, Nat.reduceEqDiff, iI_neg]
            have hb' : ss[a]? = some 45 := by simpa using hb
            rw [hv5] at fin
            exact fin (-(v : Int)) (by rw [if_pos hb']) _
      refine s_takeSign (by omega) h' (by omega) (fun I1 e1 f1 t1 => ?_) (fun e1 => ?_)
      · simp only [am_z, Nat.reduceAdd]
        refine rn_Text_readRow 40 ?_
        simp (disch := omega) only [am_z, cq_Text_readRow, Nat.reduceAdd, ar_lit, ar_eq, Nat.reduceEqDiff, ↓reduceIte]
        exact body I1 true 1 f1 t1 (Or.inl e1) rfl (by rw [decide_eq_true e1])
      · simp only [am_z, Nat.reduceAdd]
        refine rn_Text_readRow 40 ?_
        simp (disch := omega) only [am_z, cq_Text_readRow, Nat.reduceAdd, ar_lit, ↓reduceIte]
        refine s_takeSign (by omega) h' (by omega) (fun I1 e2 f1 t1 => ?_) (fun e2 => ?_)
        · simp only [am_z, Nat.reduceAdd]
          refine rn_Text_readRow 40 ?_
          simp (disch := omega) only [am_z, cq_Text_readRow, Nat.reduceAdd, ar_lit, ar_eq, Nat.reduceEqDiff, ↓reduceIte]
          exact body I1 false 0 f1 t1 (Or.inr e2) rfl (by rw [decide_eq_false e1])
        · rw [if_neg (fun q => q.elim e1 e2)] at k'
          simp only [am_z, Nat.reduceAdd]
          refine rn_Text_readRow 40 ?_
          simp (disch := omega) only [am_z, cq_Text_readRow, Nat.reduceAdd, ar_lit, ↓reduceIte]
          exact k' I' q am_fr.rf h' hr' hqw (fun q hq => by cases hq)
  unfold prow at k
  refine en_Text_readRow 40 (Nat.le_of_ble_eq_true rfl) ?_
  simp only [am_z, cq_Text_readRow, Nat.reduceAdd, ar_lit]
  refine s_takeDigit (by omega) h (by omega) (by omega) (fun I2 f2 t2 => ?_)
  have r2 := hr.frX f2
  simp only [am_z, Nat.reduceAdd]
  refine rn_Text_readRow 40 ?_
  simp (disch := omega) only [am_z, cq_Text_readRow, Nat.reduceAdd, ar_lit, pdig_pv]
  cases e2 : (pdig ss a 1 6).2 with
  | none =>
    rw [pdig_none e2] at t2
    rw [e2] at k
    simp only [↓reduceIte]
    exact k I2 p (f2.mono fun c => isXT_x) t2 r2 hw (fun q hq => by cases hq)
  | some n =>
    obtain ⟨c1, c2, c3, _⟩ := pdig_some e2
    rw [c1] at t2
    rw [e2] at k
    rw [if_neg (by simp)]
    simp only [pv, r2.1.2.1]
    refine s_putRow (by omega) r2 hn (fun I3 f3 r3 => ?_)
    have t3 := t2.frT f3
    simp only [am_z, Nat.reduceAdd]
    refine rn_Text_readRow 40 ?_
    simp only [am_z, cq_Text_readRow, Nat.reduceAdd, ar_lit]
    exact @loop (tC p) 0 I3 (a + 1) (tputR p n 0) _ _ _ (by omega) rfl (tn_put _ _) (tputR_w hw hn c2 c3 (by omega)) r3 t3 (k.fr ((f2.mono fun c => isXT_x).tr (f3.mono fun c => isXT_t)))
end TX
