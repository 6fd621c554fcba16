/-! ===== TablePager: actions ===== -/
/-- the state is remembered -/
def trem (s : pt_G) : List pt_T := (s.2.1 :: s.2.2.1).take 14
/-- the table becomes q; it was remembered -/
def tact (s : pt_G) (q : pt_T) : pt_G := (s.1, q, trem s, s.2.2.2)
def q_addRow (s : pt_G) (a b : Int32) : (Nat × Int32) × pt_G := match tix 7 a with
  | none => ((1, 0), s)
  | some h => match tix 7 b with
    | none => ((1, 0), s)
    | some n => if h = 0 then ((1, 0), s) else if tn s.2.1 = 24 then ((2, 0), s) else ((0, nI (tn s.2.1)), tact s (tputR s.2.1 h n))
def q_setAmount (s : pt_G) (r c v : Int32) : (Nat × Int32) × pt_G := match tix (tn s.2.1) r with
  | none => ((1, 0), s)
  | some i => match tix (tC s.2.1) c with
    | none => ((1, 0), s)
    | some j => if -99 ≤ v.toInt ∧ v.toInt ≤ 99 then ((0, iI (tA s.2.1 i j)), tact s (tsetA s.2.1 i j v.toInt)) else ((2, 0), s)
def q_keep (s : pt_G) (r : Int32) (b : Nat) : (Nat × Int32) × pt_G := match tix (tn s.2.1) r with
  | none => ((1, 0), s)
  | some i => ((0, nI (tpg (tsetK s.2.1 i b) (tP (tsetK s.2.1 i b))).length), tact s (tsetK s.2.1 i b))
def q_removeRow (s : pt_G) (r : Int32) : (Nat × Int32) × pt_G := match tix (tn s.2.1) r with
  | none => ((1, 0), s)
  | some i => ((0, nI (tm s.2.1 - tm (tdropR s.2.1 i))), tact s (tdropR s.2.1 i))
section PB
variable {l : Launch} {D : Nat} {I : am_I} {J : am_J} {P : am_P} {s : pt_G}
theorem isT0_H {c : am_A} (h : isT 0 c) : ¬ isH c := by
  intro q
  rcases q with q | ⟨k, h1, h2, q⟩
  · have := h.2; rw [q] at this; simp at this
  · exact isT_ne (by omega) h q
theorem isZ_H {c : am_A} (h : isZ c) : ¬ isH c := by
  intro q
  have t : ∀ t, 14 < t → isT t c → False := fun t ht hc => by
    rcases q with q | ⟨k, h1, h2, q⟩
    · have := hc.2; rw [q] at this; simp at this
    · exact isT_ne (by omega) hc q
  rcases h with z | z | z
  · rcases q with q | ⟨k, h1, h2, q⟩
    · rw [z] at q; simp at q
    · have := q.2; rw [z] at this; simp at this
  · exact t 15 (by omega) z
  · exact t 16 (by omega) z
theorem isH_no {a : Nat} (h : ¬ a = 3 ∧ ¬ a = 7 ∧ ¬ (10 ≤ a ∧ a ≤ 17)) {b : Nat} : ¬ isH (a, b) := by
  intro q
  rcases q with q | ⟨k, h1, h2, q⟩
  · simp at q; omega
  · have := q.2; simp at this; omega
theorem isT_no {t : Nat} {a : Nat} (h : ¬ a = 7 ∧ ¬ (10 ≤ a ∧ a ≤ 17)) {b : Nat} : ¬ isT t (a, b) := by
  intro q
  have := q.2; simp at this; omega
theorem st.rem {I' : am_I} (h : st I s) (hf : am_fr isH I I') (hH : rH I' (trem s)) : st I' (tact s s.2.1) := by
  obtain ⟨h1, h2, h3, h4, h5, h6⟩ := h
  refine ⟨h1.kept (hf _ (isH_no (by omega))) (hf _ (isH_no (by omega))), h2.kept (fun c hc => hf c (isT0_H hc)), h3, hH, h5.kept (fun c hc => hf c (isZ_H hc)), ?_⟩
  rw [hf (17, 17)]
  · exact h6
  · intro q
    rcases q with q | ⟨k, h1, h2, q⟩
    · simp at q
    · have := q.1; simp at this; omega
theorem st.tab {I' : am_I} {q : pt_T} (h : st I s) (hf : am_fr (isT 0) I I') (hr : rC I' 0 q) (hw : tW q) : st I' (s.1, q, s.2.2) := by
  obtain ⟨h1, h2, h3, h4, h5, h6⟩ := h
  refine ⟨h1.kept (hf _ (isT_no (by omega))) (hf _ (isT_no (by omega))), hr, hw, h4.kept (fun c hc => hf c (isT_H (by omega) hc)), h5.kept (fun c hc => hf c (isT_Z (by omega) hc)), ?_⟩
  rw [hf (17, 17)]
  · exact h6
  · intro q
    have := q.1; simp at this
theorem s_rem (hD : 2 ≤ D) (h : st I s) (k : ∀ I', am_fr isC I I' → st I' (tact s s.2.1) → P (.inl none) am_G0 I' J) : am_T l D y_History_remember [vR (3, 0), vR (7, 0)] am_G0 I J P :=
  s_remember hD h.2.2.2.1 h.p h.w (Or.inl rfl) (fun I' hf hH => k I' (hf.mono fun c => isC_H) (h.rem hf hH))
theorem s_P_addRow {a b : Int32} (hD : 7 ≤ D) (h : st I s) (k : ∀ I', am_fr isC I I' → st I' (q_addRow s a b).2 → P (ox [1, 2] (q_addRow s a b).1) am_G0 I' J) : am_T l D y_P_addRow [vR (0, 0), vI a, vI b] am_G0 I J P := by
  obtain ⟨d, rfl⟩ : ∃ d, D = d + 1 := ⟨D - 1, by omega⟩
  have hp := h.p
  have hw := h.w
  have h24 := hw.2.2.2.2.1
  refine en_P_addRow 20 (by omega) (Nat.le_of_ble_eq_true rfl) ?_
  simp (disch := omega) only [am_z, cq_P_addRow, Nat.reduceAdd, Nat.zero_le, Nat.reduceLeDiff, ar_lit]
  refine s_allowsRow (by omega) (fun hx => ?_) (fun hh n b1 b2 b3 ea eb => ?_)
  · have kx : P (.inr 1) am_G0 I J := by
      have e : q_addRow s a b = ((1, 0), s) := by
        unfold q_addRow
        rcases tix_c 7 a (by omega) with ⟨e, _⟩ | ⟨i, hi, ea, e⟩
        · rw [e]
        · rw [e]
          rcases tix_c 7 b (by omega) with ⟨e2, _⟩ | ⟨j, hj, eb, e2⟩
          · rw [e2]
          · rw [e2]
            simp only
            rw [if_pos]
            exact Decidable.byContradiction fun q => hx i j (by omega) (by omega) (by omega) ea eb
      rw [e] at k
      exact k I am_fr.rf h
    simp only [am_z, Nat.reduceAdd, Nat.zero_le, Nat.reduceLeDiff]
    refine rn_P_addRow (by omega) 20 ?_
    simp (disch := omega) only [am_z, cq_P_addRow, Nat.reduceAdd, Nat.zero_le, Nat.reduceLeDiff, ar_lit, ar_in, ar_cl, ar_eq, ar_lt, ar_le, ar_sub, nI_add, Nat.reduceEqDiff, ↓reduceIte]
    exact kx
  · have e : q_addRow s a b = if tn s.2.1 = 24 then ((2, 0), s) else ((0, nI (tn s.2.1)), tact s (tputR s.2.1 hh n)) := by
      unfold q_addRow
      rw [tix_i ea (by omega) (by omega), tix_i eb (by omega) (by omega)]
      simp only
      rw [if_neg (by omega)]
    subst ea
    subst eb
    rw [e] at k
    simp only [am_z, Nat.reduceAdd, Nat.zero_le, Nat.reduceLeDiff]
    refine rn_P_addRow (by omega) 20 ?_
    simp (disch := omega) only [am_z, cq_P_addRow, Nat.reduceAdd, Nat.zero_le, Nat.reduceLeDiff, ar_lit, ar_in, ar_cl, ar_eq, ar_lt, ar_le, ar_sub, nI_add, Nat.reduceEqDiff, ↓reduceIte]
    refine s_isFull (by omega) hp hw (fun q => ?_) (fun q => ?_)
    · rw [if_neg (by omega)] at k
      simp only [am_z, Nat.reduceAdd, Nat.zero_le, Nat.reduceLeDiff]
      refine rn_P_addRow (by omega) 20 ?_
      simp (disch := omega) only [am_z, cq_P_addRow, Nat.reduceAdd, Nat.zero_le, Nat.reduceLeDiff, ar_lit, ar_in, ar_cl, ar_eq, ar_lt, ar_le, ar_sub, nI_add, Nat.reduceEqDiff, ↓reduceIte]
      refine s_rem (by omega) h (fun I1 f1 h1 => ?_)
      simp only [am_z, Nat.reduceAdd, Nat.zero_le, Nat.reduceLeDiff]
      refine rn_P_addRow (by omega) 20 ?_
      simp (disch := omega) only [am_z, cq_P_addRow, Nat.reduceAdd, Nat.zero_le, Nat.reduceLeDiff, ar_lit, ar_in, ar_cl, ar_eq, ar_lt, ar_le, ar_sub, nI_add, Nat.reduceEqDiff, ↓reduceIte]
      refine s_putRow (by omega) h1.p (by exact q) (fun I2 f2 r2 => ?_)
      have h2 := h1.tab f2 r2 (tputR_w hw q b1 b2 b3)
      simp only [am_z, Nat.reduceAdd, Nat.zero_le, Nat.reduceLeDiff]
      refine rn_P_addRow (by omega) 20 ?_
      simp (disch := omega) only [am_z, cq_P_addRow, Nat.reduceAdd, Nat.zero_le, Nat.reduceLeDiff, ar_lit, r2.1.2.1, tn_put]
      rw [ar_sub (by show 1 ≤ tn (tact s s.2.1).2.1 + 1; omega)]
      exact k I2 (f1.tr (f2.mono fun c => isC_T)) h2
    · rw [if_pos q] at k
      simp only [am_z, Nat.reduceAdd, Nat.zero_le, Nat.reduceLeDiff]
      refine rn_P_addRow (by omega) 20 ?_
      simp (disch := omega) only [am_z, cq_P_addRow, Nat.reduceAdd, Nat.zero_le, Nat.reduceLeDiff, ar_lit, ar_in, ar_cl, ar_eq, ar_lt, ar_le, ar_sub, nI_add, Nat.reduceEqDiff, ↓reduceIte]
      exact k I am_fr.rf h
theorem ar_m99 {x : Int32} : (x < -nI 99) = (x.toInt < -99) := by
  apply propext
  rw [Int32.lt_iff_toInt_lt]
  rw [show (-nI 99).toInt = -99 by decide +kernel]
theorem iI_of (x : Int32) : x = iI x.toInt := (Int32.ofInt_toInt x).symm
theorem s_P_setAmount {r c v : Int32} (hD : 7 ≤ D) (h : st I s) (k : ∀ I', am_fr isC I I' → st I' (q_setAmount s r c v).2 → P (ox [3, 1] (q_setAmount s r c v).1) am_G0 I' J) : am_T l D y_P_setAmount [vR (0, 0), vI r, vI c, vI v] am_G0 I J P := by
  obtain ⟨d, rfl⟩ : ∃ d, D = d + 1 := ⟨D - 1, by omega⟩
  have hp := h.p
  have hw := h.w
  have h24 := hw.2.2.2.2.1
  have h4 := hw.1.2
  unfold q_setAmount at k
  refine en_P_setAmount 20 (by omega) (Nat.le_of_ble_eq_true rfl) ?_
  simp (disch := omega) only [am_z, cq_P_setAmount, Nat.reduceAdd, Nat.zero_le, Nat.reduceLeDiff, ar_lit]
  refine s_requireRow (by omega) hp hw (fun hx => ?_) (fun i hi er => ?_)
  · rw [tix_x (by omega) hx] at k
    simp only [am_z, Nat.reduceAdd, Nat.zero_le, Nat.reduceLeDiff]
    exact k I am_fr.rf h
  · rw [tix_i er hi (by omega)] at k
    subst er
    simp only [am_z, Nat.reduceAdd, Nat.zero_le, Nat.reduceLeDiff]
    refine rn_P_setAmount (by omega) 20 ?_
    simp (disch := omega) only [am_z, cq_P_setAmount, Nat.reduceAdd, Nat.zero_le, Nat.reduceLeDiff, ar_lit]
    refine s_requireColumn (by omega) hp hw (fun hx => ?_) (fun j hj ec => ?_)
    · rw [tix_x (by omega) hx] at k
      simp only [am_z, Nat.reduceAdd, Nat.zero_le, Nat.reduceLeDiff]
      exact k I am_fr.rf h
    · rw [tix_i ec hj (by omega)] at k
      subst ec
      simp only at k
      simp only [am_z, Nat.reduceAdd, Nat.zero_le, Nat.reduceLeDiff]
      refine rn_P_setAmount (by omega) 20 ?_
      simp (disch := omega) only [am_z, cq_P_setAmount, Nat.reduceAdd, Nat.zero_le, Nat.reduceLeDiff, ar_lit, ar_m99, ar_geI]
      by_cases q1 : v.toInt < -99
      · rw [if_pos q1]
        rw [if_neg (by omega)] at k
        exact k I am_fr.rf h
      · rw [if_neg q1]
        by_cases q2 : v.toInt ≤ 99
        · rw [if_pos (by omega)]
          rw [if_pos (by omega)] at k
          refine s_rem (by omega) h (fun I1 f1 h1 => ?_)
          simp only [am_z, Nat.reduceAdd, Nat.zero_le, Nat.reduceLeDiff]
          refine rn_P_setAmount (by omega) 20 ?_
          simp (disch := omega) only [am_z, cq_P_setAmount, Nat.reduceAdd, Nat.zero_le, Nat.reduceLeDiff, ar_lit]
          refine s_amountAt (by omega) h1.p h1.w hi (by omega) ?_
          simp only [am_z, Nat.reduceAdd, Nat.zero_le, Nat.reduceLeDiff]
          refine rn_P_setAmount (by omega) 20 ?_
          simp (disch := omega) only [am_z, cq_P_setAmount, Nat.reduceAdd, Nat.zero_le, Nat.reduceLeDiff, ar_lit]
          refine s_putAmount (by omega) (by omega) (by omega) ?_
          simp only [am_z, Nat.reduceAdd, Nat.zero_le, Nat.reduceLeDiff]
          refine rn_P_setAmount (by omega) 20 ?_
          simp (disch := omega) only [am_z, cq_P_setAmount, Nat.reduceAdd, Nat.zero_le, Nat.reduceLeDiff, ar_lit]
          have ff : am_fr (isT 0) I1 (am_upI I1 (13, 0) (i * 4 + j) v) := am_fr.up am_fr.rf isT_13
          have h2 := h1.tab ff (by have := rC.setA (v := v.toInt) h1.p hi (show j < 4 by omega); rw [← iI_of] at this; exact this) (tsetA_w hw hi (by omega) q2)
          exact k _ (f1.tr (ff.mono fun c => isC_T)) h2
        · rw [if_neg (by omega)]
          rw [if_neg (by omega)] at k
          exact k I am_fr.rf h
theorem s_P_keep {r : Int32} {b : Nat} (hD : 7 ≤ D) (hb : b ≤ 1) (h : st I s) (k : ∀ I', am_fr isC I I' → st I' (q_keep s r b).2 → P (ox [3] (q_keep s r b).1) am_G0 I' J) : am_T l D y_P_keep [vR (0, 0), vI r, vI (nI b)] am_G0 I J P := by
  obtain ⟨d, rfl⟩ : ∃ d, D = d + 1 := ⟨D - 1, by omega⟩
  have hp := h.p
  have hw := h.w
  have h24 := hw.2.2.2.2.1
  unfold q_keep at k
  refine en_P_keep 20 (Nat.le_of_ble_eq_true rfl) ?_
  simp (disch := omega) only [am_z, cq_P_keep, Nat.reduceAdd, Nat.zero_le, Nat.reduceLeDiff, ar_lit]
  refine s_requireRow (by omega) hp hw (fun hx => ?_) (fun i hi er => ?_)
  · rw [tix_x (by omega) hx] at k
    simp only [am_z, Nat.reduceAdd, Nat.zero_le, Nat.reduceLeDiff]
    exact k I am_fr.rf h
  · rw [tix_i er hi (by omega)] at k
    subst er
    have hi24 : i < 24 := by omega
    simp only [am_z, Nat.reduceAdd, Nat.zero_le, Nat.reduceLeDiff]
    refine rn_P_keep 20 ?_
    simp (disch := omega) only [am_z, cq_P_keep, Nat.reduceAdd, Nat.zero_le, Nat.reduceLeDiff, ar_lit]
    refine s_rem (by omega) h (fun I1 f1 h1 => ?_)
    simp only [am_z, Nat.reduceAdd, Nat.zero_le, Nat.reduceLeDiff]
    refine rn_P_keep 20 ?_
    simp (disch := omega) only [am_z, cq_P_keep, Nat.reduceAdd, Nat.zero_le, Nat.reduceLeDiff, ar_lit, ar_in, ar_cl, ar_eq, ar_lt, ar_le, ar_sub, nI_add, Nat.reduceEqDiff, ↓reduceIte, nar_b]
    refine ⟨hi24, ?_⟩
    have ff : am_fr (isT 0) I1 (am_upI I1 (12, 0) i (nI b)) := am_fr.up am_fr.rf isT_12
    have h2 := h1.tab ff (rC.setK (b := b) h1.p hi) (tsetK_w hw hi hb)
    refine s_countPages (by omega) h2.p h2.w (fun I3 f3 => ?_)
    simp only [am_z, Nat.reduceAdd, Nat.zero_le, Nat.reduceLeDiff]
    refine rn_P_keep 20 ?_
    simp (disch := omega) only [am_z, cq_P_keep, Nat.reduceAdd, Nat.zero_le, Nat.reduceLeDiff, ar_lit]
    exact k I3 ((f1.tr (ff.mono fun c => isC_T)).tr (f3.mono fun c => isC_Y)) (h2.frY f3)
theorem s_P_removeRow {r : Int32} (hD : 7 ≤ D) (h : st I s) (k : ∀ I', am_fr isC I I' → st I' (q_removeRow s r).2 → P (ox [3] (q_removeRow s r).1) am_G0 I' J) : am_T l D y_P_removeRow [vR (0, 0), vI r] am_G0 I J P := by
  obtain ⟨d, rfl⟩ : ∃ d, D = d + 1 := ⟨D - 1, by omega⟩
  have hp := h.p
  have hw := h.w
  have h24 := hw.2.2.2.2.1
  unfold q_removeRow at k
  refine en_P_removeRow 20 (Nat.le_of_ble_eq_true rfl) ?_
  simp (disch := omega) only [am_z, cq_P_removeRow, Nat.reduceAdd, Nat.zero_le, Nat.reduceLeDiff, ar_lit]
  refine s_requireRow (by omega) hp hw (fun hx => ?_) (fun i hi er => ?_)
  · rw [tix_x (by omega) hx] at k
    simp only [am_z, Nat.reduceAdd, Nat.zero_le, Nat.reduceLeDiff]
    exact k I am_fr.rf h
  · rw [tix_i er hi (by omega)] at k
    subst er
    simp only [am_z, Nat.reduceAdd, Nat.zero_le, Nat.reduceLeDiff]
    refine rn_P_removeRow 20 ?_
    simp (disch := omega) only [am_z, cq_P_removeRow, Nat.reduceAdd, Nat.zero_le, Nat.reduceLeDiff, ar_lit]
    refine s_rem (by omega) h (fun I1 f1 h1 => ?_)
    simp only [am_z, Nat.reduceAdd, Nat.zero_le, Nat.reduceLeDiff]
    refine rn_P_removeRow 20 ?_
    simp (disch := omega) only [am_z, cq_P_removeRow, Nat.reduceAdd, Nat.zero_le, Nat.reduceLeDiff, ar_lit]
    refine s_dropRow (by omega) h1.p h1.w hi (fun I2 f2 r2 => ?_)
    have h2 := h1.tab f2 r2 (tdropR_w hw hi)
    simp only [am_z, Nat.reduceAdd, Nat.zero_le, Nat.reduceLeDiff]
    refine rn_P_removeRow 20 ?_
    simp (disch := omega) only [am_z, cq_P_removeRow, Nat.reduceAdd, Nat.zero_le, Nat.reduceLeDiff, ar_lit]
    exact k I2 (f1.tr (f2.mono fun c => isC_T)) h2
end PB
