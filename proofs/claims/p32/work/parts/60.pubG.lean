/-! ===== TablePager: more actions ===== -/
def q_addSpan (s : pt_G) (a b : Int32) (c : Nat) : (Nat × Int32) × pt_G := match tix (tn s.2.1) a with
  | none => ((1, 0), s)
  | some i => match tix (tn s.2.1) b with
    | none => ((1, 0), s)
    | some j => if i < j then (if tm s.2.1 = 6 then ((3, 0), s) else ((0, nI (tm s.2.1)), tact s (tputS s.2.1 (i, j, c)))) else ((2, 0), s)
def q_removeSpan (s : pt_G) (r : Int32) : (Nat × Int32) × pt_G := match tix (tm s.2.1) r with
  | none => ((1, 0), s)
  | some i => ((0, nI (tpg (tdropS s.2.1 i) (tP (tdropS s.2.1 i))).length), tact s (tdropS s.2.1 i))
def q_setHeight (s : pt_G) (w h : Int32) : (Nat × Int32) × pt_G := match tix 8 w with
  | none => ((1, 0), s)
  | some i => match tix 41 h with
    | none => ((1, 0), s)
    | some j => if tokH i j = true then ((0, nI (tpg (tsetH s.2.1 i j) (tP (tsetH s.2.1 i j))).length), tact s (tsetH s.2.1 i j)) else ((1, 0), s)
def q_undo (s : pt_G) : (Nat × Int32) × pt_G := match s.2.2.1 with
  | [] => ((1, 0), s)
  | q :: L => ((0, nI L.length), (s.1, q, L, s.2.2.2))
section PB
variable {l : Launch} {D : Nat} {I : am_I} {J : am_J} {P : am_P} {s : pt_G}
theorem s_P_addSpan {a b : Int32} {c : Nat} (hD : 7 ≤ D) (hc : c ≤ 1) (h : st I s) (k : ∀ I', am_fr isC I I' → st I' (q_addSpan s a b c).2 → P (ox [3, 1, 2] (q_addSpan s a b c).1) am_G0 I' J) : am_T l D y_P_addSpan [vR (0, 0), vI a, vI b, vI (nI c)] am_G0 I J P := by
  obtain ⟨d, rfl⟩ : ∃ d, D = d + 1 := ⟨D - 1, by omega⟩
  have hp := h.p
  have hw := h.w
  have h24 := hw.2.2.2.2.1
  have h6 := hw.2.2.2.2.2.1
  unfold q_addSpan at k
  refine en_P_addSpan 20 (by omega) (Nat.le_of_ble_eq_true rfl) ?_
  simp (disch := omega) only [am_z, cq_P_addSpan, Nat.reduceAdd, Nat.zero_le, Nat.reduceLeDiff, ar_lit]
  refine s_requireRow (by omega) hp hw (fun hx => ?_) (fun i hi er => ?_)
  · rw [tix_x (by omega) hx] at k
    simp only [am_z, Nat.reduceAdd, Nat.zero_le, Nat.reduceLeDiff]
    exact k I am_fr.rf h
  · rw [tix_i er hi (by omega)] at k
    subst er
    simp only [am_z, Nat.reduceAdd, Nat.zero_le, Nat.reduceLeDiff]
    refine rn_P_addSpan (by omega) 20 ?_
    simp (disch := omega) only [am_z, cq_P_addSpan, Nat.reduceAdd, Nat.zero_le, Nat.reduceLeDiff, ar_lit]
    refine s_requireRow (by omega) hp hw (fun hx => ?_) (fun j hj er => ?_)
    · rw [tix_x (by omega) hx] at k
      simp only [am_z, Nat.reduceAdd, Nat.zero_le, Nat.reduceLeDiff]
      exact k I am_fr.rf h
    · rw [tix_i er hj (by omega)] at k
      subst er
      simp only at k
      simp only [am_z, Nat.reduceAdd, Nat.zero_le, Nat.reduceLeDiff]
      refine rn_P_addSpan (by omega) 20 ?_
      simp (disch := omega) only [am_z, cq_P_addSpan, Nat.reduceAdd, Nat.zero_le, Nat.reduceLeDiff, ar_lit, ar_lt]
      by_cases q : i < j
      · rw [if_pos q] at k ⊢
        refine s_hasAllSpans (by omega) hp hw (fun q => ?_) (fun q => ?_)
        · rw [if_neg (by omega)] at k
          simp only [am_z, Nat.reduceAdd, Nat.zero_le, Nat.reduceLeDiff]
          refine rn_P_addSpan (by omega) 20 ?_
          simp (disch := omega) only [am_z, cq_P_addSpan, Nat.reduceAdd, Nat.zero_le, Nat.reduceLeDiff, ar_lit, ar_in, ar_cl, ar_eq, ar_lt, ar_le, ar_sub, nI_add, Nat.reduceEqDiff, ↓reduceIte]
          refine s_rem (by omega) h (fun I1 f1 h1 => ?_)
          simp only [am_z, Nat.reduceAdd, Nat.zero_le, Nat.reduceLeDiff]
          refine rn_P_addSpan (by omega) 20 ?_
          simp (disch := omega) only [am_z, cq_P_addSpan, Nat.reduceAdd, Nat.zero_le, Nat.reduceLeDiff, ar_lit]
          refine s_putSpanT (x := (i, j, c)) (by omega) h1.p q hc (fun I2 f2 r2 => ?_)
          have h2 := h1.tab f2 r2 (tputS_w hw q ⟨by assumption, hj, hc⟩)
          simp only [am_z, Nat.reduceAdd, Nat.zero_le, Nat.reduceLeDiff]
          refine rn_P_addSpan (by omega) 20 ?_
          simp (disch := omega) only [am_z, cq_P_addSpan, Nat.reduceAdd, Nat.zero_le, Nat.reduceLeDiff, ar_lit, r2.1.2.2.1, tm_put]
          rw [ar_sub (by show 1 ≤ tm (tact s s.2.1).2.1 + 1; omega)]
          exact k I2 (f1.tr (f2.mono fun c => isC_T)) h2
        · rw [if_pos q] at k
          simp only [am_z, Nat.reduceAdd, Nat.zero_le, Nat.reduceLeDiff]
          refine rn_P_addSpan (by omega) 20 ?_
          simp (disch := omega) only [am_z, cq_P_addSpan, Nat.reduceAdd, Nat.zero_le, Nat.reduceLeDiff, ar_lit, ar_in, ar_cl, ar_eq, ar_lt, ar_le, ar_sub, nI_add, Nat.reduceEqDiff, ↓reduceIte]
          exact k I am_fr.rf h
      · rw [if_neg q] at k ⊢
        exact k I am_fr.rf h
theorem s_P_removeSpan {r : Int32} (hD : 7 ≤ D) (h : st I s) (k : ∀ I', am_fr isC I I' → st I' (q_removeSpan s r).2 → P (ox [3] (q_removeSpan s r).1) am_G0 I' J) : am_T l D y_P_removeSpan [vR (0, 0), vI r] am_G0 I J P := by
  obtain ⟨d, rfl⟩ : ∃ d, D = d + 1 := ⟨D - 1, by omega⟩
  have hp := h.p
  have hw := h.w
  have h6 := hw.2.2.2.2.2.1
  unfold q_removeSpan at k
  refine en_P_removeSpan 20 (Nat.le_of_ble_eq_true rfl) ?_
  simp (disch := omega) only [am_z, cq_P_removeSpan, Nat.reduceAdd, Nat.zero_le, Nat.reduceLeDiff, ar_lit]
  refine s_requireSpan (by omega) hp hw (fun hx => ?_) (fun i hi er => ?_)
  · rw [tix_x (by omega) hx] at k
    simp only [am_z, Nat.reduceAdd, Nat.zero_le, Nat.reduceLeDiff]
    exact k I am_fr.rf h
  · rw [tix_i er hi (by omega)] at k
    subst er
    simp only [am_z, Nat.reduceAdd, Nat.zero_le, Nat.reduceLeDiff]
    refine rn_P_removeSpan 20 ?_
    simp (disch := omega) only [am_z, cq_P_removeSpan, Nat.reduceAdd, Nat.zero_le, Nat.reduceLeDiff, ar_lit]
    refine s_rem (by omega) h (fun I1 f1 h1 => ?_)
    simp only [am_z, Nat.reduceAdd, Nat.zero_le, Nat.reduceLeDiff]
    refine rn_P_removeSpan 20 ?_
    simp (disch := omega) only [am_z, cq_P_removeSpan, Nat.reduceAdd, Nat.zero_le, Nat.reduceLeDiff, ar_lit]
    refine s_dropSpan (by omega) h1.p h1.w hi (fun I2 f2 r2 => ?_)
    have h2 := h1.tab f2 r2 (tdropS_w hw hi)
    simp only [am_z, Nat.reduceAdd, Nat.zero_le, Nat.reduceLeDiff]
    refine rn_P_removeSpan 20 ?_
    simp (disch := omega) only [am_z, cq_P_removeSpan, Nat.reduceAdd, Nat.zero_le, Nat.reduceLeDiff, ar_lit]
    refine s_countPages (by omega) h2.p h2.w (fun I3 f3 => ?_)
    simp only [am_z, Nat.reduceAdd, Nat.zero_le, Nat.reduceLeDiff]
    refine rn_P_removeSpan 20 ?_
    simp (disch := omega) only [am_z, cq_P_removeSpan, Nat.reduceAdd, Nat.zero_le, Nat.reduceLeDiff, ar_lit]
    exact k I3 ((f1.tr (f2.mono fun c => isC_T)).tr (f3.mono fun c => isC_Y)) (h2.frY f3)
theorem s_P_setHeight {a b : Int32} (hD : 7 ≤ D) (h : st I s) (k : ∀ I', am_fr isC I I' → st I' (q_setHeight s a b).2 → P (ox [1] (q_setHeight s a b).1) am_G0 I' J) : am_T l D y_P_setHeight [vR (0, 0), vI a, vI b] am_G0 I J P := by
  obtain ⟨d, rfl⟩ : ∃ d, D = d + 1 := ⟨D - 1, by omega⟩
  have hp := h.p
  have hw := h.w
  refine en_P_setHeight 20 (by omega) (Nat.le_of_ble_eq_true rfl) ?_
  simp (disch := omega) only [am_z, cq_P_setHeight, Nat.reduceAdd, Nat.zero_le, Nat.reduceLeDiff, ar_lit]
  refine s_allowsHeight (by omega) (fun hx => ?_) (fun i j b1 b2 b3 ea eb => ?_)
  · have kx : P (.inr 1) am_G0 I J := by
      have e : q_setHeight s a b = ((1, 0), s) := by
        unfold q_setHeight
        rcases tix_c 8 a (by omega) with ⟨e, _⟩ | ⟨i, hi, ea, e⟩
        · rw [e]
        · rw [e]
          rcases tix_c 41 b (by omega) with ⟨e2, _⟩ | ⟨j, hj, eb, e2⟩
          · rw [e2]
          · rw [e2]
            simp only
            rw [if_neg]
            exact fun q => hx i j hi hj q ea eb
      rw [e] at k
      exact k I am_fr.rf h
    simp only [am_z, Nat.reduceAdd, Nat.zero_le, Nat.reduceLeDiff]
    refine rn_P_setHeight (by omega) 20 ?_
    simp (disch := omega) only [am_z, cq_P_setHeight, Nat.reduceAdd, Nat.zero_le, Nat.reduceLeDiff, ar_lit, ar_in, ar_cl, ar_eq, ar_lt, ar_le, ar_sub, nI_add, Nat.reduceEqDiff, ↓reduceIte]
    exact kx
  · unfold q_setHeight at k
    rw [tix_i ea b1 (by omega), tix_i eb b2 (by omega)] at k
    subst ea
    subst eb
    simp only at k
    rw [if_pos b3] at k
    simp only [am_z, Nat.reduceAdd, Nat.zero_le, Nat.reduceLeDiff]
    refine rn_P_setHeight (by omega) 20 ?_
    simp (disch := omega) only [am_z, cq_P_setHeight, Nat.reduceAdd, Nat.zero_le, Nat.reduceLeDiff, ar_lit, ar_in, ar_cl, ar_eq, ar_lt, ar_le, ar_sub, nI_add, Nat.reduceEqDiff, ↓reduceIte]
    refine s_rem (by omega) h (fun I1 f1 h1 => ?_)
    simp only [am_z, Nat.reduceAdd, Nat.zero_le, Nat.reduceLeDiff]
    refine rn_P_setHeight (by omega) 20 ?_
    simp (disch := omega) only [am_z, cq_P_setHeight, Nat.reduceAdd, Nat.zero_le, Nat.reduceLeDiff, ar_lit]
    refine s_putHeight (by omega) h1.p b1 (fun I2 f2 r2 => ?_)
    have h2 := h1.tab f2 r2 (tsetH_w hw b3)
    simp only [am_z, Nat.reduceAdd, Nat.zero_le, Nat.reduceLeDiff]
    refine rn_P_setHeight (by omega) 20 ?_
    simp (disch := omega) only [am_z, cq_P_setHeight, Nat.reduceAdd, Nat.zero_le, Nat.reduceLeDiff, ar_lit]
    refine s_countPages (by omega) h2.p h2.w (fun I3 f3 => ?_)
    simp only [am_z, Nat.reduceAdd, Nat.zero_le, Nat.reduceLeDiff]
    refine rn_P_setHeight (by omega) 20 ?_
    simp (disch := omega) only [am_z, cq_P_setHeight, Nat.reduceAdd, Nat.zero_le, Nat.reduceLeDiff, ar_lit]
    exact k I3 ((f1.tr (f2.mono fun c => isC_T)).tr (f3.mono fun c => isC_Y)) (h2.frY f3)
theorem s_P_undo (hD : 7 ≤ D) (h : st I s) (k : ∀ I', am_fr isC I I' → st I' (q_undo s).2 → P (ox [2] (q_undo s).1) am_G0 I' J) : am_T l D y_P_undo [vR (0, 0)] am_G0 I J P := by
  obtain ⟨d, rfl⟩ : ∃ d, D = d + 1 := ⟨D - 1, by omega⟩
  obtain ⟨ss, p, L, z⟩ := s
  have hH := h.2.2.2.1
  unfold q_undo at k
  have hc : I (3, 0) 2 = nI L.length := by
    obtain ⟨_, _, _, e, _⟩ := hH
    exact e
  have hl : L.length ≤ 14 := by
    obtain ⟨_, _, _, _, e, _⟩ := hH
    exact e
  cases L with
  | nil =>
    refine en_P_undo 20 (by omega) (Nat.le_of_ble_eq_true rfl) ?_
    simp (disch := omega) only [am_z, cq_P_undo, Nat.reduceAdd, Nat.zero_le, Nat.reduceLeDiff, ar_lit, hc, List.length_nil, ↓reduceIte]
    exact k I am_fr.rf h
  | cons q L =>
    rw [List.length_cons] at hc hl
    refine en_P_undo 20 (by omega) (Nat.le_of_ble_eq_true rfl) ?_
    simp (disch := omega) only [am_z, cq_P_undo, Nat.reduceAdd, Nat.zero_le, Nat.reduceLeDiff, ar_lit, hc, ar_in, ar_cl, ar_eq, ar_lt, ar_le, ar_sub, nI_add, Nat.reduceEqDiff, ↓reduceIte]
    refine s_takeBack (by omega) hH (Or.inl rfl) (fun I1 f1 h1 r1 w1 => ?_)
    have hc1 : I1 (3, 0) 2 = nI L.length := by
      obtain ⟨_, _, _, e, _⟩ := h1
      exact e
    simp only [am_z, Nat.reduceAdd, Nat.zero_le, Nat.reduceLeDiff]
    refine rn_P_undo (by omega) 20 ?_
    simp (disch := omega) only [am_z, cq_P_undo, Nat.reduceAdd, Nat.zero_le, Nat.reduceLeDiff, ar_lit, hc1]
    obtain ⟨g1, g2, g3, g4, g5, g6⟩ := h
    refine k I1 (f1.mono fun c hc => hc.elim (fun e => e ▸ isC_3) isC_T) ⟨g1.kept (f1 _ ?_) (f1 _ ?_), r1, w1, h1, g5.kept (fun c hc => f1 c ?_), ?_⟩
    · exact fun q => q.elim (fun e => by simp at e) (isT_no (by omega))
    · exact fun q => q.elim (fun e => by simp at e) (isT_no (by omega))
    · exact fun q => q.elim (fun e => isZ_H hc (e ▸ isH_3)) (isT_Z (by omega) hc)
    · rw [f1 (17, 17)]
      · exact g6
      · exact fun q => q.elim (fun e => by simp at e) (fun e => by have := e.1; simp at this)
end PB
