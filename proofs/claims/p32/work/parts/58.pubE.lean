/-! ===== TablePager: amount, span, note, brought, carried ===== -/
section PB
variable {l : Launch} {D : Nat} {I : am_I} {J : am_J} {P : am_P} {s : pt_G}
theorem s_P_amount {r c : Int32} (hD : 7 ≤ D) (h : st I s) (k : ∀ I', am_fr isC I I' → st I' s → P (ox [3] (q_amount s.2.1 r c)) am_G0 I' J) : am_T l D y_P_amount [vR (0, 0), vI r, vI c] am_G0 I J P := by
  obtain ⟨d, rfl⟩ : ∃ d, D = d + 1 := ⟨D - 1, by omega⟩
  have hp := h.p
  have hw := h.w
  have h24 := hw.2.2.2.2.1
  have h4 := hw.1.2
  unfold q_amount at k
  refine en_P_amount 20 (Nat.le_of_ble_eq_true rfl) ?_
  simp (disch := omega) only [am_z, cq_P_amount, Nat.reduceAdd, Nat.zero_le, Nat.reduceLeDiff, ar_lit]
  refine s_requireRow (by omega) hp hw (fun hx => ?_) (fun i hi er => ?_)
  · rw [tix_x (by omega) hx] at k
    simp only [am_z, Nat.reduceAdd, Nat.zero_le, Nat.reduceLeDiff]
    exact k I am_fr.rf h
  · rw [tix_i er hi (by omega)] at k
    subst er
    simp only [am_z, Nat.reduceAdd, Nat.zero_le, Nat.reduceLeDiff]
    refine rn_P_amount 20 ?_
    simp (disch := omega) only [am_z, cq_P_amount, Nat.reduceAdd, Nat.zero_le, Nat.reduceLeDiff, ar_lit]
    refine s_requireColumn (by omega) hp hw (fun hx => ?_) (fun j hj ec => ?_)
    · rw [tix_x (by omega) hx] at k
      simp only [am_z, Nat.reduceAdd, Nat.zero_le, Nat.reduceLeDiff]
      exact k I am_fr.rf h
    · rw [tix_i ec hj (by omega)] at k
      subst ec
      simp only [am_z, Nat.reduceAdd, Nat.zero_le, Nat.reduceLeDiff]
      refine rn_P_amount 20 ?_
      simp (disch := omega) only [am_z, cq_P_amount, Nat.reduceAdd, Nat.zero_le, Nat.reduceLeDiff, ar_lit]
      refine s_amountAt (by omega) hp hw hi (by omega) ?_
      simp only [am_z, Nat.reduceAdd, Nat.zero_le, Nat.reduceLeDiff]
      refine rn_P_amount 20 ?_
      simp (disch := omega) only [am_z, cq_P_amount, Nat.reduceAdd, Nat.zero_le, Nat.reduceLeDiff, ar_lit]
      exact k I am_fr.rf h
theorem s_P_span {r w : Int32} (hD : 7 ≤ D) (h : st I s) (k : ∀ I', am_fr isC I I' → st I' s → P (ox [3, 1] (q_span s.2.1 r w)) am_G0 I' J) : am_T l D y_P_span [vR (0, 0), vI r, vI w] am_G0 I J P := by
  obtain ⟨d, rfl⟩ : ∃ d, D = d + 1 := ⟨D - 1, by omega⟩
  have hp := h.p
  have hw := h.w
  have h6 := hw.2.2.2.2.2.1
  unfold q_span at k
  refine en_P_span 20 (by omega) (Nat.le_of_ble_eq_true rfl) ?_
  simp (disch := omega) only [am_z, cq_P_span, Nat.reduceAdd, Nat.zero_le, Nat.reduceLeDiff, ar_lit]
  refine s_requireSpan (by omega) hp hw (fun hx => ?_) (fun i hi er => ?_)
  · rw [tix_x (by omega) hx] at k
    simp only [am_z, Nat.reduceAdd, Nat.zero_le, Nat.reduceLeDiff]
    exact k I am_fr.rf h
  · rw [tix_i er hi (by omega)] at k
    subst er
    have hi6 : i < 6 := by omega
    obtain ⟨g1, g2, g3⟩ := hp.2.2.1 i hi
    rcases tix_c 4 w (by omega) with ⟨e, hs⟩ | ⟨j, hj, ew, e⟩
    · rw [e] at k
      have kx := k I am_fr.rf h
      by_cases h0 : w.toInt < 0
      · simp only [am_z, Nat.reduceAdd, Nat.zero_le, Nat.reduceLeDiff]
        refine rn_P_span (by omega) 20 ?_
        simp (disch := omega) only [am_z, cq_P_span, Nat.reduceAdd, Nat.zero_le, Nat.reduceLeDiff, ar_lit, if_pos h0]
        exact kx
      · have hn : ([36, 46, 56, 74] : List Nat)[(w.toInt - 0).toNat]? = none := sw_none (by simp; omega)
        simp only [am_z, Nat.reduceAdd, Nat.zero_le, Nat.reduceLeDiff]
        refine rn_P_span (by omega) 20 ?_
        simp (disch := omega) only [am_z, cq_P_span, Nat.reduceAdd, Nat.zero_le, Nat.reduceLeDiff, ar_lit, if_neg h0, hn]
        exact kx
    · rw [e] at k
      subst ew
      rcases (show j = 0 ∨ j = 1 ∨ j = 2 ∨ j = 3 by omega) with rfl | rfl | rfl | rfl
      · simp only [am_z, Nat.reduceAdd, Nat.zero_le, Nat.reduceLeDiff]
        refine rn_P_span (by omega) 20 ?_
        simp (disch := omega) only [am_z, cq_P_span, Nat.reduceAdd, Nat.zero_le, Nat.reduceLeDiff, ar_lit, show (nI 0).toInt = 0 by decide +kernel, Int.reduceLT, Int.reduceSub, Int.reduceToNat, List.getElem?_cons_zero, List.getElem?_cons_succ, ↓reduceIte, ar_in, ar_cl, ar_eq, ar_lt, ar_le, ar_sub, nI_add, Nat.reduceEqDiff, ↓reduceIte, g1]
        exact ⟨hi6, k I am_fr.rf h⟩
      · simp only [am_z, Nat.reduceAdd, Nat.zero_le, Nat.reduceLeDiff]
        refine rn_P_span (by omega) 20 ?_
        simp (disch := omega) only [am_z, cq_P_span, Nat.reduceAdd, Nat.zero_le, Nat.reduceLeDiff, ar_lit, show (nI 1).toInt = 1 by decide +kernel, Int.reduceLT, Int.reduceSub, Int.reduceToNat, List.getElem?_cons_zero, List.getElem?_cons_succ, ↓reduceIte, ar_in, ar_cl, ar_eq, ar_lt, ar_le, ar_sub, nI_add, Nat.reduceEqDiff, ↓reduceIte, g2]
        exact ⟨hi6, k I am_fr.rf h⟩
      · have hK : tM s.2.1 i ≤ 1 := (hw.span hi).2.2
        have kk : P (.inl (some (vI (nI (tM s.2.1 i))))) am_G0 I J := k I am_fr.rf h
        simp only [am_z, Nat.reduceAdd, Nat.zero_le, Nat.reduceLeDiff]
        refine rn_P_span (by omega) 20 ?_
        simp (disch := omega) only [am_z, cq_P_span, Nat.reduceAdd, Nat.zero_le, Nat.reduceLeDiff, ar_lit, show (nI 2).toInt = 2 by decide +kernel, Int.reduceLT, Int.reduceSub, Int.reduceToNat, List.getElem?_cons_zero, List.getElem?_cons_succ, ↓reduceIte, ar_in, ar_cl, ar_eq, ar_lt, ar_le, ar_sub, nI_add, Nat.reduceEqDiff, ↓reduceIte, g3]
        refine ⟨hi6, ?_⟩
        split
        · rename_i q
          rw [q] at kk
          exact kk
        · rename_i q
          rw [show tM s.2.1 i = 1 by omega] at kk
          exact kk
      · simp only [am_z, Nat.reduceAdd, Nat.zero_le, Nat.reduceLeDiff]
        refine rn_P_span (by omega) 20 ?_
        simp (disch := omega) only [am_z, cq_P_span, Nat.reduceAdd, Nat.zero_le, Nat.reduceLeDiff, ar_lit, show (nI 3).toInt = 3 by decide +kernel, Int.reduceLT, Int.reduceSub, Int.reduceToNat, List.getElem?_cons_zero, List.getElem?_cons_succ, ↓reduceIte]
        refine s_layOut (by omega) hp hw (fun I' hf hl => ?_)
        simp only [am_z, Nat.reduceAdd, Nat.zero_le, Nat.reduceLeDiff]
        refine rn_P_span (by omega) 20 ?_
        simp (disch := omega) only [am_z, cq_P_span, Nat.reduceAdd, Nat.zero_le, Nat.reduceLeDiff, ar_lit]
        refine s_pagesOfSpan (by omega) (h.frY hf).p hw hl hi ?_
        simp only [am_z, Nat.reduceAdd, Nat.zero_le, Nat.reduceLeDiff]
        refine rn_P_span (by omega) 20 ?_
        simp (disch := omega) only [am_z, cq_P_span, Nat.reduceAdd, Nat.zero_le, Nat.reduceLeDiff, ar_lit]
        exact k I' (hf.mono fun c => isC_Y) (h.frY hf)
theorem s_P_note {n : Int32} (hD : 7 ≤ D) (h : st I s) (k : ∀ I', am_fr isC I I' → st I' s → P (ox [1] (q_note s.2.1 n)) am_G0 I' J) : am_T l D y_P_note [vR (0, 0), vI n] am_G0 I J P := by
  obtain ⟨d, rfl⟩ : ∃ d, D = d + 1 := ⟨D - 1, by omega⟩
  have hp := h.p
  unfold q_note at k
  refine en_P_note 20 (by omega) (Nat.le_of_ble_eq_true rfl) ?_
  simp (disch := omega) only [am_z, cq_P_note, Nat.reduceAdd, Nat.zero_le, Nat.reduceLeDiff, ar_lit, ar_ltI, ar_geI, ar_in, ar_cl, ar_eq, ar_lt, ar_le, ar_sub, nI_add, Nat.reduceEqDiff, ↓reduceIte]
  by_cases q1 : n.toInt < 1
  · rw [if_pos (by omega)]
    rw [if_neg (by omega)] at k
    exact k I am_fr.rf h
  · rw [if_neg (by omega)]
    by_cases q2 : n.toInt ≤ 6
    · rw [if_pos (by omega)]
      rw [if_pos (by omega)] at k
      have en : n = nI n.toInt.toNat := ar_nat (by omega)
      have hb : n.toInt.toNat < 7 := by omega
      have kk := k I am_fr.rf h
      generalize n.toInt.toNat = j at en hb kk
      subst en
      simp (disch := omega) only [ar_in, ar_cl, hp.2.2.2 j (by omega)]
      exact ⟨hb, kk⟩
    · rw [if_neg (by omega)]
      rw [if_neg (by omega)] at k
      exact k I am_fr.rf h
def q_brought (p : pt_T) (a c : Int32) : Nat × Int32 := match tix (tpg p (tP p)).length a with
  | none => (1, 0)
  | some i => match tix (tC p) c with
    | none => (1, 0)
    | some j => (0, iI (tsum p 0 (pgA (tpg p (tP p)) i).1 j))
def q_carried (p : pt_T) (a c : Int32) : Nat × Int32 := match tix (tpg p (tP p)).length a with
  | none => (1, 0)
  | some i => match tix (tC p) c with
    | none => (1, 0)
    | some j => (0, iI (tsum p 0 ((pgA (tpg p (tP p)) i).2.1 + 1) j))
theorem s_sumOfRows' {p : pt_T} {t a b c : Nat} (hD : 2 ≤ D) (h : rC I t p) (hw : tW p) (hab : a ≤ b + 1) (hb : b < tn p) (hc : c < 4) (k : P (.inl (some (vI (iI (tsum p a (b + 1) c))))) am_G0 I J) : am_T l D y_Table_sumOfRows [vR (7, t), vI (nI a), vI (nI b), vI (nI c)] am_G0 I J P := by
  have e : nI b = nI (b + 1) - nI 1 := by rw [ar_sub (by omega)]; rfl
  rw [e]
  exact s_sumOfRows hD h hw hab hb hc k
theorem s_P_brought {a c : Int32} (hD : 7 ≤ D) (h : st I s) (k : ∀ I', am_fr isC I I' → st I' s → P (ox [3] (q_brought s.2.1 a c)) am_G0 I' J) : am_T l D y_P_brought [vR (0, 0), vI a, vI c] am_G0 I J P := by
  obtain ⟨d, rfl⟩ : ∃ d, D = d + 1 := ⟨D - 1, by omega⟩
  have hp := h.p
  have hw := h.w
  have h24 := hw.2.2.2.2.1
  have h4 := hw.1.2
  have hlen := tpg_len (p := s.2.1) (h := tP s.2.1)
  unfold q_brought at k
  refine en_P_brought 20 (Nat.le_of_ble_eq_true rfl) ?_
  simp (disch := omega) only [am_z, cq_P_brought, Nat.reduceAdd, Nat.zero_le, Nat.reduceLeDiff, ar_lit]
  refine s_requirePage (by omega) hp hw (fun I' hf hx => ?_) (fun I' i hf hl hi er => ?_)
  · rw [tix_x (by omega) hx] at k
    simp only [am_z, Nat.reduceAdd, Nat.zero_le, Nat.reduceLeDiff]
    exact k I' (hf.mono fun c => isC_Y) (h.frY hf)
  · rw [tix_i er hi (by omega)] at k
    subst er
    have h' := h.frY hf
    simp only [am_z, Nat.reduceAdd, Nat.zero_le, Nat.reduceLeDiff]
    refine rn_P_brought 20 ?_
    simp (disch := omega) only [am_z, cq_P_brought, Nat.reduceAdd, Nat.zero_le, Nat.reduceLeDiff, ar_lit]
    refine s_requireColumn (by omega) h'.p hw (fun hx => ?_) (fun j hj ec => ?_)
    · rw [tix_x (by omega) hx] at k
      simp only [am_z, Nat.reduceAdd, Nat.zero_le, Nat.reduceLeDiff]
      exact k I' (hf.mono fun c => isC_Y) h'
    · rw [tix_i ec hj (by omega)] at k
      subst ec
      obtain ⟨b1, b2, _⟩ := tpg_at (p := s.2.1) (h := tP s.2.1) i hi
      simp only [am_z, Nat.reduceAdd, Nat.zero_le, Nat.reduceLeDiff]
      refine rn_P_brought 20 ?_
      simp (disch := omega) only [am_z, cq_P_brought, Nat.reduceAdd, Nat.zero_le, Nat.reduceLeDiff, ar_lit]
      refine s_firstOf (by omega) hl hi ?_
      simp only [am_z, Nat.reduceAdd, Nat.zero_le, Nat.reduceLeDiff]
      refine rn_P_brought 20 ?_
      simp (disch := omega) only [am_z, cq_P_brought, Nat.reduceAdd, Nat.zero_le, Nat.reduceLeDiff, ar_lit]
      refine s_sumOfRows (by omega) h'.p hw (Nat.zero_le _) (by omega) (by omega) ?_
      simp only [am_z, Nat.reduceAdd, Nat.zero_le, Nat.reduceLeDiff]
      refine rn_P_brought 20 ?_
      simp (disch := omega) only [am_z, cq_P_brought, Nat.reduceAdd, Nat.zero_le, Nat.reduceLeDiff, ar_lit]
      exact k I' (hf.mono fun c => isC_Y) h'
theorem s_P_carried {a c : Int32} (hD : 7 ≤ D) (h : st I s) (k : ∀ I', am_fr isC I I' → st I' s → P (ox [3] (q_carried s.2.1 a c)) am_G0 I' J) : am_T l D y_P_carried [vR (0, 0), vI a, vI c] am_G0 I J P := by
  obtain ⟨d, rfl⟩ : ∃ d, D = d + 1 := ⟨D - 1, by omega⟩
  have hp := h.p
  have hw := h.w
  have h24 := hw.2.2.2.2.1
  have h4 := hw.1.2
  have hlen := tpg_len (p := s.2.1) (h := tP s.2.1)
  unfold q_carried at k
  refine en_P_carried 20 (Nat.le_of_ble_eq_true rfl) ?_
  simp (disch := omega) only [am_z, cq_P_carried, Nat.reduceAdd, Nat.zero_le, Nat.reduceLeDiff, ar_lit]
  refine s_requirePage (by omega) hp hw (fun I' hf hx => ?_) (fun I' i hf hl hi er => ?_)
  · rw [tix_x (by omega) hx] at k
    simp only [am_z, Nat.reduceAdd, Nat.zero_le, Nat.reduceLeDiff]
    exact k I' (hf.mono fun c => isC_Y) (h.frY hf)
  · rw [tix_i er hi (by omega)] at k
    subst er
    have h' := h.frY hf
    simp only [am_z, Nat.reduceAdd, Nat.zero_le, Nat.reduceLeDiff]
    refine rn_P_carried 20 ?_
    simp (disch := omega) only [am_z, cq_P_carried, Nat.reduceAdd, Nat.zero_le, Nat.reduceLeDiff, ar_lit]
    refine s_requireColumn (by omega) h'.p hw (fun hx => ?_) (fun j hj ec => ?_)
    · rw [tix_x (by omega) hx] at k
      simp only [am_z, Nat.reduceAdd, Nat.zero_le, Nat.reduceLeDiff]
      exact k I' (hf.mono fun c => isC_Y) h'
    · rw [tix_i ec hj (by omega)] at k
      subst ec
      obtain ⟨b1, b2, _⟩ := tpg_at (p := s.2.1) (h := tP s.2.1) i hi
      simp only [am_z, Nat.reduceAdd, Nat.zero_le, Nat.reduceLeDiff]
      refine rn_P_carried 20 ?_
      simp (disch := omega) only [am_z, cq_P_carried, Nat.reduceAdd, Nat.zero_le, Nat.reduceLeDiff, ar_lit]
      refine s_lastOf (by omega) hl hlen hi ?_
      simp only [am_z, Nat.reduceAdd, Nat.zero_le, Nat.reduceLeDiff]
      refine rn_P_carried 20 ?_
      simp (disch := omega) only [am_z, cq_P_carried, Nat.reduceAdd, Nat.zero_le, Nat.reduceLeDiff, ar_lit]
      refine s_sumOfRows' (by omega) h'.p hw (Nat.zero_le _) b2 (by omega) ?_
      simp only [am_z, Nat.reduceAdd, Nat.zero_le, Nat.reduceLeDiff]
      refine rn_P_carried 20 ?_
      simp (disch := omega) only [am_z, cq_P_carried, Nat.reduceAdd, Nat.zero_le, Nat.reduceLeDiff, ar_lit]
      exact k I' (hf.mono fun c => isC_Y) h'
end PB
