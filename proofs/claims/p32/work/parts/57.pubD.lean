/-! ===== TablePager: the numbers of the table ===== -/
/-- the place of x among n, if it is one -/
def tix (n : Nat) (x : Int32) : Option Nat := if 0 ≤ x.toInt ∧ x.toInt < (n : Int) then some x.toInt.toNat else none
theorem tix_i {n j : Nat} {x : Int32} (e : x = nI j) (h : j < n) (hn : n ≤ 1000) : tix n x = some j := by
  unfold tix
  rw [e, nI_toInt (by omega), if_pos (by omega)]
  rfl
theorem tix_x {n : Nat} {x : Int32} (hn : n ≤ 1000) (h : ∀ j, j < n → ¬ x = nI j) : tix n x = none := by
  unfold tix
  rw [if_neg]
  intro q
  refine h x.toInt.toNat (by omega) ?_
  rw [ar_eqI (by omega)]
  omega
theorem tix_c (n : Nat) (x : Int32) (hn : n ≤ 1000) : (tix n x = none ∧ (x.toInt < 0 ∨ (n : Int) ≤ x.toInt)) ∨ ∃ j, j < n ∧ x = nI j ∧ tix n x = some j := by
  by_cases q : 0 ≤ x.toInt ∧ x.toInt < (n : Int)
  · have e : x = nI x.toInt.toNat := by rw [ar_eqI (by omega)]; omega
    exact Or.inr ⟨_, by omega, e, tix_i e (by omega) hn⟩
  · refine Or.inl ⟨if_neg q, by omega⟩
theorem sw_none {tgs : List Nat} {x : Int32} (h : (tgs.length : Int) ≤ x.toInt) : tgs[(x.toInt - 0).toNat]? = none := List.getElem?_eq_none (by omega)
def tab (p : pt_T) : Nat → Nat
  | 0 => tC p
  | 1 => tn p
  | 2 => tm p
  | 3 => tP p
  | 4 => tE p
  | 5 => (tpg p (tP p)).length
  | 6 => tov (tpg p (tP p))
  | _ => tcs (tpg p (tP p)) p (tm p)
def q_about (p : pt_T) (w : Int32) : Nat × Int32 := match tix 8 w with
  | none => (1, 0)
  | some j => (0, nI (tab p j))
def trow (p : pt_T) (r : Nat) : Nat → Nat
  | 0 => tH p r
  | 1 => tN p r
  | 2 => tK p r
  | 3 => b01 (decide (r + 1 < tn p) && tcut p r)
  | _ => tpo (tpg p (tP p)) r
def q_row (p : pt_T) (r w : Int32) : Nat × Int32 := match tix (tn p) r with
  | none => (1, 0)
  | some i => match tix 5 w with
    | none => (2, 0)
    | some j => (0, nI (trow p i j))
def q_amount (p : pt_T) (r c : Int32) : Nat × Int32 := match tix (tn p) r with
  | none => (1, 0)
  | some i => match tix (tC p) c with
    | none => (1, 0)
    | some j => (0, iI (tA p i j))
def tspn (p : pt_T) (s : Nat) : Nat → Nat
  | 0 => tF p s
  | 1 => tL p s
  | 2 => tM p s
  | _ => tps (tpg p (tP p)) p s
def q_span (p : pt_T) (s w : Int32) : Nat × Int32 := match tix (tm p) s with
  | none => (1, 0)
  | some i => match tix 4 w with
    | none => (2, 0)
    | some j => (0, nI (tspn p i j))
def q_note (p : pt_T) (n : Int32) : Nat × Int32 := if 1 ≤ n.toInt ∧ n.toInt ≤ 6 then (0, nI (tV p n.toInt.toNat)) else (1, 0)
section PB
variable {l : Launch} {D : Nat} {I : am_I} {J : am_J} {P : am_P} {s : pt_G}
theorem st.p (h : st I s) : rC I 0 s.2.1 := h.2.1
theorem st.w (h : st I s) : tW s.2.1 := h.2.2.1
theorem s_P_about {w : Int32} (hD : 7 ≤ D) (h : st I s) (k : ∀ I', am_fr isC I I' → st I' s → P (ox [1] (q_about s.2.1 w)) am_G0 I' J) : am_T l D y_P_about [vR (0, 0), vI w] am_G0 I J P := by
  obtain ⟨d, rfl⟩ : ∃ d, D = d + 1 := ⟨D - 1, by omega⟩
  have hp := h.p
  have hw := h.w
  unfold q_about at k
  rcases tix_c 8 w (by omega) with ⟨e, hs⟩ | ⟨j, hj, ew, e⟩
  · rw [e] at k
    have kx := k I am_fr.rf h
    by_cases h0 : w.toInt < 0
    · refine en_P_about 20 (by omega) (Nat.le_of_ble_eq_true rfl) ?_
      simp (disch := omega) only [am_z, cq_P_about, Nat.reduceAdd, Nat.zero_le, Nat.reduceLeDiff, ar_lit, if_pos h0]
      exact kx
    · have hn : ([48, 56, 64, 72, 80, 88, 93, 105] : List Nat)[(w.toInt - 0).toNat]? = none := sw_none (by simp; omega)
      refine en_P_about 20 (by omega) (Nat.le_of_ble_eq_true rfl) ?_
      simp (disch := omega) only [am_z, cq_P_about, Nat.reduceAdd, Nat.zero_le, Nat.reduceLeDiff, ar_lit, if_neg h0, hn]
      exact kx
  · rw [e] at k
    subst ew
    rcases (show j = 0 ∨ j = 1 ∨ j = 2 ∨ j = 3 ∨ j = 4 ∨ j = 5 ∨ j = 6 ∨ j = 7 by omega) with rfl | rfl | rfl | rfl | rfl | rfl | rfl | rfl
    · refine en_P_about 20 (by omega) (Nat.le_of_ble_eq_true rfl) ?_
      simp (disch := omega) only [am_z, cq_P_about, Nat.reduceAdd, Nat.zero_le, Nat.reduceLeDiff, ar_lit, show (nI 0).toInt = 0 by decide +kernel, Int.reduceLT, Int.reduceSub, Int.reduceToNat, List.getElem?_cons_zero, List.getElem?_cons_succ, ↓reduceIte, hp.1.1]
      exact k I am_fr.rf h
    · refine en_P_about 20 (by omega) (Nat.le_of_ble_eq_true rfl) ?_
      simp (disch := omega) only [am_z, cq_P_about, Nat.reduceAdd, Nat.zero_le, Nat.reduceLeDiff, ar_lit, show (nI 1).toInt = 1 by decide +kernel, Int.reduceLT, Int.reduceSub, Int.reduceToNat, List.getElem?_cons_zero, List.getElem?_cons_succ, ↓reduceIte, hp.1.2.1]
      exact k I am_fr.rf h
    · refine en_P_about 20 (by omega) (Nat.le_of_ble_eq_true rfl) ?_
      simp (disch := omega) only [am_z, cq_P_about, Nat.reduceAdd, Nat.zero_le, Nat.reduceLeDiff, ar_lit, show (nI 2).toInt = 2 by decide +kernel, Int.reduceLT, Int.reduceSub, Int.reduceToNat, List.getElem?_cons_zero, List.getElem?_cons_succ, ↓reduceIte, hp.1.2.2.1]
      exact k I am_fr.rf h
    · refine en_P_about 20 (by omega) (Nat.le_of_ble_eq_true rfl) ?_
      simp (disch := omega) only [am_z, cq_P_about, Nat.reduceAdd, Nat.zero_le, Nat.reduceLeDiff, ar_lit, show (nI 3).toInt = 3 by decide +kernel, Int.reduceLT, Int.reduceSub, Int.reduceToNat, List.getElem?_cons_zero, List.getElem?_cons_succ, ↓reduceIte, hp.1.2.2.2.1]
      exact k I am_fr.rf h
    · refine en_P_about 20 (by omega) (Nat.le_of_ble_eq_true rfl) ?_
      simp (disch := omega) only [am_z, cq_P_about, Nat.reduceAdd, Nat.zero_le, Nat.reduceLeDiff, ar_lit, show (nI 4).toInt = 4 by decide +kernel, Int.reduceLT, Int.reduceSub, Int.reduceToNat, List.getElem?_cons_zero, List.getElem?_cons_succ, ↓reduceIte, hp.1.2.2.2.2]
      exact k I am_fr.rf h
    · refine en_P_about 20 (by omega) (Nat.le_of_ble_eq_true rfl) ?_
      simp (disch := omega) only [am_z, cq_P_about, Nat.reduceAdd, Nat.zero_le, Nat.reduceLeDiff, ar_lit, show (nI 5).toInt = 5 by decide +kernel, Int.reduceLT, Int.reduceSub, Int.reduceToNat, List.getElem?_cons_zero, List.getElem?_cons_succ, ↓reduceIte]
      refine s_countPages (by omega) hp hw (fun I' hf => ?_)
      simp only [am_z, Nat.reduceAdd, Nat.zero_le, Nat.reduceLeDiff]
      refine rn_P_about (by omega) 20 ?_
      simp (disch := omega) only [am_z, cq_P_about, Nat.reduceAdd, Nat.zero_le, Nat.reduceLeDiff, ar_lit]
      exact k I' (hf.mono fun c => isC_Y) (h.frY hf)
    · refine en_P_about 20 (by omega) (Nat.le_of_ble_eq_true rfl) ?_
      simp (disch := omega) only [am_z, cq_P_about, Nat.reduceAdd, Nat.zero_le, Nat.reduceLeDiff, ar_lit, show (nI 6).toInt = 6 by decide +kernel, Int.reduceLT, Int.reduceSub, Int.reduceToNat, List.getElem?_cons_zero, List.getElem?_cons_succ, ↓reduceIte]
      refine s_layOut (by omega) hp hw (fun I' hf hl => ?_)
      simp only [am_z, Nat.reduceAdd, Nat.zero_le, Nat.reduceLeDiff]
      refine rn_P_about (by omega) 20 ?_
      simp (disch := omega) only [am_z, cq_P_about, Nat.reduceAdd, Nat.zero_le, Nat.reduceLeDiff, ar_lit, hl.2.1]
      exact k I' (hf.mono fun c => isC_Y) (h.frY hf)
    · refine en_P_about 20 (by omega) (Nat.le_of_ble_eq_true rfl) ?_
      simp (disch := omega) only [am_z, cq_P_about, Nat.reduceAdd, Nat.zero_le, Nat.reduceLeDiff, ar_lit, show (nI 7).toInt = 7 by decide +kernel, Int.reduceLT, Int.reduceSub, Int.reduceToNat, List.getElem?_cons_zero, List.getElem?_cons_succ, ↓reduceIte]
      refine s_layOut (by omega) hp hw (fun I' hf hl => ?_)
      simp only [am_z, Nat.reduceAdd, Nat.zero_le, Nat.reduceLeDiff]
      refine rn_P_about (by omega) 20 ?_
      simp (disch := omega) only [am_z, cq_P_about, Nat.reduceAdd, Nat.zero_le, Nat.reduceLeDiff, ar_lit]
      refine s_countCutSpans (by omega) (h.frY hf).p hw hl ?_
      simp only [am_z, Nat.reduceAdd, Nat.zero_le, Nat.reduceLeDiff]
      refine rn_P_about (by omega) 20 ?_
      simp (disch := omega) only [am_z, cq_P_about, Nat.reduceAdd, Nat.zero_le, Nat.reduceLeDiff, ar_lit]
      exact k I' (hf.mono fun c => isC_Y) (h.frY hf)
theorem s_P_row {r w : Int32} (hD : 7 ≤ D) (h : st I s) (k : ∀ I', am_fr isC I I' → st I' s → P (ox [3, 1] (q_row s.2.1 r w)) am_G0 I' J) : am_T l D y_P_row [vR (0, 0), vI r, vI w] am_G0 I J P := by
  obtain ⟨d, rfl⟩ : ∃ d, D = d + 1 := ⟨D - 1, by omega⟩
  have hp := h.p
  have hw := h.w
  have h24 := hw.2.2.2.2.1
  unfold q_row at k
  refine en_P_row 20 (by omega) (Nat.le_of_ble_eq_true rfl) ?_
  simp (disch := omega) only [am_z, cq_P_row, Nat.reduceAdd, Nat.zero_le, Nat.reduceLeDiff, ar_lit]
  refine s_requireRow (by omega) hp hw (fun hx => ?_) (fun i hi er => ?_)
  · rw [tix_x (by omega) hx] at k
    simp only [am_z, Nat.reduceAdd, Nat.zero_le, Nat.reduceLeDiff]
    exact k I am_fr.rf h
  · rw [tix_i er hi (by omega)] at k
    subst er
    have hi24 : i < 24 := by omega
    obtain ⟨g1, g2, g3, _⟩ := hp.2.1 i hi
    rcases tix_c 5 w (by omega) with ⟨e, hs⟩ | ⟨j, hj, ew, e⟩
    · rw [e] at k
      have kx := k I am_fr.rf h
      by_cases h0 : w.toInt < 0
      · simp only [am_z, Nat.reduceAdd, Nat.zero_le, Nat.reduceLeDiff]
        refine rn_P_row (by omega) 20 ?_
        simp (disch := omega) only [am_z, cq_P_row, Nat.reduceAdd, Nat.zero_le, Nat.reduceLeDiff, ar_lit, if_pos h0]
        exact kx
      · have hn : ([40, 50, 60, 78, 98] : List Nat)[(w.toInt - 0).toNat]? = none := sw_none (by simp; omega)
        simp only [am_z, Nat.reduceAdd, Nat.zero_le, Nat.reduceLeDiff]
        refine rn_P_row (by omega) 20 ?_
        simp (disch := omega) only [am_z, cq_P_row, Nat.reduceAdd, Nat.zero_le, Nat.reduceLeDiff, ar_lit, if_neg h0, hn]
        exact kx
    · rw [e] at k
      subst ew
      rcases (show j = 0 ∨ j = 1 ∨ j = 2 ∨ j = 3 ∨ j = 4 by omega) with rfl | rfl | rfl | rfl | rfl
      · simp only [am_z, Nat.reduceAdd, Nat.zero_le, Nat.reduceLeDiff]
        refine rn_P_row (by omega) 20 ?_
        simp (disch := omega) only [am_z, cq_P_row, Nat.reduceAdd, Nat.zero_le, Nat.reduceLeDiff, ar_lit, show (nI 0).toInt = 0 by decide +kernel, Int.reduceLT, Int.reduceSub, Int.reduceToNat, List.getElem?_cons_zero, List.getElem?_cons_succ, ↓reduceIte, ar_in, ar_cl, ar_eq, ar_lt, ar_le, ar_sub, nI_add, Nat.reduceEqDiff, ↓reduceIte, g1]
        exact ⟨hi24, k I am_fr.rf h⟩
      · simp only [am_z, Nat.reduceAdd, Nat.zero_le, Nat.reduceLeDiff]
        refine rn_P_row (by omega) 20 ?_
        simp (disch := omega) only [am_z, cq_P_row, Nat.reduceAdd, Nat.zero_le, Nat.reduceLeDiff, ar_lit, show (nI 1).toInt = 1 by decide +kernel, Int.reduceLT, Int.reduceSub, Int.reduceToNat, List.getElem?_cons_zero, List.getElem?_cons_succ, ↓reduceIte, ar_in, ar_cl, ar_eq, ar_lt, ar_le, ar_sub, nI_add, Nat.reduceEqDiff, ↓reduceIte, g2]
        exact ⟨hi24, k I am_fr.rf h⟩
      · have hK : tK s.2.1 i ≤ 1 := (hw.row hi).2.2.2.1
        have kk : P (.inl (some (vI (nI (tK s.2.1 i))))) am_G0 I J := k I am_fr.rf h
        simp only [am_z, Nat.reduceAdd, Nat.zero_le, Nat.reduceLeDiff]
        refine rn_P_row (by omega) 20 ?_
        simp (disch := omega) only [am_z, cq_P_row, Nat.reduceAdd, Nat.zero_le, Nat.reduceLeDiff, ar_lit, show (nI 2).toInt = 2 by decide +kernel, Int.reduceLT, Int.reduceSub, Int.reduceToNat, List.getElem?_cons_zero, List.getElem?_cons_succ, ↓reduceIte, ar_in, ar_cl, ar_eq, ar_lt, ar_le, ar_sub, nI_add, Nat.reduceEqDiff, ↓reduceIte, g3]
        refine ⟨hi24, ?_⟩
        split
        · rename_i q
          rw [q] at kk
          exact kk
        · rename_i q
          rw [show tK s.2.1 i = 1 by omega] at kk
          exact kk
      · simp only [am_z, Nat.reduceAdd, Nat.zero_le, Nat.reduceLeDiff]
        refine rn_P_row (by omega) 20 ?_
        simp (disch := omega) only [am_z, cq_P_row, Nat.reduceAdd, Nat.zero_le, Nat.reduceLeDiff, ar_lit, show (nI 3).toInt = 3 by decide +kernel, Int.reduceLT, Int.reduceSub, Int.reduceToNat, List.getElem?_cons_zero, List.getElem?_cons_succ, ↓reduceIte]
        refine s_cutRows (by omega) hp hw (fun x hx => ?_)
        simp only [am_z, Nat.reduceAdd, Nat.zero_le, Nat.reduceLeDiff]
        refine rn_P_row (by omega) 20 ?_
        simp (disch := omega) only [am_z, cq_P_row, Nat.reduceAdd, Nat.zero_le, Nat.reduceLeDiff, ar_lit]
        refine s_isIn (by omega) (by omega) ?_
        have kk : P (.inl (some (vI (nI (b01 (decide (i + 1 < tn s.2.1) && tcut s.2.1 i)))))) am_G0 I J := k I am_fr.rf h
        rw [hx i (by omega)]
        cases hb : (decide (i + 1 < tn s.2.1) && tcut s.2.1 i)
        · rw [hb] at kk
          simp only [am_z, Nat.reduceAdd, Nat.zero_le, Nat.reduceLeDiff]
          refine rn_P_row (by omega) 20 ?_
          simp (disch := omega) only [am_z, cq_P_row, Nat.reduceAdd, Nat.zero_le, Nat.reduceLeDiff, ar_lit, b01, Bool.false_eq_true, ↓reduceIte]
          exact kk
        · rw [hb] at kk
          simp only [am_z, Nat.reduceAdd, Nat.zero_le, Nat.reduceLeDiff]
          refine rn_P_row (by omega) 20 ?_
          simp (disch := omega) only [am_z, cq_P_row, Nat.reduceAdd, Nat.zero_le, Nat.reduceLeDiff, ar_lit, b01, Bool.false_eq_true, ↓reduceIte, ar_eq, Nat.reduceEqDiff]
          exact kk
      · simp only [am_z, Nat.reduceAdd, Nat.zero_le, Nat.reduceLeDiff]
        refine rn_P_row (by omega) 20 ?_
        simp (disch := omega) only [am_z, cq_P_row, Nat.reduceAdd, Nat.zero_le, Nat.reduceLeDiff, ar_lit, show (nI 4).toInt = 4 by decide +kernel, Int.reduceLT, Int.reduceSub, Int.reduceToNat, List.getElem?_cons_zero, List.getElem?_cons_succ, ↓reduceIte]
        refine s_layOut (by omega) hp hw (fun I' hf hl => ?_)
        simp only [am_z, Nat.reduceAdd, Nat.zero_le, Nat.reduceLeDiff]
        refine rn_P_row (by omega) 20 ?_
        simp (disch := omega) only [am_z, cq_P_row, Nat.reduceAdd, Nat.zero_le, Nat.reduceLeDiff, ar_lit]
        refine s_pageOf (by omega) hw hl hi ?_
        simp only [am_z, Nat.reduceAdd, Nat.zero_le, Nat.reduceLeDiff]
        refine rn_P_row (by omega) 20 ?_
        simp (disch := omega) only [am_z, cq_P_row, Nat.reduceAdd, Nat.zero_le, Nat.reduceLeDiff, ar_lit]
        exact k I' (hf.mono fun c => isC_Y) (h.frY hf)
end PB
