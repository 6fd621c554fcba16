/-! ===== the law: its loop and its start (written by wip/whole/gen_loopc.py) ===== -/
theorem lw_end {n i : Nat} (hn : n ≤ 2048) (hi : i ≤ 2048) : (Int32.ofNat n - nI 4 < nI i) = (n < i + 4) := by
  have e : (nI n - nI 4).toInt = (n : Int) - 4 := by
    rcases (show n = 0 ∨ n = 1 ∨ n = 2 ∨ n = 3 ∨ 4 ≤ n by omega) with q | q | q | q | q
    · subst q; decide +kernel
    · subst q; decide +kernel
    · subst q; decide +kernel
    · subst q; decide +kernel
    · rw [ar_sub q, nI_toInt (by omega)]; omega
  apply propext
  show nI n - nI 4 < nI i ↔ _
  rw [Int32.lt_iff_toInt_lt, e, nI_toInt (by omega)]
  omega
section LW
variable {l : Launch} {d n i kc ks : Nat} {xs : Nat → Int32} {I : am_I} {J : am_J} {s : pt_G} {a5 a6 : Option am_V}
theorem lw_exit (hn : n ≤ 2048) (hi : i ≤ 2048) (h : n < i + 4) : am_X l (n, xs) (d + 1) y_L_law lwP 23 [some (vR (36, 0)), some (vR (0, 0)), some (vR (9, 0)), some (vR (35, 0)), some (vI (nI i)), a5, a6] [] kc ks am_G0 I J := by
  have h := eq_true h
  refine rn_L_law 20 ?_
  simp (disch := omega) only [am_z, cq_L_law_0, cq_L_law_28, Nat.reduceAdd, Nat.zero_le, Nat.reduceLeDiff, ar_lit, nI_add, ar_in, ar_cl, lw_end, h, ↓reduceIte]
  exact rfl
theorem lw_case (hD : 10 ≤ d) (hb : both I s) (hi : i + 4 ≤ n ∧ n ≤ 2048) (hk : kc + 3 ≤ 601024 ∧ ks + 18 ≤ 7293034) (k : lwK l n xs d i kc ks) : am_X l (n, xs) (d + 1) y_L_law lwP 23 [some (vR (36, 0)), some (vR (0, 0)), some (vR (9, 0)), some (vR (35, 0)), some (vI (nI i)), a5, a6] [] kc ks am_G0 I J := by
  have h9 := eq_false (show ¬ n < i + 4 by omega)
  obtain ⟨j, hj, ej⟩ := pk_andE (xs i) (m := 31) 5 (by decide +kernel)
  refine rn_L_law 11 ?_
  simp (disch := omega) only [am_z, cq_L_law_0, Nat.reduceAdd, Nat.zero_le, Nat.reduceLeDiff, ar_lit, nI_add, ar_in, ar_cl, lw_end, h9, ↓reduceIte, ej]
  refine ⟨by omega, ?_⟩
  have hj : j < 32 := hj
  rcases (show j = 0 ∨ j = 1 ∨ j = 2 ∨ j = 3 ∨ j = 4 ∨ j = 5 ∨ j = 6 ∨ j = 7 ∨ j = 8 ∨ j = 9 ∨ j = 10 ∨ j = 11 ∨ j = 12 ∨ j = 13 ∨ j = 14 ∨ j = 15 ∨ j = 16 ∨ j = 17 ∨ j = 18 ∨ j = 19 ∨ j = 20 ∨ j = 21 ∨ j = 22 ∨ j = 23 ∨ j = 24 ∨ j = 25 ∨ j = 26 ∨ j = 27 ∨ j = 28 ∨ j = 29 ∨ j = 30 ∨ j = 31 by omega) with rfl | rfl | rfl | rfl | rfl | rfl | rfl | rfl | rfl | rfl | rfl | rfl | rfl | rfl | rfl | rfl | rfl | rfl | rfl | rfl | rfl | rfl | rfl | rfl | rfl | rfl | rfl | rfl | rfl | rfl | rfl | rfl
  · refine rn_L_law 1 ?_
    simp (disch := omega) only [am_z, cq_L_law_0, Nat.reduceAdd, Nat.zero_le, Nat.reduceLeDiff, show (nI 0).toInt = 0 by decide +kernel, Int.reduceLT, Int.reduceSub, Int.reduceToNat, List.getElem?_cons_zero, List.getElem?_cons_succ, List.getElem?_nil, ↓reduceIte]
    exact w_append hD hb hi hk k
  · refine rn_L_law 1 ?_
    simp (disch := omega) only [am_z, cq_L_law_0, Nat.reduceAdd, Nat.zero_le, Nat.reduceLeDiff, show (nI 1).toInt = 1 by decide +kernel, Int.reduceLT, Int.reduceSub, Int.reduceToNat, List.getElem?_cons_zero, List.getElem?_cons_succ, List.getElem?_nil, ↓reduceIte]
    exact w_clearText hD hb hi hk k
  · refine rn_L_law 1 ?_
    simp (disch := omega) only [am_z, cq_L_law_0, Nat.reduceAdd, Nat.zero_le, Nat.reduceLeDiff, show (nI 2).toInt = 2 by decide +kernel, Int.reduceLT, Int.reduceSub, Int.reduceToNat, List.getElem?_cons_zero, List.getElem?_cons_succ, List.getElem?_nil, ↓reduceIte]
    exact w_errorPosition hD hb hi hk k
  · refine rn_L_law 1 ?_
    simp (disch := omega) only [am_z, cq_L_law_0, Nat.reduceAdd, Nat.zero_le, Nat.reduceLeDiff, show (nI 3).toInt = 3 by decide +kernel, Int.reduceLT, Int.reduceSub, Int.reduceToNat, List.getElem?_cons_zero, List.getElem?_cons_succ, List.getElem?_nil, ↓reduceIte]
    exact w_load hD hb hi hk k
  · refine rn_L_law 1 ?_
    simp (disch := omega) only [am_z, cq_L_law_0, Nat.reduceAdd, Nat.zero_le, Nat.reduceLeDiff, show (nI 4).toInt = 4 by decide +kernel, Int.reduceLT, Int.reduceSub, Int.reduceToNat, List.getElem?_cons_zero, List.getElem?_cons_succ, List.getElem?_nil, ↓reduceIte]
    exact w_about hD hb hi hk k
  · refine rn_L_law 1 ?_
    simp (disch := omega) only [am_z, cq_L_law_0, Nat.reduceAdd, Nat.zero_le, Nat.reduceLeDiff, show (nI 5).toInt = 5 by decide +kernel, Int.reduceLT, Int.reduceSub, Int.reduceToNat, List.getElem?_cons_zero, List.getElem?_cons_succ, List.getElem?_nil, ↓reduceIte]
    exact w_row hD hb hi hk k
  · refine rn_L_law 1 ?_
    simp (disch := omega) only [am_z, cq_L_law_0, Nat.reduceAdd, Nat.zero_le, Nat.reduceLeDiff, show (nI 6).toInt = 6 by decide +kernel, Int.reduceLT, Int.reduceSub, Int.reduceToNat, List.getElem?_cons_zero, List.getElem?_cons_succ, List.getElem?_nil, ↓reduceIte]
    exact w_amount hD hb hi hk k
  · refine rn_L_law 1 ?_
    simp (disch := omega) only [am_z, cq_L_law_0, Nat.reduceAdd, Nat.zero_le, Nat.reduceLeDiff, show (nI 7).toInt = 7 by decide +kernel, Int.reduceLT, Int.reduceSub, Int.reduceToNat, List.getElem?_cons_zero, List.getElem?_cons_succ, List.getElem?_nil, ↓reduceIte]
    exact w_span hD hb hi hk k
  · refine rn_L_law 1 ?_
    simp (disch := omega) only [am_z, cq_L_law_0, Nat.reduceAdd, Nat.zero_le, Nat.reduceLeDiff, show (nI 8).toInt = 8 by decide +kernel, Int.reduceLT, Int.reduceSub, Int.reduceToNat, List.getElem?_cons_zero, List.getElem?_cons_succ, List.getElem?_nil, ↓reduceIte]
    exact w_note hD hb hi hk k
  · refine rn_L_law 1 ?_
    simp (disch := omega) only [am_z, cq_L_law_0, Nat.reduceAdd, Nat.zero_le, Nat.reduceLeDiff, show (nI 9).toInt = 9 by decide +kernel, Int.reduceLT, Int.reduceSub, Int.reduceToNat, List.getElem?_cons_zero, List.getElem?_cons_succ, List.getElem?_nil, ↓reduceIte]
    exact w_page hD hb hi hk k
  · refine rn_L_law 1 ?_
    simp (disch := omega) only [am_z, cq_L_law_0, Nat.reduceAdd, Nat.zero_le, Nat.reduceLeDiff, show (nI 10).toInt = 10 by decide +kernel, Int.reduceLT, Int.reduceSub, Int.reduceToNat, List.getElem?_cons_zero, List.getElem?_cons_succ, List.getElem?_nil, ↓reduceIte]
    exact w_brought hD hb hi hk k
  · refine rn_L_law 1 ?_
    simp (disch := omega) only [am_z, cq_L_law_0, Nat.reduceAdd, Nat.zero_le, Nat.reduceLeDiff, show (nI 11).toInt = 11 by decide +kernel, Int.reduceLT, Int.reduceSub, Int.reduceToNat, List.getElem?_cons_zero, List.getElem?_cons_succ, List.getElem?_nil, ↓reduceIte]
    exact w_carried hD hb hi hk k
  · refine rn_L_law 1 ?_
    simp (disch := omega) only [am_z, cq_L_law_0, Nat.reduceAdd, Nat.zero_le, Nat.reduceLeDiff, show (nI 12).toInt = 12 by decide +kernel, Int.reduceLT, Int.reduceSub, Int.reduceToNat, List.getElem?_cons_zero, List.getElem?_cons_succ, List.getElem?_nil, ↓reduceIte]
    exact w_richest hD hb hi hk k
  · refine rn_L_law 1 ?_
    simp (disch := omega) only [am_z, cq_L_law_0, Nat.reduceAdd, Nat.zero_le, Nat.reduceLeDiff, show (nI 13).toInt = 13 by decide +kernel, Int.reduceLT, Int.reduceSub, Int.reduceToNat, List.getElem?_cons_zero, List.getElem?_cons_succ, List.getElem?_nil, ↓reduceIte]
    exact w_addRow hD hb hi hk k
  · refine rn_L_law 1 ?_
    simp (disch := omega) only [am_z, cq_L_law_0, Nat.reduceAdd, Nat.zero_le, Nat.reduceLeDiff, show (nI 14).toInt = 14 by decide +kernel, Int.reduceLT, Int.reduceSub, Int.reduceToNat, List.getElem?_cons_zero, List.getElem?_cons_succ, List.getElem?_nil, ↓reduceIte]
    exact w_setAmount hD hb hi hk k
  · refine rn_L_law 1 ?_
    simp (disch := omega) only [am_z, cq_L_law_0, Nat.reduceAdd, Nat.zero_le, Nat.reduceLeDiff, show (nI 15).toInt = 15 by decide +kernel, Int.reduceLT, Int.reduceSub, Int.reduceToNat, List.getElem?_cons_zero, List.getElem?_cons_succ, List.getElem?_nil, ↓reduceIte]
    exact w_keep hD hb hi hk k
  · refine rn_L_law 1 ?_
    simp (disch := omega) only [am_z, cq_L_law_0, Nat.reduceAdd, Nat.zero_le, Nat.reduceLeDiff, show (nI 16).toInt = 16 by decide +kernel, Int.reduceLT, Int.reduceSub, Int.reduceToNat, List.getElem?_cons_zero, List.getElem?_cons_succ, List.getElem?_nil, ↓reduceIte]
    exact w_removeRow hD hb hi hk k
  · refine rn_L_law 1 ?_
    simp (disch := omega) only [am_z, cq_L_law_0, Nat.reduceAdd, Nat.zero_le, Nat.reduceLeDiff, show (nI 17).toInt = 17 by decide +kernel, Int.reduceLT, Int.reduceSub, Int.reduceToNat, List.getElem?_cons_zero, List.getElem?_cons_succ, List.getElem?_nil, ↓reduceIte]
    exact w_addSpan hD hb hi hk k
  · refine rn_L_law 1 ?_
    simp (disch := omega) only [am_z, cq_L_law_0, Nat.reduceAdd, Nat.zero_le, Nat.reduceLeDiff, show (nI 18).toInt = 18 by decide +kernel, Int.reduceLT, Int.reduceSub, Int.reduceToNat, List.getElem?_cons_zero, List.getElem?_cons_succ, List.getElem?_nil, ↓reduceIte]
    exact w_removeSpan hD hb hi hk k
  · refine rn_L_law 1 ?_
    simp (disch := omega) only [am_z, cq_L_law_0, Nat.reduceAdd, Nat.zero_le, Nat.reduceLeDiff, show (nI 19).toInt = 19 by decide +kernel, Int.reduceLT, Int.reduceSub, Int.reduceToNat, List.getElem?_cons_zero, List.getElem?_cons_succ, List.getElem?_nil, ↓reduceIte]
    exact w_setHeight hD hb hi hk k
  · refine rn_L_law 1 ?_
    simp (disch := omega) only [am_z, cq_L_law_0, Nat.reduceAdd, Nat.zero_le, Nat.reduceLeDiff, show (nI 20).toInt = 20 by decide +kernel, Int.reduceLT, Int.reduceSub, Int.reduceToNat, List.getElem?_cons_zero, List.getElem?_cons_succ, List.getElem?_nil, ↓reduceIte]
    exact w_undo hD hb hi hk k
  · refine rn_L_law 1 ?_
    simp (disch := omega) only [am_z, cq_L_law_0, Nat.reduceAdd, Nat.zero_le, Nat.reduceLeDiff, show (nI 21).toInt = 21 by decide +kernel, Int.reduceLT, Int.reduceSub, Int.reduceToNat, List.getElem?_cons_zero, List.getElem?_cons_succ, List.getElem?_nil, ↓reduceIte]
    exact w_heightFor hD hb hi hk k
  · refine rn_L_law 1 ?_
    simp (disch := omega) only [am_z, cq_L_law_0, Nat.reduceAdd, Nat.zero_le, Nat.reduceLeDiff, show (nI 22).toInt = 22 by decide +kernel, Int.reduceLT, Int.reduceSub, Int.reduceToNat, List.getElem?_cons_zero, List.getElem?_cons_succ, List.getElem?_nil, ↓reduceIte]
    exact w_evenest hD hb hi hk k
  · refine rn_L_law 1 ?_
    simp (disch := omega) only [am_z, cq_L_law_0, Nat.reduceAdd, Nat.zero_le, Nat.reduceLeDiff, show (nI 23).toInt = 23 by decide +kernel, Int.reduceLT, Int.reduceSub, Int.reduceToNat, List.getElem?_cons_zero, List.getElem?_cons_succ, List.getElem?_nil, ↓reduceIte]
    exact w_evenCut hD hb hi hk k
  · refine rn_L_law 1 ?_
    simp (disch := omega) only [am_z, cq_L_law_0, Nat.reduceAdd, Nat.zero_le, Nat.reduceLeDiff, show (nI 24).toInt = 24 by decide +kernel, Int.reduceLT, Int.reduceSub, Int.reduceToNat, List.getElem?_cons_zero, List.getElem?_cons_succ, List.getElem?_nil, ↓reduceIte]
    exact w_emptyFrom hD hb hi hk k
  · refine rn_L_law 1 ?_
    simp (disch := omega) only [am_z, cq_L_law_0, Nat.reduceAdd, Nat.zero_le, Nat.reduceLeDiff, show (nI 25).toInt = 25 by decide +kernel, Int.reduceLT, Int.reduceSub, Int.reduceToNat, List.getElem?_cons_zero, List.getElem?_cons_succ, List.getElem?_nil, ↓reduceIte]
    exact w_runScript hD hb hi hk k
  · refine rn_L_law 1 ?_
    simp (disch := omega) only [am_z, cq_L_law_0, Nat.reduceAdd, Nat.zero_le, Nat.reduceLeDiff, show (nI 26).toInt = 26 by decide +kernel, Int.reduceLT, Int.reduceSub, Int.reduceToNat, List.getElem?_cons_zero, List.getElem?_cons_succ, List.getElem?_nil, ↓reduceIte]
    exact w_simulate hD hb hi hk k
  · refine rn_L_law 1 ?_
    simp (disch := omega) only [am_z, cq_L_law_0, Nat.reduceAdd, Nat.zero_le, Nat.reduceLeDiff, show (nI 27).toInt = 27 by decide +kernel, Int.reduceLT, Int.reduceSub, Int.reduceToNat, List.getElem?_cons_zero, List.getElem?_cons_succ, List.getElem?_nil, ↓reduceIte]
    exact w_save hD hb hi hk k
  · refine rn_L_law 1 ?_
    simp (disch := omega) only [am_z, cq_L_law_0, Nat.reduceAdd, Nat.zero_le, Nat.reduceLeDiff, show (nI 28).toInt = 28 by decide +kernel, Int.reduceLT, Int.reduceSub, Int.reduceToNat, List.getElem?_cons_zero, List.getElem?_cons_succ, List.getElem?_nil, ↓reduceIte]
    exact w_restore hD hb hi hk k
  · refine rn_L_law 1 ?_
    simp (disch := omega) only [am_z, cq_L_law_0, Nat.reduceAdd, Nat.zero_le, Nat.reduceLeDiff, show (nI 29).toInt = 29 by decide +kernel, Int.reduceLT, Int.reduceSub, Int.reduceToNat, List.getElem?_cons_zero, List.getElem?_cons_succ, List.getElem?_nil, ↓reduceIte]
    exact w_none hb k
  · refine rn_L_law 1 ?_
    simp (disch := omega) only [am_z, cq_L_law_0, Nat.reduceAdd, Nat.zero_le, Nat.reduceLeDiff, show (nI 30).toInt = 30 by decide +kernel, Int.reduceLT, Int.reduceSub, Int.reduceToNat, List.getElem?_cons_zero, List.getElem?_cons_succ, List.getElem?_nil, ↓reduceIte]
    exact w_none hb k
  · refine rn_L_law 1 ?_
    simp (disch := omega) only [am_z, cq_L_law_0, Nat.reduceAdd, Nat.zero_le, Nat.reduceLeDiff, show (nI 31).toInt = 31 by decide +kernel, Int.reduceLT, Int.reduceSub, Int.reduceToNat, List.getElem?_cons_zero, List.getElem?_cons_succ, List.getElem?_nil, ↓reduceIte]
    exact w_none hb k
theorem law_loop (hD : 10 ≤ d) (hn : n ≤ 2048) : ∀ (m i kc ks : Nat) (I : am_I) (J : am_J) (s : pt_G) (a5 a6 : Option am_V), both I s → i ≤ 2048 → n ≤ i + 4 * m + 3 → kc + 3 * m ≤ 601024 → ks + 18 * m ≤ 7293034 → am_X l (n, xs) (d + 1) y_L_law lwP 23 [some (vR (36, 0)), some (vR (0, 0)), some (vR (9, 0)), some (vR (35, 0)), some (vI (nI i)), a5, a6] [] kc ks am_G0 I J := by
  intro m
  induction m with
  | zero =>
    intro i kc ks I J s a5 a6 _ hi h _ _
    exact lw_exit hn hi (by omega)
  | succ m ih =>
    intro i kc ks I J s a5 a6 hb hi h hk hs
    by_cases q : n < i + 4
    · exact lw_exit hn hi q
    · exact lw_case hD hb ⟨by omega, hn⟩ ⟨by omega, by omega⟩ fun I' J' s' a5' a6' kc' ks' hb' h1 h2 => ih (i + 4) kc' ks' I' J' s' a5' a6' hb' (by omega) (by omega) (by omega) (by omega)
theorem as0_box : ∀ a ∈ am_as0, a.1 < 36 ∧ a.2 < 18 := by decide +kernel
def as0_q (x y : Nat) : Bool := ((decide (y = 0) && (decide (x ≤ 6) || decide (x = 8) || (decide (18 ≤ x) && decide (x ≤ 24)))) || (decide (x = 5) && decide (y = 1)) || (decide (y ≤ 17) && (decide (x = 7) || (decide (10 ≤ x) && decide (x ≤ 17))))) || (decide (y = 0) && (decide (x = 9) || (decide (25 ≤ x) && decide (x ≤ 34)))) || (decide (x = 35) && decide (y = 0))
theorem as0_all : ((List.range 36).all fun x => (List.range 18).all fun y => as0_q x y == decide ((x, y) ∈ am_as0)) = true := by decide +kernel
theorem as0_at (x : Nat) (hx : x < 36) (y : Nat) (hy : y < 18) : (x, y) ∈ am_as0 ↔ as0_q x y = true := by
  have h := List.all_eq_true.mp as0_all x (List.mem_range.mpr hx)
  have h := List.all_eq_true.mp h y (List.mem_range.mpr hy)
  have h := beq_iff_eq.mp h
  rw [h, decide_eq_true_iff]
theorem mem_as0 (a : am_A) : a ∈ am_as0 ↔ (isC0 a ∨ isMi a ∨ a = (35, 0)) := by
  obtain ⟨x, y⟩ := a
  unfold isC0 isMi
  simp only [Prod.mk.injEq]
  constructor
  · intro h
    have hb := as0_box _ h
    have h := (as0_at x hb.1 y hb.2).mp h
    unfold as0_q at h
    simp only [Bool.or_eq_true, Bool.and_eq_true, decide_eq_true_iff] at h
    omega
  · intro h
    refine (as0_at x (by omega) y (by omega)).mpr ?_
    unfold as0_q
    simp only [Bool.or_eq_true, Bool.and_eq_true, decide_eq_true_iff]
    omega
theorem as0_nd : am_as0.Nodup := by decide +kernel
theorem st_isC {I I' : am_I} {s : pt_G} (h : st I s) (hf : ∀ c, isC c → I' c = I c) : st I' s := h.kept fun c hc => hf c (by
  rcases hc with z | z | z | z | z | z
  · rw [z]; unfold isC; simp
  · rw [z]; unfold isC; simp
  · have := z.2; unfold isC; omega
  · rcases z with z | ⟨_, _, _, z⟩
    · rw [z]; unfold isC; simp
    · have := z.2; unfold isC; omega
  · rcases z with z | z | z
    · rw [z]; unfold isC; simp
    · have := z.2; unfold isC; omega
    · have := z.2; unfold isC; omega
  · rw [z]; unfold isC; simp)
theorem law_go (hD : 10 ≤ d) (hn : n ≤ 2048) : am_X l (n, xs) (d + 1) y_L_law lwP 0 [some (vR (36, 0)), none, none, none, none, none, none] [] 0 0 ([], fun _ _ => none) (fun _ _ => 0) (fun _ _ => 0) := by
  refine rn_L_law 4 ?_
  simp (disch := omega) only [am_z, cq_L_law_0, Nat.reduceAdd, Nat.zero_le, Nat.reduceLeDiff, ar_lit]
  refine ⟨Nat.le_of_ble_eq_true rfl, 0, (by simp), ?_⟩
  refine ⟨Nat.le_of_ble_eq_true rfl, ?_⟩
  refine s_i_P (by omega) (am_nG_mem.mpr (Or.inr rfl)) am_nG_eq (fun a _ h2 q => (am_nG_mem.mp q).elim (fun z => by cases z) h2) (fun G1 I1 J1 g1 h1 => ?_)
  have e1 : ∀ a, a ∈ G1.1 ↔ isC0 a := fun a => by
    rw [g1.1, am_nG_mem]
    constructor
    · rintro ((q | q) | q)
      · cases q
      · rw [q]; unfold isC0; simp
      · exact q
    · exact Or.inr
  simp only [am_z, Nat.reduceAdd, Nat.zero_le, Nat.reduceLeDiff]
  refine rn_L_law 1 ?_
  simp only [am_z, cq_L_law_0, Nat.reduceAdd, Nat.zero_le, Nat.reduceLeDiff]
  refine rn_L_law 3 ?_
  simp (disch := omega) only [am_z, cq_L_law_0, Nat.reduceAdd, Nat.zero_le, Nat.reduceLeDiff, ar_lit]
  refine ⟨Nat.le_of_ble_eq_true rfl, 0, (by rw [e1]; unfold isC0; simp), ?_⟩
  refine ⟨Nat.le_of_ble_eq_true rfl, ?_⟩
  refine s_i_Model (by omega) (am_nG_mem.mpr (Or.inr rfl)) am_nG_eq am_nI_eq (fun t h25 h34 q => (am_nG_mem.mp q).elim (fun z => by rw [e1] at z; unfold isC0 at z; simp only at z; omega) (fun z => by simp only [Prod.mk.injEq] at z; omega)) (fun G2 I2 J2 g2 m2 => ?_)
  have i9 : isMi (9, 0) := ⟨rfl, Or.inl rfl⟩
  have e2 : ∀ a, a ∈ G2.1 ↔ isC0 a ∨ isMi a := fun a => by
    rw [g2.1, am_nG_mem, e1]
    constructor
    · rintro ((q | q) | q)
      · exact Or.inl q
      · exact Or.inr (q ▸ i9)
      · exact Or.inr q
    · rintro (q | q)
      · exact Or.inl (Or.inl q)
      · exact Or.inr q
  simp only [am_z, Nat.reduceAdd, Nat.zero_le, Nat.reduceLeDiff]
  refine rn_L_law 3 ?_
  simp (disch := omega) only [am_z, cq_L_law_0, Nat.reduceAdd, Nat.zero_le, Nat.reduceLeDiff, ar_lit]
  refine ⟨(35, 0), ⟨rfl, by decide +kernel, by decide +kernel⟩, Nat.le_of_ble_eq_true rfl, (by rw [e2]; unfold isC0 isMi; simp), ?_⟩
  refine rn_L_law 3 ?_
  simp (disch := omega) only [am_z, cq_L_law_0, Nat.reduceAdd, Nat.zero_le, Nat.reduceLeDiff, ar_lit]
  refine am_X_eqv (G' := am_G0) (fun a => ?_) (fun a ha => ?_) as0_nd (law_loop hD hn 512 0 _ _ _ _ _ _ _ ⟨st_isC h1 (fun c hc => ?_), ?_⟩ (by omega) (by omega) (Nat.le_of_ble_eq_true rfl) (Nat.le_of_ble_eq_true rfl))
  · rw [am_nG_mem, e2]
    show _ ↔ a ∈ am_as0
    rw [mem_as0]
    constructor
    · rintro ((q | q) | q)
      · exact Or.inl q
      · exact Or.inr (Or.inl q)
      · exact Or.inr (Or.inr q)
    · rintro (q | q | q)
      · exact Or.inl (Or.inl q)
      · exact Or.inl (Or.inr q)
      · exact Or.inr q
  · show _ = am_R0 a
    by_cases q : a = (35, 0)
    · rw [q, am_nG_eq, R0_arr (by omega) (by omega) (by omega)]
    · rw [am_nG_ne q]
      by_cases z : isMi a
      · exact g2.2.2.1 a z
      · have hc : isC0 a := by
          rcases am_nG_mem.mp ha with u | u
          · exact ((e2 a).mp u).resolve_right z
          · exact absurd u q
        have z9 : ¬ a = (9, 0) := fun e => z (by rw [e]; exact i9)
        rw [g2.2.1 a z, am_nG_ne z9]
        exact g1.2.2.1 a hc
  · have q1 : ¬ c = (35, 0) := fun e => by rw [e] at hc; unfold isC at hc; simp at hc
    have q2 : ¬ isMi c := fun z => by unfold isC at hc; unfold isMi at z; omega
    have z9 : ¬ c = (9, 0) := fun e => q2 (by rw [e]; exact i9)
    rw [am_nI_ne q1, g2.2.2.2 c q2, am_nI_ne z9]
  · have n : ∀ t : Nat, ¬ t = 35 → am_nI I2 (35, 0) (t, 0) = I2 (t, 0) := fun t ht => am_nI_ne (fun e => ht (congrArg Prod.fst e))
    have m3 := m2
    unfold sm rN rY rO at m3 ⊢
    rw [n 9 (by decide), n 25 (by decide), n 27 (by decide), n 29 (by decide), n 30 (by decide), n 31 (by decide)]
    exact m3
end LW
