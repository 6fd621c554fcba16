/-! ===== the law: what is told holds, what is taken back is as it was ===== -/
section FO
variable {l : Launch} {D d : Nat} {I : am_I} {J : am_J} {P : am_P} {t : List Nat} {p : pt_T} {H : List pt_T} {Z : Nat → Option pt_T} {X : Nat}
abbrev fls0 (p : pt_T) (X : Nat) (r : am_L) : am_L := some (vR (0, 0)) :: some (vI (nI X)) :: some (vL (nowv p)) :: none :: some (vI (nI (tn p))) :: some (vI (nI (tpg p (tP p)).length)) :: some (vI (nI 1)) :: r
abbrev fX (l : Launch) (d : Nat) (J : am_J) (P : am_P) (pc : Nat) (ls : am_L) (kc ks : Nat) (I : am_I) : Prop := am_X l (0, fun _ => 0) (d + 1) y_L_follows P pc ls [] kc ks am_G0 I J
theorem f_end (hD : 10 ≤ d + 1) (hZ : Z 1 = some p) (fin : ∀ I', st I' (t, p, [], Z) → P (.inl (some (vI (nI 1)))) am_G0 I' J) {r : am_L} {kc ks : Nat} (h : st I (t, p, H, Z)) (hk1 : kc ≤ 6100) (hk2 : ks ≤ 36600) : fX l d J P 930 (fls0 p X r) kc ks I := by
  have h24 : tn p ≤ 24 := h.w.2.2.2.2.1
  refine rn_L_follows 40 ?_
  simp (disch := omega) only [am_z, cq_L_follows, Nat.reduceAdd, Nat.zero_le, Nat.reduceLeDiff, ar_lit, ar_eq, Nat.reduceEqDiff, ↓reduceIte, leT]
  refine s_V_restore (by omega) h (by omega) hZ h24 (fun I1 h => ?_)
  simp only [am_z, Nat.reduceAdd, Nat.zero_le, Nat.reduceLeDiff]
  refine rn_L_follows 40 ?_
  simp (disch := omega) only [am_z, cq_L_follows, Nat.reduceAdd, Nat.zero_le, Nat.reduceLeDiff, ar_lit, nI_lI, lc_eq, ↓reduceIte, leT]
  refine s_L_now (by omega) h (fun I2 h => ?_)
  simp only [am_z, Nat.reduceAdd, Nat.zero_le, Nat.reduceLeDiff]
  refine rn_L_follows 40 ?_
  simp (disch := omega) only [am_z, cq_L_follows, Nat.reduceAdd, Nat.zero_le, Nat.reduceLeDiff, ar_lit, lc_eq, ↓reduceIte, leT]
  refine s_V_undo0 (by omega) h (fun I3 h => ?_)
  simp only [am_z, Nat.reduceAdd, Nat.zero_le, Nat.reduceLeDiff]
  refine rn_L_follows 40 ?_
  simp (disch := omega) only [am_z, cq_L_follows, Nat.reduceAdd, Nat.zero_le, Nat.reduceLeDiff, ar_lit, lc_eq, ↓reduceIte, am_tt]
  exact fin I3 h
/-- where the end begins -/
def f_930 (l : Launch) (d : Nat) (J : am_J) (P : am_P) (t : List Nat) (p : pt_T) (Z : Nat → Option pt_T) (X : Nat) : Prop := ∀ I H r kc ks, st I (t, p, H, Z) → kc ≤ 6100 → ks ≤ 36600 → fX l d J P 930 (fls0 p X r) kc ks I
theorem tps_one {p : pt_T} (hw : tW p) {s : Nat} (hs : s < tm p) (hM : tM p s = 0) : tspn p s 3 = 1 := by
  show tpo (tpg p (tP p)) (tL p s) - tpo (tpg p (tP p)) (tF p s) + 1 = 1
  rw [tpo_one hw hs hM]
  omega
theorem f_span (hD : 10 ≤ d + 1) (next : f_930 l d J P t p Z X) {r : Nat} {x7 x8 x9 x10 x11 x12 x13 x14 x15 x16 x17 x19 x20 x23 x24 x25 x26 x27 x29 : Option am_V} {kc ks : Nat} (hr : r < tn p) (hX : X < 2147483648) (h : st I (t, p, H, Z)) (hk1 : kc + 1450 ≤ 6100) (hk2 : ks + 8700 ≤ 36600) : fX l d J P 797 (fls0 p X [x7, x8, x9, x10, x11, x12, x13, x14, x15, x16, x17, some (vI (nI r)), x19, x20, some (vL (lI (tm p : Int))), none, x23, x24, x25, x26, x27, none, x29]) kc ks I := by
  have hw : tW p := h.w
  have h24 := hw.2.2.2.2.1
  have h6 := hw.2.2.2.2.2.1
  have hX7 : X / 7 < 2147483648 := Nat.lt_of_le_of_lt (Nat.div_le_self _ _) hX
  have ho : X / 7 % tn p < tn p := Nat.mod_lt _ (by omega)
  refine rn_L_follows 60 ?_
  simp (disch := omega) only [am_z, cq_L_follows, Nat.reduceAdd, Nat.zero_le, Nat.reduceLeDiff, ar_lit, pk_div, ar_mod2, ar_eq, ar_le, Nat.reduceEqDiff, not_false_eq_true]
  refine ⟨by omega, ?_⟩
  by_cases q1 : X / 7 % tn p ≤ r
  · rw [if_pos q1]
    exact next I H _ kc ks h (by omega) (by omega)
  · rw [if_neg q1]
    refine rn_L_follows 40 ?_
    simp (disch := omega) only [am_z, cq_L_follows, Nat.reduceAdd, Nat.zero_le, Nat.reduceLeDiff, ar_lit, lc_ge, lI_lit.2.2.2.1, lI_le]
    by_cases q2 : (6 : Int) ≤ (tm p : Int)
    · rw [if_pos q2]
      exact next I H _ kc ks h (by omega) (by omega)
    · rw [if_neg q2]
      refine rn_L_follows 40 ?_
      simp (disch := omega) only [am_z, cq_L_follows, Nat.reduceAdd, Nat.zero_le, Nat.reduceLeDiff, ar_lit, ar_eq, Nat.reduceEqDiff, ↓reduceIte]
      refine rn_L_follows 40 ?_
      simp (disch := omega) only [am_z, cq_L_follows, Nat.reduceAdd, Nat.zero_le, Nat.reduceLeDiff, ar_lit, leT]
      refine s_V_addSpan (by omega) h (Nat.not_le.mp q1) ho (by omega) (fun I1 h => ?_)
      have hw1 : tW (tputS p (r, X / 7 % tn p, 0)) := h.w
      have hm1 : tm (tputS p (r, X / 7 % tn p, 0)) = tm p + 1 := tm_put _
      have hS1 : tS (tputS p (r, X / 7 % tn p, 0)) (tm p) = (r, X / 7 % tn p, 0) := by rw [tS_put _ _ (by omega), if_neg (by omega)]
      have hn1 : tn (tputS p (r, X / 7 % tn p, 0)) = tn p := rfl
      have h1 := tps_one hw1 (s := tm p) (by omega) (by unfold tM; rw [hS1])
      have h2 := tpo_one (h := tP p) hw1 (s := tm p) (by omega) (by unfold tM; rw [hS1])
      have e1 : tL (tputS p (r, X / 7 % tn p, 0)) (tm p) = X / 7 % tn p := by unfold tL; rw [hS1]
      have e2 : tF (tputS p (r, X / 7 % tn p, 0)) (tm p) = r := by unfold tF; rw [hS1]
      rw [e1, e2] at h2
      simp only [am_z, Nat.reduceAdd, Nat.zero_le, Nat.reduceLeDiff]
      refine rn_L_follows 40 ?_
      simp (disch := omega) only [am_z, cq_L_follows, Nat.reduceAdd, Nat.zero_le, Nat.reduceLeDiff, ar_lit, lc_eq, lI_n, ↓reduceIte, leT]
      refine s_V_span (by omega) h (by show tm p < tm (tputS p (r, X / 7 % tn p, 0)); omega) (by omega) (fun I2 h => ?_)
      have h1' : ((tspn (tputS p (r, X / 7 % tn p, 0)) (tm p) 3 : Nat) : Int) = 1 := by rw [h1]; rfl
      simp only [am_z, Nat.reduceAdd, Nat.zero_le, Nat.reduceLeDiff]
      refine rn_L_follows 40 ?_
      simp (disch := omega) only [am_z, cq_L_follows, Nat.reduceAdd, Nat.zero_le, Nat.reduceLeDiff, ar_lit, h1', lI_lit.2.1, lc_eq, ↓reduceIte, leT]
      refine s_V_row (by omega) h hr (by omega) (fun I3 h => ?_)
      simp only [am_z, Nat.reduceAdd, Nat.zero_le, Nat.reduceLeDiff]
      refine rn_L_follows 40 ?_
      simp (disch := omega) only [am_z, cq_L_follows, Nat.reduceAdd, Nat.zero_le, Nat.reduceLeDiff, ar_lit, leT]
      refine s_V_row (by omega) h ho (by omega) (fun I4 h => ?_)
      have h2' : trow (tputS p (r, X / 7 % tn p, 0)) (X / 7 % tn p) 4 = trow (tputS p (r, X / 7 % tn p, 0)) r 4 := h2
      simp only [am_z, Nat.reduceAdd, Nat.zero_le, Nat.reduceLeDiff]
      refine rn_L_follows 40 ?_
      simp (disch := omega) only [am_z, cq_L_follows, Nat.reduceAdd, Nat.zero_le, Nat.reduceLeDiff, ar_lit, h2', lc_eq, lI_n, ↓reduceIte, leT]
      refine s_V_removeSpan (by omega) h (by omega) (fun I5 h => ?_)
      rw [tdropS_back] at h ⊢
      have hlen := pgl_lt p (tP p)
      show am_k _ P _ _ _ _ _ (.inl (some (vL (lI ((tpg p (tP p)).length : Int))))) am_G0 I5 J
      simp only [am_z, Nat.reduceAdd, Nat.zero_le, Nat.reduceLeDiff]
      refine rn_L_follows 40 ?_
      simp (disch := omega) only [am_z, cq_L_follows, Nat.reduceAdd, Nat.zero_le, Nat.reduceLeDiff, ar_lit, nI_lI, lc_eq, ↓reduceIte, leT]
      refine s_L_now (by omega) h (fun I6 h => ?_)
      simp only [am_z, Nat.reduceAdd, Nat.zero_le, Nat.reduceLeDiff]
      refine rn_L_follows 40 ?_
      simp (disch := omega) only [am_z, cq_L_follows, Nat.reduceAdd, Nat.zero_le, Nat.reduceLeDiff, ar_lit, lc_eq, ↓reduceIte, leT]
      have h : st I6 (t, p, tputS p (r, X / 7 % tn p, 0) :: p :: (H.take 13).take 12, Z) := h
      have hl1 := hist_lt h
      simp only [List.length_cons] at hl1
      refine s_V_undo (by omega) h (fun I7 h => ?_)
      simp only [am_z, Nat.reduceAdd, Nat.zero_le, Nat.reduceLeDiff]
      refine rn_L_follows 40 ?_
      simp (disch := omega) only [am_z, cq_L_follows, Nat.reduceAdd, Nat.zero_le, Nat.reduceLeDiff, ar_lit, List.length_cons, lc_lt, lI_lit.1, lI_lt, leT]
      rw [if_neg (by omega)]
      refine s_V_undo (by omega) h (fun I8 h => ?_)
      simp only [am_z, Nat.reduceAdd, Nat.zero_le, Nat.reduceLeDiff]
      refine rn_L_follows 40 ?_
      simp (disch := omega) only [am_z, cq_L_follows, Nat.reduceAdd, Nat.zero_le, Nat.reduceLeDiff, ar_lit, List.length_cons, lc_lt, lI_lit.1, lI_lt, leT]
      rw [if_neg (by omega)]
      refine s_L_now (by omega) h (fun I9 h => ?_)
      simp only [am_z, Nat.reduceAdd, Nat.zero_le, Nat.reduceLeDiff]
      refine rn_L_follows 40 ?_
      simp (disch := omega) only [am_z, cq_L_follows, Nat.reduceAdd, Nat.zero_le, Nat.reduceLeDiff, ar_lit, lc_eq, ↓reduceIte]
      exact next I9 _ _ _ _ h (by omega) (by omega)
theorem f_remove (hD : 10 ≤ d + 1) (next : f_930 l d J P t p Z X) {r : Nat} {x7 x8 x9 x10 x11 x12 x13 x14 x15 x16 x17 x19 x21 x22 x23 x24 x25 x26 x27 x28 x29 : Option am_V} {kc ks : Nat} (hr : r < tn p) (hX : X < 2147483648) (h : st I (t, p, H, Z)) (hk1 : kc ≤ 3750) (hk2 : ks ≤ 22500) : fX l d J P 665 (fls0 p X [x7, x8, x9, x10, x11, x12, x13, x14, x15, x16, x17, some (vI (nI r)), x19, none, x21, x22, x23, x24, x25, x26, x27, x28, x29]) kc ks I := by
  have hw : tW p := h.w
  have h24 := hw.2.2.2.2.1
  have h6 := hw.2.2.2.2.2.1
  have hC := hw.1
  have hl24 : (tpg p (tP p)).length ≤ 24 := tpg_len
  obtain ⟨m, hm, _⟩ := pg_pos (h := tP p) hw (by omega)
  have hpl := pst_len (h := tP p) hw
  have hA : -99 ≤ tA p r 0 ∧ tA p r 0 ≤ 99 := (hw.row hr).2.2.2.2 0
  have hs1 := tsum_le hw (a := 0) (b := tn p) (c := 0) (by omega) (by omega)
  have hdm := tm_dropR (p := p) r
  have hdn := tn_dropR (p := p) hr
  have hds := tsum_drop (p := p) (c := 0) hr
  refine rn_L_follows 40 ?_
  simp (disch := omega) only [am_z, cq_L_follows, Nat.reduceAdd, Nat.zero_le, Nat.reduceLeDiff, ar_lit, leT]
  refine s_V_about (by omega) h (by omega) (fun I1 h => ?_)
  simp only [am_z, Nat.reduceAdd, Nat.zero_le, Nat.reduceLeDiff]
  refine rn_L_follows 40 ?_
  simp (disch := omega) only [am_z, cq_L_follows, Nat.reduceAdd, Nat.zero_le, Nat.reduceLeDiff, ar_lit, tab_e, ar_sub, leT]
  refine s_V_carried (by omega) h (by show (tpg p (tP p)).length - 1 < (tpg p (tP p)).length; omega) hC.1 (fun I2 h => ?_)
  rw [show (tpg p (tP p)).length - 1 + 1 = (tpg p (tP p)).length by omega, show pst (t, p, H, Z).2.1 (tP (t, p, H, Z).2.1) (tpg p (tP p)).length = tn p from hpl]
  simp only [am_z, Nat.reduceAdd, Nat.zero_le, Nat.reduceLeDiff]
  refine rn_L_follows 40 ?_
  simp (disch := omega) only [am_z, cq_L_follows, Nat.reduceAdd, Nat.zero_le, Nat.reduceLeDiff, ar_lit, leT]
  refine s_V_amount (by omega) h hr hC.1 (fun I3 h => ?_)
  simp only [am_z, Nat.reduceAdd, Nat.zero_le, Nat.reduceLeDiff]
  refine rn_L_follows 40 ?_
  simp (disch := omega) only [am_z, cq_L_follows, Nat.reduceAdd, Nat.zero_le, Nat.reduceLeDiff, ar_lit, leT]
  refine s_V_removeRow (by omega) h hr (fun I4 h => ?_)
  have hw4 : tW (tdropR p r) := h.w
  simp only [am_z, Nat.reduceAdd, Nat.zero_le, Nat.reduceLeDiff]
  refine rn_L_follows 40 ?_
  simp (disch := omega) only [am_z, cq_L_follows, Nat.reduceAdd, Nat.zero_le, Nat.reduceLeDiff, ar_lit, ar_eq, Nat.reduceEqDiff, ↓reduceIte, lI_lit.1, leT]
  refine s_L_in (by omega) (by omega) (by omega) (by omega) (by omega) ?_
  simp only [am_z, Nat.reduceAdd, Nat.zero_le, Nat.reduceLeDiff]
  refine rn_L_follows 40 ?_
  simp (disch := omega) only [am_z, cq_L_follows, Nat.reduceAdd, Nat.zero_le, Nat.reduceLeDiff, ar_lit, ar_eq, Nat.reduceEqDiff, ↓reduceIte, leT]
  refine s_V_about (by omega) h (by omega) (fun I5 h => ?_)
  simp only [am_z, Nat.reduceAdd, Nat.zero_le, Nat.reduceLeDiff]
  refine rn_L_follows 40 ?_
  simp (disch := omega) only [am_z, cq_L_follows, Nat.reduceAdd, Nat.zero_le, Nat.reduceLeDiff, ar_lit, tab_e, lI_sub, lc_eq, lI_eq, leT]
  rw [if_pos (by omega)]
  refine s_V_about (by omega) h (by omega) (fun I6 h => ?_)
  simp only [am_z, Nat.reduceAdd, Nat.zero_le, Nat.reduceLeDiff]
  refine rn_L_follows 40 ?_
  simp (disch := omega) only [am_z, cq_L_follows, Nat.reduceAdd, Nat.zero_le, Nat.reduceLeDiff, ar_lit, tab_e, nI_lI, lI_lit.2.1, lI_sub, lc_eq, lI_eq, ar_eq]
  rw [if_pos (by omega)]
  have go : ∀ I kc ks, st I (t, tdropR p r, p :: H.take 13, Z) → kc ≤ 3750 + 13 → ks ≤ 22500 + 78 → fX l d J P 772 (fls0 p X [x7, x8, x9, x10, x11, x12, x13, x14, x15, x16, x17, some (vI (nI r)), x19, none, some (vL (lI (tm p : Int))), none, some (vL (lI (tsum p 0 (tn p) 0))), none, some (vL (lI (tA p r 0))), none, some (vL (lI ((tm p : Int) - (tm (tdropR p r) : Int)))), none, x29]) kc ks I := by
    intro I kc ks h hk1 hk2
    have hl1 := hist_lt h
    simp only [List.length_cons] at hl1
    refine rn_L_follows 40 ?_
    simp (disch := omega) only [am_z, cq_L_follows, Nat.reduceAdd, Nat.zero_le, Nat.reduceLeDiff, ar_lit, leT]
    refine s_V_undo (by omega) h (fun I7 h => ?_)
    simp only [am_z, Nat.reduceAdd, Nat.zero_le, Nat.reduceLeDiff]
    refine rn_L_follows 40 ?_
    simp (disch := omega) only [am_z, cq_L_follows, Nat.reduceAdd, Nat.zero_le, Nat.reduceLeDiff, ar_lit, List.length_cons, lc_lt, lI_lit.1, lI_lt, leT]
    rw [if_neg (by omega)]
    refine s_L_now (by omega) h (fun I9 h => ?_)
    simp only [am_z, Nat.reduceAdd, Nat.zero_le, Nat.reduceLeDiff]
    refine rn_L_follows 40 ?_
    simp (disch := omega) only [am_z, cq_L_follows, Nat.reduceAdd, Nat.zero_le, Nat.reduceLeDiff, ar_lit, lc_eq, ↓reduceIte]
    exact f_span hD next hr hX h (by omega) (by omega)
  by_cases q : tn p = 1
  · rw [if_pos q]
    exact go I6 _ _ h (by omega) (by omega)
  · rw [if_neg q]
    obtain ⟨m', hm', _⟩ := pg_pos (h := tP (tdropR p r)) hw4 (by omega)
    have hpl' := pst_len (h := tP (tdropR p r)) hw4
    have hl24' : (tpg (tdropR p r) (tP (tdropR p r))).length ≤ 24 := tpg_len
    refine rn_L_follows 40 ?_
    simp (disch := omega) only [am_z, cq_L_follows, Nat.reduceAdd, Nat.zero_le, Nat.reduceLeDiff, ar_lit, leT]
    refine s_V_about (by omega) h (by omega) (fun I7 h => ?_)
    simp only [am_z, Nat.reduceAdd, Nat.zero_le, Nat.reduceLeDiff]
    refine rn_L_follows 40 ?_
    simp (disch := omega) only [am_z, cq_L_follows, Nat.reduceAdd, Nat.zero_le, Nat.reduceLeDiff, ar_lit, tab_e, lI_n, ar_sub, leT]
    refine s_V_carried (by omega) h (by show (tpg (tdropR p r) (tP (tdropR p r))).length - 1 < (tpg (tdropR p r) (tP (tdropR p r))).length; omega) (by show 0 < tC (tdropR p r); exact hC.1) (fun I8 h => ?_)
    rw [show (tpg (tdropR p r) (tP (tdropR p r))).length - 1 + 1 = (tpg (tdropR p r) (tP (tdropR p r))).length by omega, show pst (t, tdropR p r, p :: H.take 13, Z).2.1 (tP (t, tdropR p r, p :: H.take 13, Z).2.1) (tpg (tdropR p r) (tP (tdropR p r))).length = tn p - 1 from hpl'.trans hdn]
    simp only [am_z, Nat.reduceAdd, Nat.zero_le, Nat.reduceLeDiff]
    refine rn_L_follows 40 ?_
    simp (disch := omega) only [am_z, cq_L_follows, Nat.reduceAdd, Nat.zero_le, Nat.reduceLeDiff, ar_lit, lI_sub, lc_eq, lI_eq, hds, ↓reduceIte]
    exact go I8 _ _ h (by omega) (by omega)
theorem f_keep (hD : 10 ≤ d + 1) (next : f_930 l d J P t p Z X) {x7 x8 x9 x10 x11 x12 x13 x18 x19 x20 x21 x22 x23 x24 x25 x26 x27 x28 x29 : Option am_V} {x17 : Int32} {kc ks : Nat} (hX : X < 2147483648) (h : st I (t, p, H, Z)) (hk1 : kc ≤ 2300) (hk2 : ks ≤ 13800) : fX l d J P 483 (fls0 p X [x7, x8, x9, x10, x11, x12, x13, some (vL (lI (tC0 p 0 : Int))), none, some (vI (nI (tn p))), some (vI x17), x18, x19, x20, x21, x22, x23, x24, x25, x26, x27, x28, x29]) kc ks I := by
  have hw : tW p := h.w
  have h24 := hw.2.2.2.2.1
  have hl24 : (tpg p (tP p)).length ≤ 24 := tpg_len
  have hX24 : X / 24 < 2147483648 := Nat.lt_of_le_of_lt (Nat.div_le_self _ _) hX
  refine rn_L_follows 40 ?_
  simp (disch := omega) only [am_z, cq_L_follows, Nat.reduceAdd, Nat.zero_le, Nat.reduceLeDiff, ar_lit, ar_eq, ar_le, Nat.reduceEqDiff, ↓reduceIte]
  by_cases q0 : tn p ≤ 0
  · rw [if_pos q0]
    exact next I H _ kc ks h (by omega) (by omega)
  · rw [if_neg q0]
    have hr : X / 24 % tn p < tn p := Nat.mod_lt _ (by omega)
    generalize hrr : X / 24 % tn p = r at hr
    have hK : tK p r ≤ 1 := (hw.row hr).2.2.2.1
    refine rn_L_follows 40 ?_
    simp (disch := omega) only [am_z, cq_L_follows, Nat.reduceAdd, Nat.zero_le, Nat.reduceLeDiff, ar_lit, ar_eq, Nat.reduceEqDiff, ↓reduceIte]
    refine rn_L_follows 40 ?_
    simp (disch := omega) only [am_z, cq_L_follows, Nat.reduceAdd, Nat.zero_le, Nat.reduceLeDiff, ar_lit, pk_div, ar_mod2, ar_eq, Nat.reduceEqDiff, not_false_eq_true, leT, hrr]
    refine ⟨by omega, ?_⟩
    refine s_V_row (by omega) h hr (by omega) (fun I1 h => ?_)
    simp only [am_z, Nat.reduceAdd, Nat.zero_le, Nat.reduceLeDiff]
    refine rn_L_follows 40 ?_
    simp (disch := omega) only [am_z, cq_L_follows, Nat.reduceAdd, Nat.zero_le, Nat.reduceLeDiff, ar_lit, trow_e, leT]
    refine s_V_keep (by omega) h hr (by omega) (fun I2 h => ?_)
    have hw1 : tW (tsetK p r 1) := h.w
    have hn1 : tn (tsetK p r 1) = tn p := tsetK_n r 1
    have hl1 : (tpg (tsetK p r 1) (tP p)).length ≤ 24 := tpg_len
    obtain ⟨m1, hm1, _⟩ := pg_pos (h := tP p) hw1 (by omega)
    simp only [am_z, Nat.reduceAdd, Nat.zero_le, Nat.reduceLeDiff]
    refine rn_L_follows 40 ?_
    simp (disch := omega) only [am_z, cq_L_follows, Nat.reduceAdd, Nat.zero_le, Nat.reduceLeDiff, ar_lit, lc_lt, lI_lit.2.1, lI_lt, leT]
    rw [if_neg (by omega)]
    refine s_V_row (by omega) h (by show r < tn (tsetK p r 1); omega) (by omega) (fun I3 h => ?_)
    have hz1 : ((trow (tsetK p r 1) r 3 : Nat) : Int) = 0 := by
      have hc : tcut (tsetK p r 1) r = false := by
        cases e : tcut (tsetK p r 1) r with
        | false => rfl
        | true => exact absurd e (tsetK_cut hr)
      show ((b01 (decide (r + 1 < tn (tsetK p r 1)) && tcut (tsetK p r 1) r) : Nat) : Int) = 0
      rw [hc, Bool.and_false]
      rfl
    simp only [am_z, Nat.reduceAdd, Nat.zero_le, Nat.reduceLeDiff]
    refine rn_L_follows 40 ?_
    simp (disch := omega) only [am_z, cq_L_follows, Nat.reduceAdd, Nat.zero_le, Nat.reduceLeDiff, ar_lit, hz1, lI_lit.1, lc_eq, ↓reduceIte, leT]
    refine s_V_o (by omega) h (fun I4 h => ?_)
    have hb0 := tC0_bd hw
    have hb1 := tC0_bd hw1
    have hcc := tsetK_C0 (p := p) r (tn p) 0 (by omega)
    simp only [am_z, Nat.reduceAdd, Nat.zero_le, Nat.reduceLeDiff]
    refine rn_L_follows 40 ?_
    simp (disch := omega) only [am_z, cq_L_follows, Nat.reduceAdd, Nat.zero_le, Nat.reduceLeDiff, ar_lit, lc_lt, lI_lt, leT]
    rw [if_neg (by omega)]
    refine s_V_keep (b := 0) (by omega) h (by omega) (by omega) (fun I5 h => ?_)
    have hw2 : tW (tsetK (tsetK p r 1) r 0) := h.w
    have hn2 : tn (tsetK (tsetK p r 1) r 0) = tn p := (tsetK_n r 0).trans hn1
    have hl2 : (tpg (tsetK (tsetK p r 1) r 0) (tP (tsetK p r 1))).length ≤ 24 := tpg_len
    obtain ⟨m2, hm2, _⟩ := pg_pos (h := tP (tsetK p r 1)) hw2 (by omega)
    simp only [am_z, Nat.reduceAdd, Nat.zero_le, Nat.reduceLeDiff]
    refine rn_L_follows 40 ?_
    simp (disch := omega) only [am_z, cq_L_follows, Nat.reduceAdd, Nat.zero_le, Nat.reduceLeDiff, ar_lit, lc_lt, lI_lit.2.1, lI_lt, leT]
    rw [if_neg (by omega)]
    refine s_V_row (by omega) h (by show r < tn (tsetK (tsetK p r 1) r 0); omega) (by omega) (fun I6 h => ?_)
    have hz2 : ((trow (tsetK (tsetK p r 1) r 0) r 2 : Nat) : Int) = 0 := by
      have := (tsetK_R (p := tsetK p r 1) r 0 r).2.2.2
      rw [if_pos ⟨rfl, by omega⟩] at this
      show ((tK (tsetK (tsetK p r 1) r 0) r : Nat) : Int) = 0
      rw [this]
      rfl
    have go : ∀ kc ks (b : Nat), b = tK p r → kc ≤ 2300 + 12 → ks ≤ 13800 + 72 → am_X l (0, fun _ => 0) (d + 1) y_L_follows P 603 (fls0 p X [x7, x8, x9, x10, x11, x12, x13, some (vL (lI (tC0 p 0 : Int))), none, some (vI (nI (tn p))), some (vI x17), some (vI (nI r)), some (vL (lI (tK p r : Int))), none, x21, x22, x23, x24, x25, x26, x27, x28, x29]) [vI (nI b), vI (nI r), vR (0, 0)] kc ks am_G0 I6 J := by
      intro kc ks b hb hk1 hk2
      have h : st I6 (t, tsetK (tsetK p r 1) r 0, tsetK p r 1 :: p :: (H.take 13).take 12, Z) := h
      refine rn_L_follows 40 ?_
      simp (disch := omega) only [am_z, cq_L_follows, Nat.reduceAdd, Nat.zero_le, Nat.reduceLeDiff, ar_lit, leT]
      refine s_V_keep (b := b) (by omega) h (by omega) (by omega) (fun I7 h => ?_)
      rw [hb, tsetK_back hr] at h ⊢
      have eP : tP (tsetK (tsetK p r 1) r 0) = tP p := rfl
      rw [eP]
      simp only [am_z, Nat.reduceAdd, Nat.zero_le, Nat.reduceLeDiff]
      refine rn_L_follows 40 ?_
      simp (disch := omega) only [am_z, cq_L_follows, Nat.reduceAdd, Nat.zero_le, Nat.reduceLeDiff, ar_lit, nI_lI, lc_eq, ↓reduceIte, leT]
      refine s_L_now (by omega) h (fun I8 h => ?_)
      simp only [am_z, Nat.reduceAdd, Nat.zero_le, Nat.reduceLeDiff]
      refine rn_L_follows 40 ?_
      simp (disch := omega) only [am_z, cq_L_follows, Nat.reduceAdd, Nat.zero_le, Nat.reduceLeDiff, ar_lit, lc_eq, ↓reduceIte, leT]
      have h : st I8 (t, p, tsetK (tsetK p r 1) r 0 :: tsetK p r 1 :: p :: ((H.take 13).take 12).take 11, Z) := h
      have hh1 := hist_lt h
      simp only [List.length_cons] at hh1
      refine s_V_undo (by omega) h (fun I9 h => ?_)
      simp only [am_z, Nat.reduceAdd, Nat.zero_le, Nat.reduceLeDiff]
      refine rn_L_follows 40 ?_
      simp (disch := omega) only [am_z, cq_L_follows, Nat.reduceAdd, Nat.zero_le, Nat.reduceLeDiff, ar_lit, List.length_cons, lc_lt, lI_lit.1, lI_lt, leT]
      rw [if_neg (by omega)]
      refine s_V_undo (by omega) h (fun I10 h => ?_)
      simp only [am_z, Nat.reduceAdd, Nat.zero_le, Nat.reduceLeDiff]
      refine rn_L_follows 40 ?_
      simp (disch := omega) only [am_z, cq_L_follows, Nat.reduceAdd, Nat.zero_le, Nat.reduceLeDiff, ar_lit, List.length_cons, lc_lt, lI_lit.1, lI_lt, leT]
      rw [if_neg (by omega)]
      refine s_V_undo (by omega) h (fun I11 h => ?_)
      simp only [am_z, Nat.reduceAdd, Nat.zero_le, Nat.reduceLeDiff]
      refine rn_L_follows 40 ?_
      simp (disch := omega) only [am_z, cq_L_follows, Nat.reduceAdd, Nat.zero_le, Nat.reduceLeDiff, ar_lit, List.length_cons, lc_lt, lI_lit.1, lI_lt, leT]
      rw [if_neg (by omega)]
      refine s_L_now (by omega) h (fun I12 h => ?_)
      simp only [am_z, Nat.reduceAdd, Nat.zero_le, Nat.reduceLeDiff]
      refine rn_L_follows 40 ?_
      simp (disch := omega) only [am_z, cq_L_follows, Nat.reduceAdd, Nat.zero_le, Nat.reduceLeDiff, ar_lit, lc_eq, ↓reduceIte]
      exact f_remove hD next hr hX h (by omega) (by omega)
    simp only [am_z, Nat.reduceAdd, Nat.zero_le, Nat.reduceLeDiff]
    refine rn_L_follows 40 ?_
    simp (disch := omega) only [am_z, cq_L_follows, Nat.reduceAdd, Nat.zero_le, Nat.reduceLeDiff, ar_lit, hz2, lI_lit.1, lI_lit.2.1, lc_eq, lI_eq, ↓reduceIte]
    by_cases q1 : tK p r = 1
    · rw [if_pos (by omega)]
      exact go _ _ 1 q1.symm (by omega) (by omega)
    · rw [if_neg (by omega)]
      exact go _ _ 0 (by omega) (by omega) (by omega)
theorem f_cuts (hD : 10 ≤ d + 1) (next : f_930 l d J P t p Z X) (hX : X < 2147483648) : ∀ m i I kc ks x7 x8 x9 x10 x11 x12 x13 x18 x19 x20 x21 x22 x23 x24 x25 x26 x27 x28 x29, st I (t, p, H, Z) → tn p ≤ tpos (tE0 p) i + m → (∀ k, k < i → tpos (tE0 p) k < tn p) → i ≤ tpos (tE0 p) i → tpos (tE0 p) i ≤ tn p → kc + 4 * m + 2 ≤ 2300 → ks + 24 * m + 12 ≤ 13800 → fX l d J P 402 (fls0 p X [x7, x8, x9, x10, x11, x12, x13, some (vL (lI (tC0 p 0 : Int))), none, some (vI (nI (tpos (tE0 p) i))), some (vI (nI i)), x18, x19, x20, x21, x22, x23, x24, x25, x26, x27, x28, x29]) kc ks I := by
  intro m
  induction m with
  | zero =>
    intro i I kc ks x7 x8 x9 x10 x11 x12 x13 x18 x19 x20 x21 x22 x23 x24 x25 x26 x27 x28 x29 h hm hlt hi hn hk1 hk2
    have h24 : tn p ≤ 24 := h.w.2.2.2.2.1
    have he : tpos (tE0 p) i = tn p := by omega
    have hno : ¬ tpos (tE0 (t, p, H, Z).2.1) i < tn (t, p, H, Z).2.1 := by show ¬ tpos (tE0 p) i < tn p; omega
    refine rn_L_follows 40 ?_
    simp (disch := omega) only [am_z, cq_L_follows, Nat.reduceAdd, Nat.zero_le, Nat.reduceLeDiff, ar_lit, ar_eq, Nat.reduceEqDiff, ↓reduceIte]
    refine rn_L_follows 40 ?_
    simp (disch := omega) only [am_z, cq_L_follows, Nat.reduceAdd, Nat.zero_le, Nat.reduceLeDiff, ar_lit, leT]
    refine s_V_evenCut (by omega) h (by omega) hlt (fun I1 h => ?_)
    rw [if_neg hno]
    simp only [am_z, Nat.reduceAdd, Nat.zero_le, Nat.reduceLeDiff]
    refine rn_L_follows 40 ?_
    simp (disch := omega) only [am_z, cq_L_follows, Nat.reduceAdd, Nat.zero_le, Nat.reduceLeDiff, ar_lit, lI_lit.2.2.2.2.2.2.2.1, lc_eq, ↓reduceIte]
    rw [he]
    exact f_keep hD next hX h (by omega) (by omega)
  | succ m ih =>
    intro i I kc ks x7 x8 x9 x10 x11 x12 x13 x18 x19 x20 x21 x22 x23 x24 x25 x26 x27 x28 x29 h hm hlt hi hn hk1 hk2
    have h24 : tn p ≤ 24 := h.w.2.2.2.2.1
    by_cases hin : tpos (tE0 p) i < tn p
    · obtain ⟨c1, c2, c3⟩ := tE0_in hin
      have hyes : tpos (tE0 (t, p, H, Z).2.1) i < tn (t, p, H, Z).2.1 := hin
      have epos : tpos (tE0 p) (i + 1) = tE0 p (tpos (tE0 p) i) + 1 := rfl
      have go : ∀ I kc ks x19 x20 x21 x22 x23 x24 x25 x26 x27 x28 x29, st I (t, p, H, Z) → kc + 4 * m + 2 ≤ 2300 → ks + 24 * m + 12 ≤ 13800 → fX l d J P 464 (fls0 p X [x7, x8, x9, x10, x11, x12, x13, some (vL (lI (tC0 p 0 : Int))), none, some (vI (nI (tpos (tE0 p) i))), some (vI (nI i)), some (vI (nI (tE0 p (tpos (tE0 p) i)))), x19, x20, x21, x22, x23, x24, x25, x26, x27, x28, x29]) kc ks I := by
        intro I kc ks x19 x20 x21 x22 x23 x24 x25 x26 x27 x28 x29 h hk1 hk2
        refine rn_L_follows 40 ?_
        simp (disch := omega) only [am_z, cq_L_follows, Nat.reduceAdd, Nat.zero_le, Nat.reduceLeDiff, ar_lit, nI_add]
        refine ih (i + 1) I kc ks _ _ _ _ _ _ _ _ _ _ _ _ _ _ _ _ _ _ _ h (by omega) (fun k hk => ?_) (by omega) (by omega) (by omega) (by omega)
        by_cases z : k = i
        · rw [z]; exact hin
        · exact hlt k (by omega)
      refine rn_L_follows 40 ?_
      simp (disch := omega) only [am_z, cq_L_follows, Nat.reduceAdd, Nat.zero_le, Nat.reduceLeDiff, ar_lit, ar_eq, Nat.reduceEqDiff, ↓reduceIte]
      refine rn_L_follows 40 ?_
      simp (disch := omega) only [am_z, cq_L_follows, Nat.reduceAdd, Nat.zero_le, Nat.reduceLeDiff, ar_lit, leT]
      refine s_V_evenCut (by omega) h (by omega) hlt (fun I1 h => ?_)
      rw [if_pos hyes]
      simp only [am_z, Nat.reduceAdd, Nat.zero_le, Nat.reduceLeDiff]
      refine rn_L_follows 40 ?_
      simp (disch := omega) only [am_z, cq_L_follows, Nat.reduceAdd, Nat.zero_le, Nat.reduceLeDiff, ar_lit, lI_lit.2.2.2.2.2.2.2.1, lc_eq, lI_eq]
      rw [if_neg (by omega)]
      refine rn_L_follows 40 ?_
      simp (disch := omega) only [am_z, cq_L_follows, Nat.reduceAdd, Nat.zero_le, Nat.reduceLeDiff, ar_lit, leT]
      refine s_V_evenCut (by omega) h (by omega) hlt (fun I2 h => ?_)
      rw [if_pos hyes]
      simp only [am_z, Nat.reduceAdd, Nat.zero_le, Nat.reduceLeDiff]
      refine rn_L_follows 40 ?_
      simp (disch := omega) only [am_z, cq_L_follows, Nat.reduceAdd, Nat.zero_le, Nat.reduceLeDiff, ar_lit, lI_n, ar_lt, ar_le, ar_sub, ar_eq]
      rw [if_neg (by omega), if_neg (by omega)]
      by_cases q : tE0 p (tpos (tE0 p) i) = tn p - 1
      · rw [if_pos q]
        exact go I2 _ _ _ _ _ _ _ _ _ _ _ _ _ h (by omega) (by omega)
      · rw [if_neg q]
        have hc : tcut p (tE0 p (tpos (tE0 p) i)) = true := tend_cut c3 (by omega)
        have hz3 : ((trow p (tE0 p (tpos (tE0 p) i)) 3 : Nat) : Int) = 1 := by
          show ((b01 (decide (tE0 p (tpos (tE0 p) i) + 1 < tn p) && tcut p (tE0 p (tpos (tE0 p) i))) : Nat) : Int) = 1
          rw [hc, decide_eq_true (by omega)]
          rfl
        refine rn_L_follows 40 ?_
        simp (disch := omega) only [am_z, cq_L_follows, Nat.reduceAdd, Nat.zero_le, Nat.reduceLeDiff, ar_lit, leT]
        refine s_V_row (by omega) h c2 (by omega) (fun I3 h => ?_)
        simp only [am_z, Nat.reduceAdd, Nat.zero_le, Nat.reduceLeDiff]
        refine rn_L_follows 40 ?_
        simp (disch := omega) only [am_z, cq_L_follows, Nat.reduceAdd, Nat.zero_le, Nat.reduceLeDiff, ar_lit, hz3, lI_lit.2.1, lc_eq, ↓reduceIte]
        exact go I3 _ _ _ _ _ _ _ _ _ _ _ _ _ h (by omega) (by omega)
    · have he : tpos (tE0 p) i = tn p := by omega
      have hno : ¬ tpos (tE0 (t, p, H, Z).2.1) i < tn (t, p, H, Z).2.1 := hin
      refine rn_L_follows 40 ?_
      simp (disch := omega) only [am_z, cq_L_follows, Nat.reduceAdd, Nat.zero_le, Nat.reduceLeDiff, ar_lit, ar_eq, Nat.reduceEqDiff, ↓reduceIte]
      refine rn_L_follows 40 ?_
      simp (disch := omega) only [am_z, cq_L_follows, Nat.reduceAdd, Nat.zero_le, Nat.reduceLeDiff, ar_lit, leT]
      refine s_V_evenCut (by omega) h (by omega) hlt (fun I1 h => ?_)
      rw [if_neg hno]
      simp only [am_z, Nat.reduceAdd, Nat.zero_le, Nat.reduceLeDiff]
      refine rn_L_follows 40 ?_
      simp (disch := omega) only [am_z, cq_L_follows, Nat.reduceAdd, Nat.zero_le, Nat.reduceLeDiff, ar_lit, lI_lit.2.2.2.2.2.2.2.1, lc_eq, ↓reduceIte]
      rw [he]
      exact f_keep hD next hX h (by omega) (by omega)
theorem f_cost (hD : 10 ≤ d + 1) (next : f_930 l d J P t p Z X) (hX : X < 2147483648) : ∀ m k I kc ks x7 x8 x9 x15 x16 x17 x18 x19 x20 x21 x22 x23 x24 x25 x26 x27 x28 x29, st I (t, p, H, Z) → k + m = (tpg p (tP p)).length → kc + 2 * m + 110 ≤ 2300 → ks + 12 * m + 660 ≤ 13800 → fX l d J P 291 (fls0 p X [x7, x8, x9, some (vL (lI (tP p : Int))), none, some (vL (lI (pcost p k : Int))), none, some (vI (nI k)), x15, x16, x17, x18, x19, x20, x21, x22, x23, x24, x25, x26, x27, x28, x29]) kc ks I := by
  intro m
  induction m with
  | zero =>
    intro k I kc ks x7 x8 x9 x15 x16 x17 x18 x19 x20 x21 x22 x23 x24 x25 x26 x27 x28 x29 h hm hk1 hk2
    have hw : tW p := h.w
    have h24 := hw.2.2.2.2.1
    have hP := hw.2.1
    have hl24 : (tpg p (tP p)).length ≤ 24 := tpg_len
    obtain rfl : k = (tpg p (tP p)).length := by omega
    have hb0 := tC0_bd hw
    have hb1 := pcost_bd hw _ (Nat.le_refl (tpg p (tP p)).length)
    have hb2 := pcost_all hw
    have hb3 : 300000 * (tpg p (tP p)).length ≤ 300000 * 24 := Nat.mul_le_mul_left _ hl24
    refine rn_L_follows 40 ?_
    simp (disch := omega) only [am_z, cq_L_follows, Nat.reduceAdd, Nat.zero_le, Nat.reduceLeDiff, ar_lit, ar_le, ↓reduceIte, leT]
    refine s_V_o (by omega) h (fun I1 h => ?_)
    simp only [am_z, Nat.reduceAdd, Nat.zero_le, Nat.reduceLeDiff]
    refine rn_L_follows 40 ?_
    simp (disch := omega) only [am_z, cq_L_follows, Nat.reduceAdd, Nat.zero_le, Nat.reduceLeDiff, ar_lit, ar_eq, Nat.reduceEqDiff, ↓reduceIte, lc_gt, lc_lt, lI_lit.1, lI_lt, leT]
    rw [if_neg (by omega), if_neg (by omega)]
    refine s_V_about (by omega) h (by omega) (fun I2 h => ?_)
    simp only [am_z, Nat.reduceAdd, Nat.zero_le, Nat.reduceLeDiff]
    refine rn_L_follows 40 ?_
    simp (disch := omega) only [am_z, cq_L_follows, Nat.reduceAdd, Nat.zero_le, Nat.reduceLeDiff, ar_lit, tab_e, lc_eq, ↓reduceIte]
    exact f_cuts hD next hX (tn p) 0 I2 _ _ _ _ _ _ _ _ _ _ _ _ _ _ _ _ _ _ _ _ _ h (by show tn p ≤ 0 + tn p; omega) (fun k hk => absurd hk (Nat.not_lt_zero k)) (Nat.le_refl _) (Nat.zero_le _) (by omega) (by omega)
  | succ m ih =>
    intro k I kc ks x7 x8 x9 x15 x16 x17 x18 x19 x20 x21 x22 x23 x24 x25 x26 x27 x28 x29 h hm hk1 hk2
    have hw : tW p := h.w
    have h24 := hw.2.2.2.2.1
    have hP := hw.2.1
    have hl24 : (tpg p (tP p)).length ≤ 24 := tpg_len
    have hk : k < (tpg p (tP p)).length := by omega
    obtain ⟨hab, hbn, han⟩ := pst_in hk
    have hT := tlines_lt hw hab hbn
    have hp : kpg p k (pst p (tP p) k) (pgA (tpg p (tP p)) k).2.1 := ⟨hk, rfl, rfl, hab, hbn⟩
    have es : pcost p (k + 1) = pcost p k + tcost p (pst p (tP p) k) (pgA (tpg p (tP p)) k).2.1 := rfl
    have hlast : k = (tpg p (tP p)).length - 1 ↔ (pgA (tpg p (tP p)) k).2.1 + 1 = tn p := by
      have hpl := pst_len (h := tP p) hw
      have e1 := pst_s (p := p) (h := tP p) k
      constructor
      · intro q
        rw [show (tpg p (tP p)).length = k + 1 by omega, e1] at hpl
        exact hpl
      · intro q
        rcases Nat.lt_or_ge (k + 1) (tpg p (tP p)).length with z | z
        · have := (pst_in (p := p) (h := tP p) (k := k + 1) z).2.2
          omega
        · omega
    generalize ea : pst p (tP p) k = a at hp hab han hT es
    generalize eb : (pgA (tpg p (tP p)) k).2.1 = b at hp hab hbn hT es hlast
    have go : ∀ I kc ks (z : Nat) x15 x16, st I (t, p, H, Z) → z = tcost p a b → kc + 2 * m + 110 ≤ 2300 → ks + 12 * m + 660 ≤ 13800 → am_X l (0, fun _ => 0) (d + 1) y_L_follows P 343 (fls0 p X [x7, x8, x9, some (vL (lI (tP p : Int))), none, some (vL (lI (pcost p k : Int))), none, some (vI (nI k)), x15, x16, x17, x18, x19, x20, x21, x22, x23, x24, x25, x26, x27, x28, x29]) [vL (lI (z : Int)), vL (lI (pcost p k : Int))] kc ks am_G0 I J := by
      intro I kc ks z x15 x16 h hz hk1 hk2
      have := ih (k + 1) I kc ks x7 x8 x9 x15 x16 x17 x18 x19 x20 x21 x22 x23 x24 x25 x26 x27 x28 x29 h (by omega) hk1 hk2
      rw [es, ← hz] at this
      refine rn_L_follows 40 ?_
      simp (disch := omega) only [am_z, cq_L_follows, Nat.reduceAdd, Nat.zero_le, Nat.reduceLeDiff, ar_lit, lI_add, nI_add]
      exact this
    refine rn_L_follows 40 ?_
    simp (disch := omega) only [am_z, cq_L_follows, Nat.reduceAdd, Nat.zero_le, Nat.reduceLeDiff, ar_lit, ar_le, leT]
    rw [if_neg (by omega)]
    refine s_V_pageA (by omega) h hp (by omega) (fun I1 h => ?_)
    simp only [am_z, Nat.reduceAdd, Nat.zero_le, Nat.reduceLeDiff]
    refine rn_L_follows 40 ?_
    simp (disch := omega) only [am_z, cq_L_follows, Nat.reduceAdd, Nat.zero_le, Nat.reduceLeDiff, ar_lit, tpgi_e, lc_ge, lI_lit, lI_le, ar_sub, ar_eq, lI_mul]
    unfold tcost at go
    by_cases q1 : tP p < tlines p a b
    · rw [if_neg (by omega)]
      rw [show (-1000 : Int) * ((tP p : Int) - (tlines p a b : Int)) = ((1000 * (tlines p a b - tP p) : Nat) : Int) by omega]
      exact go I1 _ _ _ _ _ h (by rw [if_pos q1]) (by omega) (by omega)
    · rw [if_pos (by omega)]
      by_cases q2 : k = (tpg p (tP p)).length - 1
      · rw [if_pos q2]
        exact go I1 _ _ 0 _ _ h (by rw [if_neg q1, if_pos (hlast.mp q2)]) (by omega) (by omega)
      · rw [if_neg q2]
        rw [show ((tP p : Int) - (tlines p a b : Int)) = ((tP p - tlines p a b : Nat) : Int) by omega, ← Int.natCast_mul]
        exact go I1 _ _ _ _ _ h (by rw [if_neg q1, if_neg (fun z => q2 (hlast.mpr z))]) (by omega) (by omega)
theorem f_285 (hD : 10 ≤ d + 1) (next : f_930 l d J P t p Z X) (hX : X < 2147483648) {x7 x8 x9 x12 x13 x14 x15 x16 x17 x18 x19 x20 x21 x22 x23 x24 x25 x26 x27 x28 x29 : Option am_V} {kc ks : Nat} (h : st I (t, p, H, Z)) (hk1 : kc ≤ 2130) (hk2 : ks ≤ 12780) : fX l d J P 285 (fls0 p X [x7, x8, x9, some (vL (lI (tP p : Int))), none, x12, x13, x14, x15, x16, x17, x18, x19, x20, x21, x22, x23, x24, x25, x26, x27, x28, x29]) kc ks I := by
  have hl24 : (tpg p (tP p)).length ≤ 24 := tpg_len
  refine rn_L_follows 40 ?_
  simp (disch := omega) only [am_z, cq_L_follows, Nat.reduceAdd, Nat.zero_le, Nat.reduceLeDiff, ar_lit, lI_lit.1]
  exact f_cost hD next hX (tpg p (tP p)).length 0 I kc ks x7 x8 x9 x15 x16 x17 x18 x19 x20 x21 x22 x23 x24 x25 x26 x27 x28 x29 h (by omega) (by omega) (by omega)
theorem s_L_follows (hD : 10 ≤ D) (hX : X < 2147483648) (h : st I (t, p, H, Z)) (fin : ∀ I', st I' (t, p, [], fun j => if j = 1 then some p else Z j) → P (.inl (some (vI (nI 1)))) am_G0 I' J) : am_T l D y_L_follows [vR (0, 0), vI (nI X)] am_G0 I J P := by
  obtain ⟨d, rfl⟩ : ∃ d, D = d + 1 := ⟨D - 1, by omega⟩
  have hw : tW p := h.w
  have h24 := hw.2.2.2.2.1
  have hP := hw.2.1
  have hl24 : (tpg p (tP p)).length ≤ 24 := tpg_len
  have next : f_930 l d J P t p (fun j => if j = 1 then some p else Z j) X := fun I H r kc ks h q1 q2 => f_end hD rfl fin h q1 q2
  refine en_L_follows 40 (Nat.le_of_ble_eq_true rfl) ?_
  simp (disch := omega) only [am_z, cq_L_follows, Nat.reduceAdd, Nat.zero_le, Nat.reduceLeDiff, ar_lit, leT]
  refine s_L_now (by omega) h (fun I1 h => ?_)
  simp only [am_z, Nat.reduceAdd, Nat.zero_le, Nat.reduceLeDiff]
  refine rn_L_follows 40 ?_
  simp (disch := omega) only [am_z, cq_L_follows, Nat.reduceAdd, Nat.zero_le, Nat.reduceLeDiff, ar_lit, leT]
  refine s_V_about (by omega) h (by omega) (fun I2 h => ?_)
  simp only [am_z, Nat.reduceAdd, Nat.zero_le, Nat.reduceLeDiff]
  refine rn_L_follows 40 ?_
  simp (disch := omega) only [am_z, cq_L_follows, Nat.reduceAdd, Nat.zero_le, Nat.reduceLeDiff, ar_lit, tab_e, lI_n, leT]
  refine s_V_about (by omega) h (by omega) (fun I3 h => ?_)
  simp only [am_z, Nat.reduceAdd, Nat.zero_le, Nat.reduceLeDiff]
  refine rn_L_follows 40 ?_
  simp (disch := omega) only [am_z, cq_L_follows, Nat.reduceAdd, Nat.zero_le, Nat.reduceLeDiff, ar_lit, tab_e, lI_n, leT]
  refine s_V_save (by omega) h (by omega) (fun I4 h => ?_)
  simp only [am_z, Nat.reduceAdd, Nat.zero_le, Nat.reduceLeDiff]
  refine rn_L_follows 40 ?_
  simp (disch := omega) only [am_z, cq_L_follows, Nat.reduceAdd, Nat.zero_le, Nat.reduceLeDiff, ar_lit, nI_lI, lc_eq, ↓reduceIte, leT]
  refine s_L_simulate (by omega) h (fun I5 h => ?_)
  simp only [am_z, Nat.reduceAdd, Nat.zero_le, Nat.reduceLeDiff]
  refine rn_L_follows 40 ?_
  simp (disch := omega) only [am_z, cq_L_follows, Nat.reduceAdd, Nat.zero_le, Nat.reduceLeDiff, ar_lit, nI_lI, leT]
  refine s_L_simulate (by omega) h (fun I6 h => ?_)
  simp only [am_z, Nat.reduceAdd, Nat.zero_le, Nat.reduceLeDiff]
  refine rn_L_follows 40 ?_
  simp (disch := omega) only [am_z, cq_L_follows, Nat.reduceAdd, Nat.zero_le, Nat.reduceLeDiff, ar_lit, lc_eq, ↓reduceIte, leT]
  refine s_L_now (by omega) h (fun I7 h => ?_)
  simp only [am_z, Nat.reduceAdd, Nat.zero_le, Nat.reduceLeDiff]
  refine rn_L_follows 60 ?_
  simp (disch := omega) only [am_z, cq_L_follows, Nat.reduceAdd, Nat.zero_le, Nat.reduceLeDiff, ar_lit, lc_eq, ↓reduceIte, pk_div, ar_mod2, ar_eq, Nat.reduceEqDiff, not_false_eq_true, nI_add, leT, am_tt]
  refine s_V_heightFor (by omega) h (by omega) (by omega) (fun I8 x h hx1 hx2 hx3 hx4 hx5 => ?_) (fun I8 h hno => ?_)
  · simp only [am_z, Nat.reduceAdd, Nat.zero_le, Nat.reduceLeDiff]
    refine rn_L_follows 40 ?_
    simp (disch := omega) only [am_z, cq_L_follows, Nat.reduceAdd, Nat.zero_le, Nat.reduceLeDiff, ar_lit, leT]
    refine s_V_about (by omega) h (by omega) (fun I9 h => ?_)
    simp only [am_z, Nat.reduceAdd, Nat.zero_le, Nat.reduceLeDiff]
    refine rn_L_follows 40 ?_
    simp (disch := omega) only [am_z, cq_L_follows, Nat.reduceAdd, Nat.zero_le, Nat.reduceLeDiff, ar_lit, tab_e, lI_lit, lc_eq, lI_eq, ar_eq, Nat.reduceEqDiff, ↓reduceIte]
    rw [if_neg (by omega)]
    have hx3 : (tpg p x).length ≤ 1 + X % 24 := hx3
    have hx4 : tov (tpg p x) = 0 := hx4
    have hlx : (tpg p x).length ≤ 24 := tpg_len
    refine s_L_in (by omega) (by omega) (by omega) (by omega) (by omega) ?_
    simp only [am_z, Nat.reduceAdd, Nat.zero_le, Nat.reduceLeDiff]
    refine rn_L_follows 40 ?_
    simp (disch := omega) only [am_z, cq_L_follows, Nat.reduceAdd, Nat.zero_le, Nat.reduceLeDiff, ar_lit, ar_eq, Nat.reduceEqDiff, ↓reduceIte, lI_n, leT]
    refine s_V_setHeight (by omega) h hx1 hx2 (fun I10 h => ?_)
    simp only [am_z, Nat.reduceAdd, Nat.zero_le, Nat.reduceLeDiff]
    refine rn_L_follows 40 ?_
    simp (disch := omega) only [am_z, cq_L_follows, Nat.reduceAdd, Nat.zero_le, Nat.reduceLeDiff, ar_lit, nI_lI, lc_gt, lI_lt, leT]
    rw [if_neg (by omega)]
    refine s_V_about (by omega) h (by omega) (fun I11 h => ?_)
    have e6 : ((tab (tsetH p 0 x) 6 : Nat) : Int) = 0 := by
      show ((tov (tpg (tsetH p 0 x) (tP (tsetH p 0 x))) : Nat) : Int) = 0
      rw [tsetH_P, tsetH_pg, hx4]
      rfl
    have go : ∀ I kc ks, st I (t, tsetH p 0 x, p :: (H.take 13), fun j => if j = 1 then some p else Z j) → kc ≤ 1420 → ks ≤ 8520 → fX l d J P 192 (fls0 p X [some (vI (nI (1 + X % 24))), some (vL (lI (x : Int))), none, some (vL (lI (tP p : Int))), none, none, none, none, none, none, none, none, none, none, none, none, none, none, none, none, none, none, none]) kc ks I := by
      intro I kc ks h hk1 hk2
      have hh1 := hist_lt h
      simp only [List.length_cons] at hh1
      refine rn_L_follows 40 ?_
      simp (disch := omega) only [am_z, cq_L_follows, Nat.reduceAdd, Nat.zero_le, Nat.reduceLeDiff, ar_lit, leT]
      refine s_V_undo (by omega) h (fun I12 h => ?_)
      simp only [am_z, Nat.reduceAdd, Nat.zero_le, Nat.reduceLeDiff]
      refine rn_L_follows 40 ?_
      simp (disch := omega) only [am_z, cq_L_follows, Nat.reduceAdd, Nat.zero_le, Nat.reduceLeDiff, ar_lit, List.length_cons, lc_lt, lI_lit.1, lI_lt, leT]
      rw [if_neg (by omega)]
      refine s_L_now (by omega) h (fun I13 h => ?_)
      simp only [am_z, Nat.reduceAdd, Nat.zero_le, Nat.reduceLeDiff]
      refine rn_L_follows 40 ?_
      simp (disch := omega) only [am_z, cq_L_follows, Nat.reduceAdd, Nat.zero_le, Nat.reduceLeDiff, ar_lit, lc_eq, ↓reduceIte]
      exact f_285 hD next hX h (by omega) (by omega)
    simp only [am_z, Nat.reduceAdd, Nat.zero_le, Nat.reduceLeDiff]
    refine rn_L_follows 40 ?_
    simp (disch := omega) only [am_z, cq_L_follows, Nat.reduceAdd, Nat.zero_le, Nat.reduceLeDiff, ar_lit, e6, lI_lit.1, lI_lit.2.2.2.1, lc_eq, lI_eq, ↓reduceIte]
    by_cases q6 : x = 6
    · rw [if_pos (by omega)]
      exact go I11 _ _ h (by omega) (by omega)
    · rw [if_neg (by omega)]
      refine rn_L_follows 40 ?_
      simp (disch := omega) only [am_z, cq_L_follows, Nat.reduceAdd, Nat.zero_le, Nat.reduceLeDiff, ar_lit, lI_n, ar_sub, leT]
      refine s_V_setHeight (by omega) h (by omega) (by omega) (fun I12 h => ?_)
      have ely : (tpg (tsetH p 0 x) (x - 1)).length = (tpg p (x - 1)).length := by rw [tsetH_pg]
      have hly : (tpg p (x - 1)).length ≤ 24 := tpg_len
      have hbad : ¬ ((tpg p (x - 1)).length ≤ 1 + X % 24 ∧ tov (tpg p (x - 1)) = 0) := hx5 (x - 1) (by omega) (by omega)
      have go2 : ∀ I kc ks, st I (t, tsetH (tsetH p 0 x) 0 (x - 1), tsetH p 0 x :: p :: ((H.take 13).take 12), fun j => if j = 1 then some p else Z j) → kc ≤ 1418 → ks ≤ 8508 → fX l d J P 183 (fls0 p X [some (vI (nI (1 + X % 24))), some (vL (lI (x : Int))), none, some (vL (lI (tP p : Int))), none, none, none, none, none, none, none, none, none, none, none, none, none, none, none, none, none, none, none]) kc ks I := by
        intro I kc ks h hk1 hk2
        have hh1 := hist_lt h
        simp only [List.length_cons] at hh1
        refine rn_L_follows 40 ?_
        simp (disch := omega) only [am_z, cq_L_follows, Nat.reduceAdd, Nat.zero_le, Nat.reduceLeDiff, ar_lit, leT]
        refine s_V_undo (by omega) h (fun I13 h => ?_)
        simp only [am_z, Nat.reduceAdd, Nat.zero_le, Nat.reduceLeDiff]
        refine rn_L_follows 40 ?_
        simp (disch := omega) only [am_z, cq_L_follows, Nat.reduceAdd, Nat.zero_le, Nat.reduceLeDiff, ar_lit, List.length_cons, lc_lt, lI_lit.1, lI_lt]
        rw [if_neg (by omega)]
        have hh1 := hist_lt h
        simp only [List.length_cons] at hh1
        refine rn_L_follows 40 ?_
        simp (disch := omega) only [am_z, cq_L_follows, Nat.reduceAdd, Nat.zero_le, Nat.reduceLeDiff, ar_lit, leT]
        refine s_V_undo (by omega) h (fun I14 h => ?_)
        simp only [am_z, Nat.reduceAdd, Nat.zero_le, Nat.reduceLeDiff]
        refine rn_L_follows 40 ?_
        simp (disch := omega) only [am_z, cq_L_follows, Nat.reduceAdd, Nat.zero_le, Nat.reduceLeDiff, ar_lit, List.length_cons, lc_lt, lI_lit.1, lI_lt, leT]
        rw [if_neg (by omega)]
        refine s_L_now (by omega) h (fun I15 h => ?_)
        simp only [am_z, Nat.reduceAdd, Nat.zero_le, Nat.reduceLeDiff]
        refine rn_L_follows 40 ?_
        simp (disch := omega) only [am_z, cq_L_follows, Nat.reduceAdd, Nat.zero_le, Nat.reduceLeDiff, ar_lit, lc_eq, ↓reduceIte]
        exact f_285 hD next hX h (by omega) (by omega)
      rw [ely]
      simp only [am_z, Nat.reduceAdd, Nat.zero_le, Nat.reduceLeDiff]
      refine rn_L_follows 40 ?_
      simp (disch := omega) only [am_z, cq_L_follows, Nat.reduceAdd, Nat.zero_le, Nat.reduceLeDiff, ar_lit, nI_lI, lc_gt, lI_lt]
      by_cases q7 : (1 + X % 24) < (tpg p (x - 1)).length
      · rw [if_pos (by omega)]
        exact go2 I12 _ _ h (by omega) (by omega)
      · rw [if_neg (by omega)]
        have hov : tov (tpg p (x - 1)) ≠ 0 := fun z => hbad ⟨by omega, z⟩
        have hov2 := tov_le (tpg p (x - 1))
        refine rn_L_follows 40 ?_
        simp (disch := omega) only [am_z, cq_L_follows, Nat.reduceAdd, Nat.zero_le, Nat.reduceLeDiff, ar_lit, leT]
        refine s_V_about (by omega) h (by omega) (fun I13 h => ?_)
        have e6' : tab (tsetH (tsetH p 0 x) 0 (x - 1)) 6 = tov (tpg p (x - 1)) := by
          show tov (tpg (tsetH (tsetH p 0 x) 0 (x - 1)) (tP (tsetH (tsetH p 0 x) 0 (x - 1)))) = _
          rw [tsetH_P, tsetH_pg, tsetH_pg]
        simp only [am_z, Nat.reduceAdd, Nat.zero_le, Nat.reduceLeDiff]
        refine rn_L_follows 40 ?_
        simp (disch := omega) only [am_z, cq_L_follows, Nat.reduceAdd, Nat.zero_le, Nat.reduceLeDiff, ar_lit, e6', lI_lit.1, lc_le, lI_le]
        rw [if_neg (by omega)]
        exact go2 I13 _ _ h (by omega) (by omega)
  · simp only [am_z, Nat.reduceAdd, Nat.zero_le, Nat.reduceLeDiff]
    refine rn_L_follows 40 ?_
    simp (disch := omega) only [am_z, cq_L_follows, Nat.reduceAdd, Nat.zero_le, Nat.reduceLeDiff, ar_lit, leT]
    refine s_V_about (by omega) h (by omega) (fun I9 h => ?_)
    have hno40 : ¬ ((tpg p 40).length ≤ 1 + X % 24 ∧ tov (tpg p 40) = 0) := hno 40 (by omega) (by omega)
    have hl40 : (tpg p 40).length ≤ 24 := tpg_len
    simp only [am_z, Nat.reduceAdd, Nat.zero_le, Nat.reduceLeDiff]
    refine rn_L_follows 40 ?_
    simp (disch := omega) only [am_z, cq_L_follows, Nat.reduceAdd, Nat.zero_le, Nat.reduceLeDiff, ar_lit, tab_e, lI_lit.2.2.2.2.2.2.2.1, lc_eq, ↓reduceIte, ar_eq, Nat.reduceEqDiff, leT]
    refine s_V_setHeight (by omega) h (by omega) (by omega) (fun I10 h => ?_)
    simp only [am_z, Nat.reduceAdd, Nat.zero_le, Nat.reduceLeDiff]
    refine rn_L_follows 40 ?_
    simp (disch := omega) only [am_z, cq_L_follows, Nat.reduceAdd, Nat.zero_le, Nat.reduceLeDiff, ar_lit, lc_lt, lI_lit.1, lI_lt, leT]
    rw [if_neg (by omega)]
    refine s_V_about (by omega) h (by omega) (fun I11 h => ?_)
    have go : ∀ I kc ks, st I (t, tsetH p 0 40, p :: (H.take 13), fun j => if j = 1 then some p else Z j) → kc ≤ 1420 → ks ≤ 8520 → fX l d J P 260 (fls0 p X [some (vI (nI (1 + X % 24))), some (vL (lI (-999999))), none, some (vL (lI (tP p : Int))), none, none, none, none, none, none, none, none, none, none, none, none, none, none, none, none, none, none, none]) kc ks I := by
      intro I kc ks h hk1 hk2
      have hh1 := hist_lt h
      simp only [List.length_cons] at hh1
      refine rn_L_follows 40 ?_
      simp (disch := omega) only [am_z, cq_L_follows, Nat.reduceAdd, Nat.zero_le, Nat.reduceLeDiff, ar_lit, leT]
      refine s_V_undo (by omega) h (fun I12 h => ?_)
      simp only [am_z, Nat.reduceAdd, Nat.zero_le, Nat.reduceLeDiff]
      refine rn_L_follows 40 ?_
      simp (disch := omega) only [am_z, cq_L_follows, Nat.reduceAdd, Nat.zero_le, Nat.reduceLeDiff, ar_lit, List.length_cons, lc_lt, lI_lit.1, lI_lt, leT]
      rw [if_neg (by omega)]
      refine s_L_now (by omega) h (fun I13 h => ?_)
      simp only [am_z, Nat.reduceAdd, Nat.zero_le, Nat.reduceLeDiff]
      refine rn_L_follows 40 ?_
      simp (disch := omega) only [am_z, cq_L_follows, Nat.reduceAdd, Nat.zero_le, Nat.reduceLeDiff, ar_lit, lc_eq, ↓reduceIte]
      exact f_285 hD next hX h (by omega) (by omega)
    have e5 : tab (tsetH p 0 40) 5 = (tpg p 40).length := by
      show (tpg (tsetH p 0 40) (tP (tsetH p 0 40))).length = _
      rw [tsetH_P, tsetH_pg]
    have e6 : tab (tsetH p 0 40) 6 = tov (tpg p 40) := by
      show tov (tpg (tsetH p 0 40) (tP (tsetH p 0 40))) = _
      rw [tsetH_P, tsetH_pg]
    have hov2 := tov_le (tpg p 40)
    simp only [am_z, Nat.reduceAdd, Nat.zero_le, Nat.reduceLeDiff]
    refine rn_L_follows 40 ?_
    simp (disch := omega) only [am_z, cq_L_follows, Nat.reduceAdd, Nat.zero_le, Nat.reduceLeDiff, ar_lit, e5, nI_lI, lc_gt, lI_lt]
    by_cases q7 : (1 + X % 24) < (tpg p 40).length
    · rw [if_pos (by omega)]
      exact go I11 _ _ h (by omega) (by omega)
    · rw [if_neg (by omega)]
      have hov : tov (tpg p 40) ≠ 0 := fun z => hno40 ⟨by omega, z⟩
      refine rn_L_follows 40 ?_
      simp (disch := omega) only [am_z, cq_L_follows, Nat.reduceAdd, Nat.zero_le, Nat.reduceLeDiff, ar_lit, leT]
      refine s_V_about (by omega) h (by omega) (fun I13 h => ?_)
      simp only [am_z, Nat.reduceAdd, Nat.zero_le, Nat.reduceLeDiff]
      refine rn_L_follows 40 ?_
      simp (disch := omega) only [am_z, cq_L_follows, Nat.reduceAdd, Nat.zero_le, Nat.reduceLeDiff, ar_lit, e6, lI_lit.1, lc_le, lI_le]
      rw [if_neg (by omega)]
      exact go I13 _ _ h (by omega) (by omega)
end FO
