/-! ===== the law: a table told as a text ===== -/
theorem tl_lit : (49 : Int32) = nI 49 ∧ (640 : Int32) = nI 640 ∧ (16383 : Int32) = nI 16383 ∧ (29 : Int32) = nI 29 ∧ (16 : Int32) = nI 16 := ⟨rfl, rfl, rfl, rfl, rfl⟩
theorem tl_sm : ∀ k, k < 16 → ((nI k &&& 31).toBitVec.smod 32).toNat = k := by decide +kernel
theorem tl_v {X r : Nat} (hX : X < 2147483648) (hr : r < 1000) : ((nI X >>> (nI (r % 16) &&& 31)) &&& nI 16383) + nI 29 * nI r = nI (tlv X r) := by
  rw [pk_shrN (by omega) _ (r % 16) (tl_sm _ (by omega)), pk_andN (by have := Nat.div_le_self X (2 ^ (r % 16)); omega) 14 (by decide +kernel), pk_mul, nI_add]
  rfl
theorem tlv_lt (X : Nat) {r : Nat} (hr : r < 20) : tlv X r < 20000 := by
  unfold tlv
  omega
section TE
theorem s_L_says {l : Launch} {D : Nat} {I : am_I} {J : am_J} {P : am_P} {ss : List Nat} {r : pt_T × List pt_T × (Nat → Option pt_T)} {c : Nat} (hD : 9 ≤ D) (h : st I (ss, r)) (hc : c ≤ 255) (hl : ss.length < 160) (k : ∀ I', st I' (ss ++ [c], r) → P (.inl (some (vI (nI 1)))) am_G0 I' J) : am_T l D y_L_says [vR (0, 0), vI (nI c)] am_G0 I J P := by
  obtain ⟨d, rfl⟩ : ∃ d, D = d + 1 := ⟨D - 1, by omega⟩
  have e : q_append (ss, r) (nI c) = ((0, nI (ss.length + 1)), (ss ++ [c], r)) := by
    unfold q_append
    rw [nI_toInt (by omega), if_pos (by omega)]
    show (if ss.length < 160 then ((0, nI (ss.length + 1)), (ss ++ [((c : Int)).toNat], r)) else _) = _
    rw [if_pos hl, Int.toNat_natCast]
  refine en_L_says 40 (Nat.le_of_ble_eq_true rfl) ?_
  simp (disch := omega) only [am_z, cq_L_says, Nat.reduceAdd, Nat.zero_le, Nat.reduceLeDiff, ar_lit, leT]
  refine s_L_append (by omega) h (fun I1 h => ?_)
  rw [e] at h ⊢
  rw [wx_0, nI_lI (by omega)]
  simp only [am_z, Nat.reduceAdd, Nat.zero_le, Nat.reduceLeDiff]
  refine rn_L_says 40 ?_
  simp (disch := omega) only [am_z, cq_L_says, Nat.reduceAdd, Nat.zero_le, Nat.reduceLeDiff, ar_lit, lI_lit.1, lc_le, lI_le]
  rw [if_neg (by omega)]
  exact k I1 h
/-- from here on the text is told to its end, and it is a table -/
def tlG (X Y M G S r : Nat) (v : Option am_V) (pc : Nat) (ss : List Nat) (B : Nat) : Prop := ∃ ss' q, ptext ss' = (ss'.length, some q) ∧ ∀ (l : Launch) (d : Nat) (J : am_J) (P : am_P) (I : am_I) (kc ks : Nat) (rest : pt_T × List pt_T × (Nat → Option pt_T)), 10 ≤ d + 1 → st I (ss, rest) → kc + B ≤ 400 → ks + 6 * B ≤ 2400 → (∀ I', st I' (ss', rest) → P (.inl (some (vI (nI 1)))) am_G0 I' J) → am_X l (0, fun _ => 0) (d + 1) y_L_tells P pc [some (vR (0, 0)), some (vI (nI X)), some (vI (nI Y)), some (vI (nI M)), some (vI (nI G)), some (vI (nI 1)), some (vI (nI S)), some (vI (nI r)), v] [] kc ks am_G0 I J
def tlI (X r S len : Nat) : Prop := len = 5 + 5 * r + sumN (tlk X) r + 2 * sumN (tln2 X) r + 6 * S
theorem tl_loop (X Y M G : Nat) (hX : X < 2147483648) (hY : Y < 2147483648) (hM : M ≤ 20) (hG : G < 1000) : ∀ m r S ss p (v : Option am_V), r + m = M → PG ss p → tn p = r → tC p = 1 → tm p = S → S ≤ 3 → tlI X r S ss.length → tlG X Y M G S r v 104 ss (14 * m + 2) := by
  intro m
  induction m with
  | zero =>
    intro r S ss p v hr hp hn hC hm hS hI
    have k1 := tlk_le X (r := r) (by omega)
    have k2 := tln2_le X (r := r) (by omega)
    unfold tlI at hI
    have hpt := hp.text (by omega)
    refine ⟨ss, p, hpt, fun l d J P I kc ks rest hD h hk1 hk2 k => ?_⟩
    obtain rfl : r = M := by omega
    refine rn_L_tells 40 ?_
    simp (disch := omega) only [am_z, cq_L_tells, Nat.reduceAdd, Nat.zero_le, Nat.reduceLeDiff, ar_lit, ar_le, ↓reduceIte, ar_eq, Nat.reduceEqDiff, leT]
    refine s_P_errorPosition (by omega) h (fun I1 hf h => ?_)
    have e : ox [] (q_error (ss, rest)).1 = .inl (some (vI (-999999))) := by
      show ox [] (0, pans (ptext ss)) = _
      rw [hpt]
      rfl
    rw [e]
    simp only [am_z, Nat.reduceAdd, Nat.zero_le, Nat.reduceLeDiff]
    refine rn_L_tells 40 ?_
    simp (disch := omega) only [am_z, cq_L_tells, Nat.reduceAdd, Nat.zero_le, Nat.reduceLeDiff, ar_lit, ↓reduceIte, am_tt]
    exact k I1 h
  | succ m ih =>
    intro r S ss p v hr hp hn hC hm hS hI
    have hv := tlv_lt X (r := r) (by omega)
    have k1 := tlk_le X (r := r + 1) (by omega)
    have k2 := tln2_le X (r := r + 1) (by omega)
    have e1 : sumN (tlk X) (r + 1) = sumN (tlk X) r + tlk X r := rfl
    have e2 : sumN (tln2 X) (r + 1) = sumN (tln2 X) r + tln2 X r := rfl
    have b1 : tlk X r ≤ 1 := b01_le _
    have b2 : tln2 X r ≤ 1 := b01_le _
    unfold tlI at hI
    have c417 : ∀ S' ss' p', PG ss' p' → tn p' = r + 1 → tC p' = 1 → tm p' = S' → S' ≤ 3 → ss'.length = 5 + 5 * (r + 1) + sumN (tlk X) (r + 1) + 2 * sumN (tln2 X) (r + 1) + 6 * S' → tlG X Y M G S' r (some (vI (nI (tlv X r)))) 417 ss' (14 * m + 2) := by
      intro S' ss' p' h1 h2 h3 h4 h5 h6
      obtain ⟨ss'', q, g1, g2⟩ := ih (r + 1) S' ss' p' (some (vI (nI (tlv X r)))) (by omega) h1 h2 h3 h4 h5 h6
      refine ⟨ss'', q, g1, fun l d J P I kc ks rest hD h hk1 hk2 k => ?_⟩
      refine rn_L_tells 40 ?_
      simp (disch := omega) only [am_z, cq_L_tells, Nat.reduceAdd, Nat.zero_le, Nat.reduceLeDiff, ar_lit, nI_add]
      exact g2 l d J P I kc ks rest hD h hk1 hk2 k
    have c303 : ∀ ss' p', PG ss' p' → tn p' = r + 1 → tC p' = 1 → tm p' = S → ss'.length = 5 + 5 * (r + 1) + sumN (tlk X) (r + 1) + 2 * sumN (tln2 X) (r + 1) + 6 * S → tlG X Y M G S r (some (vI (nI (tlv X r)))) 303 ss' (14 * m + 8) := by
      intro ss' p' h1 h2 h3 h4 h6
      by_cases q : tlv X r % 4 = 3 ∧ 0 < r ∧ r < 10 ∧ S < 3
      · obtain ⟨q1, q2, q3, q4⟩ := q
        have hf : tlv X r / 4 % r < r := Nat.mod_lt _ q2
        obtain ⟨p'', g1, g2, g3, g4⟩ := h1.span (f := tlv X r / 4 % r) (r := r) (c := tlv X r / 40 % 2) h2 (by omega) h3 hf q3 (by omega)
        obtain ⟨ss'', q, i1, i2⟩ := c417 (S + 1) _ p'' g1 (g2.trans h2) g3 (by omega) (by omega) (by rw [List.length_append, h6]; show _ + 6 = _; omega)
        refine ⟨ss'', q, i1, fun l d J P I kc ks rest hD h hk1 hk2 k => ?_⟩
        refine rn_L_tells 40 ?_
        simp (disch := omega) only [am_z, cq_L_tells, Nat.reduceAdd, Nat.zero_le, Nat.reduceLeDiff, ar_lit, ac_lit, tl_lit, pk_div, ar_mod2, ar_eq, Nat.reduceEqDiff, not_false_eq_true, nI_add, am_tt, leT, ↓reduceIte]
        rw [if_pos (by omega)]
        refine rn_L_tells 40 ?_
        simp (disch := omega) only [am_z, cq_L_tells, Nat.reduceAdd, Nat.zero_le, Nat.reduceLeDiff, ar_lit, ac_lit, tl_lit, pk_div, ar_mod2, ar_eq, Nat.reduceEqDiff, not_false_eq_true, nI_add, am_tt, leT, ↓reduceIte, ar_le]
        rw [if_neg (by omega)]
        refine rn_L_tells 40 ?_
        simp (disch := omega) only [am_z, cq_L_tells, Nat.reduceAdd, Nat.zero_le, Nat.reduceLeDiff, ar_lit, ac_lit, tl_lit, pk_div, ar_mod2, ar_eq, Nat.reduceEqDiff, not_false_eq_true, nI_add, am_tt, leT, ↓reduceIte, ar_le]
        rw [if_neg (by omega)]
        refine rn_L_tells 40 ?_
        simp (disch := omega) only [am_z, cq_L_tells, Nat.reduceAdd, Nat.zero_le, Nat.reduceLeDiff, ar_lit, ac_lit, tl_lit, pk_div, ar_mod2, ar_eq, Nat.reduceEqDiff, not_false_eq_true, nI_add, am_tt, leT, ↓reduceIte, ar_le]
        rw [if_neg (by omega)]
        refine rn_L_tells 40 ?_
        simp (disch := omega) only [am_z, cq_L_tells, Nat.reduceAdd, Nat.zero_le, Nat.reduceLeDiff, ar_lit, ac_lit, tl_lit, pk_div, ar_mod2, ar_eq, Nat.reduceEqDiff, not_false_eq_true, nI_add, am_tt, leT, ↓reduceIte, ar_le]
        refine s_L_says (by omega) h (by omega) (by first | omega | (simp only [List.length_append, List.length_cons, List.length_nil]; omega)) (fun I1 h => ?_)
        simp only [am_z, Nat.reduceAdd, Nat.zero_le, Nat.reduceLeDiff]
        refine rn_L_tells 40 ?_
        simp (disch := omega) only [am_z, cq_L_tells, Nat.reduceAdd, Nat.zero_le, Nat.reduceLeDiff, ar_lit, ac_lit, tl_lit, pk_div, ar_mod2, ar_eq, Nat.reduceEqDiff, not_false_eq_true, nI_add, am_tt, leT, ↓reduceIte]
        refine s_L_says (by omega) h (by omega) (by first | omega | (simp only [List.length_append, List.length_cons, List.length_nil]; omega)) (fun I2 h => ?_)
        simp only [am_z, Nat.reduceAdd, Nat.zero_le, Nat.reduceLeDiff]
        refine rn_L_tells 40 ?_
        simp (disch := omega) only [am_z, cq_L_tells, Nat.reduceAdd, Nat.zero_le, Nat.reduceLeDiff, ar_lit, ac_lit, tl_lit, pk_div, ar_mod2, ar_eq, Nat.reduceEqDiff, not_false_eq_true, nI_add, am_tt, leT, ↓reduceIte]
        refine ⟨by omega, ?_⟩
        refine s_L_says (by omega) h (by omega) (by first | omega | (simp only [List.length_append, List.length_cons, List.length_nil]; omega)) (fun I3 h => ?_)
        simp only [am_z, Nat.reduceAdd, Nat.zero_le, Nat.reduceLeDiff]
        refine rn_L_tells 40 ?_
        simp (disch := omega) only [am_z, cq_L_tells, Nat.reduceAdd, Nat.zero_le, Nat.reduceLeDiff, ar_lit, ac_lit, tl_lit, pk_div, ar_mod2, ar_eq, Nat.reduceEqDiff, not_false_eq_true, nI_add, am_tt, leT, ↓reduceIte]
        refine s_L_says (by omega) h (by omega) (by first | omega | (simp only [List.length_append, List.length_cons, List.length_nil]; omega)) (fun I4 h => ?_)
        simp only [am_z, Nat.reduceAdd, Nat.zero_le, Nat.reduceLeDiff]
        refine rn_L_tells 40 ?_
        simp (disch := omega) only [am_z, cq_L_tells, Nat.reduceAdd, Nat.zero_le, Nat.reduceLeDiff, ar_lit, ac_lit, tl_lit, pk_div, ar_mod2, ar_eq, Nat.reduceEqDiff, not_false_eq_true, nI_add, am_tt, leT, ↓reduceIte]
        refine s_L_says (by omega) h (by omega) (by first | omega | (simp only [List.length_append, List.length_cons, List.length_nil]; omega)) (fun I5 h => ?_)
        simp only [am_z, Nat.reduceAdd, Nat.zero_le, Nat.reduceLeDiff]
        refine rn_L_tells 40 ?_
        simp (disch := omega) only [am_z, cq_L_tells, Nat.reduceAdd, Nat.zero_le, Nat.reduceLeDiff, ar_lit, ac_lit, tl_lit, pk_div, ar_mod2, ar_eq, Nat.reduceEqDiff, not_false_eq_true, nI_add, am_tt, leT, ↓reduceIte]
        refine s_L_says (by omega) h (by omega) (by first | omega | (simp only [List.length_append, List.length_cons, List.length_nil]; omega)) (fun I6 h => ?_)
        simp only [am_z, Nat.reduceAdd, Nat.zero_le, Nat.reduceLeDiff]
        refine rn_L_tells 40 ?_
        simp (disch := omega) only [am_z, cq_L_tells, Nat.reduceAdd, Nat.zero_le, Nat.reduceLeDiff, ar_lit, ac_lit, tl_lit, pk_div, ar_mod2, ar_eq, Nat.reduceEqDiff, not_false_eq_true, nI_add, am_tt, leT, ↓reduceIte]
        refine i2 l d J P _ _ _ rest hD ?_ (by omega) (by omega) k
        have h' := h
        simp only [List.append_assoc, List.cons_append, List.nil_append] at h'
        exact h'
      · obtain ⟨ss'', q', i1, i2⟩ := c417 S ss' p' h1 h2 h3 h4 hS h6
        refine ⟨ss'', q', i1, fun l d J P I kc ks rest hD h hk1 hk2 k => ?_⟩
        have done := i2 l d J P I kc ks rest hD h (by omega) (by omega) k
        refine rn_L_tells 40 ?_
        simp (disch := omega) only [am_z, cq_L_tells, Nat.reduceAdd, Nat.zero_le, Nat.reduceLeDiff, ar_lit, ac_lit, tl_lit, pk_div, ar_mod2, ar_eq, Nat.reduceEqDiff, not_false_eq_true, nI_add, am_tt, leT, ↓reduceIte]
        by_cases q1 : tlv X r % 4 = 3
        · rw [if_pos q1]
          refine rn_L_tells 40 ?_
          simp (disch := omega) only [am_z, cq_L_tells, Nat.reduceAdd, Nat.zero_le, Nat.reduceLeDiff, ar_lit, ac_lit, tl_lit, pk_div, ar_mod2, ar_eq, Nat.reduceEqDiff, not_false_eq_true, nI_add, am_tt, leT, ↓reduceIte, ar_le]
          by_cases q2 : r ≤ 0
          · rw [if_pos q2]
            exact done
          · rw [if_neg q2]
            refine rn_L_tells 40 ?_
            simp (disch := omega) only [am_z, cq_L_tells, Nat.reduceAdd, Nat.zero_le, Nat.reduceLeDiff, ar_lit, ac_lit, tl_lit, pk_div, ar_mod2, ar_eq, Nat.reduceEqDiff, not_false_eq_true, nI_add, am_tt, leT, ↓reduceIte, ar_le]
            by_cases q3 : 10 ≤ r
            · rw [if_pos q3]
              exact done
            · rw [if_neg q3]
              refine rn_L_tells 40 ?_
              simp (disch := omega) only [am_z, cq_L_tells, Nat.reduceAdd, Nat.zero_le, Nat.reduceLeDiff, ar_lit, ac_lit, tl_lit, pk_div, ar_mod2, ar_eq, Nat.reduceEqDiff, not_false_eq_true, nI_add, am_tt, leT, ↓reduceIte, ar_le]
              by_cases q4 : 3 ≤ S
              · try rw [if_pos q4]
                exact done
              · exact absurd ⟨q1, by omega, by omega, by omega⟩ q
        · rw [if_neg q1]
          exact done
    have c250 : ∀ ss' p', PG ss' p' → tn p' = r + 1 → tC p' = 1 → tm p' = S → ss'.length = 5 + 5 * (r + 1) + sumN (tlk X) (r + 1) + 2 * sumN (tln2 X) r + 6 * S → tlG X Y M G S r (some (vI (nI (tlv X r)))) 250 ss' (14 * m + 10) := by
      intro ss' p' h1 h2 h3 h4 h6
      by_cases q : tlv X r % 5 = 2 ∧ r < 12
      · have e3 : tln2 X r = 1 := by unfold tln2; rw [decide_eq_true q]; rfl
        obtain ⟨q1, q2⟩ := q
        obtain ⟨p'', g1, g2, g3, g4⟩ := h1.note (v := 1 + tlv X r / 5 % 6) (by omega) h3 (by omega) (by omega)
        rw [show 48 + (1 + tlv X r / 5 % 6) = 49 + tlv X r / 5 % 6 by omega] at g1
        obtain ⟨ss'', q, i1, i2⟩ := c303 _ p'' g1 (g2.trans h2) g3 (g4.trans h4) (by rw [List.length_append, h6]; show _ + 2 = _; omega)
        refine ⟨ss'', q, i1, fun l d J P I kc ks rest hD h hk1 hk2 k => ?_⟩
        refine rn_L_tells 40 ?_
        simp (disch := omega) only [am_z, cq_L_tells, Nat.reduceAdd, Nat.zero_le, Nat.reduceLeDiff, ar_lit, ac_lit, tl_lit, pk_div, ar_mod2, ar_eq, Nat.reduceEqDiff, not_false_eq_true, nI_add, am_tt, leT, ↓reduceIte]
        rw [if_pos (by omega)]
        refine rn_L_tells 40 ?_
        simp (disch := omega) only [am_z, cq_L_tells, Nat.reduceAdd, Nat.zero_le, Nat.reduceLeDiff, ar_lit, ac_lit, tl_lit, pk_div, ar_mod2, ar_eq, Nat.reduceEqDiff, not_false_eq_true, nI_add, am_tt, leT, ↓reduceIte, ar_le]
        rw [if_neg (by omega)]
        refine rn_L_tells 40 ?_
        simp (disch := omega) only [am_z, cq_L_tells, Nat.reduceAdd, Nat.zero_le, Nat.reduceLeDiff, ar_lit, ac_lit, tl_lit, pk_div, ar_mod2, ar_eq, Nat.reduceEqDiff, not_false_eq_true, nI_add, am_tt, leT, ↓reduceIte, ar_le]
        refine s_L_says (by omega) h (by omega) (by first | omega | (simp only [List.length_append, List.length_cons, List.length_nil]; omega)) (fun I7 h => ?_)
        simp only [am_z, Nat.reduceAdd, Nat.zero_le, Nat.reduceLeDiff]
        refine rn_L_tells 40 ?_
        simp (disch := omega) only [am_z, cq_L_tells, Nat.reduceAdd, Nat.zero_le, Nat.reduceLeDiff, ar_lit, ac_lit, tl_lit, pk_div, ar_mod2, ar_eq, Nat.reduceEqDiff, not_false_eq_true, nI_add, am_tt, leT, ↓reduceIte]
        refine s_L_says (by omega) h (by omega) (by first | omega | (simp only [List.length_append, List.length_cons, List.length_nil]; omega)) (fun I8 h => ?_)
        simp only [am_z, Nat.reduceAdd, Nat.zero_le, Nat.reduceLeDiff]
        refine rn_L_tells 40 ?_
        simp (disch := omega) only [am_z, cq_L_tells, Nat.reduceAdd, Nat.zero_le, Nat.reduceLeDiff, ar_lit, ac_lit, tl_lit, pk_div, ar_mod2, ar_eq, Nat.reduceEqDiff, not_false_eq_true, nI_add, am_tt, leT, ↓reduceIte]
        refine i2 l d J P _ _ _ rest hD ?_ (by omega) (by omega) k
        have h' := h
        simp only [List.append_assoc, List.cons_append, List.nil_append] at h'
        exact h'
      · have e3 : tln2 X r = 0 := by unfold tln2; rw [decide_eq_false q]; rfl
        obtain ⟨ss'', q', i1, i2⟩ := c303 ss' p' h1 h2 h3 h4 (by omega)
        refine ⟨ss'', q', i1, fun l d J P I kc ks rest hD h hk1 hk2 k => ?_⟩
        have done := i2 l d J P I kc ks rest hD h (by omega) (by omega) k
        refine rn_L_tells 40 ?_
        simp (disch := omega) only [am_z, cq_L_tells, Nat.reduceAdd, Nat.zero_le, Nat.reduceLeDiff, ar_lit, ac_lit, tl_lit, pk_div, ar_mod2, ar_eq, Nat.reduceEqDiff, not_false_eq_true, nI_add, am_tt, leT, ↓reduceIte]
        by_cases q1 : tlv X r % 5 = 2
        · rw [if_pos q1]
          refine rn_L_tells 40 ?_
          simp (disch := omega) only [am_z, cq_L_tells, Nat.reduceAdd, Nat.zero_le, Nat.reduceLeDiff, ar_lit, ac_lit, tl_lit, pk_div, ar_mod2, ar_eq, Nat.reduceEqDiff, not_false_eq_true, nI_add, am_tt, leT, ↓reduceIte, ar_le]
          by_cases q3 : 12 ≤ r
          · try rw [if_pos q3]
            exact done
          · exact absurd ⟨q1, by omega⟩ q
        · rw [if_neg q1]
          exact done
    have c220 : ∀ ss' p', PG ss' p' → tn p' = r + 1 → tC p' = 1 → tm p' = S → ss'.length = 5 + 5 * (r + 1) + sumN (tlk X) r + 2 * sumN (tln2 X) r + 6 * S → tlG X Y M G S r (some (vI (nI (tlv X r)))) 220 ss' (14 * m + 11) := by
      intro ss' p' h1 h2 h3 h4 h6
      by_cases q1 : tlv X r % 7 = 1
      · have e3 : tlk X r = 1 := by unfold tlk; rw [decide_eq_true q1]; rfl
        obtain ⟨p'', g1, g2, g3, g4⟩ := h1.keep (by omega) h3
        obtain ⟨ss'', q, i1, i2⟩ := c250 _ p'' g1 (g2.trans h2) g3 (g4.trans h4) (by rw [List.length_append, h6]; show _ + 1 = _; omega)
        refine ⟨ss'', q, i1, fun l d J P I kc ks rest hD h hk1 hk2 k => ?_⟩
        refine rn_L_tells 40 ?_
        simp (disch := omega) only [am_z, cq_L_tells, Nat.reduceAdd, Nat.zero_le, Nat.reduceLeDiff, ar_lit, ac_lit, tl_lit, pk_div, ar_mod2, ar_eq, Nat.reduceEqDiff, not_false_eq_true, nI_add, am_tt, leT, ↓reduceIte]
        rw [if_pos (by omega)]
        refine rn_L_tells 40 ?_
        simp (disch := omega) only [am_z, cq_L_tells, Nat.reduceAdd, Nat.zero_le, Nat.reduceLeDiff, ar_lit, ac_lit, tl_lit, pk_div, ar_mod2, ar_eq, Nat.reduceEqDiff, not_false_eq_true, nI_add, am_tt, leT, ↓reduceIte, ar_le]
        refine s_L_says (by omega) h (by omega) (by first | omega | (simp only [List.length_append, List.length_cons, List.length_nil]; omega)) (fun I9 h => ?_)
        simp only [am_z, Nat.reduceAdd, Nat.zero_le, Nat.reduceLeDiff]
        refine rn_L_tells 40 ?_
        simp (disch := omega) only [am_z, cq_L_tells, Nat.reduceAdd, Nat.zero_le, Nat.reduceLeDiff, ar_lit, ac_lit, tl_lit, pk_div, ar_mod2, ar_eq, Nat.reduceEqDiff, not_false_eq_true, nI_add, am_tt, leT, ↓reduceIte]
        exact i2 l d J P _ _ _ rest hD h (by omega) (by omega) k
      · have e3 : tlk X r = 0 := by unfold tlk; rw [decide_eq_false q1]; rfl
        obtain ⟨ss'', q', i1, i2⟩ := c250 ss' p' h1 h2 h3 h4 (by omega)
        refine ⟨ss'', q', i1, fun l d J P I kc ks rest hD h hk1 hk2 k => ?_⟩
        refine rn_L_tells 40 ?_
        simp (disch := omega) only [am_z, cq_L_tells, Nat.reduceAdd, Nat.zero_le, Nat.reduceLeDiff, ar_lit, ac_lit, tl_lit, pk_div, ar_mod2, ar_eq, Nat.reduceEqDiff, not_false_eq_true, nI_add, am_tt, leT, ↓reduceIte]
        rw [if_neg (by omega)]
        exact i2 l d J P I kc ks rest hD h (by omega) (by omega) k
    obtain ⟨p'', g1, g2, g3, g4⟩ := hp.row (h := 1 + tlv X r % 5) (sg := if tlv X r % 2 = 0 then 43 else 45) (x := tlv X r / 2 % 10) (y := tlv X r / 20 % 10) (by omega) hC (by omega) (by omega) (by split <;> simp) (by omega) (by omega)
    rw [show 48 + (1 + tlv X r % 5) = 49 + tlv X r % 5 by omega] at g1
    obtain ⟨ss'', q, i1, i2⟩ := c220 _ p'' g1 (by omega) g3 (g4.trans hm) (by rw [List.length_append, hI]; show _ + 5 = _; omega)
    refine ⟨ss'', q, i1, fun l d J P I kc ks rest hD h hk1 hk2 k => ?_⟩
    have g172 : ∀ sg I kc ks, sg = (if tlv X r % 2 = 0 then 43 else 45) → st I (ss ++ [114] ++ [49 + tlv X r % 5], rest) → kc + (14 * m + 14) ≤ 400 → ks + 6 * (14 * m + 14) ≤ 2400 → am_X l (0, fun _ => 0) (d + 1) y_L_tells P 172 [some (vR (0, 0)), some (vI (nI X)), some (vI (nI Y)), some (vI (nI M)), some (vI (nI G)), some (vI (nI 1)), some (vI (nI S)), some (vI (nI r)), some (vI (nI (tlv X r)))] [vI (nI sg), vR (0, 0)] kc ks am_G0 I J := by
      intro sg I kc ks hsg h hk1 hk2
      have hs255 : sg ≤ 255 := by rw [hsg]; split <;> omega
      refine rn_L_tells 40 ?_
      simp (disch := omega) only [am_z, cq_L_tells, Nat.reduceAdd, Nat.zero_le, Nat.reduceLeDiff, ar_lit, leT]
      refine s_L_says (by omega) h (by omega) (by first | omega | (simp only [List.length_append, List.length_cons, List.length_nil]; omega)) (fun I10 h => ?_)
      simp only [am_z, Nat.reduceAdd, Nat.zero_le, Nat.reduceLeDiff]
      refine rn_L_tells 40 ?_
      simp (disch := omega) only [am_z, cq_L_tells, Nat.reduceAdd, Nat.zero_le, Nat.reduceLeDiff, ar_lit, ac_lit, tl_lit, pk_div, ar_mod2, ar_eq, Nat.reduceEqDiff, not_false_eq_true, nI_add, am_tt, leT, ↓reduceIte]
      refine s_L_says (by omega) h (by omega) (by first | omega | (simp only [List.length_append, List.length_cons, List.length_nil]; omega)) (fun I11 h => ?_)
      simp only [am_z, Nat.reduceAdd, Nat.zero_le, Nat.reduceLeDiff]
      refine rn_L_tells 40 ?_
      simp (disch := omega) only [am_z, cq_L_tells, Nat.reduceAdd, Nat.zero_le, Nat.reduceLeDiff, ar_lit, ac_lit, tl_lit, pk_div, ar_mod2, ar_eq, Nat.reduceEqDiff, not_false_eq_true, nI_add, am_tt, leT, ↓reduceIte]
      refine s_L_says (by omega) h (by omega) (by first | omega | (simp only [List.length_append, List.length_cons, List.length_nil]; omega)) (fun I12 h => ?_)
      simp only [am_z, Nat.reduceAdd, Nat.zero_le, Nat.reduceLeDiff]
      refine rn_L_tells 40 ?_
      simp (disch := omega) only [am_z, cq_L_tells, Nat.reduceAdd, Nat.zero_le, Nat.reduceLeDiff, ar_lit, ac_lit, tl_lit, pk_div, ar_mod2, ar_eq, Nat.reduceEqDiff, not_false_eq_true, nI_add, am_tt, leT, ↓reduceIte]
      refine i2 l d J P _ _ _ rest hD ?_ (by omega) (by omega) k
      have h' := h
      simp only [List.append_assoc, List.cons_append, List.nil_append] at h'
      rw [hsg] at h'
      exact h'
    refine rn_L_tells 60 ?_
    simp (disch := omega) only [am_z, cq_L_tells, Nat.reduceAdd, Nat.zero_le, Nat.reduceLeDiff, ar_lit, ac_lit, tl_lit, pk_div, ar_mod2, ar_eq, Nat.reduceEqDiff, not_false_eq_true, nI_add, am_tt, leT, ↓reduceIte, ar_le, tl_v]
    rw [if_neg (by omega)]
    refine s_L_says (by omega) h (by omega) (by first | omega | (simp only [List.length_append, List.length_cons, List.length_nil]; omega)) (fun I13 h => ?_)
    simp only [am_z, Nat.reduceAdd, Nat.zero_le, Nat.reduceLeDiff]
    refine rn_L_tells 40 ?_
    simp (disch := omega) only [am_z, cq_L_tells, Nat.reduceAdd, Nat.zero_le, Nat.reduceLeDiff, ar_lit, ac_lit, tl_lit, pk_div, ar_mod2, ar_eq, Nat.reduceEqDiff, not_false_eq_true, nI_add, am_tt, leT, ↓reduceIte]
    refine s_L_says (by omega) h (by omega) (by first | omega | (simp only [List.length_append, List.length_cons, List.length_nil]; omega)) (fun I14 h => ?_)
    simp only [am_z, Nat.reduceAdd, Nat.zero_le, Nat.reduceLeDiff]
    refine rn_L_tells 40 ?_
    simp (disch := omega) only [am_z, cq_L_tells, Nat.reduceAdd, Nat.zero_le, Nat.reduceLeDiff, ar_lit, ac_lit, tl_lit, pk_div, ar_mod2, ar_eq, Nat.reduceEqDiff, not_false_eq_true, nI_add, am_tt, leT, ↓reduceIte]
    by_cases q2 : tlv X r % 2 = 0
    · rw [if_pos q2]
      exact g172 43 _ _ _ (by rw [if_pos q2]) h (by omega) (by omega)
    · rw [if_neg q2]
      exact g172 45 _ _ _ (by rw [if_neg q2]) h (by omega) (by omega)
theorem tells_ex (X Y : Nat) (hX : X < 2147483648) (hY : Y < 2147483648) : ∃ ss' q, ptext ss' = (ss'.length, some q) ∧ ∀ (l : Launch) (D : Nat) (J : am_J) (P : am_P) (I : am_I) (ss : List Nat) (rest : pt_T × List pt_T × (Nat → Option pt_T)), 10 ≤ D → st I (ss, rest) → (∀ I', st I' (ss', rest) → P (.inl (some (vI (nI 1)))) am_G0 I' J) → am_T l D y_L_tells [vR (0, 0), vI (nI X), vI (nI Y)] am_G0 I J P := by
  obtain ⟨ss', q, g1, g2⟩ := tl_loop X Y (1 + Y % 20) (8 + Y / 20 % 32) hX hY (by omega) (by omega) (1 + Y % 20) 0 0 _ _ none (by omega) (PG.head (H := 8 + Y / 20 % 32) (E := Y / 640 % 5) (by omega) (by omega) (by omega)) rfl rfl rfl (by omega) rfl
  refine ⟨ss', q, g1, fun l D J P I ss rest hD h k => ?_⟩
  obtain ⟨d, rfl⟩ : ∃ d, D = d + 1 := ⟨D - 1, by omega⟩
  have hss : ss.length ≤ 160 := h.1.2.2.1
  refine en_L_tells 60 (Nat.le_of_ble_eq_true rfl) ?_
  simp (disch := omega) only [am_z, cq_L_tells, Nat.reduceAdd, Nat.zero_le, Nat.reduceLeDiff, ar_lit, ac_lit, tl_lit, pk_div, ar_mod2, ar_eq, Nat.reduceEqDiff, not_false_eq_true, nI_add, am_tt, leT, ↓reduceIte]
  refine s_P_clearText (by omega) h (fun I1 hf h => ?_)
  replace h : st I1 ([], rest) := h
  rw [show ox [] (q_clear (ss, rest)).1 = .inl (some (vI (nI ss.length))) from rfl]
  simp only [am_z, Nat.reduceAdd, Nat.zero_le, Nat.reduceLeDiff]
  refine rn_L_tells 40 ?_
  simp (disch := omega) only [am_z, cq_L_tells, Nat.reduceAdd, Nat.zero_le, Nat.reduceLeDiff, ar_lit, ac_lit, tl_lit, pk_div, ar_mod2, ar_eq, Nat.reduceEqDiff, not_false_eq_true, nI_add, am_tt, leT, ↓reduceIte, ar_lt]
  rw [if_neg (by omega)]
  refine s_L_says (by omega) h (by omega) (by first | omega | (simp only [List.length_append, List.length_cons, List.length_nil]; omega)) (fun I15 h => ?_)
  simp only [am_z, Nat.reduceAdd, Nat.zero_le, Nat.reduceLeDiff]
  refine rn_L_tells 40 ?_
  simp (disch := omega) only [am_z, cq_L_tells, Nat.reduceAdd, Nat.zero_le, Nat.reduceLeDiff, ar_lit, ac_lit, tl_lit, pk_div, ar_mod2, ar_eq, Nat.reduceEqDiff, not_false_eq_true, nI_add, am_tt, leT, ↓reduceIte]
  refine s_L_says (by omega) h (by omega) (by first | omega | (simp only [List.length_append, List.length_cons, List.length_nil]; omega)) (fun I16 h => ?_)
  simp only [am_z, Nat.reduceAdd, Nat.zero_le, Nat.reduceLeDiff]
  refine rn_L_tells 40 ?_
  simp (disch := omega) only [am_z, cq_L_tells, Nat.reduceAdd, Nat.zero_le, Nat.reduceLeDiff, ar_lit, ac_lit, tl_lit, pk_div, ar_mod2, ar_eq, Nat.reduceEqDiff, not_false_eq_true, nI_add, am_tt, leT, ↓reduceIte]
  refine s_L_says (by omega) h (by omega) (by first | omega | (simp only [List.length_append, List.length_cons, List.length_nil]; omega)) (fun I17 h => ?_)
  simp only [am_z, Nat.reduceAdd, Nat.zero_le, Nat.reduceLeDiff]
  refine rn_L_tells 40 ?_
  simp (disch := omega) only [am_z, cq_L_tells, Nat.reduceAdd, Nat.zero_le, Nat.reduceLeDiff, ar_lit, ac_lit, tl_lit, pk_div, ar_mod2, ar_eq, Nat.reduceEqDiff, not_false_eq_true, nI_add, am_tt, leT, ↓reduceIte]
  refine s_L_says (by omega) h (by omega) (by first | omega | (simp only [List.length_append, List.length_cons, List.length_nil]; omega)) (fun I18 h => ?_)
  simp only [am_z, Nat.reduceAdd, Nat.zero_le, Nat.reduceLeDiff]
  refine rn_L_tells 40 ?_
  simp (disch := omega) only [am_z, cq_L_tells, Nat.reduceAdd, Nat.zero_le, Nat.reduceLeDiff, ar_lit, ac_lit, tl_lit, pk_div, ar_mod2, ar_eq, Nat.reduceEqDiff, not_false_eq_true, nI_add, am_tt, leT, ↓reduceIte]
  refine s_L_says (by omega) h (by omega) (by first | omega | (simp only [List.length_append, List.length_cons, List.length_nil]; omega)) (fun I19 h => ?_)
  simp only [am_z, Nat.reduceAdd, Nat.zero_le, Nat.reduceLeDiff]
  refine rn_L_tells 40 ?_
  simp (disch := omega) only [am_z, cq_L_tells, Nat.reduceAdd, Nat.zero_le, Nat.reduceLeDiff, ar_lit, ac_lit, tl_lit, pk_div, ar_mod2, ar_eq, Nat.reduceEqDiff, not_false_eq_true, nI_add, am_tt, leT, ↓reduceIte]
  refine g2 l d J P _ _ _ rest hD ?_ (by omega) (by omega) k
  have h' := h
  simp only [List.nil_append, List.append_assoc, List.cons_append] at h'
  exact h'
end TE
