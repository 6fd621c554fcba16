/-! ===== the reference: lines ===== -/
section RF
variable {l : Launch} {D u : Nat} {I : am_I} {J : am_J} {P : am_P} {p : pt_T}
theorem s_M_lines {a b : Nat} (hD : 3 ≤ D) (hu : isU u) (h : rF (I (u, 0)) p) (hw : tW p) (hab : a ≤ b) (hb : b < tn p) (k : P (.inl (some (vI (nI (tlines p a b))))) am_G0 I J) : am_T l D y_M_lines [vR (u, 0), vI (nI a), vI (nI b)] am_G0 I J P := by
  obtain ⟨d, rfl⟩ : ∃ d, D = d + 1 := ⟨D - 1, by omega⟩
  have hn := hw.2.2.2.2.1
  have hm := tmsk_lt hw (a := a) (b + 1 - a) (by omega)
  -- the notes
  have loop2 : ∀ m j n, j + m = 6 → n = tE p + tnam p a + (if a = 0 then 0 else 1) + tcy p b + sumN (fun i => tH p (a + i)) (b + 1 - a) + sumN (fun k => if (tmsk p a (b + 1 - a)).testBit (k + 1) = true then tV p (k + 1) else 0) j → am_X l (0, fun _ => 0) (d + 1) y_M_lines P 72 [some (vR (u, 0)), some (vI (nI a)), some (vI (nI b)), some (vI (nI n)), some (vI (nI (tmsk p a (b + 1 - a) / 2))), some (vI (nI j))] [] 0 0 am_G0 I J := by
    intro m
    induction m with
    | zero =>
      intro j n hj hn
      have : j = 6 := by omega
      subst this
      refine rn_M_lines 20 ?_
      simp (disch := omega) only [am_z, cq_M_lines, Nat.reduceAdd, Nat.zero_le, Nat.reduceLeDiff, ar_lit, ar_le, ↓reduceIte, Nat.le_refl]
      have e : n = tlines p a b := by
        rw [hn]
        unfold tlines tln tnc
        omega
      rw [e]
      exact k
    | succ m ih =>
      intro j n hj hnn
      have hv := h.2.1 j (by omega)
      have es : sumN (fun k => if (tmsk p a (b + 1 - a)).testBit (k + 1) = true then tV p (k + 1) else 0) (j + 1) = sumN (fun k => if (tmsk p a (b + 1 - a)).testBit (k + 1) = true then tV p (k + 1) else 0) j + (if (tmsk p a (b + 1 - a)).testBit (j + 1) = true then tV p (j + 1) else 0) := rfl
      refine rn_M_lines 20 ?_
      simp (disch := omega) only [am_z, cq_M_lines, Nat.reduceAdd, Nat.zero_le, Nat.reduceLeDiff, ar_lit, ar_le]
      rw [if_neg (by omega)]
      refine s_M_has (by omega) (by omega) (by omega) ?_
      rw [sh_tb]
      cases hb : (tmsk p a (b + 1 - a)).testBit (j + 1)
      · rw [hb, if_neg (by simp)] at es
        simp only [am_z, Nat.reduceAdd, Nat.zero_le, Nat.reduceLeDiff]
        refine rn_M_lines 40 ?_
        simp (disch := omega) only [am_z, cq_M_lines, Nat.reduceAdd, Nat.zero_le, Nat.reduceLeDiff, ar_lit, b01, Bool.false_eq_true, ↓reduceIte, nI_add, Nat.add_zero]
        exact @ih (j + 1) n (by omega) (by rw [es]; omega)
      · rw [hb, if_pos rfl] at es
        simp only [am_z, Nat.reduceAdd, Nat.zero_le, Nat.reduceLeDiff]
        refine rn_M_lines 40 ?_
        simp (disch := omega) only [am_z, cq_M_lines, Nat.reduceAdd, Nat.zero_le, Nat.reduceLeDiff, ar_lit, b01, Bool.false_eq_true, ↓reduceIte, nI_add, ar_eq, Nat.reduceEqDiff, hu.1, hu.2.1, ar_in, ar_cl, hv]
        exact ⟨by omega, @ih (j + 1) _ (by omega) (by rw [es]; omega)⟩
  have loop1 : ∀ m j a5, j + m = b + 1 - a → am_X l (0, fun _ => 0) (d + 1) y_M_lines P 38 [some (vR (u, 0)), some (vI (nI a)), some (vI (nI b)), some (vI (nI (tE p + tnam p a + (if a = 0 then 0 else 1) + tcy p b + sumN (fun i => tH p (a + i)) j))), some (vI (nI (a + j))), a5] [] 0 0 am_G0 I J := by
    intro m
    induction m with
    | zero =>
      intro j a5 hj
      have : j = b + 1 - a := by omega
      subst this
      refine rn_M_lines 20 ?_
      simp (disch := omega) only [am_z, cq_M_lines, Nat.reduceAdd, Nat.zero_le, Nat.reduceLeDiff, ar_lit, ar_lt]
      rw [if_pos (by omega)]
      refine s_M_notes (by omega) hu h hw hab hb ?_
      simp only [am_z, Nat.reduceAdd, Nat.zero_le, Nat.reduceLeDiff]
      refine rn_M_lines 20 ?_
      simp (disch := omega) only [am_z, cq_M_lines, Nat.reduceAdd, Nat.zero_le, Nat.reduceLeDiff, ar_lit]
      exact @loop2 6 0 _ (by omega) rfl
    | succ m ih =>
      intro j a5 hj
      obtain ⟨r1, r2, r3, _⟩ := h.2.2.1 (a + j) (by omega)
      refine rn_M_lines 20 ?_
      simp (disch := omega) only [am_z, cq_M_lines, Nat.reduceAdd, Nat.zero_le, Nat.reduceLeDiff, ar_lit, ar_lt]
      rw [if_neg (by omega)]
      refine s_M_cell (by omega) ?_
      simp only [am_z, Nat.reduceAdd, Nat.zero_le, Nat.reduceLeDiff]
      refine rn_M_lines 40 ?_
      simp (disch := omega) only [am_z, cq_M_lines, Nat.reduceAdd, Nat.zero_le, Nat.reduceLeDiff, ar_lit, hu.1, hu.2.1, ar_in, ar_cl, r1, nI_add]
      refine ⟨by omega, ?_⟩
      have := @ih (j + 1) a5 (by omega)
      have es : sumN (fun i => tH p (a + i)) (j + 1) = sumN (fun i => tH p (a + i)) j + tH p (a + j) := rfl
      rw [es] at this
      simp only [Nat.add_assoc] at this ⊢
      exact this
  have fin : ∀ x y, x = (if a = 0 then 0 else 1) → y = tcy p b → am_X l (0, fun _ => 0) (d + 1) y_M_lines P 38 [some (vR (u, 0)), some (vI (nI a)), some (vI (nI b)), some (vI (nI (tE p + tnam p a + x + y))), some (vI (nI a)), none] [] 0 0 am_G0 I J := fun x y hx hy => by
    have := @loop1 (b + 1 - a) 0 none (by omega)
    rw [← hx, ← hy] at this
    exact this
  refine en_M_lines 20 (Nat.le_of_ble_eq_true rfl) ?_
  simp (disch := omega) only [am_z, cq_M_lines, Nat.reduceAdd, Nat.zero_le, Nat.reduceLeDiff, ar_lit, hu.1, hu.2.1, ar_in, ar_cl, h.1.2.2.2.2, Nat.reduceLT, am_tt]
  refine s_M_names (by omega) hu h hw (by omega) ?_
  simp only [am_z, Nat.reduceAdd, Nat.zero_le, Nat.reduceLeDiff]
  refine rn_M_lines 60 ?_
  simp (disch := omega) only [am_z, cq_M_lines, Nat.reduceAdd, Nat.zero_le, Nat.reduceLeDiff, ar_lit, hu.1, hu.2.1, ar_in, ar_cl, ar_le, ar_sub, nI_add, h.1.2.1, Nat.reduceLT, am_tt]
  by_cases q : a ≤ 0
  · rw [if_pos q]
    by_cases q2 : tn p - 1 ≤ b
    · rw [if_pos q2]
      exact fin 0 0 (by rw [if_pos (by omega)]) (by unfold tcy; rw [if_pos (by omega)])
    · rw [if_neg q2]
      exact fin 0 1 (by rw [if_pos (by omega)]) (by unfold tcy; rw [if_neg (by omega)])
  · rw [if_neg q]
    by_cases q2 : tn p - 1 ≤ b
    · rw [if_pos q2]
      exact fin 1 0 (by rw [if_neg (by omega)]) (by unfold tcy; rw [if_pos (by omega)])
    · rw [if_neg q2]
      exact fin 1 1 (by rw [if_neg (by omega)]) (by unfold tcy; rw [if_neg (by omega)])
end RF
