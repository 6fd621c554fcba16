/-! ===== the class Sheet ===== -/
theorem sh_or : ∀ m, m < 128 → ∀ n, n < 7 → nI m ||| (nI 1 <<< (nI n &&& 31)) = nI (m ||| 1 <<< n) := by decide +kernel
theorem sh_xb : ∀ m, m < 128 → ∀ n, n < 7 → xb (nI m) n = m.testBit n := by decide +kernel
theorem sh_ur : ∀ m, m < 128 → ((nI m).toUInt32 >>> ((nI 1).toUInt32 &&& Int32.toUInt32 31)).toInt32 = nI (m / 2) := by decide +kernel
section SH
variable {l : Launch} {D t s : Nat} {I : am_I} {J : am_J} {P : am_P} {p : pt_T}
theorem tmsk_lt (hw : tW p) {a : Nat} : ∀ k, a + k ≤ tn p → tmsk p a k < 128
  | 0, _ => (show (0 : Nat) < 128 by decide)
  | k + 1, h => by
    have h1 := tmsk_lt hw (a := a) k (by omega)
    have h2 : tN p (a + k) ≤ 6 := (hw.row (r := a + k) (by omega)).2.2.1
    show tmsk p a k ||| 1 <<< tN p (a + k) < 2 ^ 7
    refine Nat.or_lt_two_pow h1 ?_
    rcases (show tN p (a + k) = 0 ∨ tN p (a + k) = 1 ∨ tN p (a + k) = 2 ∨ tN p (a + k) = 3 ∨ tN p (a + k) = 4 ∨ tN p (a + k) = 5 ∨ tN p (a + k) = 6 by omega) with e | e | e | e | e | e | e <;> rw [e] <;> decide
theorem tnc_le (hw : tW p) (m : Nat) : tnc p m ≤ 18 := by
  have := sumN_le (fun k => if m.testBit (k + 1) = true then tV p (k + 1) else 0) 3 6 (fun k hk => by
    have := (hw.2.2.2.1.2 (k + 1) (by omega) (by omega)).2
    show (if m.testBit (k + 1) = true then tV p (k + 1) else 0) ≤ 3
    split <;> omega)
  exact this
theorem tln_le (hw : tW p) {a k : Nat} (h : a + k ≤ tn p) : tln p a k ≤ 200 := by
  have h1 := hw.2.2.1
  have h2 : tnam p a ≤ tm p := tnam_le
  have h3 := hw.2.2.2.2.2.1
  have h4 := tnc_le hw (tmsk p a k)
  have h5 := sumN_le (fun i => tH p (a + i)) 6 k (fun i hi => (hw.row (r := a + i) (by omega)).2.1)
  have h6 := hw.2.2.2.2.1
  unfold tln
  split <;> omega
/-- the cells of the Sheet s -/
def isS (s : Nat) (c : am_A) : Prop := c = (5, s)
theorem isS_i : isS s (5, s) := rfl
/-- the Sheet s holds k rows from a on -/
def rS (I : am_I) (s : Nat) (p : pt_T) (a k : Nat) : Prop := I (5, s) 0 = nI (tnam p a) ∧ I (5, s) 1 = nI (tmsk p a k) ∧ I (5, s) 2 = nI (tln p a k) ∧ I (5, s) 3 = nI (if k = 0 then 0 else tcy p (a + k - 1))
theorem s_begin {a : Nat} (hD : 1 ≤ D) (hr : rC I t p) (hw : tW p) (ha : a ≤ 24) (k : ∀ I', am_fr (isS s) I I' → rS I' s p a 0 → P (.inl none) am_G0 I' J) : am_T l D y_Sheet_begin [vR (5, s), vR (7, t), vI (nI a)] am_G0 I J P := by
  obtain ⟨d, rfl⟩ : ∃ d, D = d + 1 := ⟨D - 1, by omega⟩
  have hm6 := hw.2.2.2.2.2.1
  have hE := hw.2.2.1
  have loop : ∀ m j I', j + m = tm p → am_fr (isS s) I I' → I' (5, s) 0 = nI (sumN (fun s => b01 (decide (tF p s < a) && decide (a ≤ tL p s))) j) → am_X l (0, fun _ => 0) (d + 1) y_Sheet_begin P 7 [some (vR (5, s)), some (vR (7, t)), some (vI (nI a)), some (vI (nI j))] [] 0 0 am_G0 I' J := by
    intro m
    induction m with
    | zero =>
      intro j I' hj hf h0
      have e : j = tm p := by omega
      subst e
      have hr' : rC I' t p := hr.fr hf (fun c hc q => by unfold isS at q; rw [q] at hc; have := hc.2; simp at this)
      have hle : tnam p a ≤ tm p := tnam_le
      change I' (5, s) 0 = nI (tnam p a) at h0
      have fin : ∀ c, c = (if a = 0 then 0 else 1) → P (.inl none) am_G0 (am_upI (am_upI (am_upI I' (5, s) 1 (nI 0)) (5, s) 2 (nI (tE p + tnam p a + c))) (5, s) 3 (nI 0)) J := fun c hc => by
        refine k _ (am_fr.up (am_fr.up (am_fr.up hf isS_i) isS_i) isS_i) ?_
        unfold rS
        simp (disch := omega) only [am_uE, upd_e, upd_n]
        refine ⟨h0, rfl, ?_, rfl⟩
        rw [hc]
        congr 1
        have : tnc p (tmsk p a 0) = 0 := by
          show tnc p 0 = 0
          simp [tnc, sumN]
        unfold tln
        rw [this]
        rfl
      refine rn_Sheet_begin 40 ?_
      simp (disch := omega) only [am_z, cq_Sheet_begin, Nat.reduceAdd, hr'.1.2.2.1, hr'.1.2.2.2.2, h0, am_uS, am_uE, upd_n, ar_lit, ar_le, ↓reduceIte, nI_add, ar_eq]
      split
      · rename_i q
        exact fin 0 (by rw [if_pos q])
      · rename_i q
        exact fin 1 (by rw [if_neg q])
    | succ m ih =>
      intro j I' hj hf h0
      have hr' : rC I' t p := hr.fr hf (fun c hc q => by unfold isS at q; rw [q] at hc; have := hc.2; simp at this)
      obtain ⟨g1, g2, g3⟩ := hr'.2.2.1 j (by omega)
      obtain ⟨w1, w2, w3⟩ := hw.span (s := j) (by omega)
      have b1 : tF p j < 25 := by unfold tF; have := hw.2.2.2.2.1; omega
      have b2 : tL p j < 25 := by unfold tL; have := hw.2.2.2.2.1; omega
      have h6 : j < 6 := by omega
      refine rn_Sheet_begin 40 ?_
      simp (disch := omega) only [am_z, cq_Sheet_begin, Nat.reduceAdd, hr'.1.2.2.1, h0, ar_lit, ar_le, ar_lt, ar_in, ar_cl, g1, g2, h6, nI_add]
      rw [if_neg (by omega)]
      have es : sumN (fun s => b01 (decide (tF p s < a) && decide (a ≤ tL p s))) (j + 1) = sumN (fun s => b01 (decide (tF p s < a) && decide (a ≤ tL p s))) j + b01 (decide (tF p j < a) && decide (a ≤ tL p j)) := rfl
      split
      · rename_i q
        refine @ih (j + 1) I' (by omega) hf ?_
        rw [h0, es, decide_eq_false (by omega)]
        rfl
      · rename_i q
        split
        · rename_i q2
          refine @ih (j + 1) I' (by omega) hf ?_
          rw [h0, es, decide_eq_false (show ¬ a ≤ tL p j by omega), Bool.and_false]
          rfl
        · rename_i q2
          refine @ih (j + 1) _ (by omega) (am_fr.up hf isS_i) ?_
          rw [am_uE, upd_e, es, decide_eq_true (show tF p j < a by omega), decide_eq_true (show a ≤ tL p j by omega)]
          rfl
  refine en_Sheet_begin 40 (Nat.le_of_ble_eq_true rfl) ?_
  simp (disch := omega) only [am_z, cq_Sheet_begin, Nat.reduceAdd, ar_lit]
  refine @loop (tm p) 0 _ (by omega) (am_fr.up am_fr.rf isS_i) ?_
  rw [am_uE, upd_e]
  rfl
theorem s_take {a k r : Nat} (hD : 2 ≤ D) (hr : rC I t p) (hw : tW p) (hs : rS I s p a k) (hk : r = a + k) (hn : r < tn p) (c : ∀ I', am_fr (isS s) I I' → rS I' s p a (k + 1) → P (.inl none) am_G0 I' J) : am_T l D y_Sheet_take [vR (5, s), vR (7, t), vI (nI r)] am_G0 I J P := by
  obtain ⟨d, rfl⟩ : ∃ d, D = d + 1 := ⟨D - 1, by omega⟩
  obtain ⟨s0, s1, s2, s3⟩ := hs
  have h24 := hw.2.2.2.2.1
  obtain ⟨g1, g2, _⟩ := hr.2.1 r hn
  have hN : tN p r ≤ 6 := (hw.row hn).2.2.1
  have hb : r < 24 := by omega
  have hm := tmsk_lt hw (a := a) k (by omega)
  have hln := tln_le hw (a := a) (k := k + 1) (by omega)
  have hv : I (17, t) (tN p r) = nI (tV p (tN p r)) := hr.2.2.2 _ hN
  have eH : sumN (fun i => tH p (a + i)) (k + 1) = sumN (fun i => tH p (a + i)) k + tH p r := by rw [hk]; rfl
  have eM : tmsk p a (k + 1) = tmsk p a k ||| 1 <<< tN p r := by rw [hk]; rfl
  have eC := tnc_or hw.2.2.2.1.1 (tmsk p a k) hN
  have eL : tln p a (k + 1) = tln p a k + tH p r + (if (tmsk p a k).testBit (tN p r) = true then 0 else tV p (tN p r)) := by
    unfold tln
    rw [eH, eM, eC]
    omega
  have fin : ∀ I', am_fr (isS s) I I' → I' (5, s) 0 = nI (tnam p a) → I' (5, s) 1 = nI (tmsk p a (k + 1)) → I' (5, s) 2 = nI (tln p a (k + 1)) → I' (5, s) 3 = nI (tcy p r) → P (.inl none) am_G0 I' J := fun I' hf f0 f1 f2 f3 => by
    refine c I' hf ⟨f0, f1, f2, ?_⟩
    rw [f3, if_neg (by omega), show a + (k + 1) - 1 = r by omega]
  refine en_Sheet_take 60 (Nat.le_of_ble_eq_true rfl) ?_
  simp (disch := omega) only [am_z, cq_Sheet_take, Nat.reduceAdd, ar_lit, ar_in, ar_cl, g1, g2, s2, s1, hb, am_uS, am_uE, upd_n, nI_add]
  refine s_isIn (by omega) (by omega) ?_
  rw [sh_xb _ hm _ (by omega)]
  have ht : nI (tn p) - nI 1 = nI (tn p - 1) := ar_sub (by omega)
  cases hc : (tmsk p a k).testBit (tN p r)
  · rw [hc, if_neg (by simp)] at eL
    simp only [am_z, Nat.reduceAdd]
    refine rn_Sheet_take 60 ?_
    simp (disch := omega) only [am_z, cq_Sheet_take, Nat.reduceAdd, ar_lit, ar_in, ar_cl, s1, hv, hr.1.2.1, ht, b01, Bool.false_eq_true, am_uS, am_uE, upd_n, upd_e, nI_add, ↓reduceIte, sh_or _ hm _ (show tN p r < 7 by omega), ar_eq]
    refine ⟨by omega, ?_⟩
    split
    · rename_i q
      refine fin _ ?_ ?_ ?_ ?_ ?_
      · exact (am_fr.up (am_fr.up (am_fr.up (am_fr.up am_fr.rf isS_i) isS_i) isS_i) isS_i)
      · simp (disch := omega) only [am_uE, upd_n, s0]
      · simp (disch := omega) only [am_uE, upd_n, upd_e, eM]
      · simp (disch := omega) only [am_uE, upd_n, upd_e, eL]
      · rw [am_uE, upd_e]; unfold tcy; rw [if_pos (by omega)]
    · rename_i q
      refine fin _ ?_ ?_ ?_ ?_ ?_
      · exact (am_fr.up (am_fr.up (am_fr.up (am_fr.up am_fr.rf isS_i) isS_i) isS_i) isS_i)
      · simp (disch := omega) only [am_uE, upd_n, s0]
      · simp (disch := omega) only [am_uE, upd_n, upd_e, eM]
      · simp (disch := omega) only [am_uE, upd_n, upd_e, eL]
      · rw [am_uE, upd_e]; unfold tcy; rw [if_neg (by omega)]
  · rw [hc, if_pos rfl] at eL
    have eM' : tmsk p a (k + 1) = tmsk p a k := by
      rw [eM]
      apply Nat.eq_of_testBit_eq
      intro i
      rw [Nat.testBit_or, Nat.one_shiftLeft, Nat.testBit_two_pow]
      by_cases q : tN p r = i
      · rw [← q, hc]; simp
      · simp [q]
    simp only [am_z, Nat.reduceAdd]
    refine rn_Sheet_take 60 ?_
    simp (disch := omega) only [am_z, cq_Sheet_take, Nat.reduceAdd, ar_lit, ar_in, ar_cl, s1, hr.1.2.1, ht, b01, am_uS, am_uE, upd_n, upd_e, nI_add, ↓reduceIte, ar_eq, Nat.reduceEqDiff]
    split
    · rename_i q
      refine fin _ ?_ ?_ ?_ ?_ ?_
      · exact (am_fr.up (am_fr.up am_fr.rf isS_i) isS_i)
      · simp (disch := omega) only [am_uE, upd_n, s0]
      · simp (disch := omega) only [am_uE, upd_n, upd_e, eM', s1]
      · simp (disch := omega) only [am_uE, upd_n, upd_e, eL]; rfl
      · rw [am_uE, upd_e]; unfold tcy; rw [if_pos (by omega)]
    · rename_i q
      refine fin _ ?_ ?_ ?_ ?_ ?_
      · exact (am_fr.up (am_fr.up am_fr.rf isS_i) isS_i)
      · simp (disch := omega) only [am_uE, upd_n, s0]
      · simp (disch := omega) only [am_uE, upd_n, upd_e, eM', s1]
      · simp (disch := omega) only [am_uE, upd_n, upd_e, eL]; rfl
      · rw [am_uE, upd_e]; unfold tcy; rw [if_neg (by omega)]
theorem s_needed {a b : Nat} (hD : 1 ≤ D) (hs : rS I s p a (b + 1 - a)) (hab : a ≤ b) (c : P (.inl (some (vI (nI (tlines p a b))))) am_G0 I J) : am_T l D y_Sheet_needed [vR (5, s)] am_G0 I J P := by
  obtain ⟨d, rfl⟩ : ∃ d, D = d + 1 := ⟨D - 1, by omega⟩
  obtain ⟨s0, s1, s2, s3⟩ := hs
  rw [if_neg (by omega), show a + (b + 1 - a) - 1 = b by omega] at s3
  refine en_Sheet_needed 20 (Nat.le_of_ble_eq_true rfl) ?_
  simp (disch := omega) only [am_z, cq_Sheet_needed, Nat.reduceAdd, s2, s3, nI_add]
  exact c
theorem s_noteBits {a k : Nat} (hD : 1 ≤ D) (hw : tW p) (hs : rS I s p a k) (hk : a + k ≤ tn p) (c : P (.inl (some (vI (nI (tmsk p a k / 2))))) am_G0 I J) : am_T l D y_Sheet_noteBits [vR (5, s)] am_G0 I J P := by
  obtain ⟨d, rfl⟩ : ∃ d, D = d + 1 := ⟨D - 1, by omega⟩
  have hm := tmsk_lt hw (a := a) k hk
  refine en_Sheet_noteBits 20 (Nat.le_of_ble_eq_true rfl) ?_
  simp (disch := omega) only [am_z, cq_Sheet_noteBits, Nat.reduceAdd, hs.2.1, ar_lit, sh_ur _ hm]
  exact c
end SH
