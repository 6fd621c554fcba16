/-! ===== the class Evener ===== -/
theorem ar_neg {a b : Nat} (h : a < b) : nI a - nI b = -nI (b - a) := by
  rw [iI_nI, iI_nI, iI_nI, iI_sub, iI_neg]
  congr 1
  omega
theorem ar_negneg (a : Nat) : - -nI a = nI a := by
  rw [iI_nI, iI_neg, iI_neg]
  congr 1
  omega
theorem ar_neglt {a : Nat} (h0 : 0 < a) (h : a < 2 ^ 31) : (nI 0 ≤ -nI a) = False := by
  rw [iI_nI, iI_nI, iI_neg, iI_le (by omega) (by omega)]
  simp
  omega
def isV (c : am_A) : Prop := c = (5, 1) ∨ c = (22, 0) ∨ c = (23, 0)
theorem isV_5 : isV (5, 1) := Or.inl rfl
theorem isV_22 : isV (22, 0) := Or.inr (Or.inl rfl)
theorem isV_23 : isV (23, 0) := Or.inr (Or.inr rfl)
theorem isV_t {t : Nat} {c : am_A} (h : isT t c) : ¬ isV c := by
  intro q
  have := h.2
  rcases q with q | q | q <;> rw [q] at this <;> simp at this
section EV
variable {l : Launch} {D t : Nat} {I : am_I} {J : am_J} {P : am_P} {p : pt_T}
theorem s_costOfSheet {a b : Nat} (hD : 2 ≤ D) (hr : rC I t p) (hw : tW p) (hs : rS I 1 p a (b + 1 - a)) (hab : a ≤ b) (hb : b < tn p) (k : P (.inl (some (vI (nI (tcost p a b))))) am_G0 I J) : am_T l D y_Evener_costOfSheet [vR (2, 0), vR (7, t), vI (nI b)] am_G0 I J P := by
  obtain ⟨d, rfl⟩ : ∃ d, D = d + 1 := ⟨D - 1, by omega⟩
  have h1 := tln_le hw (a := a) (k := b + 1 - a) (by omega)
  have h2 := hw.2.1.2
  have hn := hw.2.2.2.2.1
  have hl : tlines p a b ≤ 201 := by unfold tlines tcy; split <;> omega
  refine en_Evener_costOfSheet 20 (Nat.le_of_ble_eq_true rfl) ?_
  simp only [am_z, cq_Evener_costOfSheet, Nat.reduceAdd, hr.1.2.2.2.1]
  refine s_needed (by omega) hs hab ?_
  simp only [am_z, Nat.reduceAdd]
  refine rn_Evener_costOfSheet 20 ?_
  unfold tcost at k
  by_cases q : tP p < tlines p a b
  · rw [if_pos q] at k
    simp (disch := omega) only [am_z, cq_Evener_costOfSheet, Nat.reduceAdd, ar_lit, ar_neg q, ar_neglt, ↓reduceIte, ar_negneg, pk_mul]
    exact k
  · rw [if_neg q] at k
    simp (disch := omega) only [am_z, cq_Evener_costOfSheet, Nat.reduceAdd, ar_lit, ar_le, hr.1.2.1, ar_sub, ar_eq, pk_mul, Nat.zero_le, ↓reduceIte]
    by_cases q2 : b + 1 = tn p
    · rw [if_pos q2] at k
      rw [if_pos (by omega)]
      exact k
    · rw [if_neg q2] at k
      rw [if_neg (by omega)]
      exact k
/-- the costs from the row i0 on are those of f -/
def rV (I : am_I) (n i0 : Nat) (f : (Nat → Nat) × (Nat → Nat)) : Prop := (∀ i, i0 ≤ i → i ≤ n → I (22, 0) i = nI (f.1 i)) ∧ ∀ i, i0 ≤ i → i < n → I (23, 0) i = nI (f.2 i)
theorem s_chooseEnd {x : Int32} {a : Nat} {f : (Nat → Nat) × (Nat → Nat)} (hD : 3 ≤ D) (hr : rC I t p) (hw : tW p) (hx : ∀ r, r < tn p → xb x r = tend p r) (ha : a < tn p) (hf : rV I (tn p) (a + 1) f) (hc : ∀ i, a < i → i ≤ tn p → f.1 i ≤ 300000 * (tn p - i)) (k : ∀ I' y, am_fr isV I I' → tbk p f.1 a (tn p - a) = some y → I' (22, 0) = upd (I (22, 0)) a (nI y.1) → I' (23, 0) = upd (I (23, 0)) a (nI y.2) → P (.inl none) am_G0 I' J) : am_T l D y_Evener_chooseEnd [vR (2, 0), vR (7, t), vI (nI a), vI x] am_G0 I J P := by
  obtain ⟨d, rfl⟩ : ∃ d, D = d + 1 := ⟨D - 1, by omega⟩
  have hn := hw.2.2.2.2.1
  have loop : ∀ m j I' a6, a + j + m = tn p → am_fr isV I I' → rS I' 1 p a j → (match tbk p f.1 a j with
      | none => I' (22, 0) = I (22, 0) ∧ I' (23, 0) = I (23, 0)
      | some y => I' (22, 0) = upd (I (22, 0)) a (nI y.1) ∧ I' (23, 0) = upd (I (23, 0)) a (nI y.2)) → am_X l (0, fun _ => 0) (d + 1) y_Evener_chooseEnd P 15 [some (vR (2, 0)), some (vR (7, t)), some (vI (nI a)), some (vI x), some (vI (nI (b01 (tbk p f.1 a j).isSome))), some (vI (nI (a + j))), a6] [] 0 0 am_G0 I' J := by
    intro m
    induction m with
    | zero =>
      intro j I' a6 hj hfr hs hm
      have hr' : rC I' t p := hr.fr hfr (fun c => isV_t)
      refine rn_Evener_chooseEnd 20 ?_
      simp (disch := omega) only [am_z, cq_Evener_chooseEnd, Nat.reduceAdd, hr'.1.2.1, ar_le]
      rw [if_pos (by omega)]
      obtain ⟨y, hy⟩ := tbk_some (p := p) (c := f.1) (a := a) (k := tn p - a - 1) (by omega)
      rw [show tn p - a - 1 + 1 = tn p - a by omega] at hy
      have e : j = tn p - a := by omega
      subst e
      rw [hy] at hm
      exact k I' y hfr hy hm.1 hm.2
    | succ m ih =>
      intro j I' a6 hj hfr hs hm
      have hr' : rC I' t p := hr.fr hfr (fun c => isV_t)
      refine rn_Evener_chooseEnd 20 ?_
      simp (disch := omega) only [am_z, cq_Evener_chooseEnd, Nat.reduceAdd, hr'.1.2.1, ar_le]
      rw [if_neg (by omega)]
      refine s_take (by omega) hr' hw hs rfl (by omega) (fun I'' hf'' hs'' => ?_)
      have hfr2 : am_fr isV I I'' := hfr.tr (hf''.mono (fun c q => by unfold isS at q; rw [q]; exact isV_5))
      have hr2 : rC I'' t p := hr.fr hfr2 (fun c => isV_t)
      have e22 : I'' (22, 0) = I' (22, 0) := hf'' _ (fun q => by unfold isS at q; simp at q)
      have e23 : I'' (23, 0) = I' (23, 0) := hf'' _ (fun q => by unfold isS at q; simp at q)
      rw [← e22, ← e23] at hm
      simp only [am_z, Nat.reduceAdd]
      refine rn_Evener_chooseEnd 20 ?_
      simp only [am_z, cq_Evener_chooseEnd, Nat.reduceAdd]
      refine s_isIn (by omega) (by omega) ?_
      rw [hx _ (by omega)]
      simp only [am_z, Nat.reduceAdd]
      refine rn_Evener_chooseEnd 20 ?_
      cases ht : tend p (a + j)
      · simp (disch := omega) only [am_z, cq_Evener_chooseEnd, Nat.reduceAdd, ar_lit, b01, Bool.false_eq_true, ↓reduceIte, nI_add]
        have e : tbk p f.1 a (j + 1) = tbk p f.1 a j := by rw [tbk_s, ht, if_neg (by simp)]
        have := @ih (j + 1) I'' a6 (by omega) hfr2 hs'' (by rw [e]; exact hm)
        rw [e] at this
        exact this
      · simp (disch := omega) only [am_z, cq_Evener_chooseEnd, Nat.reduceAdd, ar_lit, b01, ↓reduceIte, ar_eq, Nat.reduceEqDiff]
        refine s_costOfSheet (a := a) (b := a + j) (by omega) hr2 hw (by rw [show a + j + 1 - a = j + 1 by omega]; exact hs'') (by omega) (by omega) ?_
        simp only [am_z, Nat.reduceAdd]
        refine rn_Evener_chooseEnd 60 ?_
        have hcost : I'' (22, 0) (a + j + 1) = nI (f.1 (a + j + 1)) := by
          cases hb : tbk p f.1 a j with
          | none =>
            rw [hb] at hm
            rw [hm.1]
            exact hf.1 _ (by omega) (by omega)
          | some y =>
            rw [hb] at hm
            rw [hm.1, upd_n _ _ (by omega)]
            exact hf.1 _ (by omega) (by omega)
        have b1 := tcost_le hw (a := a) (b := a + j) (by omega) (by omega)
        have b2 := hc (a + j + 1) (by omega) (by omega)
        have fin : ∀ a6, am_X l (0, fun _ => 0) (d + 1) y_Evener_chooseEnd P 15 [some (vR (2, 0)), some (vR (7, t)), some (vI (nI a)), some (vI x), some (vI (nI 1)), some (vI (nI (a + j + 1))), a6] [] 0 0 am_G0 (am_upI (am_upI I'' (22, 0) a (nI (tcost p a (a + j) + f.1 (a + j + 1)))) (23, 0) a (nI (a + j))) J ∨ ¬ tbk p f.1 a (j + 1) = some (tcost p a (a + j) + f.1 (a + j + 1), a + j) := by
          intro a6
          by_cases e : tbk p f.1 a (j + 1) = some (tcost p a (a + j) + f.1 (a + j + 1), a + j)
          · refine Or.inl ?_
            have hs3 : rS (am_upI (am_upI I'' (22, 0) a (nI (tcost p a (a + j) + f.1 (a + j + 1)))) (23, 0) a (nI (a + j))) 1 p a (j + 1) := by
              unfold rS
              simp (disch := omega) only [am_uS]
              exact hs''
            have := @ih (j + 1) _ a6 (by omega) (am_fr.up (am_fr.up hfr2 isV_22) isV_23) hs3 (by
              rw [e]
              simp (disch := omega) only [am_uE, am_uS]
              cases hb : tbk p f.1 a j with
              | none =>
                rw [hb] at hm
                rw [hm.1, hm.2]
                exact ⟨rfl, rfl⟩
              | some y =>
                rw [hb] at hm
                rw [hm.1, hm.2]
                refine ⟨?_, ?_⟩ <;> (funext i; simp only [upd_at]; split <;> rfl))
            rw [e] at this
            exact this
          · exact Or.inr e
        simp (disch := omega) only [am_z, cq_Evener_chooseEnd, Nat.reduceAdd, ar_lit, nI_add, ar_in, ar_cl, hcost]
        refine ⟨by omega, ?_⟩
        cases hb : tbk p f.1 a j with
        | none =>
          have eT : tbk p f.1 a (j + 1) = some (tcost p a (a + j) + f.1 (a + j + 1), a + j) := by rw [tbk_s, ht, if_pos rfl, hb]
          rw [if_pos (by simp)]
          refine ⟨by omega, by omega, ?_⟩
          exact (fin _).resolve_right (fun q => q eT)
        | some y =>
          rw [hb] at hm
          have by1 := (tbk_le hw hc j (by omega) y hb).1
          have e22a : I'' (22, 0) a = nI y.1 := by rw [hm.1, upd_e]
          rw [if_neg (by simp; decide), e22a]
          refine ⟨by omega, ?_⟩
          simp (disch := omega) only [ar_le]
          by_cases q : tcost p a (a + j) + f.1 (a + j + 1) < y.1
          · have eT : tbk p f.1 a (j + 1) = some (tcost p a (a + j) + f.1 (a + j + 1), a + j) := by rw [tbk_s, ht, if_pos rfl, hb]; simp only; rw [if_pos q]
            rw [if_neg (by omega)]
            refine ⟨by omega, by omega, ?_⟩
            exact (fin _).resolve_right (fun q => q eT)
          · have eT : tbk p f.1 a (j + 1) = some y := by rw [tbk_s, ht, if_pos rfl, hb]; simp only; rw [if_neg q]
            rw [if_pos (by omega)]
            have := @ih (j + 1) I'' (some (vI (nI (tcost p a (a + j) + f.1 (a + j + 1))))) (by omega) hfr2 hs'' (by rw [eT]; exact hm)
            rw [eT] at this
            exact this
  refine en_Evener_chooseEnd 20 (Nat.le_of_ble_eq_true rfl) ?_
  simp only [am_z, cq_Evener_chooseEnd, Nat.reduceAdd]
  refine s_begin (by omega) hr hw (by omega) (fun I' hfr hs => ?_)
  simp only [am_z, Nat.reduceAdd]
  refine rn_Evener_chooseEnd 20 ?_
  simp only [am_z, cq_Evener_chooseEnd, Nat.reduceAdd]
  refine @loop (tn p - a) 0 I' _ (by omega) (hfr.mono (fun c q => by unfold isS at q; rw [q]; exact isV_5)) hs ⟨?_, ?_⟩
  · exact hfr _ (fun q => by unfold isS at q; simp at q)
  · exact hfr _ (fun q => by unfold isS at q; simp at q)
end EV
