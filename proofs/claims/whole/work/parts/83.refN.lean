/-! ===== the reference: costs, evenest, evenCut, emptyFrom ===== -/
theorem ar_mulneg (a b : Nat) : -nI a * -nI b = nI (a * b) := by
  rw [iI_nI, iI_nI, iI_nI, iI_neg, iI_neg, iI_mul]
  congr 1
  rw [Int.neg_mul_neg]
  rfl
def rW (I : am_I) (n i0 : Nat) (f : (Nat → Nat) × (Nat → Nat)) : Prop := (∀ i, i0 ≤ i → i ≤ n → I (33, 0) i = nI (f.1 i)) ∧ ∀ i, i0 ≤ i → i < n → I (34, 0) i = nI (f.2 i)
section RG
variable {l : Launch} {D : Nat} {I I' : am_I} {J : am_J} {P : am_P} {s : pt_G} {p : pt_T}
theorem s_M_costOf {a b : Nat} (hD : 4 ≤ D) (h : rF (I (27, 0)) p) (hw : tW p) (hab : a ≤ b) (hb : b < tn p) (k : P (.inl (some (vI (nI (tcost p a b))))) am_G0 I J) : am_T l D y_M_costOf [vR (9, 0), vI (nI a), vI (nI b)] am_G0 I J P := by
  obtain ⟨d, rfl⟩ : ∃ d, D = d + 1 := ⟨D - 1, by omega⟩
  have hl := tlines_le hw hab hb
  have hP := hw.2.1.2
  have hn := hw.2.2.2.2.1
  unfold tcost at k
  refine en_M_costOf 20 (Nat.le_of_ble_eq_true rfl) ?_
  simp (disch := omega) only [am_z, cq_M_costOf, Nat.reduceAdd, Nat.zero_le, Nat.reduceLeDiff, ar_lit, ar_in, ar_cl, h.1.2.2.2.1, Nat.reduceLT, am_tt]
  refine s_M_lines (by omega) isU_27 h hw hab hb ?_
  by_cases q : tP p < tlines p a b
  · rw [if_pos q] at k
    have e : nI (tP p) - nI (tlines p a b) = -nI (tlines p a b - tP p) := ar_neg q
    simp only [am_z, Nat.reduceAdd, Nat.zero_le, Nat.reduceLeDiff]
    refine rn_M_costOf 20 ?_
    simp (disch := omega) only [am_z, cq_M_costOf, Nat.reduceAdd, Nat.zero_le, Nat.reduceLeDiff, ar_lit, e, ar_neglt, ↓reduceIte, ar_mulneg]
    exact k
  · rw [if_neg q] at k
    simp only [am_z, Nat.reduceAdd, Nat.zero_le, Nat.reduceLeDiff]
    refine rn_M_costOf 40 ?_
    simp (disch := omega) only [am_z, cq_M_costOf, Nat.reduceAdd, Nat.zero_le, Nat.reduceLeDiff, ar_lit, ar_sub, ar_le, Nat.zero_le, ↓reduceIte, ar_in, ar_cl, h.1.2.1, ar_eq, pk_mul, Nat.reduceLT, am_tt]
    by_cases q2 : b + 1 = tn p
    · rw [if_pos q2] at k
      rw [if_pos (by omega)]
      exact k
    · rw [if_neg q2] at k
      rw [if_neg (by omega)]
      exact k
theorem s_M_layCuts (hD : 5 ≤ D) (h : rF (I (27, 0)) p) (hw : tW p) (k : ∀ I', fM [33, 34] [] I I' → rW I' (tn p) 0 (tdp p (tn p)) → P (.inl (some (vI (nI ((tdp p (tn p)).1 0))))) am_G0 I' J) : am_T l D y_M_layCuts [vR (9, 0)] am_G0 I J P := by
  obtain ⟨d, rfl⟩ : ∃ d, D = d + 1 := ⟨D - 1, by omega⟩
  have hn := hw.2.2.2.2.1
  have loop : ∀ f m I' a2 a3 a4, m + f = tn p → fM [33, 34] [] I I' → rW I' (tn p) (tn p - m) (tdp p m) → am_X l (0, fun _ => 0) (d + 1) y_M_layCuts P 21 [some (vR (9, 0)), some (vI (nI (tn p - m) - nI 1)), a2, a3, a4] [] 0 0 am_G0 I' J := by
    intro f
    induction f with
    | zero =>
      intro m I' a2 a3 a4 hm hfr hv
      have : m = tn p := by omega
      subst this
      rw [Nat.sub_self] at hv
      have kk := k I' hfr hv
      refine rn_M_layCuts 20 ?_
      simp (disch := omega) only [am_z, cq_M_layCuts, Nat.reduceAdd, Nat.zero_le, Nat.reduceLeDiff, ar_lit, ar_m1]
      rw [if_pos (by omega)]
      simp (disch := omega) only [am_z, ar_in, ar_cl, hv.1 0 (Nat.le_refl _) (Nat.zero_le _), Nat.reduceLT, am_tt]
      exact kk
    | succ f ih =>
      intro m I' a2 a3 a4 hm hfr hv
      have hle := fun i h1 h2 => (tdp_le hw m (by omega) i h1 h2).1
      have ea : tn p - m = tn p - (m + 1) + 1 := by omega
      generalize hA : tn p - (m + 1) = a at ea
      have ha : a < tn p := by omega
      have hc : ∀ i, a < i → i ≤ tn p → (tdp p m).1 i ≤ 300000 * (tn p - i) := fun i h1 h2 => hle i (by omega) h2
      have inner : ∀ g k I2 a3 a4, a + k + g = tn p → fM [33, 34] [] I I2 → (∀ i, ¬ i = a → I2 (33, 0) i = I' (33, 0) i) → (∀ i, ¬ i = a → I2 (34, 0) i = I' (34, 0) i) → (tbk p (tdp p m).1 a k = none → I2 (34, 0) a = -999999) → (∀ x, tbk p (tdp p m).1 a k = some x → I2 (34, 0) a = nI x.2 ∧ I2 (33, 0) a = nI x.1) → am_X l (0, fun _ => 0) (d + 1) y_M_layCuts P 35 [some (vR (9, 0)), some (vI (nI a)), some (vI (nI (a + k))), a3, a4] [] 0 0 am_G0 I2 J := by
        intro g
        induction g with
        | zero =>
          intro k I2 a3 a4 hk hf2 e33 e34 en es
          have h2 : rF (I2 (27, 0)) p := h.fM hf2 (by simp) (by omega)
          refine rn_M_layCuts 20 ?_
          simp (disch := omega) only [am_z, cq_M_layCuts, Nat.reduceAdd, Nat.zero_le, Nat.reduceLeDiff, ar_lit, ar_in, ar_cl, h2.1.2.1, ar_le, ar_addneg, Nat.reduceLT, am_tt]
          rw [if_pos (by omega)]
          obtain ⟨x, hx⟩ := tbk_some (p := p) (c := (tdp p m).1) (a := a) (k := k - 1) (by omega)
          rw [show k - 1 + 1 = k by omega] at hx
          obtain ⟨v1, v2⟩ := es x hx
          have ek : k = m + 1 := by omega
          have := @ih (m + 1) I2 (some (vI (nI (a + k)))) a3 a4 (by omega) hf2 ⟨fun i h1 h2 => ?_, fun i h1 h2 => ?_⟩
          · rw [hA] at this
            exact this
          · show _ = nI (if i = tn p - (m + 1) then ((tbk p (tdp p m).1 (tn p - (m + 1)) (m + 1)).getD (0, 0)).1 else (tdp p m).1 i)
            rw [hA] at h1 ⊢
            by_cases q : i = a
            · rw [if_pos q, q, v2, ← ek, hx]; rfl
            · rw [if_neg q, e33 i q]; exact hv.1 i (by omega) h2
          · show _ = nI (if i = tn p - (m + 1) then ((tbk p (tdp p m).1 (tn p - (m + 1)) (m + 1)).getD (0, 0)).2 else (tdp p m).2 i)
            rw [hA] at h1 ⊢
            by_cases q : i = a
            · rw [if_pos q, q, v1, ← ek, hx]; rfl
            · rw [if_neg q, e34 i q]; exact hv.2 i (by omega) h2
        | succ g ihg =>
          intro k I2 a3 a4 hk hf2 e33 e34 en es
          have h2 : rF (I2 (27, 0)) p := h.fM hf2 (by simp) (by omega)
          have eb := tbk_s (p := p) (tdp p m).1 a k
          refine rn_M_layCuts 20 ?_
          simp (disch := omega) only [am_z, cq_M_layCuts, Nat.reduceAdd, Nat.zero_le, Nat.reduceLeDiff, ar_lit, ar_in, ar_cl, h2.1.2.1, ar_le, Nat.reduceLT, am_tt]
          rw [if_neg (by omega)]
          refine s_M_mayEnd (by omega) isU_27 h2 hw (by omega) ?_
          cases ht : tend p (a + k)
          · rw [ht, if_neg (by simp)] at eb
            simp only [am_z, Nat.reduceAdd, Nat.zero_le, Nat.reduceLeDiff]
            refine rn_M_layCuts 20 ?_
            simp (disch := omega) only [am_z, cq_M_layCuts, Nat.reduceAdd, Nat.zero_le, Nat.reduceLeDiff, ar_lit, b01, Bool.false_eq_true, ↓reduceIte, nI_add]
            rw [Nat.add_assoc]
            exact @ihg (k + 1) I2 a3 a4 (by omega) hf2 e33 e34 (by rw [eb]; exact en) (by rw [eb]; exact es)
          · rw [ht, if_pos rfl] at eb
            have hcost := tcost_le hw (a := a) (b := a + k) (by omega) (by omega)
            have hcc := hc (a + k + 1) (by omega) (by omega)
            have v33 : I2 (33, 0) (a + k + 1) = nI ((tdp p m).1 (a + k + 1)) := by
              rw [e33 _ (by omega)]; exact hv.1 _ (by omega) (by omega)
            have b25 : a + k + 1 < 25 := by omega
            have b24 : a < 24 := by omega
            have b24' : a < 25 := by omega
            simp only [am_z, Nat.reduceAdd, Nat.zero_le, Nat.reduceLeDiff]
            refine rn_M_layCuts 20 ?_
            simp (disch := omega) only [am_z, cq_M_layCuts, Nat.reduceAdd, Nat.zero_le, Nat.reduceLeDiff, ar_lit, b01, Bool.false_eq_true, ↓reduceIte, ar_eq, Nat.reduceEqDiff]
            refine s_M_costOf (by omega) h2 hw (by omega) (by omega) ?_
            -- the two ways
            have take : ∀ I3 a3 a4, I3 = am_upI (am_upI I2 (33, 0) a (nI (tcost p a (a + k) + (tdp p m).1 (a + k + 1)))) (34, 0) a (nI (a + k)) → tbk p (tdp p m).1 a (k + 1) = some (tcost p a (a + k) + (tdp p m).1 (a + k + 1), a + k) → am_X l (0, fun _ => 0) (d + 1) y_M_layCuts P 35 [some (vR (9, 0)), some (vI (nI a)), some (vI (nI (a + (k + 1)))), a3, a4] [] 0 0 am_G0 I3 J := by
              intro I3 a3 a4 e3 et
              subst e3
              refine @ihg (k + 1) _ a3 a4 (by omega) ((hf2.up (Or.inl (by simp))).up (Or.inl (by simp))) (fun i hi => ?_) (fun i hi => ?_) (fun q => by rw [et] at q; cases q) (fun x hx => ?_)
              · rw [am_uS _ _ _ _ _ (by omega), am_uE, upd_n _ _ hi]; exact e33 i hi
              · rw [am_uE, upd_n _ _ hi, am_uS _ _ _ _ _ (by omega)]; exact e34 i hi
              · rw [et] at hx
                cases hx
                rw [am_uE, upd_e, am_uS _ _ _ _ _ (by omega), am_uE, upd_e]
                exact ⟨rfl, rfl⟩
            cases e2 : tbk p (tdp p m).1 a k with
            | none =>
              rw [e2] at eb
              have v34 := en e2
              simp only [am_z, Nat.reduceAdd, Nat.zero_le, Nat.reduceLeDiff]
              refine rn_M_layCuts 60 ?_
              simp (disch := omega) only [am_z, cq_M_layCuts, Nat.reduceAdd, Nat.zero_le, Nat.reduceLeDiff, ar_lit, ar_in, ar_cl, nI_add, v33, v34, b25, b24, b24', ↓reduceIte, am_uE, am_uS, upd_n, upd_e, b01, Bool.false_eq_true, ↓reduceIte, ar_eq, Nat.reduceEqDiff, am_tt]
              exact take _ _ _ rfl eb
            | some x =>
              rw [e2] at eb
              obtain ⟨v34, vc⟩ := es x e2
              obtain ⟨x1, x2, x3⟩ := tbk_le hw (c := (tdp p m).1) hc k (by omega) x e2
              have nn : (nI x.2 = -999999) = False := by
                have := lv_none (o := some x.2) (fun b hb => by cases hb; omega)
                simpa [lv] using this
              by_cases q : tcost p a (a + k) + (tdp p m).1 (a + k + 1) < x.1
              · simp only at eb
                rw [if_pos q] at eb
                have q' : ¬ x.1 ≤ tcost p a (a + k) + (tdp p m).1 (a + k + 1) := by omega
                simp only [am_z, Nat.reduceAdd, Nat.zero_le, Nat.reduceLeDiff]
                refine rn_M_layCuts 60 ?_
                simp (disch := omega) only [am_z, cq_M_layCuts, Nat.reduceAdd, Nat.zero_le, Nat.reduceLeDiff, ar_lit, ar_in, ar_cl, nI_add, v33, v34, vc, nn, ar_le, if_neg q', b25, b24, b24', ↓reduceIte, am_uE, am_uS, upd_n, upd_e, b01, Bool.false_eq_true, ↓reduceIte, ar_eq, Nat.reduceEqDiff, am_tt]
                exact take _ _ _ rfl eb
              · simp only at eb
                rw [if_neg q] at eb
                have q' : x.1 ≤ tcost p a (a + k) + (tdp p m).1 (a + k + 1) := by omega
                simp only [am_z, Nat.reduceAdd, Nat.zero_le, Nat.reduceLeDiff]
                refine rn_M_layCuts 60 ?_
                simp (disch := omega) only [am_z, cq_M_layCuts, Nat.reduceAdd, Nat.zero_le, Nat.reduceLeDiff, ar_lit, ar_in, ar_cl, nI_add, v33, v34, vc, nn, ar_le, if_pos q', b25, b24, b24', ↓reduceIte, am_uE, am_uS, upd_n, upd_e, b01, Bool.false_eq_true, ↓reduceIte, ar_eq, Nat.reduceEqDiff, am_tt]
                refine @ihg (k + 1) _ _ _ (by omega) ((hf2.up (Or.inl (by simp))).up (Or.inl (by simp))) (fun i hi => ?_) (fun i hi => ?_) (fun q => by rw [eb] at q; cases q) (fun y hy => ?_)
                · rw [am_uS _ _ _ _ _ (by omega), am_uE, upd_n _ _ hi]; exact e33 i hi
                · rw [am_uE, upd_n _ _ hi, am_uS _ _ _ _ _ (by omega)]; exact e34 i hi
                · rw [eb] at hy
                  cases hy
                  rw [am_uE, upd_e, am_uS _ _ _ _ _ (by omega), am_uE, upd_e]
                  exact ⟨rfl, rfl⟩
      rw [ea, show nI (a + 1) - nI 1 = nI a by rw [ar_sub (by omega)]; rfl]
      have b24 : a < 24 := by omega
      refine rn_M_layCuts 20 ?_
      simp (disch := omega) only [am_z, cq_M_layCuts, Nat.reduceAdd, Nat.zero_le, Nat.reduceLeDiff, ar_lit, ar_lt, ar_in, ar_cl]
      rw [if_neg (by omega)]
      refine ⟨b24, ?_⟩
      refine @inner (tn p - a) 0 _ a3 a4 (by omega) (hfr.up (Or.inl (by simp))) (fun i hi => ?_) (fun i hi => ?_) (fun _ => ?_) (fun x hx => by cases hx)
      · rw [am_uS _ _ _ _ _ (by omega)]
      · rw [am_uE, upd_n _ _ hi]
      · rw [am_uE, upd_e]
  have b25 : tn p < 25 := by omega
  refine en_M_layCuts 20 (Nat.le_of_ble_eq_true rfl) ?_
  simp (disch := omega) only [am_z, cq_M_layCuts, Nat.reduceAdd, Nat.zero_le, Nat.reduceLeDiff, ar_lit, ar_in, ar_cl, h.1.2.1, am_uS, Nat.reduceLT, am_tt]
  refine ⟨b25, ?_⟩
  refine @loop (tn p) 0 _ none none none (by omega) (fM.rf.up (Or.inl (by simp))) ⟨fun i h1 h2 => ?_, fun i h1 h2 => by omega⟩
  have : i = tn p := by omega
  rw [am_uE, this, upd_e]
  rfl
theorem fM.mC (h : fM [33, 34] [] I I') : am_fr isM I I' := h.toM (by simp)
theorem s_M_evenest (hD : 9 ≤ D) (h : sm I s) (k : mk P J I (q_evenest s.2.1, s)) : am_T l D y_M_evenest [vR (9, 0)] am_G0 I J P := by
  obtain ⟨d, rfl⟩ : ∃ d, D = d + 1 := ⟨D - 1, by omega⟩
  refine en_M_evenest 20 (Nat.le_of_ble_eq_true rfl) ?_
  simp (disch := omega) only [am_z, cq_M_evenest, Nat.reduceAdd, Nat.zero_le, Nat.reduceLeDiff, ar_lit]
  have f1 : fM [] [0] I (am_upI I (9, 0) 0 (nI 0)) := fM.rf.up (Or.inr ⟨rfl, by simp⟩)
  have h1 := h.r0 f1
  refine s_M_layCuts (by omega) h1.p h1.w (fun I2 f2 _ => ?_)
  simp only [am_z, Nat.reduceAdd, Nat.zero_le, Nat.reduceLeDiff]
  refine rn_M_evenest 20 ?_
  simp (disch := omega) only [am_z, cq_M_evenest, Nat.reduceAdd, Nat.zero_le, Nat.reduceLeDiff, ar_lit]
  exact k I2 (f1.m0.tr f2.mC) (h1.fr f2 (by simp) (by simp)) ((f2.f9 (by simp) (by simp)).trans (by rw [am_uE, upd_e]; rfl))
theorem tcl_s (e : Nat → Nat) (n f i a : Nat) : tcl e n (f + 1) i a = if a < n then (if i = 0 then some (e a) else tcl e n f (i - 1) (e a + 1)) else none := rfl
theorem s_M_evenCut {i : Int32} (hD : 9 ≤ D) (h : sm I s) (k : mk P J I (q_evenCut s.2.1 i, s)) : am_T l D y_M_evenCut [vR (9, 0), vI i] am_G0 I J P := by
  obtain ⟨d, rfl⟩ : ∃ d, D = d + 1 := ⟨D - 1, by omega⟩
  have hw := h.w
  have hn := hw.2.2.2.2.1
  unfold q_evenCut at k
  by_cases q : 0 ≤ i.toInt
  · rw [if_pos q] at k
    have en : i = nI i.toInt.toNat := ar_nat q
    have hb : i.toInt.toNat < 2 ^ 31 := by have := Int32.toInt_lt i; omega
    generalize i.toInt.toNat = j at en hb k
    subst en
    refine en_M_evenCut 20 (Nat.le_of_ble_eq_true rfl) ?_
    simp (disch := omega) only [am_z, cq_M_evenCut, Nat.reduceAdd, Nat.zero_le, Nat.reduceLeDiff, ar_lit, ar_le, Nat.zero_le, ↓reduceIte]
    refine s_M_ref0 (by omega) (fun I1 f1 e1 => ?_)
    have h1 := h.r0 f1
    simp only [am_z, Nat.reduceAdd, Nat.zero_le, Nat.reduceLeDiff]
    refine rn_M_evenCut 20 ?_
    simp (disch := omega) only [am_z, cq_M_evenCut, Nat.reduceAdd, Nat.zero_le, Nat.reduceLeDiff, ar_lit, ↓reduceIte]
    refine s_M_layCuts (by omega) h1.p h1.w (fun I2 f2 v2 => ?_)
    have h2 := h1.fr f2 (by simp) (by simp)
    have kk := k I2 (f1.m0.tr f2.mC) h2 ((f2.f9 (by simp) (by simp)).trans e1)
    have loop : ∀ f m a, m ≤ j → a ≤ tn s.2.1 → tn s.2.1 ≤ a + f → tcl (tdp s.2.1 (tn s.2.1)).2 (tn s.2.1) f (j - m) a = tcl (tdp s.2.1 (tn s.2.1)).2 (tn s.2.1) 24 j 0 → am_X l (0, fun _ => 0) (d + 1) y_M_evenCut P 27 [some (vR (9, 0)), some (vI (nI j)), some (vI (nI a)), some (vI (nI m))] [] 0 0 am_G0 I2 J := by
      intro f
      induction f with
      | zero =>
        intro m a hm ha hf he
        have kk := kk
        simp only at kk
        rw [← he] at kk
        refine rn_M_evenCut 40 ?_
        simp (disch := omega) only [am_z, cq_M_evenCut, Nat.reduceAdd, Nat.zero_le, Nat.reduceLeDiff, ar_lit, ar_le, ar_in, ar_cl, h2.p.1.2.1, Nat.reduceLT, am_tt, if_pos hf, ite_self]
        have : tn s.2.1 ≤ a := by omega
        simp only [if_pos this, ite_self]
        exact kk
      | succ f ih =>
        intro m a hm ha hf he
        rw [tcl_s] at he
        have kk := kk
        simp only at kk
        by_cases q1 : tn s.2.1 ≤ a
        · rw [if_neg (by omega)] at he
          rw [← he] at kk
          refine rn_M_evenCut 40 ?_
          simp (disch := omega) only [am_z, cq_M_evenCut, Nat.reduceAdd, Nat.zero_le, Nat.reduceLeDiff, ar_lit, ar_le, ar_in, ar_cl, h2.p.1.2.1, Nat.reduceLT, am_tt, if_pos q1, ite_self]
          exact kk
        · rw [if_pos (by omega)] at he
          have b24 : a < 24 := by omega
          have hv := v2.2 a (Nat.zero_le _) (by omega)
          have hx := (tdp_le hw (tn s.2.1) (Nat.le_refl _) a (by omega) (by omega)).2 (by omega)
          by_cases q2 : j ≤ m
          · rw [if_pos (by omega)] at he
            rw [← he] at kk
            refine rn_M_evenCut 40 ?_
            simp (disch := omega) only [am_z, cq_M_evenCut, Nat.reduceAdd, Nat.zero_le, Nat.reduceLeDiff, ar_lit, ar_le, ar_in, ar_cl, h2.p.1.2.1, Nat.reduceLT, am_tt, if_neg q1, if_pos q2, hv, b24]
            exact kk
          · rw [if_neg (by omega), Nat.sub_sub] at he
            refine rn_M_evenCut 40 ?_
            simp (disch := omega) only [am_z, cq_M_evenCut, Nat.reduceAdd, Nat.zero_le, Nat.reduceLeDiff, ar_lit, ar_le, ar_in, ar_cl, h2.p.1.2.1, Nat.reduceLT, am_tt, if_neg q1, if_neg q2, hv, b24, nI_add]
            exact @ih (m + 1) _ (by omega) (by omega) (by omega) he
    simp only [am_z, Nat.reduceAdd, Nat.zero_le, Nat.reduceLeDiff]
    refine rn_M_evenCut 20 ?_
    simp (disch := omega) only [am_z, cq_M_evenCut, Nat.reduceAdd, Nat.zero_le, Nat.reduceLeDiff, ar_lit]
    exact @loop 24 0 0 (Nat.zero_le _) (Nat.zero_le _) (by omega) rfl
  · rw [if_neg q] at k
    have q' : ¬ (nI 0 ≤ i) := by rw [ar_leI (by omega)]; exact q
    refine en_M_evenCut 20 (Nat.le_of_ble_eq_true rfl) ?_
    simp (disch := omega) only [am_z, cq_M_evenCut, Nat.reduceAdd, Nat.zero_le, Nat.reduceLeDiff, ar_lit, if_neg q']
    refine s_M_refN (by omega) (by omega) (by omega) (fun I1 f1 e1 => ?_)
    simp only [am_z, Nat.reduceAdd, Nat.zero_le, Nat.reduceLeDiff]
    refine rn_M_evenCut 20 ?_
    simp (disch := omega) only [am_z, cq_M_evenCut, Nat.reduceAdd, Nat.zero_le, Nat.reduceLeDiff, ar_lit, ar_eq, Nat.reduceEqDiff, ↓reduceIte]
    exact k I1 f1.m0 (h.r0 f1) e1
theorem s_M_emptyFrom {r : Int32} (hD : 9 ≤ D) (h : sm I s) (k : mk P J I (q_emptyFrom s.2.1 r, s)) : am_T l D y_M_emptyFrom [vR (9, 0), vI r] am_G0 I J P := by
  obtain ⟨d, rfl⟩ : ∃ d, D = d + 1 := ⟨D - 1, by omega⟩
  have hw := h.w
  have hn := hw.2.2.2.2.1
  unfold q_emptyFrom at k
  refine en_M_emptyFrom 20 (Nat.le_of_ble_eq_true rfl) ?_
  simp (disch := omega) only [am_z, cq_M_emptyFrom, Nat.reduceAdd, Nat.zero_le, Nat.reduceLeDiff, ar_lit]
  refine s_M_isRow (by omega) h.p h.w ?_
  rcases tix_c (tn s.2.1) r (by omega) with ⟨e, hs⟩ | ⟨i, hi, er, e⟩
  · rw [e] at k ⊢
    simp only [Option.isSome_none]
    simp only [am_z, Nat.reduceAdd, Nat.zero_le, Nat.reduceLeDiff]
    refine rn_M_emptyFrom 20 ?_
    simp (disch := omega) only [am_z, cq_M_emptyFrom, Nat.reduceAdd, Nat.zero_le, Nat.reduceLeDiff, ar_lit, b01, Bool.false_eq_true, ↓reduceIte]
    refine s_M_refN (by omega) (by omega) (by omega) (fun I1 f1 e1 => ?_)
    simp only [am_z, Nat.reduceAdd, Nat.zero_le, Nat.reduceLeDiff]
    refine rn_M_emptyFrom 20 ?_
    simp (disch := omega) only [am_z, cq_M_emptyFrom, Nat.reduceAdd, Nat.zero_le, Nat.reduceLeDiff, ar_lit, ar_eq, Nat.reduceEqDiff, ↓reduceIte]
    exact k I1 f1.m0 (h.r0 f1) e1
  · rw [e] at k ⊢
    subst er
    simp only [Option.isSome_some]
    simp only [am_z, Nat.reduceAdd, Nat.zero_le, Nat.reduceLeDiff]
    refine rn_M_emptyFrom 20 ?_
    simp (disch := omega) only [am_z, cq_M_emptyFrom, Nat.reduceAdd, Nat.zero_le, Nat.reduceLeDiff, ar_lit, b01, Bool.false_eq_true, ↓reduceIte, ar_eq, Nat.reduceEqDiff]
    refine s_M_ref0 (by omega) (fun I1 f1 e1 => ?_)
    have h1 := h.r0 f1
    have kk : P (.inl (some (vI (tem s.2.1 i)))) am_G0 I1 J := k I1 f1.m0 h1 e1
    unfold tem at kk
    simp only [am_z, Nat.reduceAdd, Nat.zero_le, Nat.reduceLeDiff]
    refine rn_M_emptyFrom 20 ?_
    simp (disch := omega) only [am_z, cq_M_emptyFrom, Nat.reduceAdd, Nat.zero_le, Nat.reduceLeDiff, ar_lit, ↓reduceIte]
    refine s_M_lastFor (by omega) isU_27 h1.p hw hi ?_
    simp only [am_z, Nat.reduceAdd, Nat.zero_le, Nat.reduceLeDiff]
    refine rn_M_emptyFrom 20 ?_
    simp (disch := omega) only [am_z, cq_M_emptyFrom, Nat.reduceAdd, Nat.zero_le, Nat.reduceLeDiff, ar_lit, lv_none (fun b e => tlast_lt hw hi e)]
    cases hl : tlast s.2.1 (tP s.2.1) i with
    | none =>
      rw [hl] at kk
      simp only [Option.isNone_none, ↓reduceIte]
      exact kk
    | some b =>
      rw [hl] at kk
      obtain ⟨g1, g2, _, g3⟩ := tlf_some _ hl
      simp (disch := omega) only [Option.isNone_some, Bool.false_eq_true, ↓reduceIte, lv, ar_in, ar_cl, h1.p.1.2.2.2.1, Nat.reduceLT, am_tt]
      refine s_M_lines (by omega) isU_27 h1.p hw g1 (by omega) ?_
      simp only [am_z, Nat.reduceAdd, Nat.zero_le, Nat.reduceLeDiff]
      refine rn_M_emptyFrom 20 ?_
      simp (disch := omega) only [am_z, cq_M_emptyFrom, Nat.reduceAdd, Nat.zero_le, Nat.reduceLeDiff, ar_lit, ar_sub]
      exact kk
end RG
