/-! ===== the class Evener: the least cost, and where a page ends then ===== -/
theorem ar_addneg (a b : Int32) : a + -b = a - b := (Int32.sub_eq_add_neg a b).symm
section EV
variable {l : Launch} {D t : Nat} {I : am_I} {J : am_J} {P : am_P} {p : pt_T}
theorem s_leastCost (hD : 4 ≤ D) (hr : rC I t p) (hw : tW p) (k : ∀ I', am_fr isV I I' → rV I' (tn p) 0 (tdp p (tn p)) → P (.inl (some (vI (nI ((tdp p (tn p)).1 0))))) am_G0 I' J) : am_T l D y_Evener_leastCost [vR (2, 0), vR (7, t)] am_G0 I J P := by
  obtain ⟨d, rfl⟩ : ∃ d, D = d + 1 := ⟨D - 1, by omega⟩
  have hn := hw.2.2.2.2.1
  refine en_Evener_leastCost 20 (Nat.le_of_ble_eq_true rfl) ?_
  simp only [am_z, cq_Evener_leastCost, Nat.reduceAdd]
  refine s_endRows (by omega) hr hw (fun x hx => ?_)
  have loop : ∀ f m I', m + f = tn p → am_fr isV I I' → rV I' (tn p) (tn p - m) (tdp p m) → am_X l (0, fun _ => 0) (d + 1) y_Evener_leastCost P 22 [some (vR (2, 0)), some (vR (7, t)), some (vI x), some (vI (nI (tn p - m) - nI 1))] [] 0 0 am_G0 I' J := by
    intro f
    induction f with
    | zero =>
      intro m I' hm hfr hv
      have : m = tn p := by omega
      subst this
      rw [Nat.sub_self] at hv
      refine rn_Evener_leastCost 20 ?_
      simp (disch := omega) only [am_z, cq_Evener_leastCost, Nat.reduceAdd, ar_lit, ar_m1]
      rw [if_pos (by omega)]
      simp (disch := omega) only [am_z, ar_in, ar_cl, hv.1 0 (Nat.le_refl _) (Nat.zero_le _)]
      exact ⟨by omega, k I' hfr hv⟩
    | succ f ih =>
      intro m I' hm hfr hv
      have hr' : rC I' t p := hr.fr hfr (fun c => isV_t)
      refine rn_Evener_leastCost 20 ?_
      simp (disch := omega) only [am_z, cq_Evener_leastCost, Nat.reduceAdd, ar_lit, ar_m1]
      rw [if_neg (by omega), ar_sub (by omega)]
      refine s_chooseEnd (f := tdp p m) (by omega) hr' hw hx (by omega) ?_ (fun i h1 h2 => (tdp_le hw m (by omega) i (by omega) h2).1) (fun I'' y hf'' hy h22 h23 => ?_)
      · rw [show tn p - m - 1 + 1 = tn p - m by omega]; exact hv
      · simp only [am_z, Nat.reduceAdd]
        refine rn_Evener_leastCost 20 ?_
        simp only [am_z, cq_Evener_leastCost, Nat.reduceAdd, ar_lit, ar_addneg]
        rw [show tn p - (tn p - m - 1) = m + 1 by omega] at hy
        have e : tn p - m - 1 = tn p - (m + 1) := by omega
        rw [e] at hy h22 h23 ⊢
        refine @ih (m + 1) I'' (by omega) (hfr.tr hf'') ⟨fun i h1 h2 => ?_, fun i h1 h2 => ?_⟩
        · rw [h22, upd_at]
          show _ = nI (if i = tn p - (m + 1) then ((tbk p (tdp p m).1 (tn p - (m + 1)) (m + 1)).getD (0, 0)).1 else (tdp p m).1 i)
          by_cases q : i = tn p - (m + 1)
          · rw [if_pos q, if_pos q, hy]; rfl
          · rw [if_neg q, if_neg q]; exact hv.1 i (by omega) h2
        · rw [h23, upd_at]
          show _ = nI (if i = tn p - (m + 1) then ((tbk p (tdp p m).1 (tn p - (m + 1)) (m + 1)).getD (0, 0)).2 else (tdp p m).2 i)
          by_cases q : i = tn p - (m + 1)
          · rw [if_pos q, if_pos q, hy]; rfl
          · rw [if_neg q, if_neg q]; exact hv.2 i (by omega) h2
  simp only [am_z, Nat.reduceAdd]
  refine rn_Evener_leastCost 20 ?_
  simp (disch := omega) only [am_z, cq_Evener_leastCost, Nat.reduceAdd, ar_lit, hr.1.2.1, am_uS, ar_in, ar_cl]
  refine ⟨by omega, @loop (tn p) 0 _ (by omega) (am_fr.up am_fr.rf isV_22) ⟨fun i h1 h2 => ?_, fun i h1 h2 => by omega⟩⟩
  have : i = tn p := by omega
  rw [am_uE, this, upd_e]
  rfl
theorem s_evLastOf {i : Nat} (hD : 1 ≤ D) (hr : rC I t p) (hw : tW p) (hv : rV I (tn p) 0 (tdp p (tn p))) (hi : i < 2 ^ 31) (k : P (.inl (some (vI (lv (tcl (tdp p (tn p)).2 (tn p) 24 i 0))))) am_G0 I J) : am_T l D y_Evener_lastOf [vR (2, 0), vR (7, t), vI (nI i)] am_G0 I J P := by
  obtain ⟨d, rfl⟩ : ∃ d, D = d + 1 := ⟨D - 1, by omega⟩
  have hn := hw.2.2.2.2.1
  have loop : ∀ f j a a5, j + f = 24 → j ≤ i → a ≤ tn p → tcl (tdp p (tn p)).2 (tn p) f (i - j) a = tcl (tdp p (tn p)).2 (tn p) 24 i 0 → am_X l (0, fun _ => 0) (d + 1) y_Evener_lastOf P 5 [some (vR (2, 0)), some (vR (7, t)), some (vI (nI i)), some (vI (nI a)), some (vI (nI j)), a5] [] 0 0 am_G0 I J := by
    intro f
    induction f with
    | zero =>
      intro j a a5 hj hji ha he
      have : j = 24 := by omega
      subst this
      refine rn_Evener_lastOf 40 ?_
      simp (disch := omega) only [am_z, cq_Evener_lastOf, Nat.reduceAdd, ar_lit, ar_le, ↓reduceIte]
      rw [← he] at k
      exact k
    | succ f ih =>
      intro j a a5 hj hji ha he
      refine rn_Evener_lastOf 40 ?_
      simp (disch := omega) only [am_z, cq_Evener_lastOf, Nat.reduceAdd, ar_lit, ar_le, hr.1.2.1]
      have es : tcl (tdp p (tn p)).2 (tn p) (f + 1) (i - j) a = if a < tn p then (if i - j = 0 then some ((tdp p (tn p)).2 a) else tcl (tdp p (tn p)).2 (tn p) f (i - j - 1) ((tdp p (tn p)).2 a + 1)) else none := rfl
      rw [if_neg (by omega)]
      by_cases q : tn p ≤ a
      · rw [if_pos q]
        rw [es, if_neg (by omega)] at he
        rw [← he] at k
        exact k
      · have hb := (tdp_le hw (tn p) (Nat.le_refl _) a (by omega) (by omega)).2 (by omega)
        rw [if_neg q]
        rw [es, if_pos (by omega)] at he
        simp (disch := omega) only [ar_in, ar_cl, hv.2 a (Nat.zero_le _) (by omega), ar_eq, nI_add]
        refine ⟨by omega, ?_⟩
        by_cases q2 : j = i
        · rw [if_pos q2]
          rw [if_pos (by omega)] at he
          rw [← he] at k
          exact k
        · rw [if_neg q2]
          rw [if_neg (by omega), Nat.sub_sub] at he
          exact @ih (j + 1) _ _ (by omega) (by omega) (by omega) he
  refine en_Evener_lastOf 40 (Nat.le_of_ble_eq_true rfl) ?_
  simp only [am_z, cq_Evener_lastOf, Nat.reduceAdd, ar_lit]
  exact @loop 24 0 0 _ rfl (Nat.zero_le _) (Nat.zero_le _) rfl
end EV
