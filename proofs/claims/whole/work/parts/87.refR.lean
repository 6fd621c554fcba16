/-! ===== the reference: rows, spans and the rest of a text ===== -/
/-- how a reading step ends -/
def kq (P : am_P) (J : am_J) (ss : List Nat) (I : am_I) (r : Nat × Option pt_T) : Prop := ∀ I', fM [26] [3, 4] I I' → rP I' ss r.1 r.2.isSome → (∀ q, r.2 = some q → rF (I' (26, 0)) q ∧ tW q) → P (.inl none) am_G0 I' J
section RG
variable {l : Launch} {D : Nat} {I : am_I} {J : am_J} {P : am_P} {p : pt_T} {ss : List Nat} {a : Nat}
theorem fM.m34 {I' : am_I} (h : fM [] [3, 4] I I') : fM [26] [3, 4] I I' := h.mono (by simp) (by simp)
theorem fM.m26 {I' : am_I} (h : fM [26] [] I I') : fM [26] [3, 4] I I' := h.mono (by simp) (by simp)
theorem pt_len {a c : Nat} (h : ss[a]? = some c) : a < ss.length := (List.getElem?_eq_some_iff.mp h).1
theorem rF_34 {I' : am_I} (h : rF (I (26, 0)) p) (hf : fM [] [3, 4] I I') : rF (I' (26, 0)) p := rF.fM h hf (by simp) (by omega)
theorem rP_26 {I' : am_I} {g : Bool} (h : rP I ss a g) (hf : fM [26] [] I I') : rP I' ss a g := h.fr hf (by simp) (by simp)
theorem pcols_s (ss : List Nat) (r k c a : Nat) (p : pt_T) : pcols ss r (k + 1) c a p = if ss[a]? = some 45 ∨ ss[a]? = some 43 then
      (match (ppair ss (a + 1) 0 99).2 with
        | none => ((ppair ss (a + 1) 0 99).1, none)
        | some v => pcols ss r k (c + 1) (ppair ss (a + 1) 0 99).1 (tsetA p r c (if ss[a]? = some 45 then -(v : Int) else (v : Int))))
    else (a, none) := rfl
theorem s_M_readRow (hD : 5 ≤ D) (h : rP I ss a true) (hc : ss[a]? = some 114) (hr : rF (I (26, 0)) p) (hw : tW p) (k : kq P J ss I (ppart ss a p)) : am_T l D y_M_readRow [vR (9, 0)] am_G0 I J P := by
  obtain ⟨d, rfl⟩ : ∃ d, D = d + 1 := ⟨D - 1, by omega⟩
  have hn := hw.2.2.2.2.1
  have ha := pt_len hc
  have hC := hw.1.2
  by_cases q : 24 ≤ tn p
  · have e : ppart ss a p = (a, none) := by
      unfold ppart
      rw [hc, if_neg (by omega), if_neg (by simp), if_neg (by simp), if_neg (by simp), if_neg (by simp)]
    rw [e] at k
    refine en_M_readRow 20 (Nat.le_of_ble_eq_true rfl) ?_
    simp (disch := omega) only [am_z, cq_M_readRow, Nat.reduceAdd, Nat.zero_le, Nat.reduceLeDiff, ar_lit, ar_in, ar_cl, hr.1.2.1, ar_le, if_pos q, Nat.reduceLT, am_tt]
    refine s_M_accept (b := false) (by omega) h (fun _ q => by cases q) (fun I1 f1 p1 => ?_)
    rw [Bool.and_false, if_neg (by simp)] at p1
    simp only [am_z, Nat.reduceAdd, Nat.zero_le, Nat.reduceLeDiff]
    refine rn_M_readRow 20 ?_
    simp (disch := omega) only [am_z, cq_M_readRow, Nat.reduceAdd, Nat.zero_le, Nat.reduceLeDiff, ar_lit]
    refine s_M_digit (by omega) p1 (by omega) (by omega) (fun I2 f2 p2 => ?_)
    rw [pd_f] at p2
    simp only [am_z, Nat.reduceAdd, Nat.zero_le, Nat.reduceLeDiff]
    refine rn_M_readRow 20 ?_
    simp (disch := omega) only [am_z, cq_M_readRow, Nat.reduceAdd, Nat.zero_le, Nat.reduceLeDiff, ar_lit, p2.2.1, b01, Bool.false_eq_true, ↓reduceIte]
    exact k I2 (f1.m34.tr f2.m34) p2 (fun q hq => by cases hq)
  · have e : ppart ss a p = prow ss (a + 1) p := by
      unfold ppart
      rw [if_pos ⟨hc, by omega⟩]
    rw [e] at k
    refine en_M_readRow 20 (Nat.le_of_ble_eq_true rfl) ?_
    simp (disch := omega) only [am_z, cq_M_readRow, Nat.reduceAdd, Nat.zero_le, Nat.reduceLeDiff, ar_lit, ar_in, ar_cl, hr.1.2.1, ar_le, if_neg q, Nat.reduceLT, am_tt]
    refine s_M_accept (b := true) (by omega) h (fun _ _ => ha) (fun I1 f1 p1 => ?_)
    rw [Bool.and_self, if_pos rfl] at p1
    simp only [am_z, Nat.reduceAdd, Nat.zero_le, Nat.reduceLeDiff]
    refine rn_M_readRow 20 ?_
    simp (disch := omega) only [am_z, cq_M_readRow, Nat.reduceAdd, Nat.zero_le, Nat.reduceLeDiff, ar_lit]
    refine s_M_digit (by omega) p1 (by omega) (by omega) (fun I2 f2 p2 => ?_)
    rw [pd_t] at p2 ⊢
    unfold prow at k
    cases eh : (pdig ss (a + 1) 1 6).2 with
    | none =>
      rw [eh] at k p2
      rw [pdig_none eh] at p2
      simp only [am_z, Nat.reduceAdd, Nat.zero_le, Nat.reduceLeDiff]
      refine rn_M_readRow 20 ?_
      simp (disch := omega) only [am_z, cq_M_readRow, Nat.reduceAdd, Nat.zero_le, Nat.reduceLeDiff, ar_lit, p2.2.1, Option.isSome_none, b01, Bool.false_eq_true, ↓reduceIte]
      exact k I2 (f1.m34.tr f2.m34) p2 (fun q hq => by cases hq)
    | some hgt =>
      rw [eh] at k p2
      obtain ⟨g1, g2, g3, _⟩ := pdig_some eh
      rw [g1] at p2
      have hr2 := rF_34 (rF_34 hr f1) f2
      simp only [am_z, Nat.reduceAdd, Nat.zero_le, Nat.reduceLeDiff]
      refine rn_M_readRow 20 ?_
      simp (disch := omega) only [am_z, cq_M_readRow, Nat.reduceAdd, Nat.zero_le, Nat.reduceLeDiff, ar_lit, p2.2.1, Option.isSome_some, b01, Bool.false_eq_true, ↓reduceIte, ar_eq, Nat.reduceEqDiff, Option.getD_some]
      refine s_M_addTo (by omega) isU_26 hr2 (by omega) (fun I3 f3 r3 => ?_)
      have p3 := rP_26 p2 f3
      have w3 := tputR_w hw (by omega) g2 g3 (show (0 : Nat) ≤ 6 by omega)
      have hfr3 := (f1.m34.tr f2.m34).tr f3.m26
      have hrow : tn p < tn (tputR p hgt 0) := by rw [tn_put]; omega
      have loop : ∀ m c x q I' a4 a5, c + m = tC p → tC q = tC p → tn q = tn p + 1 → tW q → fM [26] [3, 4] I I' → rP I' ss x true → rF (I' (26, 0)) q → pcols ss (tn p) m c x q = pcols ss (tn p) (tC p) 0 (a + 1 + 1) (tputR p hgt 0) → am_X l (0, fun _ => 0) (d + 1) y_M_readRow P 49 [some (vR (9, 0)), some (vI (nI (tn p))), some (vI (nI hgt)), some (vI (nI c)), a4, a5] [] 0 0 am_G0 I' J := by
        intro m
        induction m with
        | zero =>
          intro c x q I' a4 a5 hc hcq hnq hwq hf hp hr he
          have e0 : pcols ss (tn p) 0 c x q = (x, some q) := rfl
          rw [e0] at he
          refine rn_M_readRow 20 ?_
          simp (disch := omega) only [am_z, cq_M_readRow, Nat.reduceAdd, Nat.zero_le, Nat.reduceLeDiff, ar_lit, ar_in, ar_cl, hr.1.1, hcq, ar_le, Nat.reduceLT, am_tt]
          rw [if_pos (by omega)]
          refine k I' hf ?_ (fun z hz => ?_)
          · simp only
            rw [← he]
            exact hp
          · simp only at hz
            rw [← he] at hz
            cases hz
            exact ⟨hr, hwq⟩
        | succ m ih =>
          intro c x q I' a4 a5 hc hcq hnq hwq hf hp hr he
          rw [pcols_s] at he
          refine rn_M_readRow 20 ?_
          simp (disch := omega) only [am_z, cq_M_readRow, Nat.reduceAdd, Nat.zero_le, Nat.reduceLeDiff, ar_lit, ar_in, ar_cl, hr.1.1, hcq, ar_le, hp.2.1, b01, Bool.false_eq_true, ↓reduceIte, ar_eq, Nat.reduceEqDiff, Nat.reduceLT, am_tt]
          rw [if_neg (by omega)]
          refine s_M_isNext (by omega) hp (by omega) ?_
          -- behind the sign
          have body : ∀ below : Bool, (ss[x]? = some 45 ∨ ss[x]? = some 43) → below = decide (ss[x]? = some 45) → am_T l d y_M_accept [vR (9, 0), vI (nI (b01 true))] am_G0 I' J (am_k (am_X l (0, fun _ => 0) (d + 1) y_M_readRow P) P 97 [some (vR (9, 0)), some (vI (nI (tn p))), some (vI (nI hgt)), some (vI (nI c)), some (vI (nI (b01 below))), a5] [] 0 0) := by
            intro below hs hb
            rw [if_pos hs] at he
            have hx : x < ss.length := hs.elim pt_len pt_len
            refine s_M_accept (b := true) (by omega) hp (fun _ _ => hx) (fun I4 f4 p4 => ?_)
            rw [Bool.and_self, if_pos rfl] at p4
            simp only [am_z, Nat.reduceAdd, Nat.zero_le, Nat.reduceLeDiff]
            refine rn_M_readRow 20 ?_
            simp (disch := omega) only [am_z, cq_M_readRow, Nat.reduceAdd, Nat.zero_le, Nat.reduceLeDiff, ar_lit, p4.2.1, b01, Bool.false_eq_true, ↓reduceIte, ar_eq, Nat.reduceEqDiff]
            refine s_M_two (by omega) p4 (by omega) (by omega) (fun I5 v f5 p5 hv => ?_)
            have ew : pw ss true (x + 1) 0 99 = ppair ss (x + 1) 0 99 := rfl
            rw [ew] at p5 hv
            have hr5 := rF_34 (rF_34 hr f4) f5
            have hf5 := (hf.tr f4.m34).tr f5.m34
            have b197 : 11 + 7 * tn p + (3 + c) < 197 := by omega
            simp only [am_z, Nat.reduceAdd, Nat.zero_le, Nat.reduceLeDiff]
            refine rn_M_readRow 20 ?_
            simp (disch := omega) only [am_z, cq_M_readRow, Nat.reduceAdd, Nat.zero_le, Nat.reduceLeDiff, ar_lit, nI_add]
            refine s_M_cell (by omega) ?_
            have fin : ∀ y : Int32, (∀ w, (ppair ss (x + 1) 0 99).2 = some w → y = iI (if ss[x]? = some 45 then -(w : Int) else (w : Int))) → am_X l (0, fun _ => 0) (d + 1) y_M_readRow P 49 [some (vR (9, 0)), some (vI (nI (tn p))), some (vI (nI hgt)), some (vI (nI (c + 1))), some (vI (nI (b01 below))), some (vI v)] [] 0 0 am_G0 (am_upI I5 (26, 0) (11 + 7 * tn p + (3 + c)) y) J := by
              intro y hy
              have f6 : fM [26] [] I5 (am_upI I5 (26, 0) (11 + 7 * tn p + (3 + c)) y) := fM.rf.up (Or.inl (by simp))
              have p6 := rP_26 p5 f6
              cases e2 : (ppair ss (x + 1) 0 99).2 with
              | none =>
                rw [e2] at he p6
                refine rn_M_readRow 20 ?_
                simp (disch := omega) only [am_z, cq_M_readRow, Nat.reduceAdd, Nat.zero_le, Nat.reduceLeDiff, ar_lit, p6.2.1, Option.isSome_none, b01, Bool.false_eq_true, ↓reduceIte, ar_in, ar_cl, Nat.reduceLT, am_tt, ite_self]
                refine k _ (hf5.tr f6.m26) ?_ (fun z hz => ?_)
                · simp only
                  rw [← he]
                  exact p6
                · simp only at hz
                  rw [← he] at hz
                  cases hz
              | some w =>
                rw [e2] at he p6
                obtain ⟨u1, u2, u3⟩ := ppair_some e2
                have hyw := hy w e2
                subst hyw
                have hwA : tW (tsetA q (tn p) c (if ss[x]? = some 45 then -(w : Int) else (w : Int))) := by
                  refine tsetA_w hwq (by omega) ?_ ?_
                  · split <;> omega
                  · split <;> omega
                exact @ih (c + 1) _ (tsetA q (tn p) c (if ss[x]? = some 45 then -(w : Int) else (w : Int))) _ _ _ (by omega) hcq ((tn_set _ _).trans hnq) hwA (hf5.tr f6.m26) p6 (by rw [am_uE]; exact hr5.setA hwq (by omega) (by omega)) he
            cases below
            · simp only [am_z, Nat.reduceAdd, Nat.zero_le, Nat.reduceLeDiff]
              refine rn_M_readRow 20 ?_
              simp (disch := omega) only [am_z, cq_M_readRow, Nat.reduceAdd, Nat.zero_le, Nat.reduceLeDiff, ar_lit, ar_in, ar_cl, b01, Bool.false_eq_true, ↓reduceIte, nI_add]
              refine ⟨b197, fin v (fun w hw => ?_)⟩
              have : ¬ ss[x]? = some 45 := of_decide_eq_false hb.symm
              rw [if_neg this, hv w hw, iI_nI]
            · simp only [am_z, Nat.reduceAdd, Nat.zero_le, Nat.reduceLeDiff]
              refine rn_M_readRow 20 ?_
              simp (disch := omega) only [am_z, cq_M_readRow, Nat.reduceAdd, Nat.zero_le, Nat.reduceLeDiff, ar_lit, ar_in, ar_cl, b01, Bool.false_eq_true, ↓reduceIte, ar_eq, Nat.reduceEqDiff, nI_add]
              refine ⟨b197, fin _ (fun w hw => ?_)⟩
              have : ss[x]? = some 45 := of_decide_eq_true hb.symm
              rw [if_pos this, hv w hw, iI_nI, iI_neg]
          by_cases q45 : ss[x]? = some 45
          · rw [decide_eq_true q45]
            simp only [am_z, Nat.reduceAdd, Nat.zero_le, Nat.reduceLeDiff]
            refine rn_M_readRow 20 ?_
            simp (disch := omega) only [am_z, cq_M_readRow, Nat.reduceAdd, Nat.zero_le, Nat.reduceLeDiff, ar_lit, b01, Bool.false_eq_true, ↓reduceIte, ar_eq, Nat.reduceEqDiff]
            exact body true (Or.inl q45) (decide_eq_true q45).symm
          · rw [decide_eq_false q45]
            simp only [am_z, Nat.reduceAdd, Nat.zero_le, Nat.reduceLeDiff]
            refine rn_M_readRow 20 ?_
            simp (disch := omega) only [am_z, cq_M_readRow, Nat.reduceAdd, Nat.zero_le, Nat.reduceLeDiff, ar_lit, b01, Bool.false_eq_true, ↓reduceIte]
            refine s_M_isNext (by omega) hp (by omega) ?_
            by_cases q43 : ss[x]? = some 43
            · rw [decide_eq_true q43]
              simp only [am_z, Nat.reduceAdd, Nat.zero_le, Nat.reduceLeDiff]
              refine rn_M_readRow 20 ?_
              simp (disch := omega) only [am_z, cq_M_readRow, Nat.reduceAdd, Nat.zero_le, Nat.reduceLeDiff, ar_lit, b01, Bool.false_eq_true, ↓reduceIte, ar_eq, Nat.reduceEqDiff]
              exact body false (Or.inr q43) (decide_eq_false q45).symm
            · rw [decide_eq_false q43]
              rw [if_neg (fun z => z.elim q45 q43)] at he
              simp only [am_z, Nat.reduceAdd, Nat.zero_le, Nat.reduceLeDiff]
              refine rn_M_readRow 20 ?_
              simp (disch := omega) only [am_z, cq_M_readRow, Nat.reduceAdd, Nat.zero_le, Nat.reduceLeDiff, ar_lit, b01, Bool.false_eq_true, ↓reduceIte]
              refine s_M_accept (b := false) (by omega) hp (fun _ q => by cases q) (fun I4 f4 p4 => ?_)
              rw [Bool.and_false, if_neg (by simp)] at p4
              have b197 : 11 + 7 * tn p + (3 + c) < 197 := by omega
              simp only [am_z, Nat.reduceAdd, Nat.zero_le, Nat.reduceLeDiff]
              refine rn_M_readRow 20 ?_
              simp (disch := omega) only [am_z, cq_M_readRow, Nat.reduceAdd, Nat.zero_le, Nat.reduceLeDiff, ar_lit, p4.2.1, b01, Bool.false_eq_true, ↓reduceIte, nI_add]
              refine s_M_cell (by omega) ?_
              simp only [am_z, Nat.reduceAdd, Nat.zero_le, Nat.reduceLeDiff]
              refine rn_M_readRow 20 ?_
              simp (disch := omega) only [am_z, cq_M_readRow, Nat.reduceAdd, Nat.zero_le, Nat.reduceLeDiff, ar_lit, ar_in, ar_cl, b01, Bool.false_eq_true, ↓reduceIte, nI_add]
              refine ⟨b197, ?_⟩
              have f6 : ∀ y, fM [26] [] I4 (am_upI I4 (26, 0) (11 + 7 * tn p + (3 + c)) y) := fun y => fM.rf.up (Or.inl (by simp))
              have p6 := fun y => rP_26 p4 (f6 y)
              refine rn_M_readRow 20 ?_
              simp (disch := omega) only [am_z, cq_M_readRow, Nat.reduceAdd, Nat.zero_le, Nat.reduceLeDiff, ar_lit, (p6 _).2.1, b01, Bool.false_eq_true, ↓reduceIte, ar_in, ar_cl, Nat.reduceLT, am_tt, ite_self]
              refine k _ ((hf.tr f4.m34).tr (f6 _).m26) ?_ (fun z hz => ?_)
              · simp only
                rw [← he]
                exact p6 _
              · simp only at hz
                rw [← he] at hz
                cases hz
      simp only [am_z, Nat.reduceAdd, Nat.zero_le, Nat.reduceLeDiff]
      refine rn_M_readRow 20 ?_
      simp (disch := omega) only [am_z, cq_M_readRow, Nat.reduceAdd, Nat.zero_le, Nat.reduceLeDiff, ar_lit]
      exact @loop (tC p) 0 (a + 1 + 1) (tputR p hgt 0) I3 none none (by omega) rfl (tn_put _ _) w3 hfr3 p3 r3 rfl
end RG
