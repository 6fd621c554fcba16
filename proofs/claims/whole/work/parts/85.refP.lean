/-! ===== the reference: runScript, simulate ===== -/
theorem tt_pw : ∀ f, f ≤ 3 → 10 ^ (5 * f) = 100000 ^ f := by decide
theorem tt_lt : ∀ f, f ≤ 3 → 100000 ^ f < 2 ^ 63 ∧ 0 < 100000 ^ f := by decide
theorem lN_10 : (1 : Int64) = lN 1 ∧ (10 : Int64) = lN 10 := ⟨rfl, rfl⟩
theorem lN_nz {m : Nat} (h0 : 0 < m) (h : m < 2 ^ 63) : (lN m = lN 0) = False := by
  rw [eq_iff_iff, iff_false, pk_lEQ h (by omega)]
  omega
section RG
variable {l : Launch} {D : Nat} {I : am_I} {J : am_J} {P : am_P} {p : pt_T} {s : pt_G}
theorem s_M_tenTo {G : am_G} {n : Nat} (hD : 1 ≤ D) (hn : n ≤ 15) (k : P (.inl (some (vL (lN (10 ^ n))))) G I J) : am_T l D y_M_tenTo [vI (nI n)] G I J P := by
  obtain ⟨d, rfl⟩ : ∃ d, D = d + 1 := ⟨D - 1, by omega⟩
  have loop : ∀ m i, i + m = n → am_X l (0, fun _ => 0) (d + 1) y_M_tenTo P 4 [some (vI (nI n)), some (vL (lN (10 ^ i))), none, some (vI (nI i))] [] 0 0 G I J := by
    intro m
    induction m with
    | zero =>
      intro i hi
      refine rn_M_tenTo 20 ?_
      simp (disch := omega) only [am_z, cq_M_tenTo, Nat.reduceAdd, Nat.zero_le, Nat.reduceLeDiff, ar_lit, ar_le]
      rw [if_pos (by omega)]
      have : i = n := by omega
      subst this
      exact k
    | succ m ih =>
      intro i hi
      refine rn_M_tenTo 20 ?_
      simp (disch := omega) only [am_z, cq_M_tenTo, Nat.reduceAdd, Nat.zero_le, Nat.reduceLeDiff, ar_lit, ar_le, lN_10.2, lN_mul, nI_add]
      rw [if_neg (by omega), ← Nat.pow_succ]
      exact @ih (i + 1) (by omega)
  refine en_M_tenTo 20 (Nat.le_of_ble_eq_true rfl) ?_
  simp (disch := omega) only [am_z, cq_M_tenTo, Nat.reduceAdd, Nat.zero_le, Nat.reduceLeDiff, ar_lit]
  exact @loop n 0 (by omega)
theorem s_M_runScript {n : Int32} {t : Int64} (hD : 10 ≤ D) (h : sm I s) (k : mk P J I (q_runScript s.2.1 n t, s)) : am_T l D y_M_runScript [vR (9, 0), vI n, vL t] am_G0 I J P := by
  obtain ⟨d, rfl⟩ : ∃ d, D = d + 1 := ⟨D - 1, by omega⟩
  have hw := h.w
  unfold q_runScript at k
  have bad : ∀ I1, fM [] [0] I I1 → I1 (9, 0) 0 = nI 1 → ¬ ((1 ≤ n.toInt ∧ n.toInt ≤ 3) ∧ 0 ≤ t.toInt ∧ t.toInt.toNat / 100000 ^ n.toInt.toNat = 0) → P (.inl (some (vI (nI 0)))) am_G0 I1 J := fun I1 f1 e1 e => by
    rw [if_neg e] at k
    exact k I1 f1.m0 (h.r0 f1) e1
  refine en_M_runScript 20 (Nat.le_of_ble_eq_true rfl) ?_
  simp (disch := omega) only [am_z, cq_M_runScript, Nat.reduceAdd, Nat.zero_le, Nat.reduceLeDiff, ar_lit]
  refine s_M_inL (lo := 1) (hi := 3) (by omega) (i64_i n) (by decide +kernel) (by decide +kernel) ?_
  by_cases q : 1 ≤ n.toInt ∧ n.toInt ≤ 3
  · rw [decide_eq_true q]
    have en : n = nI n.toInt.toNat := ar_nat (by omega)
    have hnt : n.toInt = ((n.toInt.toNat : Nat) : Int) := by omega
    have hb : n.toInt.toNat < 4 ∧ 0 < n.toInt.toNat := by omega
    generalize hj : n.toInt.toNat = j at en hb hnt k bad
    have tp := tt_pw j (by omega)
    have tl := tt_lt j (by omega)
    subst en
    simp only [am_z, Nat.reduceAdd, Nat.zero_le, Nat.reduceLeDiff]
    refine rn_M_runScript 40 ?_
    simp (disch := omega) only [am_z, cq_M_runScript, Nat.reduceAdd, Nat.zero_le, Nat.reduceLeDiff, ar_lit, b01, Bool.false_eq_true, ↓reduceIte, ar_eq, Nat.reduceEqDiff, pk_mul]
    refine s_M_tenTo (by omega) (by omega) ?_
    rw [tp]
    simp only [am_z, Nat.reduceAdd, Nat.zero_le, Nat.reduceLeDiff]
    refine rn_M_runScript 40 ?_
    simp (disch := omega) only [am_z, cq_M_runScript, Nat.reduceAdd, Nat.zero_le, Nat.reduceLeDiff, ar_lit, lN_10.1, lN_sub]
    have e0 : ((0 : Int64)).toInt = 0 := by decide +kernel
    have e9 : (lN (100000 ^ j - 1)).toInt = ((100000 ^ j - 1 : Nat) : Int) := pk_lT (by omega)
    refine s_M_inL (lo := 0) (by omega) rfl e0 e9 ?_
    by_cases q2 : 0 ≤ t.toInt ∧ t.toInt ≤ ((100000 ^ j - 1 : Nat) : Int)
    · rw [decide_eq_true q2]
      have hz : t.toInt.toNat / 100000 ^ j = 0 := Nat.div_eq_of_lt (by omega)
      rw [if_pos ⟨q, q2.1, hz⟩] at k
      have et : t = lN t.toInt.toNat := by
        apply Int64.toInt_inj.mp
        have := Int64.toInt_lt t
        rw [pk_lT (by omega)]
        omega
      have hz63 : t.toInt.toNat < 2 ^ 63 := by have := Int64.toInt_lt t; omega
      generalize t.toInt.toNat = z at et k hz hz63
      subst et
      simp only [am_z, Nat.reduceAdd, Nat.zero_le, Nat.reduceLeDiff]
      refine rn_M_runScript 40 ?_
      simp (disch := omega) only [am_z, cq_M_runScript, Nat.reduceAdd, Nat.zero_le, Nat.reduceLeDiff, ar_lit, b01, Bool.false_eq_true, ↓reduceIte, ar_eq, Nat.reduceEqDiff]
      refine s_M_ref0 (by omega) (fun I1 f1 e1 => ?_)
      have h1 := h.r0 f1
      simp only [am_z, Nat.reduceAdd, Nat.zero_le, Nat.reduceLeDiff]
      refine rn_M_runScript 40 ?_
      simp (disch := omega) only [am_z, cq_M_runScript, Nat.reduceAdd, Nat.zero_le, Nat.reduceLeDiff, ar_lit, ↓reduceIte]
      refine s_M_begin (by omega) h1 (fun I2 f2 r2 => ?_)
      have h2 := h1.fr f2 (by simp) (by simp)
      have loop : ∀ f q I', f ≤ j → am_fr isM I I' → sm I' s → I' (9, 0) 0 = nI 0 → rF (I' (28, 0)) q → tW q → trun z j f q = trun z j j s.2.1 → am_X l (0, fun _ => 0) (d + 1) y_M_runScript P 62 [some (vR (9, 0)), some (vI (nI j)), some (vL (lN z)), none, some (vI (nI 1)), some (vI (nI (j - f)))] [] 0 0 am_G0 I' J := by
        intro f
        induction f with
        | zero =>
          intro q I' hf hfr h' e' hr hw he
          have kk := k I' hfr h' e'
          simp only at kk
          rw [← he] at kk
          refine rn_M_runScript 20 ?_
          simp (disch := omega) only [am_z, cq_M_runScript, Nat.reduceAdd, Nat.zero_le, Nat.reduceLeDiff, ar_lit, Nat.sub_zero, ar_le, ↓reduceIte, Nat.le_refl]
          exact kk
        | succ f ih =>
          intro q I' hf hfr h' e' hr hw he
          have tlf := tt_lt f (by omega)
          have hg : z / 100000 ^ f < 2 ^ 63 := Nat.lt_of_le_of_lt (Nat.div_le_self _ _) hz63
          have efs : j - 1 - (j - (f + 1)) = f := by omega
          have es : trun z j (f + 1) q = match tdo (z / 100000 ^ f % 100000) q with
            | none => nI (j - (f + 1))
            | some q => trun z j f q := rfl
          refine rn_M_runScript 40 ?_
          simp (disch := omega) only [am_z, cq_M_runScript, Nat.reduceAdd, Nat.zero_le, Nat.reduceLeDiff, ar_lit, ar_le, ar_sub, efs, pk_mul]
          rw [if_neg (by omega)]
          refine s_M_tenTo (by omega) (by omega) ?_
          rw [tt_pw f (by omega)]
          simp only [am_z, Nat.reduceAdd, Nat.zero_le, Nat.reduceLeDiff]
          refine rn_M_runScript 40 ?_
          simp (disch := omega) only [am_z, cq_M_runScript, Nat.reduceAdd, Nat.zero_le, Nat.reduceLeDiff, ar_lit, lc_z.1, lc_z.2.1, lc_z.2.2, lN_nz tlf.2 tlf.1, not_false_eq_true, pk_lDiv hz63 tlf.2 tlf.1, pk_lRem hg, show ∀ m, (lN m).toInt32 = nI m from fun m => Int64.toInt32_ofNat']
          refine s_M_does (by omega) (Nat.mod_lt _ (by omega)) hr hw (fun I3 f3 r3 => ?_)
          have hw3 : tW ((tdo (z / 100000 ^ f % 100000) q).getD q) := by
            cases e : tdo (z / 100000 ^ f % 100000) q with
            | none => exact hw
            | some q' => exact tdo_w hw e
          have h3 := h'.fr f3 (by simp) (by simp)
          have hfr3 := hfr.tr (f3.toM (by simp))
          have e3 := (f3.f9 (t := 0) (k := 0) (by simp) (by simp)).trans e'
          cases e : tdo (z / 100000 ^ f % 100000) q with
          | none =>
            rw [e] at es
            have kk := k I3 hfr3 h3 e3
            simp only at kk
            rw [← he, es] at kk
            simp only [Option.isSome_none]
            simp only [am_z, Nat.reduceAdd, Nat.zero_le, Nat.reduceLeDiff]
            refine rn_M_runScript 40 ?_
            simp (disch := omega) only [am_z, cq_M_runScript, Nat.reduceAdd, Nat.zero_le, Nat.reduceLeDiff, ar_lit, b01, Bool.false_eq_true, ↓reduceIte]
            exact kk
          | some q' =>
            rw [e] at es hw3 r3
            rw [es] at he
            simp only [Option.isSome_some]
            simp only [am_z, Nat.reduceAdd, Nat.zero_le, Nat.reduceLeDiff]
            refine rn_M_runScript 40 ?_
            simp (disch := omega) only [am_z, cq_M_runScript, Nat.reduceAdd, Nat.zero_le, Nat.reduceLeDiff, ar_lit, b01, Bool.false_eq_true, ↓reduceIte, ar_eq, Nat.reduceEqDiff, nI_add]
            rw [show j - (f + 1) + 1 = j - f by omega]
            exact @ih q' I3 (by omega) hfr3 h3 e3 r3 hw3 he
      simp only [am_z, Nat.reduceAdd, Nat.zero_le, Nat.reduceLeDiff]
      refine rn_M_runScript 20 ?_
      simp (disch := omega) only [am_z, cq_M_runScript, Nat.reduceAdd, Nat.zero_le, Nat.reduceLeDiff, ar_lit]
      have := @loop j s.2.1 I2 (Nat.le_refl _) (f1.m0.tr (f2.toM (by simp))) h2 ((f2.f9 (by simp) (by simp)).trans e1) r2 hw rfl
      rw [Nat.sub_self] at this
      exact this
    · rw [decide_eq_false q2]
      simp only [am_z, Nat.reduceAdd, Nat.zero_le, Nat.reduceLeDiff]
      refine rn_M_runScript 40 ?_
      simp (disch := omega) only [am_z, cq_M_runScript, Nat.reduceAdd, Nat.zero_le, Nat.reduceLeDiff, ar_lit, b01, Bool.false_eq_true, ↓reduceIte]
      refine s_M_refN (by omega) (by omega) (by omega) (fun I1 f1 e1 => ?_)
      simp only [am_z, Nat.reduceAdd, Nat.zero_le, Nat.reduceLeDiff]
      refine rn_M_runScript 20 ?_
      simp (disch := omega) only [am_z, cq_M_runScript, Nat.reduceAdd, Nat.zero_le, Nat.reduceLeDiff, ar_lit, ar_eq, Nat.reduceEqDiff, ↓reduceIte]
      refine bad I1 f1 e1 (fun z => q2 ?_)
      have h0 : t.toInt.toNat < 100000 ^ j := by
        have := (Nat.div_eq_zero_iff_lt tl.2).mp z.2.2
        exact this
      omega
  · rw [decide_eq_false q]
    simp only [am_z, Nat.reduceAdd, Nat.zero_le, Nat.reduceLeDiff]
    refine rn_M_runScript 40 ?_
    simp (disch := omega) only [am_z, cq_M_runScript, Nat.reduceAdd, Nat.zero_le, Nat.reduceLeDiff, ar_lit, b01, Bool.false_eq_true, ↓reduceIte]
    refine s_M_refN (by omega) (by omega) (by omega) (fun I1 f1 e1 => ?_)
    simp only [am_z, Nat.reduceAdd, Nat.zero_le, Nat.reduceLeDiff]
    refine rn_M_runScript 20 ?_
    simp (disch := omega) only [am_z, cq_M_runScript, Nat.reduceAdd, Nat.zero_le, Nat.reduceLeDiff, ar_lit, ar_eq, Nat.reduceEqDiff, ↓reduceIte]
    exact bad I1 f1 e1 (fun z => q z.1)
theorem s_M_round {r : Nat} (hD : 4 ≤ D) (h : rF (I (28, 0)) p) (hw : tW p) (h31 : r < 2 ^ 31) (k : ∀ I', fM [28] [] I I' → rF (I' (28, 0)) (tplay p r) → P (.inl none) am_G0 I' J) : am_T l D y_M_round [vR (9, 0), vI (nI r)] am_G0 I J P := by
  obtain ⟨d, rfl⟩ : ∃ d, D = d + 1 := ⟨D - 1, by omega⟩
  have hn := hw.2.2.2.2.1
  have d4 : nI r / nI 4 = nI (r / 4) := pk_div (by omega) (by omega) (by omega)
  have d32 : nI r / nI 32 = nI (r / 32) := pk_div (by omega) (by omega) (by omega)
  have m3 : r % 3 < 3 := Nat.mod_lt _ (by omega)
  unfold tplay at k
  by_cases r0 : r % 3 = 0
  · rw [if_pos r0] at k
    by_cases n24 : tn p < 24
    · rw [if_pos n24] at k
      refine en_M_round 60 (Nat.le_of_ble_eq_true rfl) ?_
      simp (disch := omega) only [am_z, cq_M_round, Nat.reduceAdd, Nat.zero_le, Nat.reduceLeDiff, ar_lit, ar_in, ar_cl, h.1.2.1, ar_mod, ar_eq, Nat.reduceEqDiff, not_false_eq_true, if_pos r0, ar_le, if_neg (show ¬ 24 ≤ tn p by omega), d4, d32, nI_add, Nat.reduceLT, am_tt]
      refine s_M_addTo (by omega) isU_28 h n24 (fun I2 f2 r2 => ?_)
      simp only [am_z, Nat.reduceAdd, Nat.zero_le, Nat.reduceLeDiff]
      refine rn_M_round 20 ?_
      simp (disch := omega) only [am_z, cq_M_round, Nat.reduceAdd, Nat.zero_le, Nat.reduceLeDiff, ar_lit]
      exact k I2 f2 r2
    · rw [if_neg n24] at k
      have : tn p = 24 := by omega
      refine en_M_round 60 (Nat.le_of_ble_eq_true rfl) ?_
      simp (disch := omega) only [am_z, cq_M_round, Nat.reduceAdd, Nat.zero_le, Nat.reduceLeDiff, ar_lit, ar_in, ar_cl, h.1.2.1, ar_mod, ar_eq, Nat.reduceEqDiff, not_false_eq_true, r0, ar_le, this, ↓reduceIte, Nat.reduceLT, am_tt, Nat.le_refl]
      exact k I fM.rf h
  · rw [if_neg r0] at k
    by_cases n0 : tn p = 0
    · rw [if_pos n0] at k
      have kk := k I fM.rf h
      refine en_M_round 60 (Nat.le_of_ble_eq_true rfl) ?_
      simp (disch := omega) only [am_z, cq_M_round, Nat.reduceAdd, Nat.zero_le, Nat.reduceLeDiff, ar_lit, ar_in, ar_cl, h.1.2.1, ar_mod, ar_eq, Nat.reduceEqDiff, not_false_eq_true, if_neg r0, n0, ar_le, Nat.le_refl, ↓reduceIte, Nat.reduceLT, am_tt, ite_self]
      exact kk
    · rw [if_neg n0] at k
      have hm : r / 4 % tn p < tn p := Nat.mod_lt _ (by omega)
      by_cases r1 : r % 3 = 1
      · rw [if_pos r1] at k
        have hb : tK p (r / 4 % tn p) ≤ 1 := (hw.row hm).2.2.2.1
        obtain ⟨_, _, g3, _⟩ := h.2.2.1 _ hm
        have n0' : ¬ tn p ≤ 0 := by omega
        have b197 : 11 + 7 * (r / 4 % tn p) + 2 < 197 := by omega
        refine en_M_round 60 (Nat.le_of_ble_eq_true rfl) ?_
        simp (disch := omega) only [am_z, cq_M_round, Nat.reduceAdd, Nat.zero_le, Nat.reduceLeDiff, ar_lit, ar_in, ar_cl, h.1.2.1, ar_mod, ar_eq, Nat.reduceEqDiff, not_false_eq_true, if_neg r0, if_pos r1, ar_le, if_neg n0', n0, d4, Nat.reduceLT, am_tt]
        refine s_M_cell (by omega) ?_
        simp only [am_z, Nat.reduceAdd, Nat.zero_le, Nat.reduceLeDiff]
        refine rn_M_round 60 ?_
        simp (disch := omega) only [am_z, cq_M_round, Nat.reduceAdd, Nat.zero_le, Nat.reduceLeDiff, ar_lit, ar_mod, ar_eq, Nat.reduceEqDiff, not_false_eq_true, n0, d4, am_tt]
        refine s_M_cell (by omega) ?_
        simp only [am_z, Nat.reduceAdd, Nat.zero_le, Nat.reduceLeDiff]
        refine rn_M_round 60 ?_
        simp (disch := omega) only [am_z, cq_M_round, Nat.reduceAdd, Nat.zero_le, Nat.reduceLeDiff, ar_lit, ar_in, ar_cl, g3, ar_sub]
        refine ⟨b197, b197, ?_⟩
        refine k _ (fM.rf.up (Or.inl (by simp))) ?_
        rw [am_uE]
        exact h.setK hw hm
      · rw [if_neg r1] at k
        have r2 : r % 3 = 2 := by omega
        have n0' : ¬ tn p ≤ 0 := by omega
        refine en_M_round 60 (Nat.le_of_ble_eq_true rfl) ?_
        simp (disch := omega) only [am_z, cq_M_round, Nat.reduceAdd, Nat.zero_le, Nat.reduceLeDiff, ar_lit, ar_in, ar_cl, h.1.2.1, ar_mod, ar_eq, Nat.reduceEqDiff, not_false_eq_true, if_neg r0, if_neg r1, if_pos r2, ar_le, if_neg n0', n0, d4, Nat.reduceLT, am_tt]
        refine s_M_dropRow (by omega) isU_28 h hw hm (fun I2 f2 r2 => ?_)
        simp only [am_z, Nat.reduceAdd, Nat.zero_le, Nat.reduceLeDiff]
        refine rn_M_round 20 ?_
        simp (disch := omega) only [am_z, cq_M_round, Nat.reduceAdd, Nat.zero_le, Nat.reduceLeDiff, ar_lit]
        exact k I2 f2 r2
theorem s_M_simulate {x : Int64} {m : Int32} (hD : 9 ≤ D) (h : sm I s) (k : mk P J I (q_simulate s.2.1 x m, s)) : am_T l D y_M_simulate [vR (9, 0), vL x, vI m] am_G0 I J P := by
  obtain ⟨d, rfl⟩ : ∃ d, D = d + 1 := ⟨D - 1, by omega⟩
  have hw := h.w
  unfold q_simulate at k
  refine en_M_simulate 20 (Nat.le_of_ble_eq_true rfl) ?_
  simp (disch := omega) only [am_z, cq_M_simulate, Nat.reduceAdd, Nat.zero_le, Nat.reduceLeDiff, ar_lit]
  refine s_M_inL (lo := 1) (hi := 99) (by omega) (i64_i m) (by decide +kernel) (by decide +kernel) ?_
  by_cases q : 1 ≤ m.toInt ∧ m.toInt ≤ 99
  · rw [if_pos q] at k
    rw [decide_eq_true q]
    have en : m = nI m.toInt.toNat := ar_nat (by omega)
    have hb : m.toInt.toNat < 100 ∧ 0 < m.toInt.toNat := by omega
    generalize m.toInt.toNat = j at en hb k
    subst en
    simp only [am_z, Nat.reduceAdd, Nat.zero_le, Nat.reduceLeDiff]
    refine rn_M_simulate 20 ?_
    simp (disch := omega) only [am_z, cq_M_simulate, Nat.reduceAdd, Nat.zero_le, Nat.reduceLeDiff, ar_lit, b01, Bool.false_eq_true, ↓reduceIte, ar_eq, Nat.reduceEqDiff]
    refine s_M_ref0 (by omega) (fun I1 f1 e1 => ?_)
    have h1 := h.r0 f1
    simp only [am_z, Nat.reduceAdd, Nat.zero_le, Nat.reduceLeDiff]
    refine rn_M_simulate 20 ?_
    simp (disch := omega) only [am_z, cq_M_simulate, Nat.reduceAdd, Nat.zero_le, Nat.reduceLeDiff, ar_lit, ↓reduceIte]
    refine s_M_begin (by omega) h1 (fun I2 f2 r2 => ?_)
    have h2 := h1.fr f2 (by simp) (by simp)
    have loop : ∀ f i y q I', i + f = j → am_fr isM I I' → sm I' s → I' (9, 0) 0 = nI 0 → rF (I' (28, 0)) q → tW q → tsim snx f y q = tsim snx j x s.2.1 → am_X l (0, fun _ => 0) (d + 1) y_M_simulate P 36 [some (vR (9, 0)), some (vL x), none, some (vI (nI j)), some (vL y), none, some (vI (nI i)), none] [] 0 0 am_G0 I' J := by
      intro f
      induction f with
      | zero =>
        intro i y q I' hf hfr h' e' hr hw he
        have he : q = tsim snx j x s.2.1 := he
        subst he
        refine rn_M_simulate 40 ?_
        simp (disch := omega) only [am_z, cq_M_simulate, Nat.reduceAdd, Nat.zero_le, Nat.reduceLeDiff, ar_lit, ar_le]
        rw [if_pos (by omega)]
        refine s_M_lay (by omega) isU_28 hr hw (fun I3 f3 l3 => ?_)
        have h3 := h'.rL f3
        have r3 : rF (I3 (28, 0)) (tsim snx j x s.2.1) := hr.fM f3 (by simp) (by omega)
        have kk := k I3 (hfr.tr f3.mL) h3 (f3.l0.trans e')
        have hov := tov_le (tpg (tsim snx j x s.2.1) (tP (tsim snx j x s.2.1)))
        have hlen := tpg_len (p := tsim snx j x s.2.1) (h := tP (tsim snx j x s.2.1))
        simp only [am_z, Nat.reduceAdd, Nat.zero_le, Nat.reduceLeDiff]
        refine rn_M_simulate 40 ?_
        simp (disch := omega) only [am_z, cq_M_simulate, Nat.reduceAdd, Nat.zero_le, Nat.reduceLeDiff, ar_lit]
        refine s_M_overfull (by omega) isU_28 r3 hw l3 ?_
        simp only at kk
        by_cases q9 : tov (tpg (tsim snx j x s.2.1) (tP (tsim snx j x s.2.1))) ≤ 9
        · rw [Nat.min_eq_left q9] at kk
          simp only [am_z, Nat.reduceAdd, Nat.zero_le, Nat.reduceLeDiff]
          refine rn_M_simulate 60 ?_
          simp (disch := omega) only [am_z, cq_M_simulate, Nat.reduceAdd, Nat.zero_le, Nat.reduceLeDiff, ar_lit, ar_le, if_pos q9, pk_mul, nI_add, ar_in, ar_cl, r3.1.2.1, Nat.reduceLT, am_tt]
          exact kk
        · rw [Nat.min_eq_right (by omega)] at kk
          simp only [am_z, Nat.reduceAdd, Nat.zero_le, Nat.reduceLeDiff]
          refine rn_M_simulate 60 ?_
          simp (disch := omega) only [am_z, cq_M_simulate, Nat.reduceAdd, Nat.zero_le, Nat.reduceLeDiff, ar_lit, ar_le, if_neg q9, pk_mul, nI_add, ar_in, ar_cl, r3.1.2.1, Nat.reduceLT, am_tt]
          exact kk
      | succ f ih =>
        intro i y q I' hf hfr h' e' hr hw he
        refine rn_M_simulate 40 ?_
        simp (disch := omega) only [am_z, cq_M_simulate, Nat.reduceAdd, Nat.zero_le, Nat.reduceLeDiff, ar_lit, ar_le, srn_eq]
        rw [if_neg (by omega)]
        refine s_M_round (by omega) hr hw (srn_lt _) (fun I3 f3 r3 => ?_)
        have w3 := tplay_w hw (srn (snx y))
        have h3 := h'.fr f3 (by simp) (by simp)
        rw [tsim_s] at he
        simp only [am_z, Nat.reduceAdd, Nat.zero_le, Nat.reduceLeDiff]
        refine rn_M_simulate 40 ?_
        simp (disch := omega) only [am_z, cq_M_simulate, Nat.reduceAdd, Nat.zero_le, Nat.reduceLeDiff, ar_lit, nI_add]
        exact @ih (i + 1) (snx y) _ I3 (by omega) (hfr.tr (f3.toM (by simp))) h3 ((f3.f9 (by simp) (by simp)).trans e') r3 w3 he
    simp only [am_z, Nat.reduceAdd, Nat.zero_le, Nat.reduceLeDiff]
    refine rn_M_simulate 40 ?_
    simp (disch := omega) only [am_z, cq_M_simulate, Nat.reduceAdd, Nat.zero_le, Nat.reduceLeDiff, ar_lit]
    exact @loop j 0 x s.2.1 I2 (by omega) (f1.m0.tr (f2.toM (by simp))) h2 ((f2.f9 (by simp) (by simp)).trans e1) r2 hw rfl
  · rw [if_neg q] at k
    rw [decide_eq_false q]
    simp only [am_z, Nat.reduceAdd, Nat.zero_le, Nat.reduceLeDiff]
    refine rn_M_simulate 20 ?_
    simp (disch := omega) only [am_z, cq_M_simulate, Nat.reduceAdd, Nat.zero_le, Nat.reduceLeDiff, ar_lit, b01, Bool.false_eq_true, ↓reduceIte]
    refine s_M_refN (by omega) (by omega) (by omega) (fun I1 f1 e1 => ?_)
    simp only [am_z, Nat.reduceAdd, Nat.zero_le, Nat.reduceLeDiff]
    refine rn_M_simulate 20 ?_
    simp (disch := omega) only [am_z, cq_M_simulate, Nat.reduceAdd, Nat.zero_le, Nat.reduceLeDiff, ar_lit, ar_eq, Nat.reduceEqDiff, ↓reduceIte]
    exact k I1 f1.m0 (h.r0 f1) e1
end RG
