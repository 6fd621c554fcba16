/-! ===== TablePager: runScript, simulate ===== -/
theorem wb_tb (n : Nat) : (lN n).toBitVec = BitVec.ofNat 64 n := rfl
theorem wb_inj {a b : Int64} (h : a.toBitVec = b.toBitVec) : a = b := Int64.toBitVec_inj.mp h
theorem wb_tn {n : Nat} (h : n < 2 ^ 64) : (lN n).toBitVec.toNat = n := by rw [wb_tb, BitVec.toNat_ofNat, Nat.mod_eq_of_lt h]
theorem wb_of (x : Int64) : ∃ n, n < 2 ^ 64 ∧ x = lN n := ⟨x.toBitVec.toNat, x.toBitVec.isLt, wb_inj (by rw [wb_tb]; simp)⟩
theorem wb_cu : ∀ k, k < 64 → ((nI k).toInt64.toUInt64 &&& Int64.toUInt64 63) = UInt64.ofNat k := by decide +kernel
theorem wb_shr {n k : Nat} (hn : n < 2 ^ 64) (hk : k < 64) : ((lN n).toUInt64 >>> ((nI k).toInt64.toUInt64 &&& Int64.toUInt64 63)).toInt64 = lN (n / 2 ^ k) := by
  rw [wb_cu k hk]
  apply wb_inj
  apply BitVec.eq_of_toNat_eq
  show ((lN n).toUInt64 >>> UInt64.ofNat k).toNat = (BitVec.ofNat 64 _).toNat
  have h1 : (UInt64.ofNat k).toNat = k := by
    show (BitVec.ofNat 64 k).toNat = k
    rw [BitVec.toNat_ofNat, Nat.mod_eq_of_lt (by omega)]
  have h2 : (lN n).toUInt64.toNat = n := wb_tn hn
  rw [UInt64.toNat_shiftRight, h1, h2, Nat.mod_eq_of_lt hk, Nat.shiftRight_eq_div_pow, BitVec.toNat_ofNat, Nat.mod_eq_of_lt (Nat.lt_of_le_of_lt (Nat.div_le_self _ _) hn)]
/-- the number that a round takes -/
def srn (x : Int64) : Nat := x.toBitVec.toNat / 2 ^ 33
theorem srn_lt (x : Int64) : srn x < 2 ^ 31 := by
  have := x.toBitVec.isLt
  unfold srn
  omega
theorem srn_eq (x : Int64) : ((x.toUInt64 >>> ((33 : Int32).toInt64.toUInt64 &&& Int64.toUInt64 63)).toInt64).toInt32 = nI (srn x) := by
  obtain ⟨n, hn, rfl⟩ := wb_of x
  have e : (33 : Int32) = nI 33 := rfl
  rw [e, wb_shr hn (by omega), show ∀ m, (lN m).toInt32 = nI m from fun m => Int64.toInt32_ofNat']
  unfold srn
  rw [wb_tn hn]
theorem lc_lt (a b : Int64) : (lg_cmp a b < nI 0) = (a < b) := by
  apply propext
  unfold lg_cmp
  simp only [gt_iff_lt, Int64.lt_iff_toInt_lt, ← Int64.toInt_inj, Int32.lt_iff_toInt_lt]
  split
  · constructor
    · intro q; exact absurd q (by decide +kernel)
    · intro q; omega
  · split
    · constructor
      · intro q; exact absurd q (by decide +kernel)
      · intro q; omega
    · constructor
      · intro q; omega
      · intro q; decide +kernel
theorem lc_ltI (a b : Int64) : ((lg_cmp a b).toInt < ((0 : Nat) : Int)) = (a < b) := by
  rw [← lc_lt, ar_ltI (by omega)]
theorem lc_eq (a b : Int64) : (lg_cmp a b = nI 0) = (a = b) := by
  apply propext
  unfold lg_cmp
  simp only [gt_iff_lt, Int64.lt_iff_toInt_lt, ← Int64.toInt_inj]
  split
  · constructor
    · intro q; exact absurd q (by decide +kernel)
    · intro q; omega
  · split
    · constructor
      · intro q; assumption
      · intro q; decide +kernel
    · constructor
      · intro q; exact absurd q (by decide +kernel)
      · intro q; contradiction
theorem lc_z : (0 : Int64) = lN 0 ∧ (100000 : Int64) = lN 100000 ∧ ((lN 100000 = lN 0) = False) := ⟨rfl, rfl, by rw [eq_iff_iff, iff_false, pk_lEQ (by omega) (by omega)]; omega⟩
theorem pw_s (z g : Nat) : z / 100000 ^ g / 100000 = z / 100000 ^ (g + 1) := by rw [Nat.div_div_eq_div_mul, Nat.pow_succ]
/-- the commands of the script z of n groups, the last f of them -/
def trun (z n : Nat) : Nat → pt_T → Int32
  | 0, _ => -999999
  | f + 1, p => match tdo (z / 100000 ^ f % 100000) p with
    | none => nI (n - (f + 1))
    | some q => trun z n f q
def q_runScript (p : pt_T) (n : Int32) (t : Int64) : Nat × Int32 := if (1 ≤ n.toInt ∧ n.toInt ≤ 3) ∧ 0 ≤ t.toInt ∧ t.toInt.toNat / 100000 ^ n.toInt.toNat = 0 then (0, trun t.toInt.toNat n.toInt.toNat n.toInt.toNat p) else (1, 0)
def snx (x : Int64) : Int64 := x * 6364136223846793005 + 1442695040888963407
def tsim (f : Int64 → Int64) : Nat → Int64 → pt_T → pt_T
  | 0, _, p => p
  | k + 1, x, p => tsim f k (f x) (tplay p (srn (f x)))
theorem tsim_s (f : Int64 → Int64) (k : Nat) (x : Int64) (p : pt_T) : tsim f (k + 1) x p = tsim f k (f x) (tplay p (srn (f x))) := rfl
theorem tsim_w (f : Int64 → Int64) : ∀ (k : Nat) (x : Int64) (p : pt_T), tW p → tW (tsim f k x p)
  | 0, _, _, h => h
  | k + 1, x, p, h => by
    rw [tsim_s]
    exact tsim_w f k (f x) _ (tplay_w h _)
def q_simulate (p : pt_T) (x : Int64) (m : Int32) : Nat × Int32 := if 1 ≤ m.toInt ∧ m.toInt ≤ 99 then (0, nI (1000 * (tpg (tsim snx m.toInt.toNat x p) (tP (tsim snx m.toInt.toNat x p))).length + 100 * min (tov (tpg (tsim snx m.toInt.toNat x p) (tP (tsim snx m.toInt.toNat x p)))) 9 + tn (tsim snx m.toInt.toNat x p))) else (1, 0)
section PB
variable {l : Launch} {D : Nat} {I : am_I} {J : am_J} {P : am_P} {s : pt_G}
theorem s_withoutGroups {G : am_G} {z g : Nat} (hD : 1 ≤ D) (hz : z < 2 ^ 63) (hg : g ≤ 3) (k : P (.inl (some (vL (lN (z / 100000 ^ g))))) G I J) : am_T l D y_P_withoutGroups [vL (lN z), vI (nI g)] G I J P := by
  obtain ⟨d, rfl⟩ : ∃ d, D = d + 1 := ⟨D - 1, by omega⟩
  have loop : ∀ m i, i + m = g → am_X l (0, fun _ => 0) (d + 1) y_P_withoutGroups P 5 [some (vL (lN z)), none, some (vI (nI g)), some (vL (lN (z / 100000 ^ i))), none, some (vI (nI i))] [] 0 0 G I J := by
    intro m
    induction m with
    | zero =>
      intro i hi
      refine rn_P_withoutGroups 20 ?_
      simp (disch := omega) only [am_z, cq_P_withoutGroups, Nat.reduceAdd, Nat.zero_le, Nat.reduceLeDiff, ar_lit, ar_le]
      rw [if_pos (by omega)]
      have : i = g := by omega
      subst this
      exact k
    | succ m ih =>
      intro i hi
      have hb : z / 100000 ^ i < 2 ^ 63 := Nat.lt_of_le_of_lt (Nat.div_le_self _ _) hz
      refine rn_P_withoutGroups 20 ?_
      simp (disch := omega) only [am_z, cq_P_withoutGroups, Nat.reduceAdd, Nat.zero_le, Nat.reduceLeDiff, ar_lit, ar_le, lc_z.1, lc_z.2.1, lc_z.2.2, not_false_eq_true, pk_lDiv hb, pw_s, nI_add]
      rw [if_neg (by omega)]
      exact @ih (i + 1) (by omega)
  refine en_P_withoutGroups 20 (Nat.le_of_ble_eq_true rfl) ?_
  simp (disch := omega) only [am_z, cq_P_withoutGroups, Nat.reduceAdd, Nat.zero_le, Nat.reduceLeDiff, ar_lit]
  have := @loop g 0 (by omega)
  rw [Nat.pow_zero, Nat.div_one] at this
  exact this
theorem st.tmp {I' : am_I} {q : pt_T} (h : st I s) (hf : am_fr (fun c => isT 17 c ∨ isY c ∨ c = (1, 0)) I I') (hr : rC I' 17 q) (hw : tW q) : st I' s := by
  have hne : ∀ c, isO c → ¬ c = (17, 17) → ¬ isT 17 c → I' c = I c := fun c hc _ n2 => hf c (fun z => by
    rcases z with z | z | z
    · exact n2 z
    · exact isO_Y hc z
    · rw [z] at hc
      rcases hc with q | q | q | q | q | q
      · simp at q
      · simp at q
      · have := q.2; simp at this
      · rcases q with q | ⟨_, _, _, q⟩
        · simp at q
        · have := q.2; simp at this
      · rcases q with q | q | q
        · simp at q
        · have := q.2; simp at this
        · have := q.2; simp at this
      · simp at q)
  obtain ⟨h1, h2, h3, h4, h5, h6⟩ := h
  refine ⟨h1.kept (hne _ (Or.inl rfl) (by simp) (isT_no (by omega))) (hne _ (Or.inr (Or.inl rfl)) (by simp) (isT_no (by omega))), h2.kept (fun c hc => hne c (Or.inr (Or.inr (Or.inl hc))) (fun e => ?_) (isT_ne (by omega) hc)), h3, h4.kept (fun c hc => hne c (Or.inr (Or.inr (Or.inr (Or.inl hc)))) (fun e => ?_) (isT_H (by omega) hc)), h5.kept (fun c hc => hne c (Or.inr (Or.inr (Or.inr (Or.inr (Or.inl hc))))) (fun e => ?_) (isT_Z (by omega) hc)), hr.v0 hw⟩
  · have := hc.1; rw [e] at this; simp at this
  · exact isT_H (t := 17) (by omega) hc (e ▸ ⟨rfl, Or.inr ⟨by simp, by simp⟩⟩)
  · exact isT_Z (t := 17) (by omega) hc (e ▸ ⟨rfl, Or.inr ⟨by simp, by simp⟩⟩)
theorem s_P_runScript {n : Int32} {t : Int64} (hD : 7 ≤ D) (h : st I s) (k : ∀ I', am_fr isC I I' → st I' s → P (ox [1] (q_runScript s.2.1 n t)) am_G0 I' J) : am_T l D y_P_runScript [vR (0, 0), vI n, vL t] am_G0 I J P := by
  obtain ⟨d, rfl⟩ : ∃ d, D = d + 1 := ⟨D - 1, by omega⟩
  have isC_1 : isC (1, 0) := Or.inl (by decide)
  unfold q_runScript at k
  by_cases q1 : n.toInt < ((1 : Nat) : Int)
  · rw [if_neg (by omega)] at k
    refine en_P_runScript 20 (by omega) (Nat.le_of_ble_eq_true rfl) ?_
    simp (disch := omega) only [am_z, cq_P_runScript, Nat.reduceAdd, Nat.zero_le, Nat.reduceLeDiff, ar_lit, ar_ltI, if_pos q1]
    exact k I am_fr.rf h
  by_cases q2 : n.toInt ≤ ((3 : Nat) : Int)
  · by_cases q3 : t < lN 0
    · have q3' : t.toInt < 0 := by rw [Int64.lt_iff_toInt_lt, pk_lT (by omega)] at q3; exact q3
      rw [if_neg (by omega)] at k
      refine en_P_runScript 20 (by omega) (Nat.le_of_ble_eq_true rfl) ?_
      simp (disch := omega) only [am_z, cq_P_runScript, Nat.reduceAdd, Nat.zero_le, Nat.reduceLeDiff, ar_lit, ar_ltI, ar_geI, if_neg q1, if_pos q2, lc_lt, lc_ltI, lc_z.1, if_pos q3]
      exact k I am_fr.rf h
    · obtain ⟨z, hz, rfl⟩ := pk_lOf q3
      have en : n = nI n.toInt.toNat := ar_nat (by omega)
      have hb : n.toInt.toNat < 4 ∧ 0 < n.toInt.toNat := by omega
      rw [pk_lT hz] at k
      rw [show (((z : Nat) : Int) : Int).toNat = z by omega] at k
      refine en_P_runScript 20 (by omega) (Nat.le_of_ble_eq_true rfl) ?_
      simp (disch := omega) only [am_z, cq_P_runScript, Nat.reduceAdd, Nat.zero_le, Nat.reduceLeDiff, ar_lit, ar_ltI, ar_geI, if_neg q1, if_pos q2, lc_lt, lc_ltI, lc_z.1, if_neg q3]
      generalize hj : n.toInt.toNat = j at en hb k
      have hnt : n.toInt = (j : Int) := by omega
      rw [hnt] at k
      subst en
      refine s_withoutGroups (by omega) hz (by omega) ?_
      have hq4 : z / 100000 ^ j < 2 ^ 63 := Nat.lt_of_le_of_lt (Nat.div_le_self _ _) hz
      by_cases q4 : z / 100000 ^ j = 0
      · rw [if_pos (by omega)] at k
        simp only [am_z, Nat.reduceAdd, Nat.zero_le, Nat.reduceLeDiff]
        refine rn_P_runScript (by omega) 20 ?_
        simp (disch := omega) only [am_z, cq_P_runScript, Nat.reduceAdd, Nat.zero_le, Nat.reduceLeDiff, ar_lit, lc_eq, lc_z.1, q4, ↓reduceIte]
        refine s_copyFrom (by omega) h.p h.w (by omega) (fun I1 f1 r1 => ?_)
        have h1 : st I1 s := h.tmp (f1.mono fun c => Or.inl) r1 h.w
        have loop : ∀ f q I' a5 a6, f ≤ j → am_fr isC I I' → st I' s → rC I' 17 q → tW q → trun z j f q = trun z j j s.2.1 → am_X l (0, fun _ => 0) (d + 1) y_P_runScript P 62 [some (vR (0, 0)), some (vI (nI j)), some (vL (lN z)), none, some (vI (nI (j - f))), a5, a6] [] 0 0 am_G0 I' J := by
          intro f
          induction f with
          | zero =>
            intro q I' a5 a6 hf hfr h' hr hw he
            have kk := k I' hfr h'
            rw [← he] at kk
            refine rn_P_runScript (by omega) 20 ?_
            simp (disch := omega) only [am_z, cq_P_runScript, Nat.reduceAdd, Nat.zero_le, Nat.reduceLeDiff, ar_lit, Nat.sub_zero, ar_le, ↓reduceIte]
            exact kk
          | succ f ih =>
            intro q I' a5 a6 hf hfr h' hr hw he
            have hg : z / 100000 ^ f < 2 ^ 63 := Nat.lt_of_le_of_lt (Nat.div_le_self _ _) hz
            refine rn_P_runScript (by omega) 40 ?_
            simp (disch := omega) only [am_z, cq_P_runScript, Nat.reduceAdd, Nat.zero_le, Nat.reduceLeDiff, ar_lit, ar_le, ar_sub]
            rw [if_neg (by omega), show j - 1 - (j - (f + 1)) = f by omega]
            refine s_withoutGroups (by omega) hz (by omega) ?_
            simp only [am_z, Nat.reduceAdd, Nat.zero_le, Nat.reduceLeDiff]
            refine rn_P_runScript (by omega) 40 ?_
            simp (disch := omega) only [am_z, cq_P_runScript, Nat.reduceAdd, Nat.zero_le, Nat.reduceLeDiff, ar_lit, lc_z.1, lc_z.2.1, lc_z.2.2, not_false_eq_true, pk_lRem hg, show ∀ m, (lN m).toInt32 = nI m from fun m => Int64.toInt32_ofNat']
            refine s_setDigits (by omega) (Nat.mod_lt _ (by omega)) (fun I2 f2 k2 => ?_)
            have r2 : rC I2 17 q := hr.kept fun c hc => f2 c (fun e => by have := hc.2; rw [e] at this; simp at this)
            have h2 := h'.tmp (f2.mono fun c hc => Or.inr (Or.inr hc)) r2 hw
            have hfr2 := hfr.tr (f2.mono fun c hc => by rw [hc]; exact isC_1)
            simp only [am_z, Nat.reduceAdd, Nat.zero_le, Nat.reduceLeDiff]
            refine rn_P_runScript (by omega) 40 ?_
            simp (disch := omega) only [am_z, cq_P_runScript, Nat.reduceAdd, Nat.zero_le, Nat.reduceLeDiff, ar_lit]
            refine s_runOn (by omega) k2 (Nat.mod_lt _ (by omega)) r2 hw (fun I3 f3 r3 => ?_)
            have hw3 : tW ((tdo (z / 100000 ^ f % 100000) q).getD q) := by
              cases e : tdo (z / 100000 ^ f % 100000) q with
              | none => exact hw
              | some q' => exact tdo_w hw e
            have h3 := h2.tmp (f3.mono fun c hc => hc.elim Or.inl (fun z => Or.inr (Or.inl z))) r3 hw3
            have hfr3 := hfr2.tr (f3.mono fun c hc => hc.elim isC_T isC_Y)
            have es : trun z j (f + 1) q = match tdo (z / 100000 ^ f % 100000) q with
              | none => nI (j - (f + 1))
              | some q => trun z j f q := rfl
            cases e : tdo (z / 100000 ^ f % 100000) q with
            | none =>
              rw [e] at es
              have kk := k I3 hfr3 h3
              rw [← he, es] at kk
              simp only [Option.isSome_none]
              simp only [am_z, Nat.reduceAdd, Nat.zero_le, Nat.reduceLeDiff]
              refine rn_P_runScript (by omega) 40 ?_
              simp (disch := omega) only [am_z, cq_P_runScript, Nat.reduceAdd, Nat.zero_le, Nat.reduceLeDiff, ar_lit, b01, Bool.false_eq_true, ↓reduceIte]
              exact kk
            | some q' =>
              rw [e] at es hw3 r3
              rw [es] at he
              simp only [Option.isSome_some]
              simp only [am_z, Nat.reduceAdd, Nat.zero_le, Nat.reduceLeDiff]
              refine rn_P_runScript (by omega) 40 ?_
              simp (disch := omega) only [am_z, cq_P_runScript, Nat.reduceAdd, Nat.zero_le, Nat.reduceLeDiff, ar_lit, b01, Bool.false_eq_true, ↓reduceIte, ar_eq, Nat.reduceEqDiff, nI_add]
              rw [show j - (f + 1) + 1 = j - f by omega]
              exact @ih q' I3 _ _ (by omega) hfr3 h3 r3 hw3 he
        simp only [am_z, Nat.reduceAdd, Nat.zero_le, Nat.reduceLeDiff]
        refine rn_P_runScript (by omega) 20 ?_
        simp (disch := omega) only [am_z, cq_P_runScript, Nat.reduceAdd, Nat.zero_le, Nat.reduceLeDiff, ar_lit]
        have := @loop j s.2.1 I1 none none (Nat.le_refl _) (f1.mono fun c => isC_T) h1 r1 h.w rfl
        rw [Nat.sub_self] at this
        exact this
      · rw [if_neg (by omega)] at k
        simp only [am_z, Nat.reduceAdd, Nat.zero_le, Nat.reduceLeDiff]
        refine rn_P_runScript (by omega) 20 ?_
        simp (disch := omega) only [am_z, cq_P_runScript, Nat.reduceAdd, Nat.zero_le, Nat.reduceLeDiff, ar_lit, lc_eq, lc_z.1, pk_lEQ hq4]
        rw [if_neg q4]
        exact k I am_fr.rf h
  · rw [if_neg (by omega)] at k
    refine en_P_runScript 20 (by omega) (Nat.le_of_ble_eq_true rfl) ?_
    simp (disch := omega) only [am_z, cq_P_runScript, Nat.reduceAdd, Nat.zero_le, Nat.reduceLeDiff, ar_lit, ar_ltI, ar_geI, if_neg q1, if_neg q2]
    exact k I am_fr.rf h
theorem s_P_simulate {x : Int64} {m : Int32} (hD : 7 ≤ D) (h : st I s) (k : ∀ I', am_fr isC I I' → st I' s → P (ox [1] (q_simulate s.2.1 x m)) am_G0 I' J) : am_T l D y_P_simulate [vR (0, 0), vL x, vI m] am_G0 I J P := by
  obtain ⟨d, rfl⟩ : ∃ d, D = d + 1 := ⟨D - 1, by omega⟩
  unfold q_simulate at k
  by_cases q1 : m.toInt < ((1 : Nat) : Int)
  · rw [if_neg (by omega)] at k
    refine en_P_simulate 20 (by omega) (Nat.le_of_ble_eq_true rfl) ?_
    simp (disch := omega) only [am_z, cq_P_simulate, Nat.reduceAdd, Nat.zero_le, Nat.reduceLeDiff, ar_lit, ar_ltI, if_pos q1]
    exact k I am_fr.rf h
  by_cases q2 : m.toInt ≤ ((99 : Nat) : Int)
  · have en : m = nI m.toInt.toNat := ar_nat (by omega)
    have hb : m.toInt.toNat < 100 ∧ 0 < m.toInt.toNat := by omega
    rw [if_pos (by omega)] at k
    refine en_P_simulate 20 (by omega) (Nat.le_of_ble_eq_true rfl) ?_
    simp (disch := omega) only [am_z, cq_P_simulate, Nat.reduceAdd, Nat.zero_le, Nat.reduceLeDiff, ar_lit, ar_ltI, ar_geI, if_neg q1, if_pos q2]
    generalize m.toInt.toNat = j at en hb k
    subst en
    refine s_copyFrom (by omega) h.p h.w (by omega) (fun I1 f1 r1 => ?_)
    have h1 : st I1 s := h.tmp (f1.mono fun c => Or.inl) r1 h.w
    have loop : ∀ f i y q I', i + f = j → am_fr isC I I' → st I' s → rC I' 17 q → tW q → tsim snx f y q = tsim snx j x s.2.1 → am_X l (0, fun _ => 0) (d + 1) y_P_simulate P 39 [some (vR (0, 0)), some (vL x), none, some (vI (nI j)), some (vL y), none, some (vI (nI i))] [] 0 0 am_G0 I' J := by
      intro f
      induction f with
      | zero =>
        intro i y q I' hf hfr h' hr hw he
        have he : q = tsim snx j x s.2.1 := he
        subst he
        have hP := hw.2.1.2
        refine rn_P_simulate (by omega) 40 ?_
        simp (disch := omega) only [am_z, cq_P_simulate, Nat.reduceAdd, Nat.zero_le, Nat.reduceLeDiff, ar_lit, ar_le, hr.1.2.2.2.1]
        rw [if_pos (by omega)]
        refine s_lay (by omega) hr hw (by omega) (fun I2 f2 l2 => ?_)
        have h2 := h'.frY f2
        have r2 : rC I2 17 (tsim snx j x s.2.1) := hr.fr f2 (fun c => isY_t)
        have hov := tov_le (tpg (tsim snx j x s.2.1) (tP (tsim snx j x s.2.1)))
        have hlen := tpg_len (p := tsim snx j x s.2.1) (h := tP (tsim snx j x s.2.1))
        have em : (if nI 9 < nI (tov (tpg (tsim snx j x s.2.1) (tP (tsim snx j x s.2.1)))) then nI 9 else nI (tov (tpg (tsim snx j x s.2.1) (tP (tsim snx j x s.2.1))))) = nI (min (tov (tpg (tsim snx j x s.2.1) (tP (tsim snx j x s.2.1)))) 9) := by
          simp (disch := omega) only [ar_lt]
          split
          · rw [Nat.min_eq_right (by omega)]
          · rw [Nat.min_eq_left (by omega)]
        simp only [am_z, Nat.reduceAdd, Nat.zero_le, Nat.reduceLeDiff]
        refine rn_P_simulate (by omega) 40 ?_
        simp (disch := omega) only [am_z, cq_P_simulate, Nat.reduceAdd, Nat.zero_le, Nat.reduceLeDiff, ar_lit, l2.1, l2.2.1, r2.1.2.1, em, pk_mul, nI_add, List.length_cons, List.length_nil]
        exact k I2 (hfr.tr (f2.mono fun c => isC_Y)) h2
      | succ f ih =>
        intro i y q I' hf hfr h' hr hw he
        refine rn_P_simulate (by omega) 40 ?_
        simp (disch := omega) only [am_z, cq_P_simulate, Nat.reduceAdd, Nat.zero_le, Nat.reduceLeDiff, ar_lit, ar_le, srn_eq]
        rw [if_neg (by omega)]
        refine s_playRound (by omega) hr hw (srn_lt _) (fun I2 f2 r2 => ?_)
        have w2 := tplay_w hw (srn (snx y))
        have h2 := h'.tmp (f2.mono fun c hc => Or.inl hc) r2 w2
        rw [tsim_s] at he
        simp only [am_z, Nat.reduceAdd, Nat.zero_le, Nat.reduceLeDiff]
        refine rn_P_simulate (by omega) 40 ?_
        simp (disch := omega) only [am_z, cq_P_simulate, Nat.reduceAdd, Nat.zero_le, Nat.reduceLeDiff, ar_lit, nI_add]
        exact @ih (i + 1) (snx y) _ I2 (by omega) (hfr.tr (f2.mono fun c => isC_T)) h2 r2 w2 he
    simp only [am_z, Nat.reduceAdd, Nat.zero_le, Nat.reduceLeDiff]
    refine rn_P_simulate (by omega) 40 ?_
    simp (disch := omega) only [am_z, cq_P_simulate, Nat.reduceAdd, Nat.zero_le, Nat.reduceLeDiff, ar_lit]
    exact @loop j 0 x s.2.1 I1 (by omega) (f1.mono fun c => isC_T) h1 r1 h.w rfl
  · rw [if_neg (by omega)] at k
    refine en_P_simulate 20 (by omega) (Nat.le_of_ble_eq_true rfl) ?_
    simp (disch := omega) only [am_z, cq_P_simulate, Nat.reduceAdd, Nat.zero_le, Nat.reduceLeDiff, ar_lit, ar_ltI, ar_geI, if_neg q1, if_neg q2]
    exact k I am_fr.rf h
end PB
