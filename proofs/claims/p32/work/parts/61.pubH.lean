/-! ===== TablePager: richest, heightFor, evenest, evenCut, emptyFrom, save, restore ===== -/
/-- the best of k pages, and its sum -/
def trch (p : pt_T) (L : List pt_P) (c : Nat) : Nat → Option (Nat × Int)
  | 0 => none
  | k + 1 => match trch p L c k with
    | none => some (k, tsum p (pgA L k).1 ((pgA L k).2.1 + 1) c)
    | some x => if x.2 < tsum p (pgA L k).1 ((pgA L k).2.1 + 1) c then some (k, tsum p (pgA L k).1 ((pgA L k).2.1 + 1) c) else some x
def q_richest (p : pt_T) (c : Int32) : Nat × Int32 := match tix (tC p) c with
  | none => (1, 0)
  | some j => (0, lv ((trch p (tpg p (tP p)) j (tpg p (tP p)).length).map Prod.fst))
def thf (p : pt_T) (n : Nat) : Nat → Nat → Int32
  | 0, _ => -999999
  | f + 1, h => if (tpg p h).length ≤ n ∧ tov (tpg p h) = 0 then nI h else thf p n f (h + 1)
def q_heightFor (p : pt_T) (n : Int32) : Nat × Int32 := if 1 ≤ n.toInt ∧ n.toInt ≤ 24 then (0, thf p n.toInt.toNat 35 6) else (1, 0)
def q_evenest (p : pt_T) : Nat × Int32 := (0, nI ((tdp p (tn p)).1 0))
def q_evenCut (p : pt_T) (i : Int32) : Nat × Int32 := if 0 ≤ i.toInt then (0, lv (tcl (tdp p (tn p)).2 (tn p) 24 i.toInt.toNat 0)) else (1, 0)
def q_emptyFrom (p : pt_T) (r : Int32) : Nat × Int32 := match tix (tn p) r with
  | none => (1, 0)
  | some i => (0, tem p i)
def q_save (s : pt_G) (a : Int32) : (Nat × Int32) × pt_G := match tix 2 a with
  | none => ((1, 0), s)
  | some i => ((0, nI (tn s.2.1)), (s.1, s.2.1, s.2.2.1, fun j => if j = i then some s.2.1 else s.2.2.2 j))
def q_restore (s : pt_G) (a : Int32) : (Nat × Int32) × pt_G := match tix 2 a with
  | none => ((1, 0), s)
  | some i => match s.2.2.2 i with
    | none => ((2, 0), s)
    | some q => ((0, nI (tn q)), (s.1, q, [], s.2.2.2))
theorem sumZ_le (f : Nat → Int) (B : Nat) : ∀ n, (∀ k, k < n → -(B : Int) ≤ f k ∧ f k ≤ B) → -((B * n : Nat) : Int) ≤ sumZ f n ∧ sumZ f n ≤ ((B * n : Nat) : Int)
  | 0, _ => by simp [sumZ]
  | n + 1, h => by
    have h1 := sumZ_le f B n (fun k hk => h k (by omega))
    have h2 := h n (by omega)
    show -((B * (n + 1) : Nat) : Int) ≤ sumZ f n + f n ∧ sumZ f n + f n ≤ ((B * (n + 1) : Nat) : Int)
    rw [Nat.mul_succ]
    omega
theorem tsum_le {p : pt_T} (hw : tW p) {a b c : Nat} (hab : a ≤ b) (hb : b ≤ tn p) : -2376 ≤ tsum p a b c ∧ tsum p a b c ≤ 2376 := by
  have h24 := hw.2.2.2.2.1
  have := sumZ_le (fun i => tA p (a + i) c) 99 (b - a) (fun i hi => (hw.row (r := a + i) (by omega)).2.2.2.2 c)
  unfold tsum
  omega
theorem trch_s (p : pt_T) (L : List pt_P) (c k : Nat) : trch p L c (k + 1) = match trch p L c k with
    | none => some (k, tsum p (pgA L k).1 ((pgA L k).2.1 + 1) c)
    | some x => if x.2 < tsum p (pgA L k).1 ((pgA L k).2.1 + 1) c then some (k, tsum p (pgA L k).1 ((pgA L k).2.1 + 1) c) else some x := rfl
theorem trch_le {p : pt_T} {h c : Nat} (hw : tW p) : ∀ k, k ≤ (tpg p h).length → ∀ x, trch p (tpg p h) c k = some x → x.1 < k ∧ -2376 ≤ x.2 ∧ x.2 ≤ 2376
  | 0, _, x, e => by cases e
  | k + 1, hk, x, e => by
    obtain ⟨b1, b2, _⟩ := tpg_at (p := p) (h := h) k (by omega)
    have hs := tsum_le hw (a := (pgA (tpg p h) k).1) (b := (pgA (tpg p h) k).2.1 + 1) (c := c) (by omega) (by omega)
    rw [trch_s] at e
    cases e2 : trch p (tpg p h) c k with
    | none =>
      rw [e2] at e
      cases e
      exact ⟨by simp, hs⟩
    | some y =>
      rw [e2] at e
      simp only at e
      obtain ⟨g1, g2⟩ := trch_le hw k (by omega) y e2
      split at e
      · cases e
        exact ⟨by simp, hs⟩
      · cases e
        exact ⟨by omega, g2⟩
section PB
variable {l : Launch} {D : Nat} {I : am_I} {J : am_J} {P : am_P} {s : pt_G}
theorem s_P_richest {c : Int32} (hD : 7 ≤ D) (h : st I s) (k : ∀ I', am_fr isC I I' → st I' s → P (ox [3] (q_richest s.2.1 c)) am_G0 I' J) : am_T l D y_P_richest [vR (0, 0), vI c] am_G0 I J P := by
  obtain ⟨d, rfl⟩ : ∃ d, D = d + 1 := ⟨D - 1, by omega⟩
  have hp := h.p
  have hw := h.w
  have h24 := hw.2.2.2.2.1
  have h4 := hw.1.2
  have hlen := tpg_len (p := s.2.1) (h := tP s.2.1)
  unfold q_richest at k
  refine en_P_richest 20 (Nat.le_of_ble_eq_true rfl) ?_
  simp (disch := omega) only [am_z, cq_P_richest, Nat.reduceAdd, Nat.zero_le, Nat.reduceLeDiff, ar_lit]
  refine s_requireColumn (by omega) hp hw (fun hx => ?_) (fun j hj ec => ?_)
  · rw [tix_x (by omega) hx] at k
    simp only [am_z, Nat.reduceAdd, Nat.zero_le, Nat.reduceLeDiff]
    exact k I am_fr.rf h
  · rw [tix_i ec hj (by omega)] at k
    subst ec
    simp only at k
    simp only [am_z, Nat.reduceAdd, Nat.zero_le, Nat.reduceLeDiff]
    refine rn_P_richest 20 ?_
    simp (disch := omega) only [am_z, cq_P_richest, Nat.reduceAdd, Nat.zero_le, Nat.reduceLeDiff, ar_lit]
    refine s_layOut (by omega) hp hw (fun I' hf hl => ?_)
    have h' := h.frY hf
    have kk := k I' (hf.mono fun c => isC_Y) h'
    have loop : ∀ m i b g a5, i + m = (tpg s.2.1 (tP s.2.1)).length → b = lv ((trch s.2.1 (tpg s.2.1 (tP s.2.1)) j i).map Prod.fst) → g = iI (((trch s.2.1 (tpg s.2.1 (tP s.2.1)) j i).map Prod.snd).getD 0) → am_X l (0, fun _ => 0) (d + 1) y_P_richest P 17 [some (vR (0, 0)), some (vI (nI j)), some (vI b), some (vI g), some (vI (nI i)), a5] [] 1 6 am_G0 I' J := by
      intro m
      induction m with
      | zero =>
        intro i b g a5 hi hb hg
        refine rn_P_richest 20 ?_
        simp (disch := omega) only [am_z, cq_P_richest, Nat.reduceAdd, Nat.zero_le, Nat.reduceLeDiff, ar_lit, hl.1, ar_le]
        rw [if_pos (by omega)]
        have : i = (tpg s.2.1 (tP s.2.1)).length := by omega
        subst this
        rw [hb]
        exact kk
      | succ m ih =>
        intro i b g a5 hi hb hg
        have hil : i < (tpg s.2.1 (tP s.2.1)).length := by omega
        obtain ⟨b1, b2, _⟩ := tpg_at (p := s.2.1) (h := tP s.2.1) i hil
        have hs := tsum_le hw (a := (pgA (tpg s.2.1 (tP s.2.1)) i).1) (b := (pgA (tpg s.2.1 (tP s.2.1)) i).2.1 + 1) (c := j) (by omega) (by omega)
        have es := trch_s s.2.1 (tpg s.2.1 (tP s.2.1)) j i
        have hle := trch_le hw (c := j) i (Nat.le_of_lt hil)
        refine rn_P_richest 20 ?_
        simp (disch := omega) only [am_z, cq_P_richest, Nat.reduceAdd, Nat.zero_le, Nat.reduceLeDiff, ar_lit, hl.1, ar_le]
        rw [if_neg (by omega)]
        refine s_firstOf (by omega) hl hil ?_
        simp only [am_z, Nat.reduceAdd, Nat.zero_le, Nat.reduceLeDiff]
        refine rn_P_richest 20 ?_
        simp (disch := omega) only [am_z, cq_P_richest, Nat.reduceAdd, Nat.zero_le, Nat.reduceLeDiff, ar_lit]
        refine s_lastOf (by omega) hl hlen hil ?_
        simp only [am_z, Nat.reduceAdd, Nat.zero_le, Nat.reduceLeDiff]
        refine rn_P_richest 20 ?_
        simp (disch := omega) only [am_z, cq_P_richest, Nat.reduceAdd, Nat.zero_le, Nat.reduceLeDiff, ar_lit]
        refine s_sumOfRows' (by omega) h'.p hw (by omega) b2 (by omega) ?_
        have en : (b = -999999) = ((trch s.2.1 (tpg s.2.1 (tP s.2.1)) j i).isNone = true) := by
          rw [hb, lv_none (fun z hz => ?_)]
          · rw [Option.isNone_map]
          · obtain ⟨y, hy, rfl⟩ := Option.map_eq_some_iff.mp hz
            have := (hle y hy).1
            omega
        simp only [am_z, Nat.reduceAdd, Nat.zero_le, Nat.reduceLeDiff]
        refine rn_P_richest 60 ?_
        simp (disch := omega) only [am_z, cq_P_richest, Nat.reduceAdd, Nat.zero_le, Nat.reduceLeDiff, ar_lit, en]
        cases e2 : trch s.2.1 (tpg s.2.1 (tP s.2.1)) j i with
        | none =>
          rw [e2] at es
          simp only [Option.isNone_none, ↓reduceIte, nI_add]
          refine @ih (i + 1) _ _ _ (by omega) ?_ ?_
          · rw [es]; rfl
          · rw [es]; rfl
        | some y =>
          rw [e2] at es hg
          obtain ⟨g1, g2, g3⟩ := hle y e2
          simp only at es
          have hg' : g = iI y.2 := hg
          have hb' : b = nI y.1 := by rw [hb, e2]; rfl
          simp only [Option.isNone_some, Bool.false_eq_true, ↓reduceIte, hg', iI_le (a := tsum s.2.1 (pgA (tpg s.2.1 (tP s.2.1)) i).1 ((pgA (tpg s.2.1 (tP s.2.1)) i).2.1 + 1) j) (b := y.2) (by omega) (by omega), nI_add]
          split
          · rename_i q
            rw [if_neg (by omega)] at es
            refine @ih (i + 1) _ _ _ (by omega) ?_ ?_
            · rw [es, hb']; rfl
            · rw [es]; rfl
          · rename_i q
            rw [if_pos (by omega)] at es
            refine @ih (i + 1) _ _ _ (by omega) ?_ ?_
            · rw [es]; rfl
            · rw [es]; rfl
    simp only [am_z, Nat.reduceAdd, Nat.zero_le, Nat.reduceLeDiff]
    refine rn_P_richest 20 ?_
    simp (disch := omega) only [am_z, cq_P_richest, Nat.reduceAdd, Nat.zero_le, Nat.reduceLeDiff, ar_lit]
    exact @loop _ 0 _ _ _ (Nat.zero_add _) rfl rfl
theorem s_P_heightFor {n : Int32} (hD : 7 ≤ D) (h : st I s) (k : ∀ I', am_fr isC I I' → st I' s → P (ox [1] (q_heightFor s.2.1 n)) am_G0 I' J) : am_T l D y_P_heightFor [vR (0, 0), vI n] am_G0 I J P := by
  obtain ⟨d, rfl⟩ : ∃ d, D = d + 1 := ⟨D - 1, by omega⟩
  have hw := h.w
  unfold q_heightFor at k
  refine en_P_heightFor 20 (by omega) (Nat.le_of_ble_eq_true rfl) ?_
  simp (disch := omega) only [am_z, cq_P_heightFor, Nat.reduceAdd, Nat.zero_le, Nat.reduceLeDiff, ar_lit, ar_ltI, ar_geI]
  by_cases q1 : n.toInt < 1
  · rw [if_pos (by omega)]
    rw [if_neg (by omega)] at k
    exact k I am_fr.rf h
  · rw [if_neg (by omega)]
    by_cases q2 : n.toInt ≤ 24
    · rw [if_pos (by omega)]
      rw [if_pos (by omega)] at k
      have en : n = nI n.toInt.toNat := ar_nat (by omega)
      have hb : n.toInt.toNat < 25 := by omega
      generalize n.toInt.toNat = j at en hb k
      subst en
      have loop : ∀ f hh I', hh + f = 41 → am_fr isC I I' → st I' s → thf s.2.1 j f hh = thf s.2.1 j 35 6 → am_X l (0, fun _ => 0) (d + 1) y_P_heightFor P 25 [some (vR (0, 0)), some (vI (nI j)), some (vI (nI hh))] [] 0 0 am_G0 I' J := by
        intro f
        induction f with
        | zero =>
          intro hh I' hf hfr h' he
          have : hh = 41 := by omega
          subst this
          refine rn_P_heightFor (by omega) 20 ?_
          simp (disch := omega) only [am_z, cq_P_heightFor, Nat.reduceAdd, Nat.zero_le, Nat.reduceLeDiff, ar_lit, ar_in, ar_cl, ar_eq, ar_lt, ar_le, ar_sub, nI_add, Nat.reduceEqDiff, ↓reduceIte, Nat.reduceLT]
          have kk := k I' hfr h'
          rw [← he] at kk
          exact kk
        | succ f ih =>
          intro hh I' hf hfr h' he
          have hlen := tpg_len (p := s.2.1) (h := hh)
          have hov := tov_le (tpg s.2.1 hh)
          refine rn_P_heightFor (by omega) 20 ?_
          simp (disch := omega) only [am_z, cq_P_heightFor, Nat.reduceAdd, Nat.zero_le, Nat.reduceLeDiff, ar_lit, ar_lt]
          rw [if_neg (by omega)]
          refine s_lay (by omega) h'.p hw (by omega) (fun I2 f2 l2 => ?_)
          have h2 := h'.frY f2
          have hfr2 := hfr.tr (f2.mono fun c => isC_Y)
          have es : thf s.2.1 j (f + 1) hh = if (tpg s.2.1 hh).length ≤ j ∧ tov (tpg s.2.1 hh) = 0 then nI hh else thf s.2.1 j f (hh + 1) := rfl
          simp only [am_z, Nat.reduceAdd, Nat.zero_le, Nat.reduceLeDiff]
          refine rn_P_heightFor (by omega) 40 ?_
          simp (disch := omega) only [am_z, cq_P_heightFor, Nat.reduceAdd, Nat.zero_le, Nat.reduceLeDiff, ar_lit, l2.1, l2.2.1, ar_lt, ar_eq, nI_add]
          by_cases q3 : j < (tpg s.2.1 hh).length
          · rw [if_pos q3]
            rw [es, if_neg (by omega)] at he
            exact @ih (hh + 1) I2 (by omega) hfr2 h2 he
          · rw [if_neg q3]
            by_cases q4 : tov (tpg s.2.1 hh) = 0
            · rw [if_pos q4]
              rw [es, if_pos (by omega)] at he
              have kk := k I2 hfr2 h2
              rw [← he] at kk
              exact kk
            · rw [if_neg q4]
              rw [es, if_neg (by omega)] at he
              exact @ih (hh + 1) I2 (by omega) hfr2 h2 he
      exact @loop 35 6 I rfl am_fr.rf h rfl
    · rw [if_neg (by omega)]
      rw [if_neg (by omega)] at k
      exact k I am_fr.rf h
theorem s_P_evenest (hD : 7 ≤ D) (h : st I s) (k : ∀ I', am_fr isC I I' → st I' s → P (ox [] (q_evenest s.2.1)) am_G0 I' J) : am_T l D y_P_evenest [vR (0, 0)] am_G0 I J P := by
  obtain ⟨d, rfl⟩ : ∃ d, D = d + 1 := ⟨D - 1, by omega⟩
  refine en_P_evenest 20 (Nat.le_of_ble_eq_true rfl) ?_
  simp (disch := omega) only [am_z, cq_P_evenest, Nat.reduceAdd, Nat.zero_le, Nat.reduceLeDiff, ar_lit]
  refine s_leastCost (by omega) h.p h.w (fun I' hf hv => ?_)
  simp only [am_z, Nat.reduceAdd, Nat.zero_le, Nat.reduceLeDiff]
  refine rn_P_evenest 20 ?_
  simp (disch := omega) only [am_z, cq_P_evenest, Nat.reduceAdd, Nat.zero_le, Nat.reduceLeDiff, ar_lit]
  exact k I' (hf.mono fun c => isC_V) (h.frV hf)
theorem s_P_evenCut {i : Int32} (hD : 7 ≤ D) (h : st I s) (k : ∀ I', am_fr isC I I' → st I' s → P (ox [1] (q_evenCut s.2.1 i)) am_G0 I' J) : am_T l D y_P_evenCut [vR (0, 0), vI i] am_G0 I J P := by
  obtain ⟨d, rfl⟩ : ∃ d, D = d + 1 := ⟨D - 1, by omega⟩
  unfold q_evenCut at k
  refine en_P_evenCut 20 (by omega) (Nat.le_of_ble_eq_true rfl) ?_
  simp (disch := omega) only [am_z, cq_P_evenCut, Nat.reduceAdd, Nat.zero_le, Nat.reduceLeDiff, ar_lit, ar_leI]
  by_cases q1 : 0 ≤ i.toInt
  · rw [if_pos (by omega)]
    rw [if_pos q1] at k
    have en : i = nI i.toInt.toNat := ar_nat q1
    have hb : i.toInt.toNat < 2 ^ 31 := by have := Int32.toInt_lt i; omega
    generalize i.toInt.toNat = j at en hb k
    subst en
    refine s_leastCost (by omega) h.p h.w (fun I' hf hv => ?_)
    simp only [am_z, Nat.reduceAdd, Nat.zero_le, Nat.reduceLeDiff]
    refine rn_P_evenCut (by omega) 20 ?_
    simp (disch := omega) only [am_z, cq_P_evenCut, Nat.reduceAdd, Nat.zero_le, Nat.reduceLeDiff, ar_lit]
    refine s_evLastOf (by omega) (h.frV hf).p h.w hv hb ?_
    simp only [am_z, Nat.reduceAdd, Nat.zero_le, Nat.reduceLeDiff]
    refine rn_P_evenCut (by omega) 20 ?_
    simp (disch := omega) only [am_z, cq_P_evenCut, Nat.reduceAdd, Nat.zero_le, Nat.reduceLeDiff, ar_lit]
    exact k I' (hf.mono fun c => isC_V) (h.frV hf)
  · rw [if_neg (by omega)]
    rw [if_neg q1] at k
    exact k I am_fr.rf h
theorem s_P_emptyFrom {r : Int32} (hD : 7 ≤ D) (h : st I s) (k : ∀ I', am_fr isC I I' → st I' s → P (ox [3] (q_emptyFrom s.2.1 r)) am_G0 I' J) : am_T l D y_P_emptyFrom [vR (0, 0), vI r] am_G0 I J P := by
  obtain ⟨d, rfl⟩ : ∃ d, D = d + 1 := ⟨D - 1, by omega⟩
  have hp := h.p
  have hw := h.w
  have h24 := hw.2.2.2.2.1
  unfold q_emptyFrom at k
  refine en_P_emptyFrom 20 (Nat.le_of_ble_eq_true rfl) ?_
  simp (disch := omega) only [am_z, cq_P_emptyFrom, Nat.reduceAdd, Nat.zero_le, Nat.reduceLeDiff, ar_lit]
  refine s_requireRow (by omega) hp hw (fun hx => ?_) (fun i hi er => ?_)
  · rw [tix_x (by omega) hx] at k
    simp only [am_z, Nat.reduceAdd, Nat.zero_le, Nat.reduceLeDiff]
    exact k I am_fr.rf h
  · rw [tix_i er hi (by omega)] at k
    subst er
    simp only [am_z, Nat.reduceAdd, Nat.zero_le, Nat.reduceLeDiff]
    refine rn_P_emptyFrom 20 ?_
    simp (disch := omega) only [am_z, cq_P_emptyFrom, Nat.reduceAdd, Nat.zero_le, Nat.reduceLeDiff, ar_lit]
    refine s_emptyFromRow (by omega) hp hw hi (fun I' hf => ?_)
    simp only [am_z, Nat.reduceAdd, Nat.zero_le, Nat.reduceLeDiff]
    refine rn_P_emptyFrom 20 ?_
    simp (disch := omega) only [am_z, cq_P_emptyFrom, Nat.reduceAdd, Nat.zero_le, Nat.reduceLeDiff, ar_lit]
    exact k I' (hf.mono fun c => isC_S) (h.frS hf)
theorem s_P_save {a : Int32} (hD : 7 ≤ D) (h : st I s) (k : ∀ I', am_fr isC I I' → st I' (q_save s a).2 → P (ox [3] (q_save s a).1) am_G0 I' J) : am_T l D y_P_save [vR (0, 0), vI a] am_G0 I J P := by
  obtain ⟨d, rfl⟩ : ∃ d, D = d + 1 := ⟨D - 1, by omega⟩
  unfold q_save at k
  refine en_P_save 20 (Nat.le_of_ble_eq_true rfl) ?_
  simp (disch := omega) only [am_z, cq_P_save, Nat.reduceAdd, Nat.zero_le, Nat.reduceLeDiff, ar_lit]
  refine s_requireSlot (by omega) (fun hx => ?_) (fun i hi er => ?_)
  · rw [tix_x (by omega) hx] at k
    simp only [am_z, Nat.reduceAdd, Nat.zero_le, Nat.reduceLeDiff]
    exact k I am_fr.rf h
  · rw [tix_i er hi (by omega)] at k
    subst er
    simp only [am_z, Nat.reduceAdd, Nat.zero_le, Nat.reduceLeDiff]
    refine rn_P_save 20 ?_
    simp (disch := omega) only [am_z, cq_P_save, Nat.reduceAdd, Nat.zero_le, Nat.reduceLeDiff, ar_lit]
    refine s_put (by omega) h.2.2.2.2.1 hi h.p h.w (fun I' hf hz => ?_)
    obtain ⟨h1, h2, h3, h4, h5, h6⟩ := h
    have hT : ∀ c, isT 0 c → I' c = I c := fun c hc => hf c (fun q => isT_Z (by omega) q hc)
    have r' : rC I' 0 s.2.1 := h2.kept hT
    simp only [am_z, Nat.reduceAdd, Nat.zero_le, Nat.reduceLeDiff]
    refine rn_P_save 20 ?_
    simp (disch := omega) only [am_z, cq_P_save, Nat.reduceAdd, Nat.zero_le, Nat.reduceLeDiff, ar_lit, r'.1.2.1]
    refine k I' (hf.mono fun c => isC_Z) ⟨h1.kept (hf _ ?_) (hf _ ?_), r', h3, h4.kept (fun c hc => hf c (fun q => isZ_H q hc)), hz, ?_⟩
    · intro q
      rcases q with q | q | q
      · simp at q
      · have := q.1; simp at this
      · have := q.1; simp at this
    · intro q
      rcases q with q | q | q
      · simp at q
      · have := q.1; simp at this
      · have := q.1; simp at this
    · rw [hf (17, 17)]
      · exact h6
      · intro q
        rcases q with q | q | q
        · simp at q
        · have := q.1; simp at this
        · have := q.1; simp at this
theorem s_P_restore {a : Int32} (hD : 7 ≤ D) (h : st I s) (k : ∀ I', am_fr isC I I' → st I' (q_restore s a).2 → P (ox [3, 2] (q_restore s a).1) am_G0 I' J) : am_T l D y_P_restore [vR (0, 0), vI a] am_G0 I J P := by
  obtain ⟨d, rfl⟩ : ∃ d, D = d + 1 := ⟨D - 1, by omega⟩
  unfold q_restore at k
  refine en_P_restore 20 (by omega) (Nat.le_of_ble_eq_true rfl) ?_
  simp (disch := omega) only [am_z, cq_P_restore, Nat.reduceAdd, Nat.zero_le, Nat.reduceLeDiff, ar_lit]
  refine s_requireSlot (by omega) (fun hx => ?_) (fun i hi er => ?_)
  · rw [tix_x (by omega) hx] at k
    simp only [am_z, Nat.reduceAdd, Nat.zero_le, Nat.reduceLeDiff]
    exact k I am_fr.rf h
  · rw [tix_i er hi (by omega)] at k
    subst er
    simp only at k
    simp only [am_z, Nat.reduceAdd, Nat.zero_le, Nat.reduceLeDiff]
    refine rn_P_restore (by omega) 20 ?_
    simp (disch := omega) only [am_z, cq_P_restore, Nat.reduceAdd, Nat.zero_le, Nat.reduceLeDiff, ar_lit]
    refine s_isFilled (by omega) h.2.2.2.2.1 hi ?_
    cases e : s.2.2.2 i with
    | none =>
      rw [e] at k
      simp only [Option.isSome_none]
      simp only [am_z, Nat.reduceAdd, Nat.zero_le, Nat.reduceLeDiff]
      refine rn_P_restore (by omega) 20 ?_
      simp (disch := omega) only [am_z, cq_P_restore, Nat.reduceAdd, Nat.zero_le, Nat.reduceLeDiff, ar_lit, b01, Bool.false_eq_true, ↓reduceIte]
      exact k I am_fr.rf h
    | some q =>
      rw [e] at k
      simp only [Option.isSome_some]
      simp only [am_z, Nat.reduceAdd, Nat.zero_le, Nat.reduceLeDiff]
      refine rn_P_restore (by omega) 20 ?_
      simp (disch := omega) only [am_z, cq_P_restore, Nat.reduceAdd, Nat.zero_le, Nat.reduceLeDiff, ar_lit, b01, Bool.false_eq_true, ↓reduceIte, ar_eq, Nat.reduceEqDiff]
      refine s_copyTo (by omega) h.2.2.2.2.1 hi e (fun I1 f1 r1 w1 => ?_)
      have h1 := h.tab f1 r1 w1
      simp only [am_z, Nat.reduceAdd, Nat.zero_le, Nat.reduceLeDiff]
      refine rn_P_restore (by omega) 20 ?_
      simp (disch := omega) only [am_z, cq_P_restore, Nat.reduceAdd, Nat.zero_le, Nat.reduceLeDiff, ar_lit]
      refine s_forget (by omega) h1.2.2.2.1 (fun I2 f2 hH2 => ?_)
      have n3 : ∀ a b : Nat, ¬ a = 3 → I2 (a, b) = I1 (a, b) := fun a b hab => f2 _ (fun e => hab (congrArg Prod.fst e))
      have nT : ∀ t c, isT t c → I2 c = I1 c := fun t c hc => f2 c (fun e => by have := hc.2; rw [e] at this; simp at this)
      have r2 : rC I2 0 q := r1.kept (nT 0)
      simp only [am_z, Nat.reduceAdd, Nat.zero_le, Nat.reduceLeDiff]
      refine rn_P_restore (by omega) 20 ?_
      simp (disch := omega) only [am_z, cq_P_restore, Nat.reduceAdd, Nat.zero_le, Nat.reduceLeDiff, ar_lit, r2.1.2.1]
      obtain ⟨g1, g2, g3, g4, g5, g6⟩ := h1
      refine k I2 ((f1.mono fun c => isC_T).tr (f2.mono fun c hc => hc ▸ isC_3)) ⟨g1.kept (n3 _ _ (by omega)) (n3 _ _ (by omega)), r2, w1, hH2, g5.kept (fun c hc => f2 c (fun e => isZ_H hc (e ▸ isH_3))), ?_⟩
      rw [n3 17 17 (by omega)]
      exact g6
end PB
