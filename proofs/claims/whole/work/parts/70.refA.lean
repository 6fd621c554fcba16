/-! ===== the reference: a table in one row of numbers; its small methods ===== -/
/-- the row f holds the table p -/
def rF (f : Nat → Int32) (p : pt_T) : Prop :=
  (f 0 = nI (tC p) ∧ f 1 = nI (tn p) ∧ f 2 = nI (tm p) ∧ f 3 = nI (tP p) ∧ f 4 = nI (tE p)) ∧
  (∀ n, n < 6 → f (5 + n) = nI (tV p (n + 1))) ∧
  (∀ r, r < tn p → f (11 + 7 * r + 0) = nI (tH p r) ∧ f (11 + 7 * r + 1) = nI (tN p r) ∧ f (11 + 7 * r + 2) = nI (tK p r) ∧ ∀ c, c < 4 → f (11 + 7 * r + (3 + c)) = iI (tA p r c)) ∧
  ∀ s, s < tm p → f (179 + 3 * s) = nI (tF p s) ∧ f (179 + 3 * s + 1) = nI (tL p s) ∧ f (179 + 3 * s + 2) = nI (tM p s)
theorem rF.ext {f g : Nat → Int32} {p : pt_T} (h : rF f p) (hw : tW p) (e : ∀ k, k < 197 → g k = f k) : rF g p := by
  obtain ⟨⟨h0, h1, h2, h3, h4⟩, hV, hR, hS⟩ := h
  have hn := hw.2.2.2.2.1
  have hm := hw.2.2.2.2.2.1
  refine ⟨⟨?_, ?_, ?_, ?_, ?_⟩, fun n q => ?_, fun r q => ?_, fun s q => ?_⟩
  · rw [e 0 (by omega)]; exact h0
  · rw [e 1 (by omega)]; exact h1
  · rw [e 2 (by omega)]; exact h2
  · rw [e 3 (by omega)]; exact h3
  · rw [e 4 (by omega)]; exact h4
  · rw [e _ (by omega)]; exact hV n q
  · obtain ⟨g1, g2, g3, g4⟩ := hR r q
    refine ⟨?_, ?_, ?_, fun c hc => ?_⟩
    · rw [e _ (by omega)]; exact g1
    · rw [e _ (by omega)]; exact g2
    · rw [e _ (by omega)]; exact g3
    · rw [e _ (by omega)]; exact g4 c hc
  · obtain ⟨g1, g2, g3⟩ := hS s q
    refine ⟨?_, ?_, ?_⟩
    · rw [e _ (by omega)]; exact g1
    · rw [e _ (by omega)]; exact g2
    · rw [e _ (by omega)]; exact g3
/-- the rows of one table: read, now, trial -/
def isU (u : Nat) : Prop := am_at u = 0 ∧ am_an u = 197 ∧ 26 ≤ u ∧ u ≤ 28
theorem isU_26 : isU 26 := ⟨rfl, rfl, by decide, by decide⟩
theorem isU_27 : isU 27 := ⟨rfl, rfl, by decide, by decide⟩
theorem isU_28 : isU 28 := ⟨rfl, rfl, by decide, by decide⟩
/-- all but the cells of the sorts A and the fields F of the reference's object stays -/
def fM (A F : List Nat) (I I' : am_I) : Prop := ∀ (c : am_A) (k : Nat), ¬ c.1 ∈ A → ¬ (c.1 = 9 ∧ k ∈ F) → I' c k = I c k
theorem fM.rf {A F : List Nat} {I : am_I} : fM A F I I := fun _ _ _ _ => rfl
theorem fM.tr {A F : List Nat} {I I' I'' : am_I} (h : fM A F I I') (h' : fM A F I' I'') : fM A F I I'' := fun c k h1 h2 => (h' c k h1 h2).trans (h c k h1 h2)
theorem fM.mono {A F A' F' : List Nat} {I I' : am_I} (h : fM A F I I') (hA : ∀ a ∈ A, a ∈ A') (hF : ∀ a ∈ F, a ∈ F') : fM A' F' I I' := fun c k h1 h2 => h c k (fun q => h1 (hA _ q)) (fun q => h2 ⟨q.1, hF _ q.2⟩)
theorem fM.up {A F : List Nat} {I I' : am_I} (h : fM A F I I') {s t k : Nat} {x : Int32} (hs : s ∈ A ∨ (s = 9 ∧ k ∈ F)) : fM A F I (am_upI I' (s, t) k x) := fun c j h1 h2 => by
  rw [am_upI_at, if_neg]
  · exact h c j h1 h2
  · rintro ⟨rfl, rfl⟩
    exact hs.elim h1 h2
theorem fM.at {A F : List Nat} {I I' : am_I} (h : fM A F I I') {s t : Nat} (hA : ¬ s ∈ A) (h9 : ¬ s = 9) : I' (s, t) = I (s, t) := by
  funext k
  exact h (s, t) k hA (fun q => h9 q.1)
theorem fM.f9 {A F : List Nat} {I I' : am_I} (h : fM A F I I') {t k : Nat} (hA : ¬ 9 ∈ A) (hF : ¬ k ∈ F) : I' (9, t) k = I (9, t) k := h (9, t) k hA (fun q => hF q.2)
def isM (c : am_A) : Prop := c.1 = 9 ∨ (25 ≤ c.1 ∧ c.1 ≤ 34)
theorem fM.toM {A F : List Nat} {I I' : am_I} (h : fM A F I I') (hA : ∀ a ∈ A, 25 ≤ a ∧ a ≤ 34) : am_fr isM I I' := fun c hc => by
  funext k
  exact h c k (fun q => hc (Or.inr (hA _ q))) (fun q => hc (Or.inl q.1))
theorem lc_gt (a b : Int64) : (nI 0 < lg_cmp a b) = (b < a) := by
  apply propext
  unfold lg_cmp
  simp only [gt_iff_lt, Int64.lt_iff_toInt_lt, ← Int64.toInt_inj]
  split
  · constructor
    · intro q; assumption
    · intro q; decide +kernel
  · split
    · constructor
      · intro q; exact absurd q (by decide +kernel)
      · intro q; omega
    · constructor
      · intro q; exact absurd q (by decide +kernel)
      · intro q; omega
theorem i64_i (x : Int32) : x.toInt64.toInt = x.toInt := Int32.toInt_toInt64 x
theorem i64_n {n : Nat} (h : n < 2 ^ 63) : (lN n).toInt = (n : Int) := pk_lT h
section RF
variable {l : Launch} {D u : Nat} {G : am_G} {I : am_I} {J : am_J} {P : am_P} {p : pt_T}
theorem s_M_in {v a b : Int64} (hD : 1 ≤ D) (k : P (.inl (some (vI (nI (b01 (decide (a.toInt ≤ v.toInt ∧ v.toInt ≤ b.toInt))))))) G I J) : am_T l D y_M_in [vL v, vL a, vL b] G I J P := by
  obtain ⟨d, rfl⟩ : ∃ d, D = d + 1 := ⟨D - 1, by omega⟩
  refine en_M_in 20 (Nat.le_of_ble_eq_true rfl) ?_
  simp (disch := omega) only [am_z, cq_M_in, Nat.reduceAdd, Nat.zero_le, Nat.reduceLeDiff, ar_lit, lc_lt, lc_gt, Int64.lt_iff_toInt_lt]
  by_cases q1 : v.toInt < a.toInt
  · rw [decide_eq_false (by omega)] at k
    rw [if_pos q1]
    exact k
  · rw [if_neg q1]
    by_cases q2 : b.toInt < v.toInt
    · rw [decide_eq_false (by omega)] at k
      rw [if_pos q2]
      exact k
    · rw [decide_eq_true (by omega)] at k
      rw [if_neg q2]
      exact k
theorem s_M_refused {w : Nat} (hD : 1 ≤ D) (hw : w < 1000) (k : ∀ I', fM [] [0] I I' → I' (9, 0) 0 = nI w → P (.inl (some (vI (nI (b01 (decide (0 < w))))))) am_G0 I' J) : am_T l D y_M_refused [vR (9, 0), vI (nI w)] am_G0 I J P := by
  obtain ⟨d, rfl⟩ : ∃ d, D = d + 1 := ⟨D - 1, by omega⟩
  have kk := k (am_upI I (9, 0) 0 (nI w)) (fM.rf.up (Or.inr ⟨rfl, by simp⟩)) (by rw [am_uE, upd_e])
  refine en_M_refused 20 (Nat.le_of_ble_eq_true rfl) ?_
  simp (disch := omega) only [am_z, cq_M_refused, Nat.reduceAdd, Nat.zero_le, Nat.reduceLeDiff, ar_lit, ar_le]
  by_cases q : 0 < w
  · rw [decide_eq_true q] at kk
    rw [if_neg (by omega)]
    exact kk
  · rw [decide_eq_false q] at kk
    rw [if_pos (by omega)]
    exact kk
theorem s_M_cell {r w : Nat} (hD : 1 ≤ D) (k : P (.inl (some (vI (nI (11 + 7 * r + w))))) G I J) : am_T l D y_M_cell [vI (nI r), vI (nI w)] G I J P := by
  obtain ⟨d, rfl⟩ : ∃ d, D = d + 1 := ⟨D - 1, by omega⟩
  refine en_M_cell 20 (Nat.le_of_ble_eq_true rfl) ?_
  simp (disch := omega) only [am_z, cq_M_cell, Nat.reduceAdd, Nat.zero_le, Nat.reduceLeDiff, ar_lit, pk_mul, nI_add]
  exact k
theorem s_M_first {s : Nat} (hD : 1 ≤ D) (hu : isU u) (h : rF (I (u, 0)) p) (hw : tW p) (hs : s < tm p) (k : P (.inl (some (vI (nI (tF p s))))) am_G0 I J) : am_T l D y_M_first [vR (u, 0), vI (nI s)] am_G0 I J P := by
  obtain ⟨d, rfl⟩ : ∃ d, D = d + 1 := ⟨D - 1, by omega⟩
  have hm := hw.2.2.2.2.2.1
  obtain ⟨g1, g2, g3⟩ := h.2.2.2 s hs
  refine en_M_first 20 (Nat.le_of_ble_eq_true rfl) ?_
  simp (disch := omega) only [am_z, cq_M_first, Nat.reduceAdd, Nat.zero_le, Nat.reduceLeDiff, ar_lit, pk_mul, nI_add, hu.1, hu.2.1, ar_in, ar_cl, g1]
  exact ⟨by omega, k⟩
theorem s_M_last {s : Nat} (hD : 1 ≤ D) (hu : isU u) (h : rF (I (u, 0)) p) (hw : tW p) (hs : s < tm p) (k : P (.inl (some (vI (nI (tL p s))))) am_G0 I J) : am_T l D y_M_last [vR (u, 0), vI (nI s)] am_G0 I J P := by
  obtain ⟨d, rfl⟩ : ∃ d, D = d + 1 := ⟨D - 1, by omega⟩
  have hm := hw.2.2.2.2.2.1
  obtain ⟨g1, g2, g3⟩ := h.2.2.2 s hs
  refine en_M_last 20 (Nat.le_of_ble_eq_true rfl) ?_
  simp (disch := omega) only [am_z, cq_M_last, Nat.reduceAdd, Nat.zero_le, Nat.reduceLeDiff, ar_lit, pk_mul, nI_add, hu.1, hu.2.1, ar_in, ar_cl, g2]
  exact ⟨by omega, k⟩
theorem s_M_canCut {r : Nat} (hD : 2 ≤ D) (hu : isU u) (h : rF (I (u, 0)) p) (hw : tW p) (hr : r < tn p) (k : P (.inl (some (vI (nI (b01 (tcut p r)))))) am_G0 I J) : am_T l D y_M_canCut [vR (u, 0), vI (nI r)] am_G0 I J P := by
  obtain ⟨d, rfl⟩ : ∃ d, D = d + 1 := ⟨D - 1, by omega⟩
  have hn := hw.2.2.2.2.1
  have hm := hw.2.2.2.2.2.1
  have hK : tK p r ≤ 1 := (hw.row hr).2.2.2.1
  obtain ⟨r1, r2, r3, _⟩ := h.2.2.1 r hr
  have loop : ∀ m s x, s + m = tm p → x = nI (b01 ((tK p r == 0) && tcutA p s r)) → am_X l (0, fun _ => 0) (d + 1) y_M_canCut P 18 [some (vR (u, 0)), some (vI (nI r)), some (vI x), some (vI (nI s))] [] 0 0 am_G0 I J := by
    intro m
    induction m with
    | zero =>
      intro s x hs hx
      have e : s = tm p := by omega
      subst e
      refine rn_M_canCut 40 ?_
      simp (disch := omega) only [am_z, cq_M_canCut, Nat.reduceAdd, Nat.zero_le, Nat.reduceLeDiff, ar_lit, hu.1, hu.2.1, h.1.2.2.1, ar_in, ar_cl, ar_eq, ar_lt, ar_le, ar_sub, nI_add, Nat.reduceEqDiff, ↓reduceIte, Nat.reduceLT, am_tt]
      refine ⟨?_, ?_⟩
      · rw [hx]
        cases ((tK p r == 0) && tcutA p (tm p) r)
        · exact Or.inl rfl
        · exact Or.inr rfl
      · rw [hx]; exact k
    | succ m ih =>
      intro s x hs hx
      obtain ⟨g1, g2, g3⟩ := h.2.2.2 s (by omega)
      obtain ⟨w1, w2, w3⟩ := hw.span (s := s) (by omega)
      have bF : tF p s < 24 := by unfold tF; omega
      have bL : tL p s < 24 := by unfold tL; omega
      have bM : tM p s ≤ 1 := w3
      have step : ∀ y b, b = (((tK p r == 0) && tcutA p s r) && (tM p s == 1 || decide (r < tF p s) || decide (tL p s ≤ r))) → y = nI (b01 b) → am_X l (0, fun _ => 0) (d + 1) y_M_canCut P 18 [some (vR (u, 0)), some (vI (nI r)), some (vI y), some (vI (nI (s + 1)))] [] 0 0 am_G0 I J := fun y b hb hy => @ih (s + 1) y (by omega) (by rw [hy, hb, tcutA_s, Bool.and_assoc])
      cases hc : ((tK p r == 0) && tcutA p s r)
      · rw [hc] at hx step
        subst hx
        refine rn_M_canCut 40 ?_
        simp (disch := omega) only [am_z, cq_M_canCut, Nat.reduceAdd, Nat.zero_le, Nat.reduceLeDiff, ar_lit, hu.1, hu.2.1, h.1.2.2.1, ar_in, ar_cl, ar_eq, ar_lt, ar_le, ar_sub, nI_add, Nat.reduceEqDiff, ↓reduceIte, b01, Bool.false_eq_true, ↓reduceIte, Nat.reduceLT, am_tt]
        rw [if_neg (by omega)]
        exact step _ false (by simp) rfl
      · rw [hc] at hx step
        subst hx
        refine rn_M_canCut 60 ?_
        simp (disch := omega) only [am_z, cq_M_canCut, Nat.reduceAdd, Nat.zero_le, Nat.reduceLeDiff, ar_lit, hu.1, hu.2.1, h.1.2.2.1, ar_in, ar_cl, ar_le, ar_eq, nI_add, pk_mul, g3, b01, Bool.false_eq_true, ↓reduceIte, Nat.reduceLT, Nat.reduceEqDiff, am_tt]
        rw [if_neg (by omega)]
        refine ⟨by omega, ?_⟩
        by_cases q : tM p s = 1
        · rw [if_pos q]
          exact step _ true (by simp [q]) rfl
        · rw [if_neg q]
          refine s_M_first (by omega) hu h hw (by omega) ?_
          simp only [am_z, Nat.reduceAdd, Nat.zero_le, Nat.reduceLeDiff]
          refine rn_M_canCut 60 ?_
          simp (disch := omega) only [am_z, cq_M_canCut, Nat.reduceAdd, Nat.zero_le, Nat.reduceLeDiff, ar_lit, ar_lt, nI_add]
          by_cases q2 : r < tF p s
          · rw [if_pos q2]
            exact step _ true (by simp [q2]) rfl
          · rw [if_neg q2]
            refine s_M_last (by omega) hu h hw (by omega) ?_
            simp only [am_z, Nat.reduceAdd, Nat.zero_le, Nat.reduceLeDiff]
            refine rn_M_canCut 60 ?_
            simp (disch := omega) only [am_z, cq_M_canCut, Nat.reduceAdd, Nat.zero_le, Nat.reduceLeDiff, ar_lit, ar_lt, nI_add]
            by_cases q3 : r < tL p s
            · rw [if_pos q3]
              exact step _ false (by simp [q, q2, q3]) rfl
            · rw [if_neg q3]
              exact step _ true (by simp; omega) rfl
  refine en_M_canCut 20 (Nat.le_of_ble_eq_true rfl) ?_
  simp (disch := omega) only [am_z, cq_M_canCut, Nat.reduceAdd, Nat.zero_le, Nat.reduceLeDiff, ar_lit]
  refine s_M_cell (by omega) ?_
  simp only [am_z, Nat.reduceAdd, Nat.zero_le, Nat.reduceLeDiff]
  refine rn_M_canCut 40 ?_
  simp (disch := omega) only [am_z, cq_M_canCut, Nat.reduceAdd, Nat.zero_le, Nat.reduceLeDiff, ar_lit, hu.1, hu.2.1, ar_in, ar_cl, ar_eq, r3]
  refine ⟨by omega, ?_⟩
  by_cases q : tK p r = 0
  · rw [if_pos q]
    exact @loop (tm p) 0 _ (by omega) (by simp [q, tcutA, b01])
  · rw [if_neg q]
    exact @loop (tm p) 0 _ (by omega) (by simp [q, b01])
theorem s_M_mayEnd {r : Nat} (hD : 3 ≤ D) (hu : isU u) (h : rF (I (u, 0)) p) (hw : tW p) (hr : r < tn p) (k : P (.inl (some (vI (nI (b01 (tend p r)))))) am_G0 I J) : am_T l D y_M_mayEnd [vR (u, 0), vI (nI r)] am_G0 I J P := by
  obtain ⟨d, rfl⟩ : ∃ d, D = d + 1 := ⟨D - 1, by omega⟩
  have hn := hw.2.2.2.2.1
  refine en_M_mayEnd 20 (Nat.le_of_ble_eq_true rfl) ?_
  simp (disch := omega) only [am_z, cq_M_mayEnd, Nat.reduceAdd, Nat.zero_le, Nat.reduceLeDiff, ar_lit, hu.1, hu.2.1, ar_in, ar_cl, ar_eq, ar_sub, h.1.2.1, Nat.reduceLT, am_tt]
  unfold tend at k
  by_cases q : r + 1 = tn p
  · rw [decide_eq_true q] at k
    rw [if_pos (by omega)]
    exact k
  · rw [decide_eq_false q] at k
    rw [if_neg (by omega)]
    refine s_M_canCut (by omega) hu h hw hr ?_
    cases hc : tcut p r
    · rw [hc] at k
      simp only [am_z, Nat.reduceAdd, Nat.zero_le, Nat.reduceLeDiff]
      refine rn_M_mayEnd 20 ?_
      simp (disch := omega) only [am_z, cq_M_mayEnd, Nat.reduceAdd, Nat.zero_le, Nat.reduceLeDiff, ar_lit, b01, Bool.false_eq_true, ↓reduceIte]
      exact k
    · rw [hc] at k
      simp only [am_z, Nat.reduceAdd, Nat.zero_le, Nat.reduceLeDiff]
      refine rn_M_mayEnd 20 ?_
      simp (disch := omega) only [am_z, cq_M_mayEnd, Nat.reduceAdd, Nat.zero_le, Nat.reduceLeDiff, ar_lit, b01, Bool.false_eq_true, ↓reduceIte, ar_eq, Nat.reduceEqDiff]
      exact k
end RF
