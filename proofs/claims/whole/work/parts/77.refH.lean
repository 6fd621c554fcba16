/-! ===== the reference: sums, ranges; its state as one value ===== -/
section RF
variable {l : Launch} {D u : Nat} {G : am_G} {I : am_I} {J : am_J} {P : am_P} {p : pt_T}
theorem sub1_i {n : Nat} (h : n < 2 ^ 31) : (nI n - nI 1).toInt = (n : Int) - 1 := by
  by_cases q : n = 0
  · subst q; decide +kernel
  · rw [ar_sub (by omega), nI_toInt (by omega)]; omega
theorem s_M_sum {a b c : Nat} (hD : 2 ≤ D) (hu : isU u) (h : rF (I (u, 0)) p) (hw : tW p) (hab : a ≤ b) (hb : b ≤ tn p) (hc : c < 4) (k : P (.inl (some (vI (iI (tsum p a b c))))) am_G0 I J) : am_T l D y_M_sum [vR (u, 0), vI (nI a), vI (nI b - nI 1), vI (nI c)] am_G0 I J P := by
  obtain ⟨d, rfl⟩ : ∃ d, D = d + 1 := ⟨D - 1, by omega⟩
  have hn := hw.2.2.2.2.1
  have loop : ∀ m j : Nat, j + m = b - a → am_X l (0, fun _ => 0) (d + 1) y_M_sum P 6 [some (vR (u, 0)), some (vI (nI a)), some (vI (nI b - nI 1)), some (vI (nI c)), some (vI (iI (sumZ (fun i => tA p (a + i) c) j))), some (vI (nI (a + j)))] [] 0 0 am_G0 I J := by
    intro m
    induction m with
    | zero =>
      intro j hj
      refine rn_M_sum 20 ?_
      simp (disch := omega) only [am_z, cq_M_sum, Nat.reduceAdd, Nat.zero_le, Nat.reduceLeDiff, ar_lit, ar_m1]
      rw [if_pos (by omega)]
      have e : j = b - a := by omega
      subst e
      exact k
    | succ m ih =>
      intro j hj
      have hi := @ih (j + 1) (by omega)
      obtain ⟨_, _, _, g4⟩ := h.2.2.1 (a + j) (by omega)
      refine rn_M_sum 20 ?_
      simp (disch := omega) only [am_z, cq_M_sum, Nat.reduceAdd, Nat.zero_le, Nat.reduceLeDiff, ar_lit, ar_m1, nI_add]
      rw [if_neg (by omega)]
      refine s_M_cell (by omega) ?_
      simp only [am_z, Nat.reduceAdd, Nat.zero_le, Nat.reduceLeDiff]
      refine rn_M_sum 20 ?_
      simp (disch := omega) only [am_z, cq_M_sum, Nat.reduceAdd, Nat.zero_le, Nat.reduceLeDiff, ar_lit, hu.1, hu.2.1, ar_in, ar_cl, g4 c hc, iI_add, nI_add]
      exact ⟨by omega, hi⟩
  refine en_M_sum 20 (Nat.le_of_ble_eq_true rfl) ?_
  simp (disch := omega) only [am_z, cq_M_sum, Nat.reduceAdd, Nat.zero_le, Nat.reduceLeDiff, ar_lit]
  exact @loop (b - a) 0 (by omega)
theorem s_M_sum' {a b c : Nat} (hD : 2 ≤ D) (hu : isU u) (h : rF (I (u, 0)) p) (hw : tW p) (hab : a ≤ b + 1) (hb : b < tn p) (hc : c < 4) (k : P (.inl (some (vI (iI (tsum p a (b + 1) c))))) am_G0 I J) : am_T l D y_M_sum [vR (u, 0), vI (nI a), vI (nI b), vI (nI c)] am_G0 I J P := by
  have e : nI b = nI (b + 1) - nI 1 := by rw [ar_sub (by omega)]; rfl
  rw [e]
  exact s_M_sum hD hu h hw hab hb hc k
theorem s_M_inL {v a b : Int64} {x lo hi : Int} (hD : 1 ≤ D) (hv : v.toInt = x) (ha : a.toInt = lo) (hb : b.toInt = hi) (k : P (.inl (some (vI (nI (b01 (decide (lo ≤ x ∧ x ≤ hi))))))) G I J) : am_T l D y_M_in [vL v, vL a, vL b] G I J P := by
  subst hv
  subst ha
  subst hb
  exact s_M_in hD k
theorem tix_b {n : Nat} {x : Int32} : (tix n x).isSome = decide (0 ≤ x.toInt ∧ x.toInt < (n : Int)) := by
  unfold tix
  by_cases q : 0 ≤ x.toInt ∧ x.toInt < (n : Int)
  · rw [if_pos q, decide_eq_true q]; rfl
  · rw [if_neg q, decide_eq_false q]; rfl
theorem s_M_inT {x : Int32} {b : Int64} {n : Nat} (hD : 1 ≤ D) (hb : b.toInt = (n : Int) - 1) (k : P (.inl (some (vI (nI (b01 (tix n x).isSome))))) G I J) : am_T l D y_M_in [vL x.toInt64, vL (lN 0), vL b] G I J P := by
  refine s_M_inL hD (i64_i x) (pk_lT (by omega)) hb ?_
  rw [tix_b] at k
  rw [show decide (((0 : Nat) : Int) ≤ x.toInt ∧ x.toInt ≤ (n : Int) - 1) = decide (0 ≤ x.toInt ∧ x.toInt < (n : Int)) from decide_eq_decide.mpr (by omega)]
  exact k
theorem s_M_least {i : Nat} (hD : 1 ≤ D) (hi : i < 1000) (k : P (.inl (some (vI (nI (if i = 0 then 6 else if i = 1 then 0 else 1))))) G I J) : am_T l D y_M_least [vI (nI i)] G I J P := by
  obtain ⟨d, rfl⟩ : ∃ d, D = d + 1 := ⟨D - 1, by omega⟩
  refine en_M_least 20 (Nat.le_of_ble_eq_true rfl) ?_
  simp (disch := omega) only [am_z, cq_M_least, Nat.reduceAdd, Nat.zero_le, Nat.reduceLeDiff, ar_lit, ar_eq]
  by_cases q : i = 0
  · rw [if_pos q] at k ⊢
    exact k
  · rw [if_neg q] at k ⊢
    by_cases q2 : i = 1
    · rw [if_pos q2] at k ⊢
      exact k
    · rw [if_neg q2] at k ⊢
      exact k
theorem s_M_most {i : Nat} (hD : 1 ≤ D) (hi : i < 1000) (k : P (.inl (some (vI (nI (if i = 0 then 40 else if i = 1 then 4 else 3))))) G I J) : am_T l D y_M_most [vI (nI i)] G I J P := by
  obtain ⟨d, rfl⟩ : ∃ d, D = d + 1 := ⟨D - 1, by omega⟩
  refine en_M_most 20 (Nat.le_of_ble_eq_true rfl) ?_
  simp (disch := omega) only [am_z, cq_M_most, Nat.reduceAdd, Nat.zero_le, Nat.reduceLeDiff, ar_lit, ar_eq]
  by_cases q : i = 0
  · rw [if_pos q] at k ⊢
    exact k
  · rw [if_neg q] at k ⊢
    by_cases q2 : i = 1
    · rw [if_pos q2] at k ⊢
      exact k
    · rw [if_neg q2] at k ⊢
      exact k
def tokI (a b : Int32) : Bool := match tix 8 a with
  | none => false
  | some i => match tix 41 b with
    | none => false
    | some j => tokH i j
theorem tokI_i {i : Nat} {b : Int32} (hi : i < 8) : tokI (nI i) b = decide (((if i = 0 then 6 else if i = 1 then 0 else 1 : Nat) : Int) ≤ b.toInt ∧ b.toInt ≤ ((if i = 0 then 40 else if i = 1 then 4 else 3 : Nat) : Int)) := by
  unfold tokI
  rw [tix_i rfl hi (by omega)]
  simp only
  rcases tix_c 41 b (by omega) with ⟨e, hs⟩ | ⟨j, hj, eb, e⟩
  · rw [e]
    simp only
    symm
    apply decide_eq_false
    split
    · omega
    · split <;> omega
  · rw [e]
    simp only
    subst eb
    rw [nI_toInt (by omega)]
    cases ht : tokH i j
    · symm
      apply decide_eq_false
      intro q
      have : ¬ tokH i j = true := by rw [ht]; simp
      apply this
      rw [tokH_iff]
      by_cases h0 : i = 0
      · rw [if_pos h0, if_pos h0] at q; omega
      · rw [if_neg h0, if_neg h0] at q
        by_cases h1 : i = 1
        · rw [if_pos h1, if_pos h1] at q; omega
        · rw [if_neg h1, if_neg h1] at q; omega
    · symm
      apply decide_eq_true
      rw [tokH_iff] at ht
      by_cases h0 : i = 0
      · rw [if_pos h0, if_pos h0]; omega
      · rw [if_neg h0, if_neg h0]
        by_cases h1 : i = 1
        · rw [if_pos h1, if_pos h1]; omega
        · rw [if_neg h1, if_neg h1]; omega
theorem s_M_isHeight {a b : Int32} (hD : 2 ≤ D) (k : P (.inl (some (vI (nI (b01 (tokI a b)))))) G I J) : am_T l D y_M_isHeight [vI a, vI b] G I J P := by
  obtain ⟨d, rfl⟩ : ∃ d, D = d + 1 := ⟨D - 1, by omega⟩
  refine en_M_isHeight 20 (Nat.le_of_ble_eq_true rfl) ?_
  simp (disch := omega) only [am_z, cq_M_isHeight, Nat.reduceAdd, Nat.zero_le, Nat.reduceLeDiff, ar_lit, lc_z.1]
  refine s_M_inT (n := 8) (by omega) (by decide +kernel) ?_
  rcases tix_c 8 a (by omega) with ⟨e, hs⟩ | ⟨i, hi, ea, e⟩
  · have e2 : tokI a b = false := by unfold tokI; rw [e]
    rw [e2] at k
    rw [e]
    simp only [Option.isSome_none]
    simp only [am_z, Nat.reduceAdd, Nat.zero_le, Nat.reduceLeDiff]
    refine rn_M_isHeight 20 ?_
    simp (disch := omega) only [am_z, cq_M_isHeight, Nat.reduceAdd, Nat.zero_le, Nat.reduceLeDiff, ar_lit, b01, Bool.false_eq_true, ↓reduceIte]
    exact k
  · rw [e]
    subst ea
    rw [tokI_i hi] at k
    simp only [Option.isSome_some]
    simp only [am_z, Nat.reduceAdd, Nat.zero_le, Nat.reduceLeDiff]
    refine rn_M_isHeight 20 ?_
    simp (disch := omega) only [am_z, cq_M_isHeight, Nat.reduceAdd, Nat.zero_le, Nat.reduceLeDiff, ar_lit, b01, Bool.false_eq_true, ↓reduceIte, ar_eq, Nat.reduceEqDiff]
    refine s_M_least (by omega) (by omega) ?_
    simp only [am_z, Nat.reduceAdd, Nat.zero_le, Nat.reduceLeDiff]
    refine rn_M_isHeight 20 ?_
    simp (disch := omega) only [am_z, cq_M_isHeight, Nat.reduceAdd, Nat.zero_le, Nat.reduceLeDiff, ar_lit]
    refine s_M_most (by omega) (by omega) ?_
    simp only [am_z, Nat.reduceAdd, Nat.zero_le, Nat.reduceLeDiff]
    refine rn_M_isHeight 20 ?_
    simp (disch := omega) only [am_z, cq_M_isHeight, Nat.reduceAdd, Nat.zero_le, Nat.reduceLeDiff, ar_lit]
    have b6 : (if i = 0 then 6 else if i = 1 then 0 else 1) < 2 ^ 31 := by split <;> (try split) <;> omega
    have b7 : (if i = 0 then 40 else if i = 1 then 4 else 3) < 2 ^ 31 := by split <;> (try split) <;> omega
    refine s_M_inL (by omega) (i64_i b) ((i64_i _).trans (nI_toInt b6)) ((i64_i _).trans (nI_toInt b7)) ?_
    cases hd : decide (((if i = 0 then 6 else if i = 1 then 0 else 1 : Nat) : Int) ≤ b.toInt ∧ b.toInt ≤ ((if i = 0 then 40 else if i = 1 then 4 else 3 : Nat) : Int))
    · rw [hd] at k
      simp only [am_z, Nat.reduceAdd, Nat.zero_le, Nat.reduceLeDiff]
      refine rn_M_isHeight 20 ?_
      simp (disch := omega) only [am_z, cq_M_isHeight, Nat.reduceAdd, Nat.zero_le, Nat.reduceLeDiff, ar_lit, b01, Bool.false_eq_true, ↓reduceIte]
      exact k
    · rw [hd] at k
      simp only [am_z, Nat.reduceAdd, Nat.zero_le, Nat.reduceLeDiff]
      refine rn_M_isHeight 20 ?_
      simp (disch := omega) only [am_z, cq_M_isHeight, Nat.reduceAdd, Nat.zero_le, Nat.reduceLeDiff, ar_lit, b01, Bool.false_eq_true, ↓reduceIte, ar_eq, Nat.reduceEqDiff]
      exact k
theorem b01_or (b : Bool) : nI (b01 b) = nI 0 ∨ nI (b01 b) = nI 1 := by
  cases b
  · exact Or.inl rfl
  · exact Or.inr rfl
theorem s_M_isRow {r : Int32} (hD : 2 ≤ D) (h : rF (I (27, 0)) p) (hw : tW p) (k : P (.inl (some (vI (nI (b01 (tix (tn p) r).isSome))))) am_G0 I J) : am_T l D y_M_isRow [vR (9, 0), vI r] am_G0 I J P := by
  obtain ⟨d, rfl⟩ : ∃ d, D = d + 1 := ⟨D - 1, by omega⟩
  have hn := hw.2.2.2.2.1
  refine en_M_isRow 20 (Nat.le_of_ble_eq_true rfl) ?_
  simp (disch := omega) only [am_z, cq_M_isRow, Nat.reduceAdd, Nat.zero_le, Nat.reduceLeDiff, ar_lit, ar_in, ar_cl, h.1.2.1, lc_z.1, Nat.reduceLT, am_tt]
  refine s_M_inT (n := tn p) (by omega) ((i64_i _).trans (sub1_i (by omega))) ?_
  simp only [am_z, Nat.reduceAdd, Nat.zero_le, Nat.reduceLeDiff]
  refine rn_M_isRow 20 ?_
  simp (disch := omega) only [am_z, cq_M_isRow, Nat.reduceAdd, Nat.zero_le, Nat.reduceLeDiff, ar_lit]
  exact ⟨b01_or _, k⟩
theorem s_M_isColumn {r : Int32} (hD : 2 ≤ D) (h : rF (I (27, 0)) p) (hw : tW p) (k : P (.inl (some (vI (nI (b01 (tix (tC p) r).isSome))))) am_G0 I J) : am_T l D y_M_isColumn [vR (9, 0), vI r] am_G0 I J P := by
  obtain ⟨d, rfl⟩ : ∃ d, D = d + 1 := ⟨D - 1, by omega⟩
  have hn := hw.1.2
  refine en_M_isColumn 20 (Nat.le_of_ble_eq_true rfl) ?_
  simp (disch := omega) only [am_z, cq_M_isColumn, Nat.reduceAdd, Nat.zero_le, Nat.reduceLeDiff, ar_lit, ar_in, ar_cl, h.1.1, lc_z.1, Nat.reduceLT, am_tt]
  refine s_M_inT (n := tC p) (by omega) ((i64_i _).trans (sub1_i (by omega))) ?_
  simp only [am_z, Nat.reduceAdd, Nat.zero_le, Nat.reduceLeDiff]
  refine rn_M_isColumn 20 ?_
  simp (disch := omega) only [am_z, cq_M_isColumn, Nat.reduceAdd, Nat.zero_le, Nat.reduceLeDiff, ar_lit]
  exact ⟨b01_or _, k⟩
theorem s_M_isSpan {r : Int32} (hD : 2 ≤ D) (h : rF (I (27, 0)) p) (hw : tW p) (k : P (.inl (some (vI (nI (b01 (tix (tm p) r).isSome))))) am_G0 I J) : am_T l D y_M_isSpan [vR (9, 0), vI r] am_G0 I J P := by
  obtain ⟨d, rfl⟩ : ∃ d, D = d + 1 := ⟨D - 1, by omega⟩
  have hn := hw.2.2.2.2.2.1
  refine en_M_isSpan 20 (Nat.le_of_ble_eq_true rfl) ?_
  simp (disch := omega) only [am_z, cq_M_isSpan, Nat.reduceAdd, Nat.zero_le, Nat.reduceLeDiff, ar_lit, ar_in, ar_cl, h.1.2.2.1, lc_z.1, Nat.reduceLT, am_tt]
  refine s_M_inT (n := tm p) (by omega) ((i64_i _).trans (sub1_i (by omega))) ?_
  simp only [am_z, Nat.reduceAdd, Nat.zero_le, Nat.reduceLeDiff]
  refine rn_M_isSpan 20 ?_
  simp (disch := omega) only [am_z, cq_M_isSpan, Nat.reduceAdd, Nat.zero_le, Nat.reduceLeDiff, ar_lit]
  exact ⟨b01_or _, k⟩
theorem s_M_isPage {r : Int32} (hD : 7 ≤ D) (h : rF (I (27, 0)) p) (hw : tW p) (k : ∀ I', fM [32] [13] I I' → rQ I' (tpg p (tP p)) → P (.inl (some (vI (nI (b01 (tix (tpg p (tP p)).length r).isSome))))) am_G0 I' J) : am_T l D y_M_isPage [vR (9, 0), vI r] am_G0 I J P := by
  obtain ⟨d, rfl⟩ : ∃ d, D = d + 1 := ⟨D - 1, by omega⟩
  have hn := tpg_len (p := p) (h := tP p)
  refine en_M_isPage 20 (Nat.le_of_ble_eq_true rfl) ?_
  simp (disch := omega) only [am_z, cq_M_isPage, Nat.reduceAdd, Nat.zero_le, Nat.reduceLeDiff, ar_lit]
  refine s_M_lay (by omega) isU_27 h hw (fun I' hf hq => ?_)
  simp only [am_z, Nat.reduceAdd, Nat.zero_le, Nat.reduceLeDiff]
  refine rn_M_isPage 20 ?_
  simp (disch := omega) only [am_z, cq_M_isPage, Nat.reduceAdd, Nat.zero_le, Nat.reduceLeDiff, ar_lit, lc_z.1]
  refine s_M_inT (n := (tpg p (tP p)).length) (by omega) ((i64_i _).trans (sub1_i (by omega))) ?_
  simp only [am_z, Nat.reduceAdd, Nat.zero_le, Nat.reduceLeDiff]
  refine rn_M_isPage 20 ?_
  simp (disch := omega) only [am_z, cq_M_isPage, Nat.reduceAdd, Nat.zero_le, Nat.reduceLeDiff, ar_lit]
  exact ⟨b01_or _, k I' hf hq⟩
end RF
/-- the reference's text, remembered states, save slots; its state -/
def rN (I : am_I) (ss : List Nat) : Prop := I (9, 0) 2 = nI ss.length ∧ (∀ k, k < ss.length → I (25, 0) k = nI (ss.getD k 0)) ∧ ss.length ≤ 160 ∧ ∀ c ∈ ss, c < 256
def rY (I : am_I) (L : List pt_T) : Prop := I (9, 0) 9 = nI L.length ∧ L.length ≤ 14 ∧ ∀ i, i < L.length → rF (fun k => I (29, 0) (197 * (L.length - 1 - i) + k)) (L.getD i tnew) ∧ tW (L.getD i tnew)
def rO (I : am_I) (z : Nat → Option pt_T) : Prop := ∀ k, k < 2 → I (31, 0) k = nI (b01 (z k).isSome) ∧ ∀ q, z k = some q → rF (fun j => I (30, 0) (197 * k + j)) q ∧ tW q
def sm (I : am_I) (s : pt_G) : Prop := rN I s.1 ∧ rF (I (27, 0)) s.2.1 ∧ tW s.2.1 ∧ rY I s.2.2.1 ∧ rO I s.2.2.2
section RG
variable {l : Launch} {D : Nat} {I I' : am_I} {J : am_J} {P : am_P} {s : pt_G} {A F : List Nat}
theorem rN.fM {ss : List Nat} (h : rN I ss) (hf : fM A F I I') (hA : ¬ 25 ∈ A ∧ ¬ 9 ∈ A) (hF : ¬ 2 ∈ F) : rN I' ss := by
  unfold rN
  rw [hf.f9 hA.2 hF, hf.at hA.1 (by omega)]
  exact h
theorem rY.fM {L : List pt_T} (h : rY I L) (hf : fM A F I I') (hA : ¬ 29 ∈ A ∧ ¬ 9 ∈ A) (hF : ¬ 9 ∈ F) : rY I' L := by
  unfold rY
  rw [hf.f9 hA.2 hF, hf.at hA.1 (by omega)]
  exact h
theorem rO.fM {z : Nat → Option pt_T} (h : rO I z) (hf : fM A F I I') (hA : ¬ 30 ∈ A ∧ ¬ 31 ∈ A) : rO I' z := by
  unfold rO
  rw [hf.at hA.1 (by omega), hf.at hA.2 (by omega)]
  exact h
theorem sm.p (h : sm I s) : rF (I (27, 0)) s.2.1 := h.2.1
theorem sm.w (h : sm I s) : tW s.2.1 := h.2.2.1
theorem sm.fr (h : sm I s) (hf : fM A F I I') (hA : ∀ a ∈ A, a = 26 ∨ a = 28 ∨ 32 ≤ a) (hF : ¬ 2 ∈ F ∧ ¬ 9 ∈ F) : sm I' s := by
  have n : ∀ a, ¬ (a = 26 ∨ a = 28 ∨ 32 ≤ a) → ¬ a ∈ A := fun a h1 h2 => h1 (hA a h2)
  exact ⟨h.1.fM hf ⟨n _ (by omega), n _ (by omega)⟩ hF.1, h.2.1.fM hf (n _ (by omega)) (by omega), h.2.2.1, h.2.2.2.1.fM hf ⟨n _ (by omega), n _ (by omega)⟩ hF.2, h.2.2.2.2.fM hf ⟨n _ (by omega), n _ (by omega)⟩⟩
/-- the table becomes q -/
theorem sm.tab {q : pt_T} (h : sm I s) (hf : fM [27] [] I I') (hr : rF (I' (27, 0)) q) (hw : tW q) : sm I' (s.1, q, s.2.2) :=
  ⟨h.1.fM hf (by simp) (by simp), hr, hw, h.2.2.2.1.fM hf (by simp) (by simp), h.2.2.2.2.fM hf (by simp)⟩
theorem am_an_29 : am_an 29 = 2758 := rfl
theorem s_M_begin (hD : 2 ≤ D) (h : sm I s) (k : ∀ I', fM [28] [] I I' → rF (I' (28, 0)) s.2.1 → P (.inl none) am_G0 I' J) : am_T l D y_M_begin [vR (9, 0)] am_G0 I J P := by
  obtain ⟨d, rfl⟩ : ∃ d, D = d + 1 := ⟨D - 1, by omega⟩
  refine en_M_begin 20 (Nat.le_of_ble_eq_true rfl) ?_
  simp (disch := omega) only [am_z, cq_M_begin, Nat.reduceAdd, Nat.zero_le, Nat.reduceLeDiff, ar_lit]
  refine s_M_copy (a := (27, 0)) (b := (28, 0)) (fa := 0) (tb := 0) (n := 197) (by omega) ⟨rfl, by decide⟩ ⟨rfl, by decide⟩ ⟨by decide, by decide⟩ (Or.inl (by simp)) ?_
  simp only [am_z, Nat.reduceAdd, Nat.zero_le, Nat.reduceLeDiff]
  refine rn_M_begin 20 ?_
  simp (disch := omega) only [am_z, cq_M_begin, Nat.reduceAdd, Nat.zero_le, Nat.reduceLeDiff, ar_lit]
  refine k _ (fM.rf.cq (by simp)) (h.p.ext h.w (fun j hj => ?_))
  rw [am_cq_at, if_pos (by omega)]
  congr 1
  omega
theorem s_M_remember (hD : 2 ≤ D) (h : sm I s) (k : ∀ I', fM [29] [9] I I' → sm I' (tact s s.2.1) → P (.inl none) am_G0 I' J) : am_T l D y_M_remember [vR (9, 0)] am_G0 I J P := by
  obtain ⟨d, rfl⟩ : ∃ d, D = d + 1 := ⟨D - 1, by omega⟩
  obtain ⟨y1, y2, y3⟩ := h.2.2.2.1
  -- what is common: the latest state goes behind those of L
  have fin : ∀ (L : List pt_T) I1 pc, L.length < 14 → fM [29] [9] I I1 → rY I1 L → (s.2.1 :: L) = trem s → pc = 37 → am_X l (0, fun _ => 0) (d + 1) y_M_remember P pc [some (vR (9, 0))] [] 0 0 am_G0 I1 J := by
    intro L I1 pc hL hf hy he hpc
    subst hpc
    obtain ⟨z1, z2, z3⟩ := hy
    refine rn_M_remember 40 ?_
    simp (disch := omega) only [am_z, cq_M_remember, Nat.reduceAdd, Nat.zero_le, Nat.reduceLeDiff, ar_lit, z1, pk_mul]
    refine s_M_copy (a := (27, 0)) (b := (29, 0)) (fa := 0) (tb := 197 * L.length) (n := 197) (by omega) ⟨rfl, by decide⟩ ⟨rfl, by show 197 * L.length + 197 ≤ 2758; omega⟩ ⟨by decide, by decide⟩ (Or.inl (by simp)) ?_
    simp only [am_z, Nat.reduceAdd, Nat.zero_le, Nat.reduceLeDiff]
    refine rn_M_remember 40 ?_
    simp (disch := omega) only [am_z, cq_M_remember, Nat.reduceAdd, Nat.zero_le, Nat.reduceLeDiff, ar_lit, am_cqS, z1, nI_add]
    have ff : fM [29] [9] I (am_upI (am_cq I1 (27, 0) (29, 0) 0 (197 * L.length) 197) (9, 0) 9 (nI (L.length + 1))) := (hf.cq (by simp)).up (Or.inr ⟨rfl, by simp⟩)
    have h27 : I1 (27, 0) = I (27, 0) := hf.at (by simp) (by omega)
    have v29 : ∀ k, am_upI (am_cq I1 (27, 0) (29, 0) 0 (197 * L.length) 197) (9, 0) 9 (nI (L.length + 1)) (29, 0) k = if 197 * L.length ≤ k ∧ k < 197 * L.length + 197 then I (27, 0) (k - 197 * L.length) else I1 (29, 0) k := fun k => by
      rw [am_uS _ _ _ _ _ (by omega), am_cq_at, h27, Nat.zero_add]
    refine k _ ff ⟨h.1.fM ff (by simp) (by simp), h.2.1.fM ff (by simp) (by omega), h.2.2.1, ?_, h.2.2.2.2.fM ff (by simp)⟩
    show rY _ (trem s)
    rw [← he]
    refine ⟨?_, by rw [List.length_cons]; omega, fun i hi => ?_⟩
    · rw [am_uE, upd_e, List.length_cons]
    · rw [List.length_cons] at hi ⊢
      cases i with
      | zero =>
        refine ⟨h.p.ext h.w (fun j hj => ?_), h.w⟩
        rw [v29, if_pos (by omega)]
        congr 1
        omega
      | succ i =>
        obtain ⟨g1, g2⟩ := z3 i (by omega)
        refine ⟨g1.ext g2 (fun j hj => ?_), g2⟩
        rw [v29, if_neg (by omega)]
        congr 1
        omega
  by_cases q : s.2.2.1.length = 14
  · refine en_M_remember 40 (Nat.le_of_ble_eq_true rfl) ?_
    simp (disch := omega) only [am_z, cq_M_remember, Nat.reduceAdd, Nat.zero_le, Nat.reduceLeDiff, ar_lit, y1, q, ↓reduceIte]
    refine s_M_copy (a := (29, 0)) (b := (29, 0)) (fa := 197) (tb := 0) (n := 2561) (by omega) ⟨rfl, by decide⟩ ⟨rfl, by decide⟩ ⟨by decide, by decide⟩ (Or.inr (by omega)) ?_
    simp only [am_z, Nat.reduceAdd, Nat.zero_le, Nat.reduceLeDiff]
    refine rn_M_remember 6 ?_
    simp (disch := omega) only [am_z, cq_M_remember, Nat.reduceAdd, Nat.zero_le, Nat.reduceLeDiff, ar_lit, am_cqS, y1, q, ar_sub]
    have ff : fM [29] [9] I (am_upI (am_cq I (29, 0) (29, 0) 197 0 2561) (9, 0) 9 (nI (14 - 1))) := (fM.rf.cq (by simp)).up (Or.inr ⟨rfl, by simp⟩)
    have hl : (s.2.2.1.take 13).length = 13 := by rw [List.length_take]; omega
    refine fin (s.2.2.1.take 13) _ _ (by omega) ff ⟨?_, by omega, fun i hi => ?_⟩ ?_ rfl
    · rw [am_uE, upd_e, hl]
    · rw [hl] at hi ⊢
      have eg : (s.2.2.1.take 13).getD i tnew = s.2.2.1.getD i tnew := by
        rw [List.getD_eq_getElem?_getD, List.getD_eq_getElem?_getD, List.getElem?_take_of_lt hi]
      rw [eg]
      obtain ⟨g1, g2⟩ := y3 i (by omega)
      refine ⟨g1.ext g2 (fun j hj => ?_), g2⟩
      rw [am_uS _ _ _ _ _ (by omega), am_cq_at, if_pos (by omega)]
      congr 1
      omega
    · unfold trem
      rw [List.take_succ_cons]
  · refine en_M_remember 4 (Nat.le_of_ble_eq_true rfl) ?_
    simp (disch := omega) only [am_z, cq_M_remember, Nat.reduceAdd, Nat.zero_le, Nat.reduceLeDiff, ar_lit, y1, ar_eq]
    rw [if_neg q]
    refine fin s.2.2.1 I _ (by omega) fM.rf ⟨y1, y2, y3⟩ ?_ rfl
    unfold trem
    rw [List.take_of_length_le (by rw [List.length_cons]; omega)]
end RG
