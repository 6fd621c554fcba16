/-! ===== the class Table: new, copied, heights, a round of simulate ===== -/
theorem am_cpS (I : am_I) {s s' t t' n : Nat} (a0 : am_A) (sp dp : Nat) (h : ¬ s = s') : am_cpI I a0 (s', t') sp dp n (s, t) = I (s, t) := if_neg fun q => h (congrArg Prod.fst q)
theorem am_cpT (I : am_I) {s s' t t' n : Nat} (a0 : am_A) (sp dp : Nat) (h : ¬ t = t') : am_cpI I a0 (s', t') sp dp n (s, t) = I (s, t) := if_neg fun q => h (congrArg Prod.snd q)
theorem am_cpE (I : am_I) (a0 a : am_A) (n k : Nat) (h : k < n) : am_cpI I a0 a 0 0 n a k = I a0 k := by
  unfold am_cpI
  rw [if_pos rfl]
  unfold va_cpy
  rw [if_pos (by omega)]
  congr 1
  omega
theorem am_fr.cp {S : am_A → Prop} {I I' : am_I} (h : am_fr S I I') {a0 a : am_A} {sp dp n : Nat} (ha : S a) : am_fr S I (am_cpI I' a0 a sp dp n) := fun b hb => by
  unfold am_cpI
  rw [if_neg (fun e : b = a => hb (by rw [e]; exact ha))]
  exact h b hb
section TAB
variable {l : Launch} {D t u : Nat} {I : am_I} {J : am_J} {P : am_P} {p : pt_T}
/-- what makeNew leaves -/
def am_nw (I : am_I) (t : Nat) : am_I := am_fil (am_upI (am_upI (am_upI (am_upI (am_upI I (7, t) 0 (nI 1)) (7, t) 1 (nI 0)) (7, t) 2 (nI 0)) (7, t) 3 (nI 20)) (7, t) 4 (nI 1)) (17, t) 1 6 (nI 1)
theorem am_nw_fr : am_fr (isT t) I (am_nw I t) := am_fr.fil (am_fr.up (am_fr.up (am_fr.up (am_fr.up (am_fr.up am_fr.rf ⟨rfl, by simp⟩) ⟨rfl, by simp⟩) ⟨rfl, by simp⟩) ⟨rfl, by simp⟩) ⟨rfl, by simp⟩) ⟨rfl, by simp⟩
theorem rC.new (h0 : I (17, t) 0 = nI 0) : rC (am_nw I t) t tnew := by
  refine ⟨⟨?_, ?_, ?_, ?_, ?_⟩, fun r q => absurd q (Nat.not_lt_zero _), fun s q => absurd q (Nat.not_lt_zero _), fun m q => ?_⟩
  · simp [am_nw, am_fil_at, am_upI_at]; rfl
  · simp [am_nw, am_fil_at, am_upI_at]; rfl
  · simp [am_nw, am_fil_at, am_upI_at]; rfl
  · simp [am_nw, am_fil_at, am_upI_at]; rfl
  · simp [am_nw, am_fil_at, am_upI_at]; rfl
  · unfold am_nw
    rw [am_fil_at]
    by_cases hm : m = 0
    · subst hm
      rw [if_neg (by omega), am_uS _ _ _ _ _ (by omega), am_uS _ _ _ _ _ (by omega), am_uS _ _ _ _ _ (by omega), am_uS _ _ _ _ _ (by omega), am_uS _ _ _ _ _ (by omega)]
      exact h0
    · rw [if_pos ⟨rfl, by omega, by omega⟩]
      show nI 1 = nI (if m = 0 then 0 else 1)
      rw [if_neg hm]
theorem s_makeNew {G : am_G} (hD : 1 ≤ D) (hG : G.2 (7, t) 12 = some (17, t)) (k : P (.inl none) G (am_nw I t) J) : am_T l D y_Table_makeNew [vR (7, t)] G I J P := by
  obtain ⟨d, rfl⟩ : ∃ d, D = d + 1 := ⟨D - 1, by omega⟩
  have loop : ∀ m j I0, j + m = 6 → am_fil I0 (17, t) 1 6 (nI 1) = am_nw I t → am_X l (0, fun _ => 0) (d + 1) y_Table_makeNew P 28 [some (vR (7, t)), some (vI (nI (1 + j)))] [] 0 0 G (am_fil I0 (17, t) 1 j (nI 1)) J := by
    intro m
    induction m with
    | zero =>
      intro j I0 hj e
      have : j = 6 := by omega
      subst this
      refine rn_Table_makeNew 20 ?_
      simp (disch := omega) only [am_z, cq_Table_makeNew, Nat.reduceAdd, ar_lit, ar_lt]
      rw [if_pos (by omega), e]
      exact k
    | succ m ih =>
      intro j I0 hj e
      refine rn_Table_makeNew 20 ?_
      simp (disch := omega) only [am_z, cq_Table_makeNew, Nat.reduceAdd, ar_lit, ar_lt, hG, nI_add, ar_in, ar_cl]
      rw [if_neg (by omega)]
      refine ⟨by omega, ?_⟩
      rw [am_fil_s]
      exact @ih (j + 1) I0 (by omega) e
  refine en_Table_makeNew 40 (Nat.le_of_ble_eq_true rfl) ?_
  simp (disch := omega) only [am_z, cq_Table_makeNew, Nat.reduceAdd, ar_lit]
  have := @loop 6 0 _ rfl rfl
  rw [am_fil_z] at this
  exact this
theorem s_copyFrom (hD : 1 ≤ D) (hr : rC I u p) (hw : tW p) (hut : ¬ u = t) (k : ∀ I', am_fr (isT t) I I' → rC I' t p → P (.inl none) am_G0 I' J) : am_T l D y_Table_copyFrom [vR (7, t), vR (7, u)] am_G0 I J P := by
  obtain ⟨d, rfl⟩ : ∃ d, D = d + 1 := ⟨D - 1, by omega⟩
  have hn := hw.2.2.2.2.1
  have hm := hw.2.2.2.2.2.1
  have loop2 : ∀ m j I', j + m = 6 → am_fr (isT t) I I' → (∀ q, q < 5 → I' (7, t) q = I (7, u) q) → (∀ r, r < 24 → I' (10, t) r = I (10, u) r ∧ I' (11, t) r = I (11, u) r) → (∀ r, r < 96 → I' (13, t) r = I (13, u) r) → (∀ r, r < 6 → I' (14, t) r = I (14, u) r ∧ I' (15, t) r = I (15, u) r) → (∀ r, r < 7 → I' (17, t) r = I (17, u) r) → (∀ r, r < 24 → I' (12, t) r = vp_nar .boolean (I (12, u) r)) → (∀ r, r < j → I' (16, t) r = vp_nar .boolean (I (16, u) r)) → am_X l (0, fun _ => 0) (d + 1) y_Table_copyFrom P 158 [some (vR (7, t)), some (vR (7, u)), some (vI (nI j))] [] 0 0 am_G0 I' J := by
    intro m
    induction m with
    | zero =>
      intro j I' hj hf f7 f10 f13 f14 f17 f12 f16
      have : j = 6 := by omega
      subst this
      refine rn_Table_copyFrom 20 ?_
      simp (disch := omega) only [am_z, cq_Table_copyFrom, Nat.reduceAdd, ar_lit, ar_le, ↓reduceIte]
      refine k I' hf ?_
      obtain ⟨⟨h1, h2, h3, h4, h5⟩, hR, hS, hV⟩ := hr
      refine ⟨⟨(f7 0 (by omega)).trans h1, (f7 1 (by omega)).trans h2, (f7 2 (by omega)).trans h3, (f7 3 (by omega)).trans h4, (f7 4 (by omega)).trans h5⟩, fun r q => ?_, fun s q => ?_, fun m q => (f17 m (by omega)).trans (hV m q)⟩
      · obtain ⟨g1, g2, g3, g4⟩ := hR r q
        have hb : tK p r ≤ 1 := (hw.row q).2.2.2.1
        refine ⟨(f10 r (by omega)).1.trans g1, (f10 r (by omega)).2.trans g2, ?_, fun c hc => (f13 _ (by omega)).trans (g4 c hc)⟩
        rw [f12 r (by omega), g3, nar_b _ hb]
      · obtain ⟨g1, g2, g3⟩ := hS s q
        have hb : tM p s ≤ 1 := (hw.span q).2.2
        refine ⟨(f14 s (by omega)).1.trans g1, (f14 s (by omega)).2.trans g2, ?_⟩
        rw [f16 s (by omega), g3, nar_b _ hb]
    | succ m ih =>
      intro j I' hj hf f7 f10 f13 f14 f17 f12 f16
      refine rn_Table_copyFrom 20 ?_
      simp (disch := omega) only [am_z, cq_Table_copyFrom, Nat.reduceAdd, ar_lit, ar_le, nI_add, ar_in, ar_cl]
      rw [if_neg (by omega)]
      refine ⟨by omega, by omega, ?_⟩
      have e : I' (16, u) = I (16, u) := hf _ (fun q => hut q.1)
      refine @ih (j + 1) _ (by omega) (am_fr.up hf ⟨rfl, by simp⟩) ?_ ?_ ?_ ?_ ?_ ?_ ?_
      · rw [am_uS _ _ _ _ _ (by omega)]; exact f7
      · rw [am_uS _ _ _ _ _ (by omega), am_uS _ _ _ _ _ (by omega)]; exact f10
      · rw [am_uS _ _ _ _ _ (by omega)]; exact f13
      · rw [am_uS _ _ _ _ _ (by omega), am_uS _ _ _ _ _ (by omega)]; exact f14
      · rw [am_uS _ _ _ _ _ (by omega)]; exact f17
      · rw [am_uS _ _ _ _ _ (by omega)]; exact f12
      · intro r q
        rw [am_uE, upd_at]
        by_cases hq : r = j
        · rw [if_pos hq, e, hq]
        · rw [if_neg hq]; exact f16 r (by omega)
  have loop1 : ∀ m j I', j + m = 24 → am_fr (isT t) I I' → (∀ q, q < 5 → I' (7, t) q = I (7, u) q) → (∀ r, r < 24 → I' (10, t) r = I (10, u) r ∧ I' (11, t) r = I (11, u) r) → (∀ r, r < 96 → I' (13, t) r = I (13, u) r) → (∀ r, r < 6 → I' (14, t) r = I (14, u) r ∧ I' (15, t) r = I (15, u) r) → (∀ r, r < 7 → I' (17, t) r = I (17, u) r) → (∀ r, r < j → I' (12, t) r = vp_nar .boolean (I (12, u) r)) → am_X l (0, fun _ => 0) (d + 1) y_Table_copyFrom P 132 [some (vR (7, t)), some (vR (7, u)), some (vI (nI j))] [] 0 0 am_G0 I' J := by
    intro m
    induction m with
    | zero =>
      intro j I' hj hf f7 f10 f13 f14 f17 f12
      have : j = 24 := by omega
      subst this
      refine rn_Table_copyFrom 20 ?_
      simp (disch := omega) only [am_z, cq_Table_copyFrom, Nat.reduceAdd, ar_lit, ar_le, ↓reduceIte]
      exact @loop2 6 0 I' rfl hf f7 f10 f13 f14 f17 f12 (fun r q => absurd q (Nat.not_lt_zero _))
    | succ m ih =>
      intro j I' hj hf f7 f10 f13 f14 f17 f12
      refine rn_Table_copyFrom 20 ?_
      simp (disch := omega) only [am_z, cq_Table_copyFrom, Nat.reduceAdd, ar_lit, ar_le, nI_add, ar_in, ar_cl]
      rw [if_neg (by omega)]
      refine ⟨by omega, by omega, ?_⟩
      have e : I' (12, u) = I (12, u) := hf _ (fun q => hut q.1)
      refine @ih (j + 1) _ (by omega) (am_fr.up hf ⟨rfl, by simp⟩) ?_ ?_ ?_ ?_ ?_ ?_
      · rw [am_uS _ _ _ _ _ (by omega)]; exact f7
      · rw [am_uS _ _ _ _ _ (by omega), am_uS _ _ _ _ _ (by omega)]; exact f10
      · rw [am_uS _ _ _ _ _ (by omega)]; exact f13
      · rw [am_uS _ _ _ _ _ (by omega), am_uS _ _ _ _ _ (by omega)]; exact f14
      · rw [am_uS _ _ _ _ _ (by omega)]; exact f17
      · intro r q
        rw [am_uE, upd_at]
        by_cases hq : r = j
        · rw [if_pos hq, e, hq]
        · rw [if_neg hq]; exact f12 r (by omega)
  refine en_Table_copyFrom 120 (Nat.le_of_ble_eq_true rfl) ?_
  simp (disch := omega) only [am_z, cq_Table_copyFrom, Nat.reduceAdd, ar_lit, ar_lt, ar_cl, am_uT]
  refine ⟨by omega, by omega, by omega, by omega, by omega, by omega, ?_⟩
  refine @loop1 24 0 _ rfl ?_ ?_ ?_ ?_ ?_ ?_ (fun r q => absurd q (Nat.not_lt_zero _))
  · exact am_fr.cp (am_fr.cp (am_fr.cp (am_fr.cp (am_fr.cp (am_fr.cp (am_fr.up (am_fr.up (am_fr.up (am_fr.up (am_fr.up am_fr.rf ⟨rfl, by simp⟩) ⟨rfl, by simp⟩) ⟨rfl, by simp⟩) ⟨rfl, by simp⟩) ⟨rfl, by simp⟩) ⟨rfl, by simp⟩) ⟨rfl, by simp⟩) ⟨rfl, by simp⟩) ⟨rfl, by simp⟩) ⟨rfl, by simp⟩) ⟨rfl, by simp⟩
  · intro q hq
    simp (disch := omega) only [am_cpS]
    rcases (show q = 0 ∨ q = 1 ∨ q = 2 ∨ q = 3 ∨ q = 4 by omega) with rfl | rfl | rfl | rfl | rfl <;> simp [am_uE, upd_at]
  · intro r q
    constructor <;> simp (disch := omega) only [am_cpS, am_cpE, am_uT, am_uS]
  · intro r q
    simp (disch := omega) only [am_cpS, am_cpE, am_uT, am_uS]
  · intro r q
    constructor <;> simp (disch := omega) only [am_cpS, am_cpE, am_uT, am_uS]
  · intro r q
    simp (disch := omega) only [am_cpS, am_cpE, am_uT, am_uS]
end TAB
/-! ints that may be below 0 -/
theorem ar_ltI {x : Int32} {k : Nat} (h : k < 2 ^ 31) : (x < nI k) = (x.toInt < (k : Int)) := by
  apply propext
  rw [Int32.lt_iff_toInt_lt, nI_toInt h]
theorem ar_gtI {x : Int32} {k : Nat} (h : k < 2 ^ 31) : (nI k < x) = ((k : Int) < x.toInt) := by
  apply propext
  rw [Int32.lt_iff_toInt_lt, nI_toInt h]
theorem ar_leI {x : Int32} {k : Nat} (h : k < 2 ^ 31) : (nI k ≤ x) = ((k : Int) ≤ x.toInt) := by
  apply propext
  rw [Int32.le_iff_toInt_le, nI_toInt h]
theorem ar_geI {x : Int32} {k : Nat} (h : k < 2 ^ 31) : (x ≤ nI k) = (x.toInt ≤ (k : Int)) := by
  apply propext
  rw [Int32.le_iff_toInt_le, nI_toInt h]
theorem ar_eqI {x : Int32} {k : Nat} (h : k < 2 ^ 31) : (x = nI k) = (x.toInt = (k : Int)) := by
  apply propext
  constructor
  · intro q; rw [q, nI_toInt h]
  · intro q; exact Int32.toInt_inj.mp (by rw [q, nI_toInt h])
theorem ar_mod {a b : Nat} (ha : a < 2 ^ 31) (h0 : 0 < b) (hb : b < 2 ^ 31) : nI a - nI a / nI b * nI b = nI (a % b) := by
  have h1 : a / b ≤ a := Nat.div_le_self _ _
  have h2 : a / b * b ≤ a := Nat.div_mul_le_self a b
  rw [pk_div ha h0 hb, pk_mul, ar_sub h2]
  congr 1
  have := Nat.div_add_mod a b
  rw [Nat.mul_comm] at this
  omega
theorem tokH_iff (w h : Nat) : tokH w h = true ↔ (w = 0 ∧ 6 ≤ h ∧ h ≤ 40) ∨ (w = 1 ∧ h ≤ 4) ∨ (2 ≤ w ∧ w ≤ 7 ∧ 1 ≤ h ∧ h ≤ 3) := by
  unfold tokH
  by_cases h0 : w = 0
  · rw [if_pos h0]; simp; omega
  · rw [if_neg h0]
    by_cases h1 : w = 1
    · rw [if_pos h1]; simp; omega
    · rw [if_neg h1]; simp; omega
section TAB
variable {l : Launch} {D t u : Nat} {I : am_I} {J : am_J} {P : am_P} {p : pt_T}
/-- a height, told as setHeight counts it -/
theorem s_allowsHeight {a b : Int32} (hD : 1 ≤ D) (k0 : (∀ w h, w < 8 → h < 41 → tokH w h = true → a = nI w → b = nI h → False) → P (.inl (some (vI (nI 0)))) am_G0 I J) (k1 : ∀ w h, w < 8 → h < 41 → tokH w h = true → a = nI w → b = nI h → P (.inl (some (vI (nI 1)))) am_G0 I J) : am_T l D y_Table_allowsHeight [vI a, vI b] am_G0 I J P := by
  obtain ⟨d, rfl⟩ : ∃ d, D = d + 1 := ⟨D - 1, by omega⟩
  refine en_Table_allowsHeight 20 (Nat.le_of_ble_eq_true rfl) ?_
  simp only [am_z, cq_Table_allowsHeight, Nat.reduceAdd, ar_lit]
  simp (disch := omega) only [ar_ltI, ar_gtI, ar_eqI]
  have c0 : (¬ ((a.toInt = 0 ∧ 6 ≤ b.toInt ∧ b.toInt ≤ 40) ∨ (a.toInt = 1 ∧ 0 ≤ b.toInt ∧ b.toInt ≤ 4) ∨ (2 ≤ a.toInt ∧ a.toInt ≤ 7 ∧ 1 ≤ b.toInt ∧ b.toInt ≤ 3))) → P (.inl (some (vI (nI 0)))) am_G0 I J := fun q => k0 fun w h h1 h2 h3 e1 e2 => by
    rw [ar_eqI (by omega)] at e1 e2
    rw [tokH_iff] at h3
    exact q (by omega)
  have c1 : ((a.toInt = 0 ∧ 6 ≤ b.toInt ∧ b.toInt ≤ 40) ∨ (a.toInt = 1 ∧ 0 ≤ b.toInt ∧ b.toInt ≤ 4) ∨ (2 ≤ a.toInt ∧ a.toInt ≤ 7 ∧ 1 ≤ b.toInt ∧ b.toInt ≤ 3)) → P (.inl (some (vI (nI 1)))) am_G0 I J := fun q => k1 a.toInt.toNat b.toInt.toNat (by omega) (by omega) (by rw [tokH_iff]; omega) (by rw [ar_eqI (by omega)]; omega) (by rw [ar_eqI (by omega)]; omega)
  repeat' split
  all_goals first | exact c0 (by omega) | exact c1 (by omega)
theorem s_putHeight {w h : Nat} (hD : 1 ≤ D) (hr : rC I t p) (hw8 : w < 8) (k : ∀ I', am_fr (isT t) I I' → rC I' t (tsetH p w h) → P (.inl none) am_G0 I' J) : am_T l D y_Table_putHeight [vR (7, t), vI (nI w), vI (nI h)] am_G0 I J P := by
  obtain ⟨d, rfl⟩ : ∃ d, D = d + 1 := ⟨D - 1, by omega⟩
  refine en_Table_putHeight 20 (Nat.le_of_ble_eq_true rfl) ?_
  simp (disch := omega) only [am_z, cq_Table_putHeight, Nat.reduceAdd, ar_lit, ar_eq]
  obtain ⟨⟨h1, h2, h3, h4, h5⟩, hR, hS, hV⟩ := hr
  by_cases w0 : w = 0
  · rw [if_pos w0]
    refine k _ (am_fr.up am_fr.rf ⟨rfl, by simp⟩) ?_
    unfold tsetH
    rw [if_pos w0]
    unfold rC
    simp (disch := omega) only [am_uS, am_uE]
    exact ⟨⟨h1, h2, h3, rfl, h5⟩, hR, hS, hV⟩
  · rw [if_neg w0]
    by_cases w1 : w = 1
    · rw [if_pos w1]
      refine k _ (am_fr.up am_fr.rf ⟨rfl, by simp⟩) ?_
      unfold tsetH
      rw [if_neg w0, if_pos w1]
      unfold rC
      simp (disch := omega) only [am_uS, am_uE]
      exact ⟨⟨h1, h2, h3, h4, rfl⟩, hR, hS, hV⟩
    · rw [if_neg w1]
      simp (disch := omega) only [ar_sub, ar_in, ar_cl]
      refine ⟨by omega, k _ (am_fr.up am_fr.rf ⟨rfl, by simp⟩) ?_⟩
      unfold tsetH
      rw [if_neg w0, if_neg w1]
      unfold rC
      simp (disch := omega) only [am_uS, am_uE]
      refine ⟨⟨h1, h2, h3, h4, h5⟩, hR, hS, fun n hn => ?_⟩
      rw [upd_at]
      show _ = nI (if n = w - 1 then h else tV p n)
      split
      · rfl
      · exact hV n hn
/-- one cell of a row -/
theorem rC.setK {r b : Nat} (hr : rC I t p) (hq : r < tn p) : rC (am_upI I (12, t) r (nI b)) t (tsetK p r b) := by
  obtain ⟨⟨h1, h2, h3, h4, h5⟩, hR, hS, hV⟩ := hr
  have en : tn (tsetK p r b) = tn p := tn_set _ _
  unfold rC
  rw [en]
  simp (disch := omega) only [am_uS, am_uE]
  refine ⟨⟨h1, h2, h3, h4, h5⟩, fun i hi => ?_, hS, hV⟩
  obtain ⟨g1, g2, g3, g4⟩ := hR i hi
  have e : tR (tsetK p r b) i = if i = r ∧ i < tn p then (tH p r, tN p r, b, tA p r) else tR p i := tR_set _ _ _
  unfold tH tN tK tA
  rw [e, upd_at]
  by_cases q : i = r
  · rw [if_pos ⟨q, hi⟩, if_pos q]
    subst q
    exact ⟨g1, g2, rfl, g4⟩
  · rw [if_neg (fun z => q z.1), if_neg q]
    exact ⟨g1, g2, g3, g4⟩
theorem rC.setN {r b : Nat} (hr : rC I t p) (hq : r < tn p) : rC (am_upI I (11, t) r (nI b)) t (tsetN p r b) := by
  obtain ⟨⟨h1, h2, h3, h4, h5⟩, hR, hS, hV⟩ := hr
  have en : tn (tsetN p r b) = tn p := tn_set _ _
  unfold rC
  rw [en]
  simp (disch := omega) only [am_uS, am_uE]
  refine ⟨⟨h1, h2, h3, h4, h5⟩, fun i hi => ?_, hS, hV⟩
  obtain ⟨g1, g2, g3, g4⟩ := hR i hi
  have e : tR (tsetN p r b) i = if i = r ∧ i < tn p then (tH p r, b, tK p r, tA p r) else tR p i := tR_set _ _ _
  unfold tH tN tK tA
  rw [e, upd_at]
  by_cases q : i = r
  · rw [if_pos ⟨q, hi⟩, if_pos q]
    subst q
    exact ⟨g1, rfl, g3, g4⟩
  · rw [if_neg (fun z => q z.1), if_neg q]
    exact ⟨g1, g2, g3, g4⟩
theorem rC.setA {r c : Nat} {v : Int} (hr : rC I t p) (hq : r < tn p) (hc : c < 4) : rC (am_upI I (13, t) (r * 4 + c) (iI v)) t (tsetA p r c v) := by
  obtain ⟨⟨h1, h2, h3, h4, h5⟩, hR, hS, hV⟩ := hr
  have en : tn (tsetA p r c v) = tn p := tn_set _ _
  unfold rC
  rw [en]
  simp (disch := omega) only [am_uS, am_uE]
  refine ⟨⟨h1, h2, h3, h4, h5⟩, fun i hi => ?_, hS, hV⟩
  obtain ⟨g1, g2, g3, g4⟩ := hR i hi
  have e : tR (tsetA p r c v) i = if i = r ∧ i < tn p then (tH p r, tN p r, tK p r, fun j => if j = c then v else tA p r j) else tR p i := tR_set _ _ _
  unfold tH tN tK tA
  rw [e]
  by_cases q : i = r
  · rw [if_pos ⟨q, hi⟩]
    subst q
    refine ⟨g1, g2, g3, fun j hj => ?_⟩
    rw [upd_at]
    show _ = iI (if j = c then v else tA p i j)
    by_cases qj : j = c
    · rw [if_pos (by omega), if_pos qj]
    · rw [if_neg (by omega), if_neg qj]; exact g4 j hj
  · rw [if_neg (fun z => q z.1)]
    refine ⟨g1, g2, g3, fun j hj => ?_⟩
    rw [upd_at, if_neg (by omega)]
    exact g4 j hj
end TAB
