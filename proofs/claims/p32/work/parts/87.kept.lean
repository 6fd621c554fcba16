/-! ===== the law: pages follow one another and hold all rows ===== -/
theorem sh_bit0 : ∀ x, x < 64 → ∀ i, i < 6 → (lI ((x : Nat) : Int) >>> ((nI i).toInt64 &&& 63)) &&& lI 1 = lI ((x / 2 ^ i % 2 : Nat) : Int) := by decide +kernel
theorem sh_bit {x i : Nat} (hx : x < 64) (hi : i < 6) : (lI (x : Int) >>> ((nI i).toInt64 &&& 63)) &&& lI 1 = lI ((x / 2 ^ i % 2 : Nat) : Int) := sh_bit0 x hx i hi
theorem sh_note0 : ∀ n, n < 7 → (lI 1 <<< ((nI n).toInt64 &&& 63)) >>> ((nI 1).toInt64 &&& 63) = lI ((2 ^ n / 2 : Nat) : Int) := by decide +kernel
theorem sh_note {n : Nat} (hn : n < 7) : (lI 1 <<< ((nI n).toInt64 &&& 63)) >>> ((nI 1).toInt64 &&& 63) = lI ((2 ^ n / 2 : Nat) : Int) := sh_note0 n hn
theorem sl_or0 : ∀ x, x < 64 → ∀ n, n < 7 → lI ((x : Nat) : Int) ||| lI ((2 ^ n / 2 : Nat) : Int) = lI ((x ||| 2 ^ n / 2 : Nat) : Int) := by decide +kernel
theorem sl_or {x n : Nat} (hx : x < 64) (hn : n < 7) : lI (x : Int) ||| lI ((2 ^ n / 2 : Nat) : Int) = lI ((x ||| 2 ^ n / 2 : Nat) : Int) := sl_or0 x hx n hn
theorem tpgi_e (p : pt_T) (a b : Nat) : tpgi p a b 0 = (a : Int) ∧ tpgi p a b 1 = (b : Int) ∧ tpgi p a b 2 = (tlines p a b : Int) ∧ tpgi p a b 3 = (tP p : Int) - (tlines p a b : Int) ∧ tpgi p a b 4 = (tnam p a : Int) ∧ tpgi p a b 5 = ((tmsk p a (b + 1 - a) / 2 : Nat) : Int) := ⟨rfl, rfl, rfl, rfl, rfl, rfl⟩
theorem trow_e (p : pt_T) (r : Nat) : trow p r 0 = tH p r ∧ trow p r 1 = tN p r ∧ trow p r 2 = tK p r ∧ trow p r 3 = b01 (decide (r + 1 < tn p) && tcut p r) ∧ trow p r 4 = tpo (tpg p (tP p)) r := ⟨rfl, rfl, rfl, rfl, rfl⟩
theorem tspn_e (p : pt_T) (i : Nat) : tspn p i 0 = tF p i ∧ tspn p i 1 = tL p i ∧ tspn p i 2 = tM p i ∧ tspn p i 3 = tps (tpg p (tP p)) p i := ⟨rfl, rfl, rfl, rfl⟩
section KE
variable {l : Launch} {D d : Nat} {I : am_I} {J : am_J} {P : am_P} {s : pt_G}
theorem s_L_in {z lo hi : Int} (hD : 1 ≤ D) (h1 : -9000000000000000000 ≤ lo) (h2 : lo ≤ z) (h3 : z ≤ hi) (h4 : hi < 9000000000000000000) (k : P (.inl (some (vI (nI 1)))) am_G0 I J) : am_T l D y_L_in [vL (lI z), vL (lI lo), vL (lI hi)] am_G0 I J P := by
  obtain ⟨d, rfl⟩ : ∃ d, D = d + 1 := ⟨D - 1, by omega⟩
  refine en_L_in 40 (Nat.le_of_ble_eq_true rfl) ?_
  simp (disch := omega) only [am_z, cq_L_in, Nat.reduceAdd, Nat.zero_le, Nat.reduceLeDiff, ar_lit, lc_lt, lc_gt, lI_lt]
  rw [if_neg (by omega), if_neg (by omega)]
  exact k
/-- what is known of the page k -/
def kpg (p : pt_T) (k a b : Nat) : Prop := k < (tpg p (tP p)).length ∧ pst p (tP p) k = a ∧ (pgA (tpg p (tP p)) k).2.1 = b ∧ a ≤ b ∧ b < tn p
/-- how many of the first k pages are overfull -/
def kov (p : pt_T) (k : Nat) : Nat := sumN (fun k => b01 ((tpg p (tP p)).getD k (0, 0, false)).2.2) k
theorem kov_le (p : pt_T) (k : Nat) : kov p k ≤ k := sumb_le _ k
theorem kov_s {p : pt_T} {k a b : Nat} (h : kpg p k a b) : kov p (k + 1) = kov p k + b01 (decide (tP p < tlines p a b)) := by
  obtain ⟨h1, rfl, rfl, _⟩ := h
  show kov p k + b01 (pgA (tpg p (tP p)) k).2.2 = _
  rw [pg_over h1]
/-- the locals at the head of the pages' loop -/
abbrev kls (p : pt_T) (k : Nat) (r : am_L) : am_L := some (vR (0, 0)) :: some (vI (nI (tC p))) :: some (vI (nI (tn p))) :: some (vI (nI (tpg p (tP p)).length)) :: some (vI (nI 1)) :: some (vI (nI (pst p (tP p) k))) :: some (vI (nI (kov p k))) :: some (vI (nI k)) :: r
abbrev klt (p : pt_T) (k a b ov : Nat) (r : am_L) : am_L := some (vR (0, 0)) :: some (vI (nI (tC p))) :: some (vI (nI (tn p))) :: some (vI (nI (tpg p (tP p)).length)) :: some (vI (nI 1)) :: some (vI (nI a)) :: some (vI (nI ov)) :: some (vI (nI k)) :: some (vI (nI a)) :: some (vI (nI b)) :: r
/-- the sums of the columns -/
theorem k_cols (hD : 9 ≤ d + 1) {k a b : Nat} (hp : kpg s.2.1 k a b) {x10 x11 x12 x13 : Option am_V} {v14 : Int32} {ov kc0 ks0 : Nat} (hb : kc0 + 300 ≤ 12000 ∧ ks0 + 1800 ≤ 72000)
    (next : ∀ I kc ks x15 x16 x17 x18, st I s → kc ≤ kc0 + 226 → ks ≤ ks0 + 1356 → am_X l (0, fun _ => 0) (d + 1) y_L_kept P 80 (some (vR (0, 0)) :: some (vI (nI (tC s.2.1))) :: some (vI (nI (tn s.2.1))) :: some (vI (nI (tpg s.2.1 (tP s.2.1)).length)) :: some (vI (nI 1)) :: some (vI (nI (b + 1))) :: some (vI (nI ov)) :: some (vI (nI (k + 1))) :: [some (vI (nI a)), some (vI (nI b)), x10, x11, x12, x13, some (vI v14), x15, x16, x17, x18]) [] kc ks am_G0 I J) :
    ∀ m c I kc ks x16 x17 x18, st I s → c + m = tC s.2.1 → kc + 56 * m ≤ kc0 + 226 → ks + 336 * m ≤ ks0 + 1356 → am_X l (0, fun _ => 0) (d + 1) y_L_kept P 483 (klt s.2.1 k a b ov [x10, x11, x12, x13, some (vI v14), some (vI (nI c)), x16, x17, x18]) [] kc ks am_G0 I J := by
  obtain ⟨hk, fa, fb, hab, hbn⟩ := hp
  intro m
  induction m with
  | zero =>
    intro c I kc ks x16 x17 x18 h hc hk1 hk2
    have hw := h.w
    have h24 := hw.2.2.2.2.1
    have h4 := hw.1
    have hl24 : (tpg s.2.1 (tP s.2.1)).length ≤ 24 := tpg_len
    refine rn_L_kept 40 ?_
    simp (disch := omega) only [am_z, cq_L_kept, Nat.reduceAdd, Nat.zero_le, Nat.reduceLeDiff, ar_lit, ar_le, nI_add]
    rw [if_pos (by omega)]
    exact next I kc ks _ _ _ _ h (by omega) (by omega)
  | succ m ih =>
    intro c I kc ks x16 x17 x18 h hc hk1 hk2
    have hw := h.w
    have h24 := hw.2.2.2.2.1
    have h4 := hw.1
    have hl24 : (tpg s.2.1 (tP s.2.1)).length ≤ 24 := tpg_len
    have lsum : ∀ n j z I kc ks, st I s → j + n = b + 1 - a → z = tsum s.2.1 0 a c + sumZ (fun i => tA s.2.1 (a + i) c) j → kc + 2 * n + 6 + 56 * m ≤ kc0 + 226 → ks + 12 * n + 36 + 336 * m ≤ ks0 + 1356 → am_X l (0, fun _ => 0) (d + 1) y_L_kept P 508 (klt s.2.1 k a b ov [x10, x11, x12, x13, some (vI v14), some (vI (nI c)), some (vL (lI z)), none, some (vI (nI (a + j)))]) [] kc ks am_G0 I J := by
      intro n
      induction n with
      | zero =>
        intro j z I kc ks h hj hz hk1 hk2
        obtain rfl : j = b + 1 - a := by omega
        have hb1 := tsum_split (p := s.2.1) (a := a) (b := b + 1) (c := c) (by omega)
        have hbd := tsum_le hw (a := 0) (b := b + 1) (c := c) (by omega) (by omega)
        have hbd0 := tsum_le hw (a := 0) (b := a) (c := c) (by omega) (by omega)
        refine rn_L_kept 40 ?_
        simp (disch := omega) only [am_z, cq_L_kept, Nat.reduceAdd, Nat.zero_le, Nat.reduceLeDiff, ar_lit, ar_lt, leT]
        rw [if_pos (by omega)]
        refine s_V_carried (by omega) h hk (by omega) (fun I1 h => ?_)
        rw [pst_s, fb, hb1, ← hz]
        simp only [am_z, Nat.reduceAdd, Nat.zero_le, Nat.reduceLeDiff]
        refine rn_L_kept 40 ?_
        simp (disch := omega) only [am_z, cq_L_kept, Nat.reduceAdd, Nat.zero_le, Nat.reduceLeDiff, ar_lit, lc_eq, ar_eq, leT, ar_sub, ↓reduceIte]
        by_cases k0 : k = 0
        · rw [if_pos k0]
          refine s_V_brought (by omega) h hk (by omega) (fun I2 h => ?_)
          rw [show pst s.2.1 (tP s.2.1) k = 0 by rw [k0]; rfl]
          simp only [am_z, Nat.reduceAdd, Nat.zero_le, Nat.reduceLeDiff]
          refine rn_L_kept 40 ?_
          simp (disch := omega) only [am_z, cq_L_kept, Nat.reduceAdd, Nat.zero_le, Nat.reduceLeDiff, ar_lit, lc_eq, show tsum s.2.1 0 0 c = 0 from rfl, lI_lit, ↓reduceIte]
          refine rn_L_kept 40 ?_
          simp (disch := omega) only [am_z, cq_L_kept, Nat.reduceAdd, Nat.zero_le, Nat.reduceLeDiff, ar_lit, nI_add]
          exact ih (c + 1) I2 _ _ _ _ _ h (by omega) (by omega) (by omega)
        · rw [if_neg k0]
          refine s_V_brought (by omega) h hk (by omega) (fun I2 h => ?_)
          simp only [am_z, Nat.reduceAdd, Nat.zero_le, Nat.reduceLeDiff]
          refine rn_L_kept 40 ?_
          simp (disch := omega) only [am_z, cq_L_kept, Nat.reduceAdd, Nat.zero_le, Nat.reduceLeDiff, ar_lit, leT, ar_sub]
          refine s_V_carried (by omega) h (by omega) (by omega) (fun I3 h => ?_)
          rw [show k - 1 + 1 = k by omega]
          simp only [am_z, Nat.reduceAdd, Nat.zero_le, Nat.reduceLeDiff]
          refine rn_L_kept 40 ?_
          simp (disch := omega) only [am_z, cq_L_kept, Nat.reduceAdd, Nat.zero_le, Nat.reduceLeDiff, ar_lit, lc_eq, ↓reduceIte]
          refine rn_L_kept 40 ?_
          simp (disch := omega) only [am_z, cq_L_kept, Nat.reduceAdd, Nat.zero_le, Nat.reduceLeDiff, ar_lit, nI_add]
          exact ih (c + 1) I3 _ _ _ _ _ h (by omega) (by omega) (by omega)
      | succ n ihn =>
        intro j z I kc ks h hj hz hk1 hk2
        refine rn_L_kept 40 ?_
        simp (disch := omega) only [am_z, cq_L_kept, Nat.reduceAdd, Nat.zero_le, Nat.reduceLeDiff, ar_lit, ar_lt, leT]
        rw [if_neg (by omega)]
        refine s_V_amount (by omega) h (by omega) (by omega) (fun I1 h => ?_)
        simp only [am_z, Nat.reduceAdd, Nat.zero_le, Nat.reduceLeDiff]
        refine rn_L_kept 40 ?_
        simp (disch := omega) only [am_z, cq_L_kept, Nat.reduceAdd, Nat.zero_le, Nat.reduceLeDiff, ar_lit, lI_add, nI_add]
        exact ihn (j + 1) _ I1 _ _ h (by omega) (by rw [hz, Int.add_assoc]; rfl) (by omega) (by omega)
    refine rn_L_kept 40 ?_
    simp (disch := omega) only [am_z, cq_L_kept, Nat.reduceAdd, Nat.zero_le, Nat.reduceLeDiff, ar_lit, ar_le, leT, ar_eq, Nat.reduceEqDiff]
    rw [if_neg (by omega)]
    refine s_V_brought (by omega) h hk (by omega) (fun I1 h => ?_)
    rw [fa]
    simp only [am_z, Nat.reduceAdd, Nat.zero_le, Nat.reduceLeDiff]
    refine rn_L_kept 40 ?_
    simp (disch := omega) only [am_z, cq_L_kept, Nat.reduceAdd, Nat.zero_le, Nat.reduceLeDiff, ar_lit]
    exact lsum (b + 1 - a) 0 _ I1 _ _ h (by omega) (by simp [sumZ]) (by omega) (by omega)
theorem s_V_pageA {k a b j : Nat} (hD : 8 ≤ D) (h : st I s) (hp : kpg s.2.1 k a b) (hj : j < 6) (c : ∀ I', st I' s → P (.inl (some (vL (lI (tpgi s.2.1 a b j))))) am_G0 I' J) : am_T l D y_L_page [vR (0, 0), vI (nI k), vI (nI j)] am_G0 I J P := by
  obtain ⟨hk, rfl, rfl, _⟩ := hp
  exact s_V_page hD h hk hj c
theorem s_V_emptyA {k a b : Nat} (hD : 8 ≤ D) (h : st I s) (hp : kpg s.2.1 k a b) (c : ∀ I', st I' s → P (.inl (some (vL (lI (if tP s.2.1 < tlines s.2.1 a b then -999999 else ((tP s.2.1 - tlines s.2.1 a b : Nat) : Int)))))) am_G0 I' J) : am_T l D y_L_emptyFrom [vR (0, 0), vI (nI a)] am_G0 I J P := by
  obtain ⟨hk, rfl, rfl, _⟩ := hp
  exact s_V_empty hD h hk c
/-- where the columns' loop begins -/
def k_at (l : Launch) (d : Nat) (P : am_P) (J : am_J) (s : pt_G) (k a b ov kc0 ks0 : Nat) : Prop := ∀ I kc ks x10 x11 x12 x13 v14 x16 x17 x18, st I s → kc ≤ kc0 → ks ≤ ks0 → am_X l (0, fun _ => 0) (d + 1) y_L_kept P 483 (klt s.2.1 k a b ov [x10, x11, x12, x13, some (vI v14), some (vI (nI 0)), x16, x17, x18]) [] kc ks am_G0 I J
/-- an overfull page has no row behind which it could end sooner -/
theorem k_nocut (hD : 9 ≤ d + 1) {k a b : Nat} (hp : kpg s.2.1 k a b) {x10 x11 x12 x13 : Option am_V} {ov f kc0 ks0 : Nat} (hf : f ≤ 1) (hfull : f = 1 → tP s.2.1 < tlines s.2.1 a b) (hb : kc0 ≤ 12000 ∧ ks0 ≤ 72000) (next : k_at l d P J s k a b ov kc0 ks0) :
    ∀ m j I kc ks x16 x17 x18, st I s → a + j + m = b → kc + 2 * m ≤ kc0 → ks + 12 * m ≤ ks0 → am_X l (0, fun _ => 0) (d + 1) y_L_kept P 438 (klt s.2.1 k a b ov [x10, x11, x12, x13, some (vI (nI f)), some (vI (nI (a + j))), x16, x17, x18]) [] kc ks am_G0 I J := by
  obtain ⟨hk, fa, fb, hab, hbn⟩ := hp
  intro m
  induction m with
  | zero =>
    intro j I kc ks x16 x17 x18 h hj hk1 hk2
    have h24 := h.w.2.2.2.2.1
    refine rn_L_kept 40 ?_
    simp (disch := omega) only [am_z, cq_L_kept, Nat.reduceAdd, Nat.zero_le, Nat.reduceLeDiff, ar_lit, ar_le]
    rw [if_pos (by omega)]
    exact next I kc ks _ _ _ _ _ _ _ _ h (by omega) (by omega)
  | succ m ih =>
    intro j I kc ks x16 x17 x18 h hj hk1 hk2
    have h24 := h.w.2.2.2.2.1
    refine rn_L_kept 40 ?_
    simp (disch := omega) only [am_z, cq_L_kept, Nat.reduceAdd, Nat.zero_le, Nat.reduceLeDiff, ar_lit, ar_le, ar_eq, Nat.reduceEqDiff, leT]
    rw [if_neg (by omega)]
    by_cases f0 : f = 0
    · rw [if_pos f0]
      exact next I kc ks _ _ _ _ _ _ _ _ h (by omega) (by omega)
    · rw [if_neg f0]
      have hfull := hfull (by omega)
      rw [← fa, ← fb] at hfull
      have hn := pg_nocut hk hfull (i := a + j) (by omega) (by omega)
      have hz : trow s.2.1 (a + j) 3 = 0 := by
        have hc : tcut s.2.1 (a + j) = false := by
          cases e : tcut s.2.1 (a + j) with
          | false => rfl
          | true => exact absurd (tcut_tend e) hn
        show b01 (decide (a + j + 1 < tn s.2.1) && tcut s.2.1 (a + j)) = 0
        rw [hc, Bool.and_false]
        rfl
      refine s_V_row (by omega) h (by omega) (by omega) (fun I1 h => ?_)
      rw [hz]
      simp only [am_z, Nat.reduceAdd, Nat.zero_le, Nat.reduceLeDiff]
      refine rn_L_kept 40 ?_
      simp (disch := omega) only [am_z, cq_L_kept, Nat.reduceAdd, Nat.zero_le, Nat.reduceLeDiff, ar_lit, lc_eq, lI_lit, Int.ofNat_zero, nI_add, show (((0 : Nat) : Int)) = 0 from rfl, ↓reduceIte]
      exact ih (j + 1) I1 _ _ _ _ _ h (by omega) (by omega) (by omega)

/-- the page's numbers -/
theorem k_rest (hD : 9 ≤ d + 1) {k a b : Nat} (hp : kpg s.2.1 k a b) {v14 : Int32} {x15 x16 x17 x18 : Option am_V} {kc0 ks0 kc ks : Nat} (hb : kc0 ≤ 12000 ∧ ks0 ≤ 72000) (next : k_at l d P J s k a b (kov s.2.1 (k + 1)) kc0 ks0) (h : st I s) (hk1 : kc + 60 ≤ kc0) (hk2 : ks + 360 ≤ ks0) :
    am_X l (0, fun _ => 0) (d + 1) y_L_kept P 315 (klt s.2.1 k a b (kov s.2.1 k) [some (vL (lI (tlines s.2.1 a b : Int))), none, some (vL (lI ((tmsk s.2.1 a (b + 1 - a) / 2 : Nat) : Int))), none, some (vI v14), x15, x16, x17, x18]) [] kc ks am_G0 I J := by
  have hp' := hp
  obtain ⟨hk, fa, fb, hab, hbn⟩ := hp'
  have hw := h.w
  have h24 := hw.2.2.2.2.1
  have hP := hw.2.1
  have hT := tlines_lt hw hab hbn
  have hM := tmsk_l7 hw (a := a) (b + 1 - a) (by omega)
  have hl24 : (tpg s.2.1 (tP s.2.1)).length ≤ 24 := tpg_len
  have hov := kov_le s.2.1 k
  have hks := kov_s hp
  by_cases hfull : tP s.2.1 < tlines s.2.1 a b
  · rw [decide_eq_true hfull] at hks
    replace hks : kov s.2.1 (k + 1) = kov s.2.1 k + 1 := hks
    rw [hks] at next
    refine rn_L_kept 40 ?_
    simp (disch := omega) only [am_z, cq_L_kept, Nat.reduceAdd, Nat.zero_le, Nat.reduceLeDiff, ar_lit, leT]
    refine s_V_about (by omega) h (by omega) (fun I1 h => ?_)
    simp only [am_z, Nat.reduceAdd, Nat.zero_le, Nat.reduceLeDiff]
    refine rn_L_kept 40 ?_
    simp (disch := omega) only [am_z, cq_L_kept, Nat.reduceAdd, Nat.zero_le, Nat.reduceLeDiff, ar_lit, lc_le, tab_e, lI_le]
    rw [if_neg (by omega)]
    refine rn_L_kept 40 ?_
    simp (disch := omega) only [am_z, cq_L_kept, Nat.reduceAdd, Nat.zero_le, Nat.reduceLeDiff, ar_lit, ar_eq, Nat.reduceEqDiff, ↓reduceIte]
    refine rn_L_kept 40 ?_
    simp (disch := omega) only [am_z, cq_L_kept, Nat.reduceAdd, Nat.zero_le, Nat.reduceLeDiff, ar_lit, nI_add, ar_eq, Nat.reduceEqDiff, ↓reduceIte, leT]
    refine s_V_pageA (by omega) h hp (by omega) (fun I2 h => ?_)
    simp only [am_z, Nat.reduceAdd, Nat.zero_le, Nat.reduceLeDiff]
    refine rn_L_kept 40 ?_
    simp (disch := omega) only [am_z, cq_L_kept, Nat.reduceAdd, Nat.zero_le, Nat.reduceLeDiff, ar_lit, lc_eq, tpgi_e, ↓reduceIte, leT]
    refine s_V_pageA (by omega) h hp (by omega) (fun I3 h => ?_)
    simp only [am_z, Nat.reduceAdd, Nat.zero_le, Nat.reduceLeDiff]
    refine rn_L_kept 40 ?_
    simp (disch := omega) only [am_z, cq_L_kept, Nat.reduceAdd, Nat.zero_le, Nat.reduceLeDiff, ar_lit, leT]
    refine s_V_about (by omega) h (by omega) (fun I4 h => ?_)
    simp only [am_z, Nat.reduceAdd, Nat.zero_le, Nat.reduceLeDiff]
    refine rn_L_kept 40 ?_
    simp (disch := omega) only [am_z, cq_L_kept, Nat.reduceAdd, Nat.zero_le, Nat.reduceLeDiff, ar_lit, lc_eq, tpgi_e, tab_e, lI_sub, ↓reduceIte, leT]
    refine s_V_pageA (by omega) h hp (by omega) (fun I5 h => ?_)
    simp only [am_z, Nat.reduceAdd, Nat.zero_le, Nat.reduceLeDiff]
    refine rn_L_kept 40 ?_
    simp (disch := omega) only [am_z, cq_L_kept, Nat.reduceAdd, Nat.zero_le, Nat.reduceLeDiff, ar_lit, lc_eq, tpgi_e, ↓reduceIte, leT]
    refine s_V_emptyA (by omega) h hp (fun I6 h => ?_)
    rw [if_pos (by omega)]
    simp only [am_z, Nat.reduceAdd, Nat.zero_le, Nat.reduceLeDiff]
    refine rn_L_kept 40 ?_
    simp (disch := omega) only [am_z, cq_L_kept, Nat.reduceAdd, Nat.zero_le, Nat.reduceLeDiff, ar_lit, ar_eq, Nat.reduceEqDiff, ↓reduceIte]
    refine rn_L_kept 40 ?_
    simp (disch := omega) only [am_z, cq_L_kept, Nat.reduceAdd, Nat.zero_le, Nat.reduceLeDiff, ar_lit, lc_eq, ↓reduceIte]
    exact k_nocut hD hp (f := 1) (by omega) (fun _ => hfull) hb next (b - a) 0 _ _ _ _ _ _ h (by omega) (by omega) (by omega)
  · rw [decide_eq_false hfull] at hks
    replace hks : kov s.2.1 (k + 1) = kov s.2.1 k + 0 := hks
    rw [hks] at next
    refine rn_L_kept 40 ?_
    simp (disch := omega) only [am_z, cq_L_kept, Nat.reduceAdd, Nat.zero_le, Nat.reduceLeDiff, ar_lit, leT]
    refine s_V_about (by omega) h (by omega) (fun I1 h => ?_)
    simp only [am_z, Nat.reduceAdd, Nat.zero_le, Nat.reduceLeDiff]
    refine rn_L_kept 40 ?_
    simp (disch := omega) only [am_z, cq_L_kept, Nat.reduceAdd, Nat.zero_le, Nat.reduceLeDiff, ar_lit, lc_le, tab_e, lI_le]
    rw [if_pos (by omega)]
    refine rn_L_kept 40 ?_
    simp (disch := omega) only [am_z, cq_L_kept, Nat.reduceAdd, Nat.zero_le, Nat.reduceLeDiff, ar_lit, ar_eq, Nat.reduceEqDiff, ↓reduceIte]
    refine rn_L_kept 40 ?_
    simp (disch := omega) only [am_z, cq_L_kept, Nat.reduceAdd, Nat.zero_le, Nat.reduceLeDiff, ar_lit, nI_add, ar_eq, Nat.reduceEqDiff, ↓reduceIte, leT]
    refine s_V_pageA (by omega) h hp (by omega) (fun I2 h => ?_)
    simp only [am_z, Nat.reduceAdd, Nat.zero_le, Nat.reduceLeDiff]
    refine rn_L_kept 40 ?_
    simp (disch := omega) only [am_z, cq_L_kept, Nat.reduceAdd, Nat.zero_le, Nat.reduceLeDiff, ar_lit, lc_eq, tpgi_e, ↓reduceIte, leT]
    refine s_V_pageA (by omega) h hp (by omega) (fun I3 h => ?_)
    simp only [am_z, Nat.reduceAdd, Nat.zero_le, Nat.reduceLeDiff]
    refine rn_L_kept 40 ?_
    simp (disch := omega) only [am_z, cq_L_kept, Nat.reduceAdd, Nat.zero_le, Nat.reduceLeDiff, ar_lit, leT]
    refine s_V_about (by omega) h (by omega) (fun I4 h => ?_)
    simp only [am_z, Nat.reduceAdd, Nat.zero_le, Nat.reduceLeDiff]
    refine rn_L_kept 40 ?_
    simp (disch := omega) only [am_z, cq_L_kept, Nat.reduceAdd, Nat.zero_le, Nat.reduceLeDiff, ar_lit, lc_eq, tpgi_e, tab_e, lI_sub, ↓reduceIte, leT]
    refine s_V_pageA (by omega) h hp (by omega) (fun I5 h => ?_)
    simp only [am_z, Nat.reduceAdd, Nat.zero_le, Nat.reduceLeDiff]
    refine rn_L_kept 40 ?_
    simp (disch := omega) only [am_z, cq_L_kept, Nat.reduceAdd, Nat.zero_le, Nat.reduceLeDiff, ar_lit, lc_eq, tpgi_e, ↓reduceIte, leT]
    refine s_V_emptyA (by omega) h hp (fun I6 h => ?_)
    rw [if_neg (by omega)]
    simp only [am_z, Nat.reduceAdd, Nat.zero_le, Nat.reduceLeDiff]
    refine rn_L_kept 40 ?_
    simp (disch := omega) only [am_z, cq_L_kept, Nat.reduceAdd, Nat.zero_le, Nat.reduceLeDiff, ar_lit, ar_eq, Nat.reduceEqDiff, ↓reduceIte, leT]
    refine s_V_about (by omega) h (by omega) (fun I7 h => ?_)
    simp only [am_z, Nat.reduceAdd, Nat.zero_le, Nat.reduceLeDiff]
    refine rn_L_kept 40 ?_
    simp (disch := omega) only [am_z, cq_L_kept, Nat.reduceAdd, Nat.zero_le, Nat.reduceLeDiff, ar_lit, tab_e, lI_sub]
    rw [show (tP s.2.1 : Int) - (tlines s.2.1 a b : Int) = ((tP s.2.1 - tlines s.2.1 a b : Nat) : Int) by omega]
    refine rn_L_kept 40 ?_
    simp (disch := omega) only [am_z, cq_L_kept, Nat.reduceAdd, Nat.zero_le, Nat.reduceLeDiff, ar_lit, lc_eq, ↓reduceIte]
    exact k_nocut hD hp (f := 0) (by omega) (fun e => by omega) hb next (b - a) 0 _ _ _ _ _ _ h (by omega) (by omega) (by omega)
/-- the page's rows -/
theorem k_rows (hD : 9 ≤ d + 1) {k a b : Nat} (hp : kpg s.2.1 k a b) {x15 x16 x17 x18 : Option am_V} {kc0 ks0 : Nat} (hb : kc0 ≤ 12000 ∧ ks0 ≤ 72000) (next : k_at l d P J s k a b (kov s.2.1 (k + 1)) kc0 ks0) :
    ∀ m j z I kc ks, st I s → j + m = b + 1 - a → z + ((sumN (fun i => tH s.2.1 (a + i)) (b + 1 - a) : Nat) : Int) = (tlines s.2.1 a b : Int) + ((sumN (fun i => tH s.2.1 (a + i)) j : Nat) : Int) → kc + 6 * m + 60 ≤ kc0 → ks + 36 * m + 360 ≤ ks0 →
    am_X l (0, fun _ => 0) (d + 1) y_L_kept P 247 (klt s.2.1 k a b (kov s.2.1 k) [some (vL (lI z)), none, some (vL (lI ((tmsk s.2.1 a j / 2 : Nat) : Int))), none, some (vI (nI (a + j))), x15, x16, x17, x18]) [] kc ks am_G0 I J := by
  have hp' := hp
  obtain ⟨hk, fa, fb, hab, hbn⟩ := hp'
  intro m
  induction m with
  | zero =>
    intro j z I kc ks h hj hz hk1 hk2
    have h24 := h.w.2.2.2.2.1
    obtain rfl : j = b + 1 - a := by omega
    obtain rfl : z = (tlines s.2.1 a b : Int) := by omega
    refine rn_L_kept 40 ?_
    simp (disch := omega) only [am_z, cq_L_kept, Nat.reduceAdd, Nat.zero_le, Nat.reduceLeDiff, ar_lit, ar_lt]
    rw [if_pos (by omega)]
    exact k_rest hD hp hb next h (by omega) (by omega)
  | succ m ih =>
    intro j z I kc ks h hj hz hk1 hk2
    have hw := h.w
    have h24 := hw.2.2.2.2.1
    have hl24 : (tpg s.2.1 (tP s.2.1)).length ≤ 24 := tpg_len
    have hM := tmsk_l7 hw (a := a) j (by omega)
    have hN : tN s.2.1 (a + j) ≤ 6 := (hw.row (r := a + j) (by omega)).2.2.1
    have hpo : tpo (tpg s.2.1 (tP s.2.1)) (a + j) = k := tpo_at hw hk (by omega) (by omega)
    refine rn_L_kept 40 ?_
    simp (disch := omega) only [am_z, cq_L_kept, Nat.reduceAdd, Nat.zero_le, Nat.reduceLeDiff, ar_lit, ar_lt]
    rw [if_neg (by omega)]
    refine rn_L_kept 40 ?_
    simp (disch := omega) only [am_z, cq_L_kept, Nat.reduceAdd, Nat.zero_le, Nat.reduceLeDiff, ar_lit, ar_eq, Nat.reduceEqDiff, ↓reduceIte]
    refine rn_L_kept 40 ?_
    simp (disch := omega) only [am_z, cq_L_kept, Nat.reduceAdd, Nat.zero_le, Nat.reduceLeDiff, ar_lit, leT]
    refine s_V_row (by omega) h (by omega) (by omega) (fun I1 h => ?_)
    simp only [am_z, Nat.reduceAdd, Nat.zero_le, Nat.reduceLeDiff]
    refine rn_L_kept 40 ?_
    simp (disch := omega) only [am_z, cq_L_kept, Nat.reduceAdd, Nat.zero_le, Nat.reduceLeDiff, ar_lit, lI_add, trow_e, leT]
    refine s_V_row (by omega) h (by omega) (by omega) (fun I2 h => ?_)
    simp only [am_z, Nat.reduceAdd, Nat.zero_le, Nat.reduceLeDiff]
    refine rn_L_kept 40 ?_
    simp (disch := omega) only [am_z, cq_L_kept, Nat.reduceAdd, Nat.zero_le, Nat.reduceLeDiff, ar_lit, lI_n, trow_e, lI_lit.2.1, sh_note, sl_or, leT]
    rw [← tmsk_half]
    refine s_V_row (by omega) h (by omega) (by omega) (fun I3 h => ?_)
    simp only [am_z, Nat.reduceAdd, Nat.zero_le, Nat.reduceLeDiff]
    refine rn_L_kept 40 ?_
    simp (disch := omega) only [am_z, cq_L_kept, Nat.reduceAdd, Nat.zero_le, Nat.reduceLeDiff, ar_lit, trow_e, hpo, nI_lI, lc_eq, ↓reduceIte, nI_add]
    exact ih (j + 1) _ I3 _ _ h (by omega) (by have e : sumN (fun i => tH s.2.1 (a + i)) (j + 1) = sumN (fun i => tH s.2.1 (a + i)) j + tH s.2.1 (a + j) := rfl
                                               omega) (by omega) (by omega)

end KE
