/-! ===== the law: pages follow one another and hold all rows ===== -/
theorem sh_bit0 : ∀ x, x < 64 → ∀ i, i < 6 → (lI ((x : Nat) : Int) >>> ((nI i).toInt64 &&& 63)) &&& lI 1 = lI ((x / 2 ^ i % 2 : Nat) : Int) := by decide +kernel
theorem sh_bit {x i : Nat} (hx : x < 64) (hi : i < 6) : (lI (x : Int) >>> ((nI i).toInt64 &&& 63)) &&& lI 1 = lI ((x / 2 ^ i % 2 : Nat) : Int) := sh_bit0 x hx i hi
theorem sh_note0 : ∀ n, n < 7 → (lI 1 <<< ((nI n).toInt64 &&& 63)) >>> ((nI 1).toInt64 &&& 63) = lI ((2 ^ n / 2 : Nat) : Int) := by decide +kernel
theorem sh_note {n : Nat} (hn : n < 7) : (lI 1 <<< ((nI n).toInt64 &&& 63)) >>> ((nI 1).toInt64 &&& 63) = lI ((2 ^ n / 2 : Nat) : Int) := sh_note0 n hn
theorem sl_or0 : ∀ x, x < 64 → ∀ n, n < 7 → lI ((x : Nat) : Int) ||| lI ((2 ^ n / 2 : Nat) : Int) = lI ((x ||| 2 ^ n / 2 : Nat) : Int) := by decide +kernel
theorem sl_or {x n : Nat} (hx : x < 64) (hn : n < 7) : lI (x : Int) ||| lI ((2 ^ n / 2 : Nat) : Int) = lI ((x ||| 2 ^ n / 2 : Nat) : Int) := sl_or0 x hx n hn
theorem tpgi_e (p : pt_T) (a b : Nat) : tpgi p a b 0 = (a : Int) ∧ tpgi p a b 1 = (b : Int) ∧ tpgi p a b 2 = (tlines p a b : Int) ∧ tpgi p a b 3 = (tP p : Int) - (tlines p a b : Int) ∧ tpgi p a b 4 = (tnam p a : Int) ∧ tpgi p a b 5 = ((tmsk p a (b + 1 - a) / 2 : Nat) : Int) := ⟨rfl, rfl, rfl, rfl, rfl, rfl⟩
theorem trow_e (p : pt_T) (r : Nat) : trow p r 0 = tH p r ∧ trow p r 1 = tN p r ∧ trow p r 2 = tK p r ∧ trow p r 3 = b01 (decide (r + 1 < tn p) && tcut p r) ∧ trow p r 4 = tpo (tpg p (tP p)) r := ⟨rfl, rfl, rfl, rfl, rfl⟩
theorem tspn_e (p : pt_T) (i : Nat) : tspn p i 0 = tF p i ∧ tspn p i 1 = tL p i ∧ tspn p i 2 = tM p i ∧ tspn p i 3 = tps (tpg p (tP p)) p i := ⟨rfl, rfl, rfl, rfl⟩
section KE
variable {l : Launch} {D d : Nat} {I : am_I} {J : am_J} {P : am_P} {s : pt_G}
theorem s_L_in {z lo hi : Int} (hD : 1 ≤ D) (h1 : -9000000000000000000 ≤ lo) (h2 : lo ≤ z) (h3 : z ≤ hi) (h4 : hi < 9000000000000000000) (k : P (.inl (some (vI (nI 1)))) am_G0 I J) : am_T l D y_L_in [vL (lI z), vL (lI lo), vL (lI hi)] am_G0 I J P := by
  obtain ⟨d, rfl⟩ : ∃ d, D = d + 1 := ⟨D - 1, by omega⟩
  refine en_L_in 40 (Nat.le_of_ble_eq_true rfl) ?_
  simp (disch := omega) only [am_z, cq_L_in, Nat.reduceAdd, Nat.zero_le, Nat.reduceLeDiff, ar_lit, lc_lt, lc_gt, lI_lt]
  rw [if_neg (by omega), if_neg (by omega)]
  exact k
/-- what is known of the page k -/
def kpg (p : pt_T) (k a b : Nat) : Prop := k < (tpg p (tP p)).length ∧ pst p (tP p) k = a ∧ (pgA (tpg p (tP p)) k).2.1 = b ∧ a ≤ b ∧ b < tn p
/-- how many of the first k pages are overfull -/
def kov (p : pt_T) (k : Nat) : Nat := sumN (fun k => b01 ((tpg p (tP p)).getD k (0, 0, false)).2.2) k
theorem kov_le (p : pt_T) (k : Nat) : kov p k ≤ k := sumb_le _ k
theorem kov_s {p : pt_T} {k a b : Nat} (h : kpg p k a b) : kov p (k + 1) = kov p k + b01 (decide (tP p < tlines p a b)) := by
  obtain ⟨h1, rfl, rfl, _⟩ := h
  show kov p k + b01 (pgA (tpg p (tP p)) k).2.2 = _
  rw [pg_over h1]
/-- the locals at the head of the pages' loop -/
abbrev kls (p : pt_T) (k : Nat) (r : am_L) : am_L := some (vR (0, 0)) :: some (vI (nI (tC p))) :: some (vI (nI (tn p))) :: some (vI (nI (tpg p (tP p)).length)) :: some (vI (nI 1)) :: some (vI (nI (pst p (tP p) k))) :: some (vI (nI (kov p k))) :: some (vI (nI k)) :: r
abbrev klt (p : pt_T) (k a b ov : Nat) (r : am_L) : am_L := some (vR (0, 0)) :: some (vI (nI (tC p))) :: some (vI (nI (tn p))) :: some (vI (nI (tpg p (tP p)).length)) :: some (vI (nI 1)) :: some (vI (nI a)) :: some (vI (nI ov)) :: some (vI (nI k)) :: some (vI (nI a)) :: some (vI (nI b)) :: r
/-- the sums of the columns -/
theorem k_cols (hD : 9 ≤ d + 1) {k a b : Nat} (hp : kpg s.2.1 k a b) {x10 x11 x12 x13 : Option am_V} {v14 : Int32} {ov kc0 ks0 : Nat} (hb : kc0 + 300 ≤ 12000 ∧ ks0 + 1800 ≤ 72000)
    (next : ∀ I kc ks x15 x16 x17 x18, st I s → kc ≤ kc0 + 226 → ks ≤ ks0 + 1356 → am_X l (0, fun _ => 0) (d + 1) y_L_kept P 80 (some (vR (0, 0)) :: some (vI (nI (tC s.2.1))) :: some (vI (nI (tn s.2.1))) :: some (vI (nI (tpg s.2.1 (tP s.2.1)).length)) :: some (vI (nI 1)) :: some (vI (nI (b + 1))) :: some (vI (nI ov)) :: some (vI (nI (k + 1))) :: [some (vI (nI a)), some (vI (nI b)), x10, x11, x12, x13, some (vI v14), x15, x16, x17, x18]) [] kc ks am_G0 I J) :
    ∀ m c I kc ks x16 x17 x18, st I s → c + m = tC s.2.1 → kc + 56 * m ≤ kc0 + 226 → ks + 336 * m ≤ ks0 + 1356 → am_X l (0, fun _ => 0) (d + 1) y_L_kept P 483 (klt s.2.1 k a b ov [x10, x11, x12, x13, some (vI v14), some (vI (nI c)), x16, x17, x18]) [] kc ks am_G0 I J := by
  obtain ⟨hk, fa, fb, hab, hbn⟩ := hp
  intro m
  induction m with
  | zero =>
    intro c I kc ks x16 x17 x18 h hc hk1 hk2
    have hw := h.w
    have h24 := hw.2.2.2.2.1
    have h4 := hw.1
    have hl24 : (tpg s.2.1 (tP s.2.1)).length ≤ 24 := tpg_len
    refine rn_L_kept 40 ?_
    simp (disch := omega) only [am_z, cq_L_kept, Nat.reduceAdd, Nat.zero_le, Nat.reduceLeDiff, ar_lit, ar_le, nI_add]
    rw [if_pos (by omega)]
    exact next I kc ks _ _ _ _ h (by omega) (by omega)
  | succ m ih =>
    intro c I kc ks x16 x17 x18 h hc hk1 hk2
    have hw := h.w
    have h24 := hw.2.2.2.2.1
    have h4 := hw.1
    have hl24 : (tpg s.2.1 (tP s.2.1)).length ≤ 24 := tpg_len
    have lsum : ∀ n j z I kc ks, st I s → j + n = b + 1 - a → z = tsum s.2.1 0 a c + sumZ (fun i => tA s.2.1 (a + i) c) j → kc + 2 * n + 6 + 56 * m ≤ kc0 + 226 → ks + 12 * n + 36 + 336 * m ≤ ks0 + 1356 → am_X l (0, fun _ => 0) (d + 1) y_L_kept P 508 (klt s.2.1 k a b ov [x10, x11, x12, x13, some (vI v14), some (vI (nI c)), some (vL (lI z)), none, some (vI (nI (a + j)))]) [] kc ks am_G0 I J := by
      intro n
      induction n with
      | zero =>
        intro j z I kc ks h hj hz hk1 hk2
        obtain rfl : j = b + 1 - a := by omega
        have hb1 := tsum_split (p := s.2.1) (a := a) (b := b + 1) (c := c) (by omega)
        have hbd := tsum_le hw (a := 0) (b := b + 1) (c := c) (by omega) (by omega)
        have hbd0 := tsum_le hw (a := 0) (b := a) (c := c) (by omega) (by omega)
        refine rn_L_kept 40 ?_
        simp (disch := omega) only [am_z, cq_L_kept, Nat.reduceAdd, Nat.zero_le, Nat.reduceLeDiff, ar_lit, ar_lt, leT]
        rw [if_pos (by omega)]
        refine s_V_carried (by omega) h hk (by omega) (fun I1 h => ?_)
        rw [pst_s, fb, hb1, ← hz]
        simp only [am_z, Nat.reduceAdd, Nat.zero_le, Nat.reduceLeDiff]
        refine rn_L_kept 40 ?_
        simp (disch := omega) only [am_z, cq_L_kept, Nat.reduceAdd, Nat.zero_le, Nat.reduceLeDiff, ar_lit, lc_eq, ar_eq, leT, ar_sub, ↓reduceIte]
        by_cases k0 : k = 0
        · rw [if_pos k0]
          refine s_V_brought (by omega) h hk (by omega) (fun I2 h => ?_)
          rw [show pst s.2.1 (tP s.2.1) k = 0 by rw [k0]; rfl]
          simp only [am_z, Nat.reduceAdd, Nat.zero_le, Nat.reduceLeDiff]
          refine rn_L_kept 40 ?_
          simp (disch := omega) only [am_z, cq_L_kept, Nat.reduceAdd, Nat.zero_le, Nat.reduceLeDiff, ar_lit, lc_eq, show tsum s.2.1 0 0 c = 0 from rfl, lI_lit, ↓reduceIte]
          refine rn_L_kept 40 ?_
          simp (disch := omega) only [am_z, cq_L_kept, Nat.reduceAdd, Nat.zero_le, Nat.reduceLeDiff, ar_lit, nI_add]
          exact ih (c + 1) I2 _ _ _ _ _ h (by omega) (by omega) (by omega)
        · rw [if_neg k0]
          refine s_V_brought (by omega) h hk (by omega) (fun I2 h => ?_)
          simp only [am_z, Nat.reduceAdd, Nat.zero_le, Nat.reduceLeDiff]
          refine rn_L_kept 40 ?_
          simp (disch := omega) only [am_z, cq_L_kept, Nat.reduceAdd, Nat.zero_le, Nat.reduceLeDiff, ar_lit, leT, ar_sub]
          refine s_V_carried (by omega) h (by omega) (by omega) (fun I3 h => ?_)
          rw [show k - 1 + 1 = k by omega]
          simp only [am_z, Nat.reduceAdd, Nat.zero_le, Nat.reduceLeDiff]
          refine rn_L_kept 40 ?_
          simp (disch := omega) only [am_z, cq_L_kept, Nat.reduceAdd, Nat.zero_le, Nat.reduceLeDiff, ar_lit, lc_eq, ↓reduceIte]
          refine rn_L_kept 40 ?_
          simp (disch := omega) only [am_z, cq_L_kept, Nat.reduceAdd, Nat.zero_le, Nat.reduceLeDiff, ar_lit, nI_add]
          exact ih (c + 1) I3 _ _ _ _ _ h (by omega) (by omega) (by omega)
      | succ n ihn =>
        intro j z I kc ks h hj hz hk1 hk2
        refine rn_L_kept 40 ?_
        simp (disch := omega) only [am_z, cq_L_kept, Nat.reduceAdd, Nat.zero_le, Nat.reduceLeDiff, ar_lit, ar_lt, leT]
        rw [if_neg (by omega)]
        refine s_V_amount (by omega) h (by omega) (by omega) (fun I1 h => ?_)
        simp only [am_z, Nat.reduceAdd, Nat.zero_le, Nat.reduceLeDiff]
        refine rn_L_kept 40 ?_
        simp (disch := omega) only [am_z, cq_L_kept, Nat.reduceAdd, Nat.zero_le, Nat.reduceLeDiff, ar_lit, lI_add, nI_add]
        exact ihn (j + 1) _ I1 _ _ h (by omega) (by rw [hz, Int.add_assoc]; rfl) (by omega) (by omega)
    refine rn_L_kept 40 ?_
    simp (disch := omega) only [am_z, cq_L_kept, Nat.reduceAdd, Nat.zero_le, Nat.reduceLeDiff, ar_lit, ar_le, leT, ar_eq, Nat.reduceEqDiff]
    rw [if_neg (by omega)]
    refine s_V_brought (by omega) h hk (by omega) (fun I1 h => ?_)
    rw [fa]
    simp only [am_z, Nat.reduceAdd, Nat.zero_le, Nat.reduceLeDiff]
    refine rn_L_kept 40 ?_
    simp (disch := omega) only [am_z, cq_L_kept, Nat.reduceAdd, Nat.zero_le, Nat.reduceLeDiff, ar_lit]
    exact lsum (b + 1 - a) 0 _ I1 _ _ h (by omega) (by simp [sumZ]) (by omega) (by omega)
theorem s_V_pageA {k a b j : Nat} (hD : 8 ≤ D) (h : st I s) (hp : kpg s.2.1 k a b) (hj : j < 6) (c : ∀ I', st I' s → P (.inl (some (vL (lI (tpgi s.2.1 a b j))))) am_G0 I' J) : am_T l D y_L_page [vR (0, 0), vI (nI k), vI (nI j)] am_G0 I J P := by
  obtain ⟨hk, rfl, rfl, _⟩ := hp
  exact s_V_page hD h hk hj c
theorem s_V_emptyA {k a b : Nat} (hD : 8 ≤ D) (h : st I s) (hp : kpg s.2.1 k a b) (c : ∀ I', st I' s → P (.inl (some (vL (lI (if tP s.2.1 < tlines s.2.1 a b then -999999 else ((tP s.2.1 - tlines s.2.1 a b : Nat) : Int)))))) am_G0 I' J) : am_T l D y_L_emptyFrom [vR (0, 0), vI (nI a)] am_G0 I J P := by
  obtain ⟨hk, rfl, rfl, _⟩ := hp
  exact s_V_empty hD h hk c
/-- where the columns' loop begins -/
def k_at (l : Launch) (d : Nat) (P : am_P) (J : am_J) (s : pt_G) (k a b ov kc0 ks0 : Nat) : Prop := ∀ I kc ks x10 x11 x12 x13 v14 x16 x17 x18, st I s → kc ≤ kc0 → ks ≤ ks0 → am_X l (0, fun _ => 0) (d + 1) y_L_kept P 483 (klt s.2.1 k a b ov [x10, x11, x12, x13, some (vI v14), some (vI (nI 0)), x16, x17, x18]) [] kc ks am_G0 I J
/-- an overfull page has no row behind which it could end sooner -/
theorem k_nocut (hD : 9 ≤ d + 1) {k a b : Nat} (hp : kpg s.2.1 k a b) {x10 x11 x12 x13 : Option am_V} {ov f kc0 ks0 : Nat} (hf : f ≤ 1) (hfull : f = 1 → tP s.2.1 < tlines s.2.1 a b) (hb : kc0 ≤ 12000 ∧ ks0 ≤ 72000) (next : k_at l d P J s k a b ov kc0 ks0) :
    ∀ m j I kc ks x16 x17 x18, st I s → a + j + m = b → kc + 2 * m ≤ kc0 → ks + 12 * m ≤ ks0 → am_X l (0, fun _ => 0) (d + 1) y_L_kept P 438 (klt s.2.1 k a b ov [x10, x11, x12, x13, some (vI (nI f)), some (vI (nI (a + j))), x16, x17, x18]) [] kc ks am_G0 I J := by
  obtain ⟨hk, fa, fb, hab, hbn⟩ := hp
  intro m
  induction m with
  | zero =>
    intro j I kc ks x16 x17 x18 h hj hk1 hk2
    have h24 := h.w.2.2.2.2.1
    refine rn_L_kept 40 ?_
    simp (disch := omega) only [am_z, cq_L_kept, Nat.reduceAdd, Nat.zero_le, Nat.reduceLeDiff, ar_lit, ar_le]
    rw [if_pos (by omega)]
    exact next I kc ks _ _ _ _ _ _ _ _ h (by omega) (by omega)
  | succ m ih =>
    intro j I kc ks x16 x17 x18 h hj hk1 hk2
    have h24 := h.w.2.2.2.2.1
    refine rn_L_kept 40 ?_
    simp (disch := omega) only [am_z, cq_L_kept, Nat.reduceAdd, Nat.zero_le, Nat.reduceLeDiff, ar_lit, ar_le, ar_eq, Nat.reduceEqDiff, leT]
    rw [if_neg (by omega)]
    by_cases f0 : f = 0
    · rw [if_pos f0]
      exact next I kc ks _ _ _ _ _ _ _ _ h (by omega) (by omega)
    · rw [if_neg f0]
      have hfull := hfull (by omega)
      rw [← fa, ← fb] at hfull
      have hn := pg_nocut hk hfull (i := a + j) (by omega) (by omega)
      have hz : trow s.2.1 (a + j) 3 = 0 := by
        have hc : tcut s.2.1 (a + j) = false := by
          cases e : tcut s.2.1 (a + j) with
          | false => rfl
          | true => exact absurd (tcut_tend e) hn
        show b01 (decide (a + j + 1 < tn s.2.1) && tcut s.2.1 (a + j)) = 0
        rw [hc, Bool.and_false]
        rfl
      refine s_V_row (by omega) h (by omega) (by omega) (fun I1 h => ?_)
      rw [hz]
      simp only [am_z, Nat.reduceAdd, Nat.zero_le, Nat.reduceLeDiff]
      refine rn_L_kept 40 ?_
      simp (disch := omega) only [am_z, cq_L_kept, Nat.reduceAdd, Nat.zero_le, Nat.reduceLeDiff, ar_lit, lc_eq, lI_lit, Int.ofNat_zero, nI_add, show (((0 : Nat) : Int)) = 0 from rfl, ↓reduceIte]
      exact ih (j + 1) I1 _ _ _ _ _ h (by omega) (by omega) (by omega)

/-- the page's numbers -/
theorem k_rest (hD : 9 ≤ d + 1) {k a b : Nat} (hp : kpg s.2.1 k a b) {v14 : Int32} {x15 x16 x17 x18 : Option am_V} {kc0 ks0 kc ks : Nat} (hb : kc0 ≤ 12000 ∧ ks0 ≤ 72000) (next : k_at l d P J s k a b (kov s.2.1 (k + 1)) kc0 ks0) (h : st I s) (hk1 : kc + 60 ≤ kc0) (hk2 : ks + 360 ≤ ks0) :
    am_X l (0, fun _ => 0) (d + 1) y_L_kept P 315 (klt s.2.1 k a b (kov s.2.1 k) [some (vL (lI (tlines s.2.1 a b : Int))), none, some (vL (lI ((tmsk s.2.1 a (b + 1 - a) / 2 : Nat) : Int))), none, some (vI v14), x15, x16, x17, x18]) [] kc ks am_G0 I J := by
  have hp' := hp
  obtain ⟨hk, fa, fb, hab, hbn⟩ := hp'
  have hw := h.w
  have h24 := hw.2.2.2.2.1
  have hP := hw.2.1
  have hT := tlines_lt hw hab hbn
  have hM := tmsk_l7 hw (a := a) (b + 1 - a) (by omega)
  have hl24 : (tpg s.2.1 (tP s.2.1)).length ≤ 24 := tpg_len
  have hov := kov_le s.2.1 k
  have hks := kov_s hp
  by_cases hfull : tP s.2.1 < tlines s.2.1 a b
  · rw [decide_eq_true hfull] at hks
    replace hks : kov s.2.1 (k + 1) = kov s.2.1 k + 1 := hks
    rw [hks] at next
    refine rn_L_kept 40 ?_
    simp (disch := omega) only [am_z, cq_L_kept, Nat.reduceAdd, Nat.zero_le, Nat.reduceLeDiff, ar_lit, leT]
    refine s_V_about (by omega) h (by omega) (fun I1 h => ?_)
    simp only [am_z, Nat.reduceAdd, Nat.zero_le, Nat.reduceLeDiff]
    refine rn_L_kept 40 ?_
    simp (disch := omega) only [am_z, cq_L_kept, Nat.reduceAdd, Nat.zero_le, Nat.reduceLeDiff, ar_lit, lc_le, tab_e, lI_le]
    rw [if_neg (by omega)]
    refine rn_L_kept 40 ?_
    simp (disch := omega) only [am_z, cq_L_kept, Nat.reduceAdd, Nat.zero_le, Nat.reduceLeDiff, ar_lit, ar_eq, Nat.reduceEqDiff, ↓reduceIte]
    refine rn_L_kept 40 ?_
    simp (disch := omega) only [am_z, cq_L_kept, Nat.reduceAdd, Nat.zero_le, Nat.reduceLeDiff, ar_lit, nI_add, ar_eq, Nat.reduceEqDiff, ↓reduceIte, leT]
    refine s_V_pageA (by omega) h hp (by omega) (fun I2 h => ?_)
    simp only [am_z, Nat.reduceAdd, Nat.zero_le, Nat.reduceLeDiff]
    refine rn_L_kept 40 ?_
    simp (disch := omega) only [am_z, cq_L_kept, Nat.reduceAdd, Nat.zero_le, Nat.reduceLeDiff, ar_lit, lc_eq, tpgi_e, ↓reduceIte, leT]
    refine s_V_pageA (by omega) h hp (by omega) (fun I3 h => ?_)
    simp only [am_z, Nat.reduceAdd, Nat.zero_le, Nat.reduceLeDiff]
    refine rn_L_kept 40 ?_
    simp (disch := omega) only [am_z, cq_L_kept, Nat.reduceAdd, Nat.zero_le, Nat.reduceLeDiff, ar_lit, leT]
    refine s_V_about (by omega) h (by omega) (fun I4 h => ?_)
    simp only [am_z, Nat.reduceAdd, Nat.zero_le, Nat.reduceLeDiff]
    refine rn_L_kept 40 ?_
    simp (disch := omega) only [am_z, cq_L_kept, Nat.reduceAdd, Nat.zero_le, Nat.reduceLeDiff, ar_lit, lc_eq, tpgi_e, tab_e, lI_sub, ↓reduceIte, leT]
    refine s_V_pageA (by omega) h hp (by omega) (fun I5 h => ?_)
    simp only [am_z, Nat.reduceAdd, Nat.zero_le, Nat.reduceLeDiff]
    refine rn_L_kept 40 ?_
    simp (disch := omega) only [am_z, cq_L_kept, Nat.reduceAdd, Nat.zero_le, Nat.reduceLeDiff, ar_lit, lc_eq, tpgi_e, ↓reduceIte, leT]
    refine s_V_emptyA (by omega) h hp (fun I6 h => ?_)
    rw [if_pos (by omega)]
    simp only [am_z, Nat.reduceAdd, Nat.zero_le, Nat.reduceLeDiff]
    refine rn_L_kept 40 ?_
    simp (disch := omega) only [am_z, cq_L_kept, Nat.reduceAdd, Nat.zero_le, Nat.reduceLeDiff, ar_lit, ar_eq, Nat.reduceEqDiff, ↓reduceIte]
    refine rn_L_kept 40 ?_
    simp (disch := omega) only [am_z, cq_L_kept, Nat.reduceAdd, Nat.zero_le, Nat.reduceLeDiff, ar_lit, lc_eq, ↓reduceIte]
    exact k_nocut hD hp (f := 1) (by omega) (fun _ => hfull) hb next (b - a) 0 _ _ _ _ _ _ h (by omega) (by omega) (by omega)
  · rw [decide_eq_false hfull] at hks
    replace hks : kov s.2.1 (k + 1) = kov s.2.1 k + 0 := hks
    rw [hks] at next
    refine rn_L_kept 40 ?_
    simp (disch := omega) only [am_z, cq_L_kept, Nat.reduceAdd, Nat.zero_le, Nat.reduceLeDiff, ar_lit, leT]
    refine s_V_about (by omega) h (by omega) (fun I1 h => ?_)
    simp only [am_z, Nat.reduceAdd, Nat.zero_le, Nat.reduceLeDiff]
    refine rn_L_kept 40 ?_
    simp (disch := omega) only [am_z, cq_L_kept, Nat.reduceAdd, Nat.zero_le, Nat.reduceLeDiff, ar_lit, lc_le, tab_e, lI_le]
    rw [if_pos (by omega)]
    refine rn_L_kept 40 ?_
    simp (disch := omega) only [am_z, cq_L_kept, Nat.reduceAdd, Nat.zero_le, Nat.reduceLeDiff, ar_lit, ar_eq, Nat.reduceEqDiff, ↓reduceIte]
    refine rn_L_kept 40 ?_
    simp (disch := omega) only [am_z, cq_L_kept, Nat.reduceAdd, Nat.zero_le, Nat.reduceLeDiff, ar_lit, nI_add, ar_eq, Nat.reduceEqDiff, ↓reduceIte, leT]
    refine s_V_pageA (by omega) h hp (by omega) (fun I2 h => ?_)
    simp only [am_z, Nat.reduceAdd, Nat.zero_le, Nat.reduceLeDiff]
    refine rn_L_kept 40 ?_
    simp (disch := omega) only [am_z, cq_L_kept, Nat.reduceAdd, Nat.zero_le, Nat.reduceLeDiff, ar_lit, lc_eq, tpgi_e, ↓reduceIte, leT]
    refine s_V_pageA (by omega) h hp (by omega) (fun I3 h => ?_)
    simp only [am_z, Nat.reduceAdd, Nat.zero_le, Nat.reduceLeDiff]
    refine rn_L_kept 40 ?_
    simp (disch := omega) only [am_z, cq_L_kept, Nat.reduceAdd, Nat.zero_le, Nat.reduceLeDiff, ar_lit, leT]
    refine s_V_about (by omega) h (by omega) (fun I4 h => ?_)
    simp only [am_z, Nat.reduceAdd, Nat.zero_le, Nat.reduceLeDiff]
    refine rn_L_kept 40 ?_
    simp (disch := omega) only [am_z, cq_L_kept, Nat.reduceAdd, Nat.zero_le, Nat.reduceLeDiff, ar_lit, lc_eq, tpgi_e, tab_e, lI_sub, ↓reduceIte, leT]
    refine s_V_pageA (by omega) h hp (by omega) (fun I5 h => ?_)
    simp only [am_z, Nat.reduceAdd, Nat.zero_le, Nat.reduceLeDiff]
    refine rn_L_kept 40 ?_
    simp (disch := omega) only [am_z, cq_L_kept, Nat.reduceAdd, Nat.zero_le, Nat.reduceLeDiff, ar_lit, lc_eq, tpgi_e, ↓reduceIte, leT]
    refine s_V_emptyA (by omega) h hp (fun I6 h => ?_)
    rw [if_neg (by omega)]
    simp only [am_z, Nat.reduceAdd, Nat.zero_le, Nat.reduceLeDiff]
    refine rn_L_kept 40 ?_
    simp (disch := omega) only [am_z, cq_L_kept, Nat.reduceAdd, Nat.zero_le, Nat.reduceLeDiff, ar_lit, ar_eq, Nat.reduceEqDiff, ↓reduceIte, leT]
    refine s_V_about (by omega) h (by omega) (fun I7 h => ?_)
    simp only [am_z, Nat.reduceAdd, Nat.zero_le, Nat.reduceLeDiff]
    refine rn_L_kept 40 ?_
    simp (disch := omega) only [am_z, cq_L_kept, Nat.reduceAdd, Nat.zero_le, Nat.reduceLeDiff, ar_lit, tab_e, lI_sub]
    rw [show (tP s.2.1 : Int) - (tlines s.2.1 a b : Int) = ((tP s.2.1 - tlines s.2.1 a b : Nat) : Int) by omega]
    refine rn_L_kept 40 ?_
    simp (disch := omega) only [am_z, cq_L_kept, Nat.reduceAdd, Nat.zero_le, Nat.reduceLeDiff, ar_lit, lc_eq, ↓reduceIte]
    exact k_nocut hD hp (f := 0) (by omega) (fun e => by omega) hb next (b - a) 0 _ _ _ _ _ _ h (by omega) (by omega) (by omega)
/-- the page's rows -/
theorem k_rows (hD : 9 ≤ d + 1) {k a b : Nat} (hp : kpg s.2.1 k a b) {x15 x16 x17 x18 : Option am_V} {kc0 ks0 : Nat} (hb : kc0 ≤ 12000 ∧ ks0 ≤ 72000) (next : k_at l d P J s k a b (kov s.2.1 (k + 1)) kc0 ks0) :
    ∀ m j z I kc ks, st I s → j + m = b + 1 - a → z + ((sumN (fun i => tH s.2.1 (a + i)) (b + 1 - a) : Nat) : Int) = (tlines s.2.1 a b : Int) + ((sumN (fun i => tH s.2.1 (a + i)) j : Nat) : Int) → kc + 6 * m + 60 ≤ kc0 → ks + 36 * m + 360 ≤ ks0 →
    am_X l (0, fun _ => 0) (d + 1) y_L_kept P 247 (klt s.2.1 k a b (kov s.2.1 k) [some (vL (lI z)), none, some (vL (lI ((tmsk s.2.1 a j / 2 : Nat) : Int))), none, some (vI (nI (a + j))), x15, x16, x17, x18]) [] kc ks am_G0 I J := by
  have hp' := hp
  obtain ⟨hk, fa, fb, hab, hbn⟩ := hp'
  intro m
  induction m with
  | zero =>
    intro j z I kc ks h hj hz hk1 hk2
    have h24 := h.w.2.2.2.2.1
    obtain rfl : j = b + 1 - a := by omega
    obtain rfl : z = (tlines s.2.1 a b : Int) := by omega
    refine rn_L_kept 40 ?_
    simp (disch := omega) only [am_z, cq_L_kept, Nat.reduceAdd, Nat.zero_le, Nat.reduceLeDiff, ar_lit, ar_lt]
    rw [if_pos (by omega)]
    exact k_rest hD hp hb next h (by omega) (by omega)
  | succ m ih =>
    intro j z I kc ks h hj hz hk1 hk2
    have hw := h.w
    have h24 := hw.2.2.2.2.1
    have hl24 : (tpg s.2.1 (tP s.2.1)).length ≤ 24 := tpg_len
    have hM := tmsk_l7 hw (a := a) j (by omega)
    have hN : tN s.2.1 (a + j) ≤ 6 := (hw.row (r := a + j) (by omega)).2.2.1
    have hpo : tpo (tpg s.2.1 (tP s.2.1)) (a + j) = k := tpo_at hw hk (by omega) (by omega)
    refine rn_L_kept 40 ?_
    simp (disch := omega) only [am_z, cq_L_kept, Nat.reduceAdd, Nat.zero_le, Nat.reduceLeDiff, ar_lit, ar_lt]
    rw [if_neg (by omega)]
    refine rn_L_kept 40 ?_
    simp (disch := omega) only [am_z, cq_L_kept, Nat.reduceAdd, Nat.zero_le, Nat.reduceLeDiff, ar_lit, ar_eq, Nat.reduceEqDiff, ↓reduceIte]
    refine rn_L_kept 40 ?_
    simp (disch := omega) only [am_z, cq_L_kept, Nat.reduceAdd, Nat.zero_le, Nat.reduceLeDiff, ar_lit, leT]
    refine s_V_row (by omega) h (by omega) (by omega) (fun I1 h => ?_)
    simp only [am_z, Nat.reduceAdd, Nat.zero_le, Nat.reduceLeDiff]
    refine rn_L_kept 40 ?_
    simp (disch := omega) only [am_z, cq_L_kept, Nat.reduceAdd, Nat.zero_le, Nat.reduceLeDiff, ar_lit, lI_add, trow_e, leT]
    refine s_V_row (by omega) h (by omega) (by omega) (fun I2 h => ?_)
    simp only [am_z, Nat.reduceAdd, Nat.zero_le, Nat.reduceLeDiff]
    refine rn_L_kept 40 ?_
    simp (disch := omega) only [am_z, cq_L_kept, Nat.reduceAdd, Nat.zero_le, Nat.reduceLeDiff, ar_lit, lI_n, trow_e, lI_lit.2.1, sh_note, sl_or, leT]
    rw [← tmsk_half]
    refine s_V_row (by omega) h (by omega) (by omega) (fun I3 h => ?_)
    simp only [am_z, Nat.reduceAdd, Nat.zero_le, Nat.reduceLeDiff]
    refine rn_L_kept 40 ?_
    simp (disch := omega) only [am_z, cq_L_kept, Nat.reduceAdd, Nat.zero_le, Nat.reduceLeDiff, ar_lit, trow_e, hpo, nI_lI, lc_eq, ↓reduceIte, nI_add]
    exact ih (j + 1) _ I3 _ _ h (by omega) (by have e : sumN (fun i => tH s.2.1 (a + i)) (j + 1) = sumN (fun i => tH s.2.1 (a + i)) j + tH s.2.1 (a + j) := rfl
                                               omega) (by omega) (by omega)

/-- the page's notes -/
theorem k_notes (hD : 9 ≤ d + 1) {k a b : Nat} (hp : kpg s.2.1 k a b) {x14 x15 x16 x17 x18 : Option am_V} {kc0 ks0 : Nat} (hb : kc0 ≤ 12000 ∧ ks0 ≤ 72000) (next : k_at l d P J s k a b (kov s.2.1 (k + 1)) kc0 ks0) :
    ∀ m j z I kc ks x13, st I s → j + m = 6 → z + (tnc s.2.1 (tmsk s.2.1 a (b + 1 - a)) : Int) + ((sumN (fun i => tH s.2.1 (a + i)) (b + 1 - a) : Nat) : Int) = (tlines s.2.1 a b : Int) + ((sumN (fun k => if (tmsk s.2.1 a (b + 1 - a)).testBit (k + 1) = true then tV s.2.1 (k + 1) else 0) j : Nat) : Int) → kc + 3 * m + 206 ≤ kc0 → ks + 18 * m + 1236 ≤ ks0 →
    am_X l (0, fun _ => 0) (d + 1) y_L_kept P 154 (klt s.2.1 k a b (kov s.2.1 k) [some (vL (lI z)), none, some (vI (nI (j + 1))), x13, x14, x15, x16, x17, x18]) [] kc ks am_G0 I J := by
  have hp' := hp
  obtain ⟨hk, fa, fb, hab, hbn⟩ := hp'
  intro m
  induction m with
  | zero =>
    intro j z I kc ks x13 h hj hz hk1 hk2
    have hw := h.w
    have h24 := hw.2.2.2.2.1
    obtain rfl : j = 6 := by omega
    have hz : z + (tnc s.2.1 (tmsk s.2.1 a (b + 1 - a)) : Int) + ((sumN (fun i => tH s.2.1 (a + i)) (b + 1 - a) : Nat) : Int) = (tlines s.2.1 a b : Int) + (tnc s.2.1 (tmsk s.2.1 a (b + 1 - a)) : Int) := hz
    have go : ∀ I kc ks, st I s → kc + 204 ≤ kc0 → ks + 1224 ≤ ks0 → am_X l (0, fun _ => 0) (d + 1) y_L_kept P 233 (klt s.2.1 k a b (kov s.2.1 k) [some (vL (lI z)), none, some (vI (nI 7)), x13, x14, x15, x16, x17, x18]) [] kc ks am_G0 I J := by
      intro I kc ks h hk1 hk2
      refine rn_L_kept 40 ?_
      simp (disch := omega) only [am_z, cq_L_kept, Nat.reduceAdd, Nat.zero_le, Nat.reduceLeDiff, ar_lit, lI_lit.1]
      have := k_rows hD hp hb next (x15 := x15) (x16 := x16) (x17 := x17) (x18 := x18) (b + 1 - a) 0 z I kc ks h (by omega) (by show _ = _ + ((0 : Nat) : Int); omega) (by omega) (by omega)
      rw [show tmsk s.2.1 a 0 / 2 = 0 from Nat.zero_div 2] at this
      exact this
    refine rn_L_kept 40 ?_
    simp (disch := omega) only [am_z, cq_L_kept, Nat.reduceAdd, Nat.zero_le, Nat.reduceLeDiff, ar_lit, ar_le, ↓reduceIte]
    refine rn_L_kept 40 ?_
    simp (disch := omega) only [am_z, cq_L_kept, Nat.reduceAdd, Nat.zero_le, Nat.reduceLeDiff, ar_lit, ar_eq, ar_lt, ar_le, ar_sub, ↓reduceIte, Nat.lt_irrefl, leT]
    rw [if_neg (by omega), if_neg (by omega)]
    by_cases q : b = tn s.2.1 - 1
    · rw [if_pos q]
      exact go I _ _ h (by omega) (by omega)
    · rw [if_neg q]
      have hc : tcut s.2.1 b = true := tend_cut (by rw [← fb]; exact pg_tend hk) (by omega)
      have hz3 : trow s.2.1 b 3 = 1 := by
        show b01 (decide (b + 1 < tn s.2.1) && tcut s.2.1 b) = 1
        rw [hc, decide_eq_true (by omega)]
        rfl
      refine rn_L_kept 40 ?_
      simp (disch := omega) only [am_z, cq_L_kept, Nat.reduceAdd, Nat.zero_le, Nat.reduceLeDiff, ar_lit, leT]
      refine s_V_row (by omega) h (by omega) (by omega) (fun I1 h => ?_)
      rw [hz3]
      simp only [am_z, Nat.reduceAdd, Nat.zero_le, Nat.reduceLeDiff]
      refine rn_L_kept 40 ?_
      simp (disch := omega) only [am_z, cq_L_kept, Nat.reduceAdd, Nat.zero_le, Nat.reduceLeDiff, ar_lit, lc_eq, lI_lit.2.1, show (((1 : Nat) : Int)) = 1 from rfl, ↓reduceIte]
      exact go I1 _ _ h (by omega) (by omega)
  | succ m ih =>
    intro j z I kc ks x13 h hj hz hk1 hk2
    have hw := h.w
    have h24 := hw.2.2.2.2.1
    have hM := tmsk_l7 hw (a := a) (b + 1 - a) (by omega)
    refine rn_L_kept 40 ?_
    simp (disch := omega) only [am_z, cq_L_kept, Nat.reduceAdd, Nat.zero_le, Nat.reduceLeDiff, ar_lit, ar_le]
    rw [if_neg (by omega)]
    refine rn_L_kept 40 ?_
    simp (disch := omega) only [am_z, cq_L_kept, Nat.reduceAdd, Nat.zero_le, Nat.reduceLeDiff, ar_lit, leT]
    refine s_V_pageA (by omega) h hp (by omega) (fun I1 h => ?_)
    simp only [am_z, Nat.reduceAdd, Nat.zero_le, Nat.reduceLeDiff]
    refine rn_L_kept 40 ?_
    simp (disch := omega) only [am_z, cq_L_kept, Nat.reduceAdd, Nat.zero_le, Nat.reduceLeDiff, ar_lit, tpgi_e, ar_sub, Nat.add_sub_cancel, lI_lit.2.1, sh_bit, leT]
    refine s_V_note (by omega) h (by omega) (by omega) (fun I2 h => ?_)
    simp only [am_z, Nat.reduceAdd, Nat.zero_le, Nat.reduceLeDiff]
    refine rn_L_kept 40 ?_
    simp (disch := omega) only [am_z, cq_L_kept, Nat.reduceAdd, Nat.zero_le, Nat.reduceLeDiff, ar_lit, lI_mul, lI_add, nI_add]
    refine ih (j + 1) _ I2 _ _ _ h (by omega) ?_ (by omega) (by omega)
    have e := bit_half (tmsk s.2.1 a (b + 1 - a)) j (tV s.2.1 (j + 1))
    have e2 : ∀ f : Nat → Nat, sumN f (j + 1) = sumN f j + f j := fun _ => rfl
    rw [e2, ← e, Int.natCast_add, Int.natCast_mul]
    omega
set_option maxRecDepth 10000 in
/-- the loop of the pages -/
theorem k_loop (hD : 9 ≤ d + 1) (next : ∀ I kc ks r, st I s → kc + 160 ≤ 12000 → ks + 960 ≤ 72000 → (∃ x8 x9 x10 x11 x12 x13 x14 x15 x16 x17 x18, r = [x8, x9, x10, x11, x12, x13, x14, x15, x16, x17, x18]) → am_X l (0, fun _ => 0) (d + 1) y_L_kept P 616 (kls s.2.1 (tpg s.2.1 (tP s.2.1)).length r) [] kc ks am_G0 I J) :
    ∀ m k I kc ks x8 x9 x10 x11 x12 x13 x14 x15 x16 x17 x18, st I s → k + m = (tpg s.2.1 (tP s.2.1)).length → kc + 460 * m + 160 ≤ 12000 → ks + 2760 * m + 960 ≤ 72000 → am_X l (0, fun _ => 0) (d + 1) y_L_kept P 80 (kls s.2.1 k [x8, x9, x10, x11, x12, x13, x14, x15, x16, x17, x18]) [] kc ks am_G0 I J := by
  intro m
  induction m with
  | zero =>
    intro k I kc ks x8 x9 x10 x11 x12 x13 x14 x15 x16 x17 x18 h hk hk1 hk2
    have hl24 : (tpg s.2.1 (tP s.2.1)).length ≤ 24 := tpg_len
    obtain rfl : k = (tpg s.2.1 (tP s.2.1)).length := by omega
    refine rn_L_kept 40 ?_
    simp (disch := omega) only [am_z, cq_L_kept, Nat.reduceAdd, Nat.zero_le, Nat.reduceLeDiff, ar_lit, ar_le, ↓reduceIte]
    exact next I kc ks _ h (by omega) (by omega) ⟨x8, x9, x10, x11, x12, x13, x14, x15, x16, x17, x18, rfl⟩
  | succ m ih =>
    intro k I kc ks x8 x9 x10 x11 x12 x13 x14 x15 x16 x17 x18 h hk hk1 hk2
    have hl24 : (tpg s.2.1 (tP s.2.1)).length ≤ 24 := tpg_len
    have hk' : k < (tpg s.2.1 (tP s.2.1)).length := by omega
    have b1 : kc + 620 + 460 * m ≤ 12000 := by
      rw [Nat.mul_succ] at hk1
      omega
    have b2 : ks + 3720 + 2760 * m ≤ 72000 := by
      rw [Nat.mul_succ] at hk2
      omega
    clear hk1 hk2
    have hw := h.w
    have h24 := hw.2.2.2.2.1
    have h4 := hw.1
    obtain ⟨hab, hbn, han⟩ := pst_in hk'
    have hp : kpg s.2.1 k (pst s.2.1 (tP s.2.1) k) (pgA (tpg s.2.1 (tP s.2.1)) k).2.1 := ⟨hk', rfl, rfl, hab, hbn⟩
    have hTl := tlines_eq (p := s.2.1) _ _ hab
    have hps : pst s.2.1 (tP s.2.1) (k + 1) = (pgA (tpg s.2.1 (tP s.2.1)) k).2.1 + 1 := rfl
    unfold kls
    generalize ea : pst s.2.1 (tP s.2.1) k = a at hp hab han hTl ⊢
    generalize eb : (pgA (tpg s.2.1 (tP s.2.1)) k).2.1 = b at hp hab hbn hTl hps
    have kat : k_at l d P J s k a b (kov s.2.1 (k + 1)) (kc + 232) (ks + 1392) := by
      intro I' kc' ks' x10 x11 x12 x13 v14 x16 x17 x18 h' q1 q2
      refine k_cols hD hp (kc0 := kc + 232) (ks0 := ks + 1392) ⟨by omega, by omega⟩ ?_ (tC s.2.1) 0 I' kc' ks' _ _ _ h' (by omega) (by omega) (by omega)
      intro I'' kc'' ks'' x15 x16 x17 x18 h'' q3 q4
      have := ih (k + 1) I'' kc'' ks'' (some (vI (nI a))) (some (vI (nI b))) x10 x11 x12 x13 (some (vI v14)) x15 x16 x17 x18 h'' (by omega) (by omega) (by omega)
      rw [show kls s.2.1 (k + 1) [some (vI (nI a)), some (vI (nI b)), x10, x11, x12, x13, some (vI v14), x15, x16, x17, x18] = some (vR (0, 0)) :: some (vI (nI (tC s.2.1))) :: some (vI (nI (tn s.2.1))) :: some (vI (nI (tpg s.2.1 (tP s.2.1)).length)) :: some (vI (nI 1)) :: some (vI (nI (b + 1))) :: some (vI (nI (kov s.2.1 (k + 1)))) :: some (vI (nI (k + 1))) :: [some (vI (nI a)), some (vI (nI b)), x10, x11, x12, x13, some (vI v14), x15, x16, x17, x18] by unfold kls; rw [hps]] at this
      exact this
    have g140 : ∀ (z1 z2 : Int) I kc' ks' x10 x11, st I s → z1 = ((if 0 < a then 1 else 0 : Nat) : Int) → z2 = ((if b + 1 = tn s.2.1 then 0 else 1 : Nat) : Int) → kc' ≤ kc + 5 → ks' ≤ ks + 30 → am_X l (0, fun _ => 0) (d + 1) y_L_kept P 140 (klt s.2.1 k a b (kov s.2.1 k) [x10, x11, x12, x13, x14, x15, x16, x17, x18]) [vL (lI z2), vL (lI ((tE s.2.1 : Int) + z1))] kc' ks' am_G0 I J := by
      intro z1 z2 I kc' ks' x10 x11 h e1 e2 q1 q2
      refine rn_L_kept 40 ?_
      simp (disch := omega) only [am_z, cq_L_kept, Nat.reduceAdd, Nat.zero_le, Nat.reduceLeDiff, ar_lit, lI_add, leT]
      refine s_V_pageA (by omega) h hp (by omega) (fun I1 h => ?_)
      simp only [am_z, Nat.reduceAdd, Nat.zero_le, Nat.reduceLeDiff]
      refine rn_L_kept 40 ?_
      simp (disch := omega) only [am_z, cq_L_kept, Nat.reduceAdd, Nat.zero_le, Nat.reduceLeDiff, ar_lit, lI_add, tpgi_e]
      exact k_notes hD hp (kc0 := kc + 232) (ks0 := ks + 1392) ⟨by omega, by omega⟩ kat 6 0 _ I1 _ _ _ h (by omega) (by show _ = _ + ((0 : Nat) : Int); omega) (by omega) (by omega)
    refine rn_L_kept 40 ?_
    simp (disch := omega) only [am_z, cq_L_kept, Nat.reduceAdd, Nat.zero_le, Nat.reduceLeDiff, ar_lit, ar_le]
    rw [if_neg (by omega)]
    refine rn_L_kept 40 ?_
    simp (disch := omega) only [am_z, cq_L_kept, Nat.reduceAdd, Nat.zero_le, Nat.reduceLeDiff, ar_lit, ar_eq, Nat.reduceEqDiff, ↓reduceIte]
    refine rn_L_kept 40 ?_
    simp (disch := omega) only [am_z, cq_L_kept, Nat.reduceAdd, Nat.zero_le, Nat.reduceLeDiff, ar_lit, leT]
    refine s_V_pageA (by omega) h hp (by omega) (fun I1 h => ?_)
    simp only [am_z, Nat.reduceAdd, Nat.zero_le, Nat.reduceLeDiff]
    refine rn_L_kept 40 ?_
    simp (disch := omega) only [am_z, cq_L_kept, Nat.reduceAdd, Nat.zero_le, Nat.reduceLeDiff, ar_lit, tpgi_e, lI_n, leT]
    refine s_V_pageA (by omega) h hp (by omega) (fun I2 h => ?_)
    simp only [am_z, Nat.reduceAdd, Nat.zero_le, Nat.reduceLeDiff]
    refine rn_L_kept 40 ?_
    simp (disch := omega) only [am_z, cq_L_kept, Nat.reduceAdd, Nat.zero_le, Nat.reduceLeDiff, ar_lit, tpgi_e, lI_n, leT]
    refine s_V_about (by omega) h (by omega) (fun I3 h => ?_)
    have g126 : ∀ (z1 : Int) x10 x11, z1 = ((if 0 < a then 1 else 0 : Nat) : Int) → am_X l (0, fun _ => 0) (d + 1) y_L_kept P 126 (klt s.2.1 k a b (kov s.2.1 k) [x10, x11, x12, x13, x14, x15, x16, x17, x18]) [vL (lI z1), vL (lI (tE s.2.1 : Int))] (kc + 2 + 2 + 1) (ks + 12 + 12 + 6) am_G0 I3 J := by
      intro z1 x10 x11 e1
      refine rn_L_kept 40 ?_
      simp (disch := omega) only [am_z, cq_L_kept, Nat.reduceAdd, Nat.zero_le, Nat.reduceLeDiff, ar_lit, lI_add, lI_lit.1, lI_lit.2.1, ar_sub, ar_le]
      by_cases q : tn s.2.1 - 1 ≤ b
      · rw [if_pos q]
        exact g140 z1 0 I3 _ _ _ _ h e1 (by rw [if_pos (by omega)]; rfl) (by omega) (by omega)
      · rw [if_neg q]
        exact g140 z1 1 I3 _ _ _ _ h e1 (by rw [if_neg (by omega)]; rfl) (by omega) (by omega)
    simp only [am_z, Nat.reduceAdd, Nat.zero_le, Nat.reduceLeDiff]
    refine rn_L_kept 40 ?_
    simp (disch := omega) only [am_z, cq_L_kept, Nat.reduceAdd, Nat.zero_le, Nat.reduceLeDiff, ar_lit, tab_e, lI_lit.1, lI_lit.2.1, ar_le]
    by_cases q : a ≤ 0
    · rw [if_pos q]
      exact g126 0 _ _ (by rw [if_neg (by omega)]; rfl)
    · rw [if_neg q]
      exact g126 1 _ _ (by rw [if_pos (by omega)]; rfl)
theorem tps_eq (hw : tW s.2.1) {i : Nat} (hi : i < tm s.2.1) : (tps (tpg s.2.1 (tP s.2.1)) s.2.1 i : Int) = (tpo (tpg s.2.1 (tP s.2.1)) (tL s.2.1 i) : Int) - (tpo (tpg s.2.1 (tP s.2.1)) (tF s.2.1 i) : Int) + 1 := by
  obtain ⟨w1, w2, _⟩ := hw.span hi
  have w1 : tF s.2.1 i < tL s.2.1 i := w1
  have := tpo_mono (tpg s.2.1 (tP s.2.1)) (tF s.2.1 i) (tL s.2.1 i) (by omega)
  unfold tps
  omega
/-- the spans, and the end -/
theorem k_fin (hD : 9 ≤ d + 1) (fin : ∀ I, st I s → P (.inl (some (vI (nI 1)))) am_G0 I J) {I0 : am_I} {kc0 ks0 : Nat} {x8 x9 x10 x11 x12 x13 x14 x15 x16 x17 x18 : Option am_V} (h0 : st I0 s) (hb1 : kc0 + 160 ≤ 12000) (hb2 : ks0 + 960 ≤ 72000) : am_X l (0, fun _ => 0) (d + 1) y_L_kept P 616 (kls s.2.1 (tpg s.2.1 (tP s.2.1)).length [x8, x9, x10, x11, x12, x13, x14, x15, x16, x17, x18]) [] kc0 ks0 am_G0 I0 J := by
  have hw := h0.w
  have h24 := hw.2.2.2.2.1
  have h6 := hw.2.2.2.2.2.1
  have h4 := hw.1
  have hl24 : (tpg s.2.1 (tP s.2.1)).length ≤ 24 := tpg_len
  have hov := kov_le s.2.1 (tpg s.2.1 (tP s.2.1)).length
  have hcs : ∀ i, tcs (tpg s.2.1 (tP s.2.1)) s.2.1 i ≤ i := fun i => sumb_le _ i
  have hpl := pst_len (h := tP s.2.1) hw
  have end805 : ∀ I (f : Nat) kc ks r, st I s → f ≤ 1 → (f = 1 ↔ tn s.2.1 = 0) → kc + 10 ≤ 12000 → ks + 60 ≤ 72000 → am_X l (0, fun _ => 0) (d + 1) y_L_kept P 805 (some (vR (0, 0)) :: r) [vI (nI f)] kc ks am_G0 I J := by
    intro I f kc ks r h hf hfi hk1 hk2
    refine rn_L_kept 40 ?_
    simp (disch := omega) only [am_z, cq_L_kept, Nat.reduceAdd, Nat.zero_le, Nat.reduceLeDiff, ar_lit, leT]
    refine s_V_richest (by omega) h (fun I1 z h hz hzi => ?_)
    simp only [am_z, Nat.reduceAdd, Nat.zero_le, Nat.reduceLeDiff]
    refine rn_L_kept 40 ?_
    simp (disch := omega) only [am_z, cq_L_kept, Nat.reduceAdd, Nat.zero_le, Nat.reduceLeDiff, ar_lit, lI_lit, lc_eq, lI_eq]
    by_cases q : z = -999999
    · rw [if_pos q]
      obtain rfl : f = 1 := hfi.mpr (hzi.mp q)
      refine rn_L_kept 40 ?_
      simp (disch := omega) only [am_z, cq_L_kept, Nat.reduceAdd, Nat.zero_le, Nat.reduceLeDiff, ar_lit, ar_eq, ↓reduceIte, am_tt]
      exact fin I1 h
    · rw [if_neg q]
      obtain rfl : f = 0 := by
        have : ¬ f = 1 := fun e => q (hzi.mpr (hfi.mp e))
        omega
      refine rn_L_kept 40 ?_
      simp (disch := omega) only [am_z, cq_L_kept, Nat.reduceAdd, Nat.zero_le, Nat.reduceLeDiff, ar_lit, ar_eq, ↓reduceIte, am_tt]
      exact fin I1 h
  have end759 : ∀ I kc ks x8 x9 x10 x11 x12 x13 x14 x15 x16 x17 x18, st I s → kc + 20 ≤ 12000 → ks + 120 ≤ 72000 → am_X l (0, fun _ => 0) (d + 1) y_L_kept P 759 [some (vR (0, 0)), some (vI (nI (tC s.2.1))), some (vI (nI (tn s.2.1))), some (vI (nI (tpg s.2.1 (tP s.2.1)).length)), some (vI (nI 1)), some (vI (nI (tn s.2.1))), some (vI (nI (kov s.2.1 (tpg s.2.1 (tP s.2.1)).length))), some (vI (nI (tcs (tpg s.2.1 (tP s.2.1)) s.2.1 (tm s.2.1)))), x8, x9, x10, x11, x12, x13, x14, x15, x16, x17, x18] [] kc ks am_G0 I J := by
    intro I kc ks x8 x9 x10 x11 x12 x13 x14 x15 x16 x17 x18 h hk1 hk2
    have hc := hcs (tm s.2.1)
    refine rn_L_kept 40 ?_
    simp (disch := omega) only [am_z, cq_L_kept, Nat.reduceAdd, Nat.zero_le, Nat.reduceLeDiff, ar_lit, ar_eq, Nat.reduceEqDiff, ↓reduceIte, leT]
    refine s_V_about (by omega) h (by omega) (fun I1 h => ?_)
    rw [show tab s.2.1 6 = kov s.2.1 (tpg s.2.1 (tP s.2.1)).length from rfl]
    simp only [am_z, Nat.reduceAdd, Nat.zero_le, Nat.reduceLeDiff]
    refine rn_L_kept 40 ?_
    simp (disch := omega) only [am_z, cq_L_kept, Nat.reduceAdd, Nat.zero_le, Nat.reduceLeDiff, ar_lit, nI_lI, lc_eq, ↓reduceIte, leT]
    refine s_V_about (by omega) h (by omega) (fun I2 h => ?_)
    simp only [am_z, Nat.reduceAdd, Nat.zero_le, Nat.reduceLeDiff]
    refine rn_L_kept 40 ?_
    simp (disch := omega) only [am_z, cq_L_kept, Nat.reduceAdd, Nat.zero_le, Nat.reduceLeDiff, ar_lit, tab_e, nI_lI, lc_eq, ar_eq, ↓reduceIte]
    by_cases q : tn s.2.1 = 0
    · rw [if_pos q]
      exact end805 I2 1 _ _ _ h (by omega) ⟨fun _ => q, fun _ => rfl⟩ (by omega) (by omega)
    · rw [if_neg q]
      exact end805 I2 0 _ _ _ h (by omega) ⟨fun e => by omega, fun e => absurd e q⟩ (by omega) (by omega)
  have lsp : ∀ m i I kc ks x9 x10 x11 x12 x13 x14 x15 x16 x17 x18, st I s → i + m = tm s.2.1 → kc + 20 * m + 30 ≤ 12000 → ks + 120 * m + 180 ≤ 72000 → am_X l (0, fun _ => 0) (d + 1) y_L_kept P 622 [some (vR (0, 0)), some (vI (nI (tC s.2.1))), some (vI (nI (tn s.2.1))), some (vI (nI (tpg s.2.1 (tP s.2.1)).length)), some (vI (nI 1)), some (vI (nI (tn s.2.1))), some (vI (nI (kov s.2.1 (tpg s.2.1 (tP s.2.1)).length))), some (vI (nI (tcs (tpg s.2.1 (tP s.2.1)) s.2.1 i))), some (vI (nI i)), x9, x10, x11, x12, x13, x14, x15, x16, x17, x18] [] kc ks am_G0 I J := by
    intro m
    induction m with
    | zero =>
      intro i I kc ks x9 x10 x11 x12 x13 x14 x15 x16 x17 x18 h hi hk1 hk2
      obtain rfl : i = tm s.2.1 := by omega
      refine rn_L_kept 40 ?_
      simp (disch := omega) only [am_z, cq_L_kept, Nat.reduceAdd, Nat.zero_le, Nat.reduceLeDiff, ar_lit, leT]
      refine s_V_about (by omega) h (by omega) (fun I1 h => ?_)
      simp only [am_z, Nat.reduceAdd, Nat.zero_le, Nat.reduceLeDiff]
      refine rn_L_kept 40 ?_
      simp (disch := omega) only [am_z, cq_L_kept, Nat.reduceAdd, Nat.zero_le, Nat.reduceLeDiff, ar_lit, tab_e, nI_lI, lc_ge, lI_le]
      rw [if_pos (by omega)]
      exact end759 I1 _ _ _ _ _ _ _ _ _ _ _ _ _ h (by omega) (by omega)
    | succ m ih =>
      intro i I kc ks x9 x10 x11 x12 x13 x14 x15 x16 x17 x18 h hi hk1 hk2
      have hi' : i < tm s.2.1 := by omega
      have hc := hcs i
      obtain ⟨w1, w2, w3⟩ := hw.span hi'
      have w1 : tF s.2.1 i < tL s.2.1 i := w1
      have w2 : tL s.2.1 i < tn s.2.1 := w2
      have w3 : tM s.2.1 i ≤ 1 := w3
      have hte := tps_eq hw hi'
      have hpo := tpg_row (h := tP s.2.1) hw (r := tL s.2.1 i) w2
      have go746 : ∀ I kc ks x9 x10 x11, st I s → kc + 20 * m + 30 ≤ 12000 → ks + 120 * m + 180 ≤ 72000 → am_X l (0, fun _ => 0) (d + 1) y_L_kept P 746 [some (vR (0, 0)), some (vI (nI (tC s.2.1))), some (vI (nI (tn s.2.1))), some (vI (nI (tpg s.2.1 (tP s.2.1)).length)), some (vI (nI 1)), some (vI (nI (tn s.2.1))), some (vI (nI (kov s.2.1 (tpg s.2.1 (tP s.2.1)).length))), some (vI (nI (tcs (tpg s.2.1 (tP s.2.1)) s.2.1 (i + 1)))), some (vI (nI i)), x9, x10, x11, x12, x13, x14, x15, x16, x17, x18] [] kc ks am_G0 I J := by
        intro I kc ks x9 x10 x11 h hk1 hk2
        refine rn_L_kept 40 ?_
        simp (disch := omega) only [am_z, cq_L_kept, Nat.reduceAdd, Nat.zero_le, Nat.reduceLeDiff, ar_lit, nI_add]
        exact ih (i + 1) I _ _ _ _ _ _ _ _ _ _ _ _ h (by omega) (by omega) (by omega)
      have go678 : ∀ I kc ks (f : Nat), st I s → tcs (tpg s.2.1 (tP s.2.1)) s.2.1 (i + 1) = tcs (tpg s.2.1 (tP s.2.1)) s.2.1 i + f → kc + 10 + 20 * m + 30 ≤ 12000 → ks + 60 + 120 * m + 180 ≤ 72000 → am_X l (0, fun _ => 0) (d + 1) y_L_kept P 678 [some (vR (0, 0)), some (vI (nI (tC s.2.1))), some (vI (nI (tn s.2.1))), some (vI (nI (tpg s.2.1 (tP s.2.1)).length)), some (vI (nI 1)), some (vI (nI (tn s.2.1))), some (vI (nI (kov s.2.1 (tpg s.2.1 (tP s.2.1)).length))), some (vI (nI (tcs (tpg s.2.1 (tP s.2.1)) s.2.1 i))), some (vI (nI i)), some (vI (nI (tF s.2.1 i))), some (vI (nI (tL s.2.1 i))), x11, x12, x13, x14, x15, x16, x17, x18] [vI (nI f), vI (nI (tcs (tpg s.2.1 (tP s.2.1)) s.2.1 i))] kc ks am_G0 I J := by
        intro I kc ks f h hf hk1 hk2
        refine rn_L_kept 40 ?_
        simp (disch := omega) only [am_z, cq_L_kept, Nat.reduceAdd, Nat.zero_le, Nat.reduceLeDiff, ar_lit, nI_add, ar_le, leT]
        rw [if_neg (by omega), if_neg (by omega), ← hf]
        refine s_V_span (by omega) h hi' (by omega) (fun I1 h => ?_)
        simp only [am_z, Nat.reduceAdd, Nat.zero_le, Nat.reduceLeDiff]
        refine rn_L_kept 40 ?_
        simp (disch := omega) only [am_z, cq_L_kept, Nat.reduceAdd, Nat.zero_le, Nat.reduceLeDiff, ar_lit, leT, tspn_e]
        refine s_V_row (by omega) h (by omega) (by omega) (fun I2 h => ?_)
        simp only [am_z, Nat.reduceAdd, Nat.zero_le, Nat.reduceLeDiff]
        refine rn_L_kept 40 ?_
        simp (disch := omega) only [am_z, cq_L_kept, Nat.reduceAdd, Nat.zero_le, Nat.reduceLeDiff, ar_lit, leT, trow_e]
        refine s_V_row (by omega) h (by omega) (by omega) (fun I3 h => ?_)
        simp only [am_z, Nat.reduceAdd, Nat.zero_le, Nat.reduceLeDiff]
        refine rn_L_kept 40 ?_
        simp (disch := omega) only [am_z, cq_L_kept, Nat.reduceAdd, Nat.zero_le, Nat.reduceLeDiff, ar_lit, leT, trow_e, lI_sub, lI_lit.2.1, lI_add, lc_eq, hte, ↓reduceIte]
        refine s_V_span (by omega) h hi' (by omega) (fun I4 h => ?_)
        simp only [am_z, Nat.reduceAdd, Nat.zero_le, Nat.reduceLeDiff]
        refine rn_L_kept 40 ?_
        simp (disch := omega) only [am_z, cq_L_kept, Nat.reduceAdd, Nat.zero_le, Nat.reduceLeDiff, ar_lit, leT, tspn_e, lI_lit.2.1, lc_eq, lI_eq]
        by_cases q : tM s.2.1 i = 1
        · rw [if_pos (by omega)]
          exact go746 I4 _ _ _ _ _ h (by omega) (by omega)
        · rw [if_neg (by omega)]
          have h1 := tpo_one (h := tP s.2.1) hw hi' (by omega)
          refine rn_L_kept 40 ?_
          simp (disch := omega) only [am_z, cq_L_kept, Nat.reduceAdd, Nat.zero_le, Nat.reduceLeDiff, ar_lit, leT]
          refine s_V_span (by omega) h hi' (by omega) (fun I5 h => ?_)
          simp only [am_z, Nat.reduceAdd, Nat.zero_le, Nat.reduceLeDiff]
          refine rn_L_kept 40 ?_
          simp (disch := omega) only [am_z, cq_L_kept, Nat.reduceAdd, Nat.zero_le, Nat.reduceLeDiff, ar_lit, leT, tspn_e, lI_lit.2.1, lc_eq, lI_eq]
          rw [if_pos (by omega)]
          exact go746 I5 _ _ _ _ _ h (by omega) (by omega)
      refine rn_L_kept 40 ?_
      simp (disch := omega) only [am_z, cq_L_kept, Nat.reduceAdd, Nat.zero_le, Nat.reduceLeDiff, ar_lit, leT]
      refine s_V_about (by omega) h (by omega) (fun I1 h => ?_)
      simp only [am_z, Nat.reduceAdd, Nat.zero_le, Nat.reduceLeDiff]
      refine rn_L_kept 40 ?_
      simp (disch := omega) only [am_z, cq_L_kept, Nat.reduceAdd, Nat.zero_le, Nat.reduceLeDiff, ar_lit, tab_e, nI_lI, lc_ge, lI_le]
      rw [if_neg (by omega)]
      refine rn_L_kept 40 ?_
      simp (disch := omega) only [am_z, cq_L_kept, Nat.reduceAdd, Nat.zero_le, Nat.reduceLeDiff, ar_lit, ar_eq, Nat.reduceEqDiff, ↓reduceIte]
      refine rn_L_kept 40 ?_
      simp (disch := omega) only [am_z, cq_L_kept, Nat.reduceAdd, Nat.zero_le, Nat.reduceLeDiff, ar_lit, leT]
      refine s_V_span (by omega) h hi' (by omega) (fun I2 h => ?_)
      simp only [am_z, Nat.reduceAdd, Nat.zero_le, Nat.reduceLeDiff]
      refine rn_L_kept 40 ?_
      simp (disch := omega) only [am_z, cq_L_kept, Nat.reduceAdd, Nat.zero_le, Nat.reduceLeDiff, ar_lit, leT, tspn_e, lI_n]
      refine s_V_span (by omega) h hi' (by omega) (fun I3 h => ?_)
      simp only [am_z, Nat.reduceAdd, Nat.zero_le, Nat.reduceLeDiff]
      refine rn_L_kept 40 ?_
      simp (disch := omega) only [am_z, cq_L_kept, Nat.reduceAdd, Nat.zero_le, Nat.reduceLeDiff, ar_lit, leT, tspn_e, lI_n]
      refine s_V_span (by omega) h hi' (by omega) (fun I4 h => ?_)
      simp only [am_z, Nat.reduceAdd, Nat.zero_le, Nat.reduceLeDiff]
      refine rn_L_kept 40 ?_
      simp (disch := omega) only [am_z, cq_L_kept, Nat.reduceAdd, Nat.zero_le, Nat.reduceLeDiff, ar_lit, leT, tspn_e, lI_lit.2.1, lc_le, lI_le]
      have e2 : tcs (tpg s.2.1 (tP s.2.1)) s.2.1 (i + 1) = tcs (tpg s.2.1 (tP s.2.1)) s.2.1 i + b01 (decide (1 < tps (tpg s.2.1 (tP s.2.1)) s.2.1 i)) := rfl
      by_cases q : tps (tpg s.2.1 (tP s.2.1)) s.2.1 i ≤ 1
      · rw [if_pos (by omega)]
        rw [decide_eq_false (by omega)] at e2
        exact go678 I4 _ _ 0 h e2 (by omega) (by omega)
      · rw [if_neg (by omega)]
        rw [decide_eq_true (by omega)] at e2
        exact go678 I4 _ _ 1 h e2 (by omega) (by omega)
  refine rn_L_kept 40 ?_
  simp (disch := omega) only [am_z, cq_L_kept, Nat.reduceAdd, Nat.zero_le, Nat.reduceLeDiff, ar_lit]
  rw [hpl]
  exact lsp (tm s.2.1) 0 I0 _ _ _ _ _ _ _ _ _ _ _ _ h0 (by omega) (by omega) (by omega)
theorem s_L_kept (hD : 9 ≤ D) (h : st I s) (k : ∀ I', st I' s → P (.inl (some (vI (nI 1)))) am_G0 I' J) : am_T l D y_L_kept [vR (0, 0)] am_G0 I J P := by
  obtain ⟨d, rfl⟩ : ∃ d, D = d + 1 := ⟨D - 1, by omega⟩
  have hw := h.w
  have h24 := hw.2.2.2.2.1
  have h6 := hw.2.2.2.2.2.1
  have h4 := hw.1
  have hl24 : (tpg s.2.1 (tP s.2.1)).length ≤ 24 := tpg_len
  have hle : (tpg s.2.1 (tP s.2.1)).length ≤ tn s.2.1 := pg_le
  have hiff := pg_iff (h := tP s.2.1) hw
  have go : ∀ (z : Int) I, st I s → z ≤ ((tpg s.2.1 (tP s.2.1)).length : Int) → 0 ≤ z → am_X l (0, fun _ => 0) (d + 1) y_L_kept P 56 [some (vR (0, 0)), some (vI (nI (tC s.2.1))), some (vI (nI (tn s.2.1))), some (vI (nI (tpg s.2.1 (tP s.2.1)).length)), none, none, none, none, none, none, none, none, none, none, none, none, none, none, none] [vL (lI z), vL (lI ((tpg s.2.1 (tP s.2.1)).length : Int))] 3 18 am_G0 I J := by
    intro z I h hz1 hz2
    refine rn_L_kept 40 ?_
    simp (disch := omega) only [am_z, cq_L_kept, Nat.reduceAdd, Nat.zero_le, Nat.reduceLeDiff, ar_lit, nI_lI]
    refine s_L_in (by omega) (by omega) (by omega) (by omega) (by omega) ?_
    simp only [am_z, Nat.reduceAdd, Nat.zero_le, Nat.reduceLeDiff]
    refine rn_L_kept 40 ?_
    simp (disch := omega) only [am_z, cq_L_kept, Nat.reduceAdd, Nat.zero_le, Nat.reduceLeDiff, ar_lit, ar_eq, Nat.reduceEqDiff, ↓reduceIte]
    refine k_loop hD (fun I kc ks r h q1 q2 hr => ?_) (tpg s.2.1 (tP s.2.1)).length 0 I _ _ _ _ _ _ _ _ _ _ _ _ _ h (by omega) (by omega) (by omega)
    obtain ⟨x8, x9, x10, x11, x12, x13, x14, x15, x16, x17, x18, rfl⟩ := hr
    exact k_fin hD k h q1 q2
  refine en_L_kept 40 (Nat.le_of_ble_eq_true rfl) ?_
  simp (disch := omega) only [am_z, cq_L_kept, Nat.reduceAdd, Nat.zero_le, Nat.reduceLeDiff, ar_lit, leT]
  refine s_V_about (by omega) h (by omega) (fun I1 h => ?_)
  simp only [am_z, Nat.reduceAdd, Nat.zero_le, Nat.reduceLeDiff]
  refine rn_L_kept 40 ?_
  simp (disch := omega) only [am_z, cq_L_kept, Nat.reduceAdd, Nat.zero_le, Nat.reduceLeDiff, ar_lit, tab_e, lI_n, leT]
  refine s_V_about (by omega) h (by omega) (fun I2 h => ?_)
  simp only [am_z, Nat.reduceAdd, Nat.zero_le, Nat.reduceLeDiff]
  refine rn_L_kept 40 ?_
  simp (disch := omega) only [am_z, cq_L_kept, Nat.reduceAdd, Nat.zero_le, Nat.reduceLeDiff, ar_lit, tab_e, lI_n, leT]
  refine s_V_about (by omega) h (by omega) (fun I3 h => ?_)
  simp only [am_z, Nat.reduceAdd, Nat.zero_le, Nat.reduceLeDiff]
  refine rn_L_kept 40 ?_
  simp (disch := omega) only [am_z, cq_L_kept, Nat.reduceAdd, Nat.zero_le, Nat.reduceLeDiff, ar_lit, tab_e, lI_n, leT, nI_lI, lI_lit.2.1, lI_lit.2.2.1]
  refine s_L_in (by omega) (by omega) (by omega) (by omega) (by omega) ?_
  simp only [am_z, Nat.reduceAdd, Nat.zero_le, Nat.reduceLeDiff]
  refine rn_L_kept 40 ?_
  simp (disch := omega) only [am_z, cq_L_kept, Nat.reduceAdd, Nat.zero_le, Nat.reduceLeDiff, ar_lit, ar_eq, Nat.reduceEqDiff, ↓reduceIte, nI_lI, lI_lit]
  refine s_L_in (by omega) (by omega) (by omega) (by omega) (by omega) ?_
  simp only [am_z, Nat.reduceAdd, Nat.zero_le, Nat.reduceLeDiff]
  refine rn_L_kept 40 ?_
  simp (disch := omega) only [am_z, cq_L_kept, Nat.reduceAdd, Nat.zero_le, Nat.reduceLeDiff, ar_lit, ar_eq, Nat.reduceEqDiff, ↓reduceIte, nI_lI, lI_lit]
  by_cases q : tn s.2.1 = 0
  · rw [if_pos q]
    exact go 0 I3 h (by omega) (by omega)
  · rw [if_neg q]
    exact go 1 I3 h (by omega) (by omega)
end KE
