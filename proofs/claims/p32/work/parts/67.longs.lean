/-! ===== longs as numbers; the wrappers' answers where they answer ===== -/
def lI (z : Int) : Int64 := Int64.ofInt z
theorem lI_N (n : Nat) : lN n = lI (n : Int) := (Int64.ofInt_eq_ofNat).symm
theorem lI_toInt {z : Int} (h1 : -9223372036854775808 ≤ z) (h2 : z < 9223372036854775808) : (lI z).toInt = z := Int64.toInt_ofInt_of_le (by simpa using h1) (by simpa using h2)
theorem lI_add (a b : Int) : lI a + lI b = lI (a + b) := (Int64.ofInt_add a b).symm
theorem lI_sub (a b : Int) : lI a - lI b = lI (a - b) := (Int64.ofInt_sub a b).symm
theorem lI_mul (a b : Int) : lI a * lI b = lI (a * b) := (Int64.ofInt_mul a b).symm
theorem lI_lt {a b : Int} (a1 : -9223372036854775808 ≤ a) (a2 : a < 9223372036854775808) (b1 : -9223372036854775808 ≤ b) (b2 : b < 9223372036854775808) : (lI a < lI b) = (a < b) := by
  apply propext
  rw [Int64.lt_iff_toInt_lt, lI_toInt a1 a2, lI_toInt b1 b2]
theorem lI_eq {a b : Int} (a1 : -9223372036854775808 ≤ a) (a2 : a < 9223372036854775808) (b1 : -9223372036854775808 ≤ b) (b2 : b < 9223372036854775808) : (lI a = lI b) = (a = b) := by
  apply propext
  rw [← Int64.toInt_inj, lI_toInt a1 a2, lI_toInt b1 b2]
theorem nI_lI {n : Nat} (h : n < 2147483648) : (nI n).toInt64 = lI (n : Int) := (nI_l (by omega)).trans (lI_N n)
theorem iI_lI {z : Int} (h1 : -2147483648 ≤ z) (h2 : z < 2147483648) : (iI z).toInt64 = lI z := by
  apply Int64.toInt_inj.mp
  rw [Int32.toInt_toInt64, iI_toInt h1 h2, lI_toInt (by omega) (by omega)]
theorem lI_i (z : Int) : (lI z).toInt32 = iI z := Int64.toInt32_ofInt
theorem lI_lit : (0 : Int64) = lI 0 ∧ (1 : Int64) = lI 1 ∧ (4 : Int64) = lI 4 ∧ (6 : Int64) = lI 6 ∧ (24 : Int64) = lI 24 ∧ (40 : Int64) = lI 40 ∧ (-1000 : Int64) = lI (-1000) ∧ (-999999 : Int64) = lI (-999999) ∧ (-9000000000000000003 : Int64) = lI (-9000000000000000003) := by
  refine ⟨?_, ?_, ?_, ?_, ?_, ?_, ?_, ?_, ?_⟩ <;> decide +kernel
/-! comparisons of longs, as the branches behind them ask -/
theorem lc_ge (a b : Int64) : (nI 0 ≤ lg_cmp a b) = (b ≤ a) := by
  apply propext
  rw [← Int32.not_lt, lc_lt, Int64.not_lt]
theorem lc_gt (a b : Int64) : (nI 0 < lg_cmp a b) = (b < a) := by
  apply propext
  constructor
  · intro q
    have h1 : ¬ lg_cmp a b < nI 0 := fun z => by
      rw [Int32.lt_iff_toInt_lt] at q z
      omega
    rw [lc_lt] at h1
    have h2 : ¬ a = b := fun e => by
      rw [(Eq.mpr (lc_eq a b) e)] at q
      exact absurd q (by decide +kernel)
    rw [Int64.lt_iff_toInt_lt] at h1 ⊢
    rw [← Int64.toInt_inj] at h2
    omega
  · intro q
    have h1 : ¬ lg_cmp a b < nI 0 := by
      rw [lc_lt]
      rw [Int64.lt_iff_toInt_lt] at q ⊢
      omega
    have h2 : ¬ lg_cmp a b = nI 0 := by
      rw [lc_eq]
      intro e
      rw [e, Int64.lt_iff_toInt_lt] at q
      omega
    rw [Int32.lt_iff_toInt_lt] at h1 ⊢
    rw [← Int32.toInt_inj] at h2
    omega
theorem lc_le (a b : Int64) : (lg_cmp a b ≤ nI 0) = (a ≤ b) := by
  apply propext
  rw [← Int32.not_lt, lc_gt, Int64.not_lt]
theorem lI_le {a b : Int} (a1 : -9223372036854775808 ≤ a) (a2 : a < 9223372036854775808) (b1 : -9223372036854775808 ≤ b) (b2 : b < 9223372036854775808) : (lI a ≤ lI b) = (a ≤ b) := by
  apply propext
  rw [Int64.le_iff_toInt_le, lI_toInt a1 a2, lI_toInt b1 b2]
theorem leT {a b : Nat} (h : a ≤ b) : (a ≤ b) = True := eq_true h
theorem ltT {a b : Nat} (h : a < b) : (a < b) = True := eq_true h
theorem wx_0 (K : List Nat) (v : Int32) : wx K (0, v) = v.toInt64 := rfl
theorem tix_n {n j : Nat} (h : j < n) (hn : n ≤ 1000) : tix n (nI j) = some j := tix_i rfl h hn
theorem tix_no {n j : Nat} (h : n ≤ j) (hj : j < 2147483648) : tix n (nI j) = none := by
  unfold tix
  rw [nI_toInt (by omega), if_neg (by omega)]
theorem tix_neg {n : Nat} {x : Int32} (h : x.toInt < 0) : tix n x = none := by
  unfold tix
  rw [if_neg (by omega)]
theorem sumb_le (f : Nat → Bool) (n : Nat) : sumN (fun s => b01 (f s)) n ≤ n := by
  have := sumN_le (fun s => b01 (f s)) 1 n (fun k _ => b01_le _)
  omega
section WV
variable {p : pt_T}
theorem tab_lt (hw : tW p) (j : Nat) : tab p j < 1000 := by
  obtain ⟨w1, w2, w3, w4, w5, w6, _⟩ := hw
  have hl : (tpg p (tP p)).length ≤ 24 := tpg_len
  have ho := tov_le (tpg p (tP p))
  unfold tab
  split
  · omega
  · omega
  · omega
  · omega
  · omega
  · omega
  · omega
  · have : tcs (tpg p (tP p)) p (tm p) ≤ tm p := sumb_le _ _
    omega
theorem trow_lt (hw : tW p) {r : Nat} (hr : r < tn p) (j : Nat) : trow p r j < 1000 := by
  have hl : (tpg p (tP p)).length ≤ 24 := tpg_len
  obtain ⟨r1, r2, r3, r4, _⟩ := hw.row hr
  have r2 : tH p r ≤ 6 := r2
  have r3 : tN p r ≤ 6 := r3
  have r4 : tK p r ≤ 1 := r4
  unfold trow
  split
  · omega
  · omega
  · omega
  · have := b01_le (decide (r + 1 < tn p) && tcut p r)
    omega
  · have := tpg_row (h := tP p) hw hr
    omega
theorem tspn_lt (hw : tW p) {i : Nat} (hi : i < tm p) (j : Nat) : tspn p i j < 1000 := by
  have hl : (tpg p (tP p)).length ≤ 24 := tpg_len
  have h24 := hw.2.2.2.2.1
  obtain ⟨s1, s2, s3⟩ := hw.span hi
  have s1 : tF p i < tL p i := s1
  have s2 : tL p i < tn p := s2
  have s3 : tM p i ≤ 1 := s3
  unfold tspn
  split
  · omega
  · omega
  · omega
  · have := tpg_row (h := tP p) hw (r := tL p i) (by omega)
    unfold tps
    omega
theorem tlines_lt (hw : tW p) {a b : Nat} (hab : a ≤ b) (hb : b < tn p) : tlines p a b ≤ 201 := by
  have h1 := tln_le hw (a := a) (k := b + 1 - a) (by omega)
  unfold tlines tcy
  split <;> omega
theorem wv_about (hw : tW p) {j : Nat} (hj : j < 8) : wx [1] (q_about p (nI j)) = lI (tab p j : Int) := by
  unfold q_about
  rw [tix_n hj (by omega)]
  have := tab_lt hw j
  exact (wx_0 _ _).trans (nI_lI (by omega))
theorem wv_row (hw : tW p) {r j : Nat} (hr : r < tn p) (hj : j < 5) : wx [3, 1] (q_row p (nI r) (nI j)) = lI (trow p r j : Int) := by
  have h24 := hw.2.2.2.2.1
  unfold q_row
  rw [tix_n hr (by omega), tix_n hj (by omega)]
  have := trow_lt hw hr j
  exact (wx_0 _ _).trans (nI_lI (by omega))
theorem wv_amount (hw : tW p) {r c : Nat} (hr : r < tn p) (hc : c < tC p) : wx [3] (q_amount p (nI r) (nI c)) = lI (tA p r c) := by
  have h24 := hw.2.2.2.2.1
  have h4 := hw.1
  unfold q_amount
  rw [tix_n hr (by omega), tix_n hc (by omega)]
  have : -99 ≤ tA p r c ∧ tA p r c ≤ 99 := (hw.row hr).2.2.2.2 c
  exact (wx_0 _ _).trans (iI_lI (by omega) (by omega))
theorem wv_span (hw : tW p) {i j : Nat} (hi : i < tm p) (hj : j < 4) : wx [3, 1] (q_span p (nI i) (nI j)) = lI (tspn p i j : Int) := by
  have h6 := hw.2.2.2.2.2.1
  unfold q_span
  rw [tix_n hi (by omega), tix_n hj (by omega)]
  have := tspn_lt hw hi j
  exact (wx_0 _ _).trans (nI_lI (by omega))
theorem wv_note (hw : tW p) {n : Nat} (h1 : 1 ≤ n) (h6 : n ≤ 6) : wx [1] (q_note p (nI n)) = lI (tV p n : Int) := by
  unfold q_note
  rw [nI_toInt (by omega), if_pos (by omega)]
  have : tV p n ≤ 3 := (hw.2.2.2.1.2 n h1 h6).2
  exact (wx_0 _ _).trans (nI_lI (by rw [Int.toNat_natCast]; omega))
/-- the number `what` of the page that begins with the row a and ends with the row b -/
def tpgi (p : pt_T) (a b : Nat) : Nat → Int
  | 0 => a
  | 1 => b
  | 2 => tlines p a b
  | 3 => (tP p : Int) - (tlines p a b : Int)
  | 4 => tnam p a
  | _ => ((tmsk p a (b + 1 - a) / 2 : Nat) : Int)
theorem wv_page (hw : tW p) {k j : Nat} (hk : k < (tpg p (tP p)).length) (hj : j < 6) : wx [3, 1] (q_page p (nI k) (nI j)) = lI (tpgi p (pst p (tP p) k) (pgA (tpg p (tP p)) k).2.1 j) := by
  have hl : (tpg p (tP p)).length ≤ 24 := tpg_len
  have h24 := hw.2.2.2.2.1
  obtain ⟨g1, g2, g3⟩ := pst_in hk
  have gl := tlines_lt hw g1 g2
  have hP := hw.2.1
  unfold q_page
  rw [tix_n hk (by omega), tix_n hj (by omega)]
  refine (wx_0 _ _).trans ?_
  have e := pst_at hk
  generalize pgA (tpg p (tP p)) k = x at e g1 g2 gl ⊢
  rw [← e] at g1 g3 gl ⊢
  rcases (show j = 0 ∨ j = 1 ∨ j = 2 ∨ j = 3 ∨ j = 4 ∨ j = 5 by omega) with rfl | rfl | rfl | rfl | rfl | rfl
  · exact nI_lI (by omega)
  · exact nI_lI (by omega)
  · exact nI_lI (by omega)
  · show (nI (tP p) - nI (tlines p x.1 x.2.1)).toInt64 = lI ((tP p : Int) - (tlines p x.1 x.2.1 : Int))
    rw [iI_nI, iI_nI, iI_sub]
    exact iI_lI (by omega) (by omega)
  · have : tnam p x.1 ≤ tm p := tnam_le
    have h6 := hw.2.2.2.2.2.1
    exact nI_lI (by omega)
  · have := tmsk_l7 hw (a := x.1) (x.2.1 + 1 - x.1) (by omega)
    exact nI_lI (by omega)
theorem wv_brought (hw : tW p) {k c : Nat} (hk : k < (tpg p (tP p)).length) (hc : c < tC p) : wx [3] (q_brought p (nI k) (nI c)) = lI (tsum p 0 (pst p (tP p) k) c) := by
  have hl : (tpg p (tP p)).length ≤ 24 := tpg_len
  have h4 := hw.1
  obtain ⟨g1, g2, g3⟩ := pst_in hk
  have := tsum_le hw (a := 0) (b := pst p (tP p) k) (c := c) (by omega) (by omega)
  unfold q_brought
  rw [tix_n hk (by omega), tix_n hc (by omega)]
  refine (wx_0 _ _).trans ?_
  rw [pst_at hk]
  exact iI_lI (by omega) (by omega)
theorem wv_carried (hw : tW p) {k c : Nat} (hk : k < (tpg p (tP p)).length) (hc : c < tC p) : wx [3] (q_carried p (nI k) (nI c)) = lI (tsum p 0 (pst p (tP p) (k + 1)) c) := by
  have hl : (tpg p (tP p)).length ≤ 24 := tpg_len
  have h4 := hw.1
  obtain ⟨g1, g2, g3⟩ := pst_in hk
  have := tsum_le hw (a := 0) (b := pst p (tP p) (k + 1)) (c := c) (by omega) (by rw [pst_s]; omega)
  unfold q_carried
  rw [tix_n hk (by omega), tix_n hc (by omega)]
  refine (wx_0 _ _).trans ?_
  show (iI (tsum p 0 (pst p (tP p) (k + 1)) c)).toInt64 = _
  exact iI_lI (by omega) (by omega)
theorem wv_richest (hw : tW p) : ∃ z : Int, wx [3] (q_richest p (nI 0)) = lI z ∧ (-999999 ≤ z ∧ z < 1000) ∧ (z = -999999 ↔ tn p = 0) := by
  have hl : (tpg p (tP p)).length ≤ 24 := tpg_len
  obtain ⟨h1, h2⟩ := lv_rich (p := p) (c := 0) (tpg p (tP p)) (tpg p (tP p)).length
  unfold q_richest
  have := hw.1
  rw [tix_n (by omega) (by omega)]
  refine ⟨?_, (wx_0 _ _).trans ?_, ?_⟩
  · exact match trch p (tpg p (tP p)) 0 (tpg p (tP p)).length with
      | none => -999999
      | some x => (x.1 : Int)
  · cases e : trch p (tpg p (tP p)) 0 (tpg p (tP p)).length with
    | none => decide +kernel
    | some x => exact nI_lI (by have := h2 x e; omega)
  · cases e : trch p (tpg p (tP p)) 0 (tpg p (tP p)).length with
    | none =>
      refine ⟨by decide, fun _ => (pg_iff hw).mp (h1.mp e), fun _ => rfl⟩
    | some x =>
      have hx := h2 x e
      refine ⟨⟨by show (-999999 : Int) ≤ (x.1 : Int); omega, by show (x.1 : Int) < 1000; omega⟩, fun z => ?_, fun z => ?_⟩
      · have z : (x.1 : Int) = -999999 := z
        omega
      · rw [pg_zero z] at hx
        omega
theorem wv_empty (hw : tW p) {k : Nat} (hk : k < (tpg p (tP p)).length) : wx [3] (q_emptyFrom p (nI (pst p (tP p) k))) = lI (if tP p < tlines p (pst p (tP p) k) (pgA (tpg p (tP p)) k).2.1 then -999999 else ((tP p - tlines p (pst p (tP p) k) (pgA (tpg p (tP p)) k).2.1 : Nat) : Int)) := by
  obtain ⟨g1, g2, g3⟩ := pst_in hk
  have h24 := hw.2.2.2.2.1
  have hP := hw.2.1
  unfold q_emptyFrom
  rw [tix_n g3 (by omega)]
  refine (wx_0 _ _).trans ?_
  rw [pg_tem hk]
  split
  · decide +kernel
  · exact nI_lI (by omega)
end WV
section VV
variable {l : Launch} {D : Nat} {I : am_I} {J : am_J} {P : am_P} {s : pt_G}
theorem s_V_about {j : Nat} (hD : 8 ≤ D) (h : st I s) (hj : j < 8) (k : ∀ I', st I' s → P (.inl (some (vL (lI (tab s.2.1 j : Int))))) am_G0 I' J) : am_T l D y_L_about [vR (0, 0), vI (nI j)] am_G0 I J P := s_L_about hD h (fun I' h' => by rw [wv_about h.w hj]; exact k I' h')
theorem s_V_row {r j : Nat} (hD : 8 ≤ D) (h : st I s) (hr : r < tn s.2.1) (hj : j < 5) (k : ∀ I', st I' s → P (.inl (some (vL (lI (trow s.2.1 r j : Int))))) am_G0 I' J) : am_T l D y_L_row [vR (0, 0), vI (nI r), vI (nI j)] am_G0 I J P := s_L_row hD h (fun I' h' => by rw [wv_row h.w hr hj]; exact k I' h')
theorem s_V_amount {r c : Nat} (hD : 8 ≤ D) (h : st I s) (hr : r < tn s.2.1) (hc : c < tC s.2.1) (k : ∀ I', st I' s → P (.inl (some (vL (lI (tA s.2.1 r c))))) am_G0 I' J) : am_T l D y_L_amount [vR (0, 0), vI (nI r), vI (nI c)] am_G0 I J P := s_L_amount hD h (fun I' h' => by rw [wv_amount h.w hr hc]; exact k I' h')
theorem s_V_span {i j : Nat} (hD : 8 ≤ D) (h : st I s) (hi : i < tm s.2.1) (hj : j < 4) (k : ∀ I', st I' s → P (.inl (some (vL (lI (tspn s.2.1 i j : Int))))) am_G0 I' J) : am_T l D y_L_span [vR (0, 0), vI (nI i), vI (nI j)] am_G0 I J P := s_L_span hD h (fun I' h' => by rw [wv_span h.w hi hj]; exact k I' h')
theorem s_V_note {n : Nat} (hD : 8 ≤ D) (h : st I s) (h1 : 1 ≤ n) (h6 : n ≤ 6) (k : ∀ I', st I' s → P (.inl (some (vL (lI (tV s.2.1 n : Int))))) am_G0 I' J) : am_T l D y_L_note [vR (0, 0), vI (nI n)] am_G0 I J P := s_L_note hD h (fun I' h' => by rw [wv_note h.w h1 h6]; exact k I' h')
theorem s_V_page {i j : Nat} (hD : 8 ≤ D) (h : st I s) (hi : i < (tpg s.2.1 (tP s.2.1)).length) (hj : j < 6) (k : ∀ I', st I' s → P (.inl (some (vL (lI (tpgi s.2.1 (pst s.2.1 (tP s.2.1) i) (pgA (tpg s.2.1 (tP s.2.1)) i).2.1 j))))) am_G0 I' J) : am_T l D y_L_page [vR (0, 0), vI (nI i), vI (nI j)] am_G0 I J P := s_L_page hD h (fun I' h' => by rw [wv_page h.w hi hj]; exact k I' h')
theorem s_V_brought {i c : Nat} (hD : 8 ≤ D) (h : st I s) (hi : i < (tpg s.2.1 (tP s.2.1)).length) (hc : c < tC s.2.1) (k : ∀ I', st I' s → P (.inl (some (vL (lI (tsum s.2.1 0 (pst s.2.1 (tP s.2.1) i) c))))) am_G0 I' J) : am_T l D y_L_brought [vR (0, 0), vI (nI i), vI (nI c)] am_G0 I J P := s_L_brought hD h (fun I' h' => by rw [wv_brought h.w hi hc]; exact k I' h')
theorem s_V_carried {i c : Nat} (hD : 8 ≤ D) (h : st I s) (hi : i < (tpg s.2.1 (tP s.2.1)).length) (hc : c < tC s.2.1) (k : ∀ I', st I' s → P (.inl (some (vL (lI (tsum s.2.1 0 (pst s.2.1 (tP s.2.1) (i + 1)) c))))) am_G0 I' J) : am_T l D y_L_carried [vR (0, 0), vI (nI i), vI (nI c)] am_G0 I J P := s_L_carried hD h (fun I' h' => by rw [wv_carried h.w hi hc]; exact k I' h')
theorem s_V_richest (hD : 8 ≤ D) (h : st I s) (k : ∀ I' (z : Int), st I' s → (-999999 ≤ z ∧ z < 1000) → (z = -999999 ↔ tn s.2.1 = 0) → P (.inl (some (vL (lI z)))) am_G0 I' J) : am_T l D y_L_richest [vR (0, 0), vI (nI 0)] am_G0 I J P := by
  obtain ⟨z, e, hz, hi⟩ := wv_richest h.w
  exact s_L_richest hD h (fun I' h' => by rw [e]; exact k I' z h' hz hi)
theorem s_V_empty {i : Nat} (hD : 8 ≤ D) (h : st I s) (hi : i < (tpg s.2.1 (tP s.2.1)).length) (k : ∀ I', st I' s → P (.inl (some (vL (lI (if tP s.2.1 < tlines s.2.1 (pst s.2.1 (tP s.2.1) i) (pgA (tpg s.2.1 (tP s.2.1)) i).2.1 then -999999 else ((tP s.2.1 - tlines s.2.1 (pst s.2.1 (tP s.2.1) i) (pgA (tpg s.2.1 (tP s.2.1)) i).2.1 : Nat) : Int)))))) am_G0 I' J) : am_T l D y_L_emptyFrom [vR (0, 0), vI (nI (pst s.2.1 (tP s.2.1) i))] am_G0 I J P := s_L_emptyFrom hD h (fun I' h' => by rw [wv_empty h.w hi]; exact k I' h')
end VV
