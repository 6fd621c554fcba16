/-! ===== a table told as a text, part by part ===== -/
section PA
variable {ss c t : List Nat} {p q : pt_T}
/-- what is told so far reads as the table p, whatever comes behind -/
def PG (ss : List Nat) (p : pt_T) : Prop := ∃ q0 m, (∀ t, phead (ss ++ t) = (5, some q0)) ∧ m + 5 ≤ ss.length ∧ ∀ t f, pall (ss ++ t) (m + f) 5 q0 = pall (ss ++ t) f ss.length p
theorem ix_at {i : Nat} (h : i < c.length) : (ss ++ c ++ t)[ss.length + i]? = c[i]? := by
  rw [List.append_assoc, List.getElem?_append_right (by omega), Nat.add_sub_cancel_left, List.getElem?_append_left h]
theorem pdig_at {i lo hi v : Nat} (h : i < c.length) (hc : c[i]? = some (48 + v)) (h1 : lo ≤ v) (h2 : v ≤ hi) : pdig (ss ++ c ++ t) (ss.length + i) lo hi = (ss.length + i + 1, some v) := by
  unfold pdig
  rw [ix_at h, hc]
  show (if 48 + lo ≤ 48 + v ∧ 48 + v ≤ 48 + hi then (ss.length + i + 1, some (48 + v - 48)) else _) = _
  rw [if_pos (by omega), Nat.add_sub_cancel_left]
theorem ppair_at {i lo hi x y : Nat} (h : i + 1 < c.length) (hx : c[i]? = some (48 + x)) (hy : c[i + 1]? = some (48 + y)) (h1 : lo / 10 ≤ x) (h2 : x ≤ hi / 10) (h3 : lo - 10 * x ≤ y) (h4 : y ≤ min (hi - 10 * x) 9) : ppair (ss ++ c ++ t) (ss.length + i) lo hi = (ss.length + i + 2, some (10 * x + y)) := by
  unfold ppair
  rw [pdig_at (by omega) hx h1 h2]
  show ((pdig (ss ++ c ++ t) (ss.length + i + 1) (lo - 10 * x) (min (hi - 10 * x) 9)).1, (pdig (ss ++ c ++ t) (ss.length + i + 1) (lo - 10 * x) (min (hi - 10 * x) 9)).2.map fun o => 10 * x + o) = _
  rw [show ss.length + i + 1 = ss.length + (i + 1) by omega, pdig_at h hy h3 h4]
  rfl
theorem PG.step (h : PG ss p) (hc : 0 < c.length) (hp : ∀ t, ppart (ss ++ c ++ t) ss.length p = ((ss ++ c).length, some q)) : PG (ss ++ c) q := by
  obtain ⟨q0, m, h1, h2, h3⟩ := h
  refine ⟨q0, m + 1, fun t => ?_, by rw [List.length_append]; omega, fun t f => ?_⟩
  · rw [List.append_assoc]
    exact h1 (c ++ t)
  · have e := h3 (c ++ t) (f + 1)
    rw [← List.append_assoc] at e
    rw [show m + 1 + f = m + (f + 1) by omega, e]
    show (if ss.length < (ss ++ c ++ t).length then (match (ppart (ss ++ c ++ t) ss.length p).2 with | none => _ | some q => pall (ss ++ c ++ t) f (ppart (ss ++ c ++ t) ss.length p).1 q) else _) = _
    rw [if_pos (by rw [List.length_append, List.length_append]; omega), hp t]
theorem PG.text (h : PG ss p) (hl : ss.length ≤ 160) : ptext ss = (ss.length, some p) := by
  obtain ⟨q0, m, h1, h2, h3⟩ := h
  have e1 := h1 []
  have e3 := h3 [] (160 - m)
  rw [List.append_nil] at e1 e3
  unfold ptext
  rw [e1]
  show pall ss 160 5 q0 = _
  rw [show 160 = m + (160 - m) by omega, e3]
  cases hf : 160 - m with
  | zero => rfl
  | succ f => exact if_neg (Nat.lt_irrefl _)
theorem PG.head {H E : Nat} (h1 : 8 ≤ H) (h2 : H ≤ 39) (h3 : E ≤ 4) : PG [84, 49, 48 + H / 10, 48 + H % 10, 48 + E] (tsetC tnew 1 H E) := by
  refine ⟨tsetC tnew 1 H E, 0, fun t => ?_, Nat.le_refl _, fun t f => ?_⟩
  · have g1 := pdig_at (ss := []) (c := [84, 49, 48 + H / 10, 48 + H % 10, 48 + E]) (t := t) (i := 1) (lo := 1) (hi := 4) (v := 1) (Nat.le_of_ble_eq_true rfl) rfl (by omega) (by omega)
    have g2 := ppair_at (ss := []) (c := [84, 49, 48 + H / 10, 48 + H % 10, 48 + E]) (t := t) (i := 2) (lo := 6) (hi := 40) (x := H / 10) (y := H % 10) (Nat.le_of_ble_eq_true rfl) rfl rfl (by omega) (by omega) (by omega) (by omega)
    have g3 := pdig_at (ss := []) (c := [84, 49, 48 + H / 10, 48 + H % 10, 48 + E]) (t := t) (i := 4) (lo := 0) (hi := 4) (v := E) (Nat.le_of_ble_eq_true rfl) rfl (by omega) h3
    simp only [List.nil_append, List.length_nil, Nat.zero_add] at g1 g2 g3
    unfold phead
    rw [if_pos (show ([84, 49, 48 + H / 10, 48 + H % 10, 48 + E] ++ t)[0]? = some 84 from rfl), g1, g2, g3]
    show (5, some (tsetC tnew 1 (10 * (H / 10) + H % 10) E)) = _
    rw [show 10 * (H / 10) + H % 10 = H by omega]
  · rw [Nat.zero_add]
    rfl
theorem PG.row {h sg x y : Nat} (hp : PG ss p) (hn : tn p < 24) (hC : tC p = 1) (h1 : 1 ≤ h) (h2 : h ≤ 6) (hs : sg = 45 ∨ sg = 43) (hx : x ≤ 9) (hy : y ≤ 9) : ∃ q, PG (ss ++ [114, 48 + h, sg, 48 + x, 48 + y]) q ∧ tn q = tn p + 1 ∧ tC q = 1 ∧ tm q = tm p := by
  refine ⟨tsetA (tputR p h 0) (tn p) 0 (if sg = 45 then -((10 * x + y : Nat) : Int) else ((10 * x + y : Nat) : Int)), hp.step (Nat.le_of_ble_eq_true rfl) (fun t => ?_), ?_, hC, rfl⟩
  · have g0 : (ss ++ [114, 48 + h, sg, 48 + x, 48 + y] ++ t)[ss.length]? = some 114 := ix_at (i := 0) (Nat.le_of_ble_eq_true rfl)
    have g1 := pdig_at (ss := ss) (c := [114, 48 + h, sg, 48 + x, 48 + y]) (t := t) (i := 1) (lo := 1) (hi := 6) (v := h) (Nat.le_of_ble_eq_true rfl) rfl h1 h2
    have g2 : (ss ++ [114, 48 + h, sg, 48 + x, 48 + y] ++ t)[ss.length + 2]? = some sg := ix_at (i := 2) (Nat.le_of_ble_eq_true rfl)
    have g3 := ppair_at (ss := ss) (c := [114, 48 + h, sg, 48 + x, 48 + y]) (t := t) (i := 3) (lo := 0) (hi := 99) (x := x) (y := y) (Nat.le_of_ble_eq_true rfl) rfl rfl (by omega) (by omega) (by omega) (by omega)
    have hlen : (ss ++ [114, 48 + h, sg, 48 + x, 48 + y]).length = ss.length + 5 := by rw [List.length_append]; rfl
    unfold ppart
    rw [if_pos ⟨g0, hn⟩]
    unfold prow
    rw [g1]
    show pcols (ss ++ [114, 48 + h, sg, 48 + x, 48 + y] ++ t) (tn p) (tC p) 0 (ss.length + 2) (tputR p h 0) = _
    rw [hC]
    show (if (ss ++ [114, 48 + h, sg, 48 + x, 48 + y] ++ t)[ss.length + 2]? = some 45 ∨ (ss ++ [114, 48 + h, sg, 48 + x, 48 + y] ++ t)[ss.length + 2]? = some 43 then (match (ppair (ss ++ [114, 48 + h, sg, 48 + x, 48 + y] ++ t) (ss.length + 3) 0 99).2 with | none => _ | some v => ((ppair (ss ++ [114, 48 + h, sg, 48 + x, 48 + y] ++ t) (ss.length + 3) 0 99).1, some (tsetA (tputR p h 0) (tn p) 0 (if (ss ++ [114, 48 + h, sg, 48 + x, 48 + y] ++ t)[ss.length + 2]? = some 45 then -(v : Int) else (v : Int))))) else _) = _
    rw [g2, g3, if_pos (by rcases hs with rfl | rfl <;> simp), hlen]
    rcases hs with rfl | rfl
    · rfl
    · rfl
  · show tn (tsetR _ _ _) = _
    rw [tn_set, tn_put]
theorem PG.keep (hp : PG ss p) (hn : 1 ≤ tn p) (hC : tC p = 1) : ∃ q, PG (ss ++ [107]) q ∧ tn q = tn p ∧ tC q = 1 ∧ tm q = tm p := by
  refine ⟨tsetK p (tn p - 1) 1, hp.step (Nat.le_of_ble_eq_true rfl) (fun t => ?_), tsetK_n _ _, hC, rfl⟩
  have g0 : (ss ++ [107] ++ t)[ss.length]? = some 107 := ix_at (i := 0) (Nat.le_of_ble_eq_true rfl)
  unfold ppart
  rw [g0, if_neg (by simp), if_pos ⟨rfl, hn⟩, List.length_append]
  rfl
theorem PG.note {v : Nat} (hp : PG ss p) (hn : 1 ≤ tn p) (hC : tC p = 1) (h1 : 1 ≤ v) (h2 : v ≤ 6) : ∃ q, PG (ss ++ [110, 48 + v]) q ∧ tn q = tn p ∧ tC q = 1 ∧ tm q = tm p := by
  refine ⟨tsetN p (tn p - 1) v, hp.step (Nat.le_of_ble_eq_true rfl) (fun t => ?_), tn_set _ _, hC, rfl⟩
  have g0 : (ss ++ [110, 48 + v] ++ t)[ss.length]? = some 110 := ix_at (i := 0) (Nat.le_of_ble_eq_true rfl)
  have g1 := pdig_at (ss := ss) (c := [110, 48 + v]) (t := t) (i := 1) (lo := 1) (hi := 6) (v := v) (Nat.le_of_ble_eq_true rfl) rfl h1 h2
  unfold ppart
  rw [g0, if_neg (by simp), if_neg (by simp), if_pos ⟨rfl, hn⟩]
  unfold pnote
  rw [g1, List.length_append]
  rfl
theorem PG.span {f r c : Nat} (hp : PG ss p) (hn : tn p = r + 1) (hm : tm p < 6) (hC : tC p = 1) (h1 : f < r) (h2 : r < 10) (hc : c ≤ 1) : ∃ q, PG (ss ++ [115, 48, 48 + f, 48, 48 + r, 48 + c]) q ∧ tn q = tn p ∧ tC q = 1 ∧ tm q = tm p + 1 := by
  refine ⟨tputS p (f, r, c), hp.step (Nat.le_of_ble_eq_true rfl) (fun t => ?_), rfl, hC, tm_put _⟩
  have g0 : (ss ++ [115, 48, 48 + f, 48, 48 + r, 48 + c] ++ t)[ss.length]? = some 115 := ix_at (i := 0) (Nat.le_of_ble_eq_true rfl)
  have g1 := ppair_at (ss := ss) (c := [115, 48, 48 + f, 48, 48 + r, 48 + c]) (t := t) (i := 1) (lo := 0) (hi := tn p - 2) (x := 0) (y := f) (Nat.le_of_ble_eq_true rfl) rfl rfl (by omega) (by omega) (by omega) (by omega)
  have g2 := ppair_at (ss := ss) (c := [115, 48, 48 + f, 48, 48 + r, 48 + c]) (t := t) (i := 3) (lo := f + 1) (hi := tn p - 1) (x := 0) (y := r) (Nat.le_of_ble_eq_true rfl) rfl rfl (by omega) (by omega) (by omega) (by omega)
  have g3 := pdig_at (ss := ss) (c := [115, 48, 48 + f, 48, 48 + r, 48 + c]) (t := t) (i := 5) (lo := 0) (hi := 1) (v := c) (Nat.le_of_ble_eq_true rfl) rfl (by omega) hc
  rw [show 10 * 0 + f = f by omega] at g1
  rw [show 10 * 0 + r = r by omega] at g2
  unfold ppart
  rw [g0, if_neg (by simp), if_neg (by simp), if_neg (by simp), if_neg (by simp), if_pos ⟨rfl, by omega, hm⟩]
  unfold pspan
  rw [g1]
  show (match (ppair (ss ++ [115, 48, 48 + f, 48, 48 + r, 48 + c] ++ t) (ss.length + 3) (f + 1) (tn p - 1)).2 with | none => _ | some g => _) = _
  rw [g2]
  show (match (pdig (ss ++ [115, 48, 48 + f, 48, 48 + r, 48 + c] ++ t) (ss.length + 5) 0 1).2 with | none => _ | some c' => _) = _
  rw [g3, List.length_append]
  rfl
end PA
/-! how long the text can be -/
def tlv (X r : Nat) : Nat := X / 2 ^ (r % 16) % 16384 + 29 * r
def tlk (X i : Nat) : Nat := b01 (decide (tlv X i % 7 = 1))
def tln2 (X i : Nat) : Nat := b01 (decide (tlv X i % 5 = 2 ∧ i < 12))
theorem wnd (y : Nat) : ∃ w b e, b ≤ 1 ∧ e ≤ 1 ∧ y % 16384 = 2 * w + b ∧ y / 2 % 16384 = w + 8192 * e := ⟨y / 2 % 8192, y % 2, y / 16384 % 2, by omega, by omega, by omega, by omega⟩
theorem no_1 (y : Nat) : ¬ ((y % 16384 + 29) % 7 = 1 ∧ (y / 2 % 16384 + 58) % 7 = 1) := by
  obtain ⟨w, b, e, hb, he, h1, h2⟩ := wnd y
  rw [h1, h2]
  rcases (show b = 0 ∨ b = 1 by omega) with rfl | rfl <;> rcases (show e = 0 ∨ e = 1 by omega) with rfl | rfl <;> omega
theorem no_4 (y : Nat) : ¬ ((y % 16384 + 116) % 7 = 1 ∧ (y / 2 % 16384 + 145) % 7 = 1) := by
  obtain ⟨w, b, e, hb, he, h1, h2⟩ := wnd y
  rw [h1, h2]
  rcases (show b = 0 ∨ b = 1 by omega) with rfl | rfl <;> rcases (show e = 0 ∨ e = 1 by omega) with rfl | rfl <;> omega
theorem no_8 (y : Nat) : ¬ ((y % 16384 + 232) % 7 = 1 ∧ (y / 2 % 16384 + 261) % 7 = 1) := by
  obtain ⟨w, b, e, hb, he, h1, h2⟩ := wnd y
  rw [h1, h2]
  rcases (show b = 0 ∨ b = 1 by omega) with rfl | rfl <;> rcases (show e = 0 ∨ e = 1 by omega) with rfl | rfl <;> omega
theorem no_11 (y : Nat) : ¬ ((y % 16384 + 319) % 7 = 1 ∧ (y / 2 % 16384 + 348) % 7 = 1) := by
  obtain ⟨w, b, e, hb, he, h1, h2⟩ := wnd y
  rw [h1, h2]
  rcases (show b = 0 ∨ b = 1 by omega) with rfl | rfl <;> rcases (show e = 0 ∨ e = 1 by omega) with rfl | rfl <;> omega
theorem no_2 (y : Nat) : ¬ ((y % 16384 + 58) % 5 = 2 ∧ (y / 2 % 16384 + 87) % 5 = 2) := by
  obtain ⟨w, b, e, hb, he, h1, h2⟩ := wnd y
  rw [h1, h2]
  rcases (show b = 0 ∨ b = 1 by omega) with rfl | rfl <;> rcases (show e = 0 ∨ e = 1 by omega) with rfl | rfl <;> omega
theorem no_7 (y : Nat) : ¬ ((y % 16384 + 203) % 5 = 2 ∧ (y / 2 % 16384 + 232) % 5 = 2) := by
  obtain ⟨w, b, e, hb, he, h1, h2⟩ := wnd y
  rw [h1, h2]
  rcases (show b = 0 ∨ b = 1 by omega) with rfl | rfl <;> rcases (show e = 0 ∨ e = 1 by omega) with rfl | rfl <;> omega
theorem b01_two {a b : Prop} [Decidable a] [Decidable b] (h : ¬ (a ∧ b)) : b01 (decide a) + b01 (decide b) ≤ 1 := by
  by_cases ha : a
  · have hb : ¬ b := fun hb => h ⟨ha, hb⟩
    rw [decide_eq_false hb]
    have := b01_le (decide a)
    show b01 (decide a) + 0 ≤ 1
    omega
  · rw [decide_eq_false ha]
    have := b01_le (decide b)
    show 0 + b01 (decide b) ≤ 1
    omega
theorem dv2 (X k : Nat) : X / 2 ^ (k + 1) = X / 2 ^ k / 2 := by rw [Nat.pow_succ, Nat.div_div_eq_div_mul]
theorem tlk_sum (X : Nat) : sumN (tlk X) 20 ≤ 16 := by
  have p1 : tlk X 1 + tlk X 2 ≤ 1 := b01_two (fun h => no_1 (X / 2 ^ 1) (by rw [← dv2]; exact h))
  have p4 : tlk X 4 + tlk X 5 ≤ 1 := b01_two (fun h => no_4 (X / 2 ^ 4) (by rw [← dv2]; exact h))
  have p8 : tlk X 8 + tlk X 9 ≤ 1 := b01_two (fun h => no_8 (X / 2 ^ 8) (by rw [← dv2]; exact h))
  have p11 : tlk X 11 + tlk X 12 ≤ 1 := b01_two (fun h => no_11 (X / 2 ^ 11) (by rw [← dv2]; exact h))
  have le : ∀ i, tlk X i ≤ 1 := fun i => b01_le _
  have h0 := le 0
  have h3 := le 3
  have h6 := le 6
  have h7 := le 7
  have h10 := le 10
  have h13 := le 13
  have h14 := le 14
  have h15 := le 15
  have h16 := le 16
  have h17 := le 17
  have h18 := le 18
  have h19 := le 19
  simp only [sumN]
  omega
theorem tln2_sum (X : Nat) : sumN (tln2 X) 20 ≤ 10 := by
  have p2 : tln2 X 2 + tln2 X 3 ≤ 1 := b01_two (fun h => no_2 (X / 2 ^ 2) (by rw [← dv2]; exact ⟨h.1.1, h.2.1⟩))
  have p7 : tln2 X 7 + tln2 X 8 ≤ 1 := b01_two (fun h => no_7 (X / 2 ^ 7) (by rw [← dv2]; exact ⟨h.1.1, h.2.1⟩))
  have le : ∀ i, tln2 X i ≤ 1 := fun i => b01_le _
  have z : ∀ i, 12 ≤ i → tln2 X i = 0 := fun i hi => by
    unfold tln2
    rw [decide_eq_false (fun h => by omega)]
    rfl
  have h0 := le 0
  have h1 := le 1
  have h4 := le 4
  have h5 := le 5
  have h6 := le 6
  have h9 := le 9
  have h10 := le 10
  have h11 := le 11
  have z12 := z 12 (by omega)
  have z13 := z 13 (by omega)
  have z14 := z 14 (by omega)
  have z15 := z 15 (by omega)
  have z16 := z 16 (by omega)
  have z17 := z 17 (by omega)
  have z18 := z 18 (by omega)
  have z19 := z 19 (by omega)
  simp only [sumN]
  omega
theorem sumN_up (f : Nat → Nat) (a : Nat) : ∀ d, sumN f a ≤ sumN f (a + d)
  | 0 => Nat.le_refl _
  | d + 1 => Nat.le_trans (sumN_up f a d) (Nat.le_add_right _ _)
theorem tlk_le (X : Nat) {r : Nat} (hr : r ≤ 20) : sumN (tlk X) r ≤ 16 := by
  have := sumN_up (tlk X) r (20 - r)
  rw [show r + (20 - r) = 20 by omega] at this
  exact Nat.le_trans this (tlk_sum X)
theorem tln2_le (X : Nat) {r : Nat} (hr : r ≤ 20) : sumN (tln2 X) r ≤ 10 := by
  have := sumN_up (tln2 X) r (20 - r)
  rw [show r + (20 - r) = 20 by omega] at this
  exact Nat.le_trans this (tln2_sum X)
