/-! ===== operations on tables as values ===== -/
theorem gd_app {α : Type} (a : List α) (x d : α) (r : Nat) : (a ++ [x]).getD r d = if r < a.length then a.getD r d else if r = a.length then x else d := by
  rw [List.getD_eq_getElem?_getD, List.getD_eq_getElem?_getD]
  by_cases h : r < a.length
  · rw [if_pos h, List.getElem?_append_left h]
  · rw [if_neg h, List.getElem?_append_right (by omega)]
    by_cases h2 : r = a.length
    · subst h2; simp
    · rw [if_neg h2]
      have : ([x] : List α)[r - a.length]? = none := List.getElem?_eq_none (by simp; omega)
      rw [this]; rfl
theorem gd_era {α : Type} (a : List α) (d : α) (i r : Nat) : (a.eraseIdx i).getD r d = if r < i then a.getD r d else a.getD (r + 1) d := by
  rw [List.getD_eq_getElem?_getD, List.getD_eq_getElem?_getD, List.getD_eq_getElem?_getD, List.getElem?_eraseIdx]
  split <;> rfl
theorem gd_set {α : Type} (a : List α) (x d : α) (i r : Nat) : (a.set i x).getD r d = if r = i ∧ r < a.length then x else a.getD r d := by
  rw [List.getD_eq_getElem?_getD, List.getD_eq_getElem?_getD, List.getElem?_set]
  by_cases h : i = r
  · subst h
    by_cases h2 : i < a.length
    · simp [h2]
    · simp [h2]
  · simp [h, Ne.symm h]
/-- a new table -/
def tnew : pt_T := ((1, 20, 1, fun n => if n = 0 then 0 else 1), [], [])
def tputR (p : pt_T) (h n : Nat) : pt_T := (p.1, p.2.1 ++ [(h, n, 0, fun _ => 0)], p.2.2)
def tputS (p : pt_T) (x : pt_S) : pt_T := (p.1, p.2.1, p.2.2 ++ [x])
def tdropS (p : pt_T) (s : Nat) : pt_T := (p.1, p.2.1, p.2.2.eraseIdx s)
/-- what the span x is without the row r -/
def tgone (r : Nat) (x : pt_S) : pt_S := (if r < x.1 then x.1 - 1 else x.1, if r ≤ x.2.1 then x.2.1 - 1 else x.2.1, x.2.2)
def tgo (r : Nat) (x : pt_S) : Option pt_S := if (tgone r x).1 < (tgone r x).2.1 then some (tgone r x) else none
def tdropR (p : pt_T) (r : Nat) : pt_T := (p.1, p.2.1.eraseIdx r, p.2.2.filterMap (tgo r))
def tsetR (p : pt_T) (r : Nat) (x : pt_R) : pt_T := (p.1, p.2.1.set r x, p.2.2)
def tsetK (p : pt_T) (r b : Nat) : pt_T := tsetR p r (tH p r, tN p r, b, tA p r)
def tsetN (p : pt_T) (r n : Nat) : pt_T := tsetR p r (tH p r, n, tK p r, tA p r)
def tsetA (p : pt_T) (r c : Nat) (v : Int) : pt_T := tsetR p r (tH p r, tN p r, tK p r, fun i => if i = c then v else tA p r i)
def tsetC (p : pt_T) (c h e : Nat) : pt_T := ((c, h, e, tV p), p.2)
/-- the height `what` -/
def tsetH (p : pt_T) (w h : Nat) : pt_T := if w = 0 then ((tC p, h, tE p, tV p), p.2) else if w = 1 then ((tC p, tP p, h, tV p), p.2) else ((tC p, tP p, tE p, fun n => if n = w - 1 then h else tV p n), p.2)
def tokH (w h : Nat) : Bool := if w = 0 then decide (6 ≤ h) && decide (h ≤ 40) else if w = 1 then decide (h ≤ 4) else decide (w ≤ 7) && decide (1 ≤ h) && decide (h ≤ 3)
/-- a round of simulate, with a number that is not below 0 -/
def tplay (p : pt_T) (r : Nat) : pt_T := if r % 3 = 0 then (if tn p < 24 then tputR p (1 + r / 4 % 6) (r / 32 % 7) else p) else if tn p = 0 then p else if r % 3 = 1 then tsetK p (r / 4 % tn p) (1 - tK p (r / 4 % tn p)) else tdropR p (r / 4 % tn p)
section OPS
variable {p : pt_T}
theorem tnew_w : tW tnew := by
  refine ⟨by decide, by decide, by decide, ⟨rfl, fun n h1 _ => ?_⟩, by decide, by decide, fun x hx => (by cases hx), fun x hx => (by cases hx)⟩
  have : tV tnew n = 1 := if_neg (by omega)
  omega
theorem tn_put (h n : Nat) : tn (tputR p h n) = tn p + 1 := by simp [tn, tputR]
theorem tR_put (h n r : Nat) (hr : r < tn p + 1) : tR (tputR p h n) r = if r < tn p then tR p r else (h, n, 0, fun _ => 0) := by
  have e : tR (tputR p h n) r = if r < tn p then tR p r else if r = tn p then (h, n, 0, fun _ => 0) else (0, 0, 0, fun _ => 0) := gd_app p.2.1 (h, n, 0, fun _ => 0) (0, 0, 0, fun _ => 0) r
  rw [e]
  split
  · rfl
  · rw [if_pos (by omega)]
theorem tputR_w (w : tW p) (hn : tn p < 24) {h n : Nat} (h1 : 1 ≤ h) (h2 : h ≤ 6) (h3 : n ≤ 6) : tW (tputR p h n) := by
  obtain ⟨w1, w2, w3, w4, w5, w6, w7, w8⟩ := w
  refine ⟨w1, w2, w3, w4, ?_, w6, fun x hx => ?_, fun x hx => ?_⟩
  · rw [tn_put]; omega
  · rcases List.mem_append.mp hx with hx | hx
    · exact w7 x hx
    · rw [List.mem_singleton.mp hx]
      exact ⟨h1, h2, h3, (show (0 : Nat) ≤ 1 by decide), fun _ => (show (-99 : Int) ≤ 0 ∧ (0 : Int) ≤ 99 by decide)⟩
  · obtain ⟨a, b, c⟩ := w8 x hx
    exact ⟨a, by rw [tn_put]; omega, c⟩
theorem tm_put (x : pt_S) : tm (tputS p x) = tm p + 1 := by simp [tm, tputS]
theorem tS_put (x : pt_S) (s : Nat) (hs : s < tm p + 1) : tS (tputS p x) s = if s < tm p then tS p s else x := by
  have e : tS (tputS p x) s = if s < tm p then tS p s else if s = tm p then x else (0, 0, 0) := gd_app p.2.2 x (0, 0, 0) s
  rw [e]
  split
  · rfl
  · rw [if_pos (by omega)]
theorem tputS_w (w : tW p) (hm : tm p < 6) {x : pt_S} (hx : tWs (tn p) x) : tW (tputS p x) := by
  obtain ⟨w1, w2, w3, w4, w5, w6, w7, w8⟩ := w
  refine ⟨w1, w2, w3, w4, w5, ?_, w7, fun y hy => ?_⟩
  · rw [tm_put]; omega
  · rcases List.mem_append.mp hy with hy | hy
    · exact w8 y hy
    · rw [List.mem_singleton.mp hy]; exact hx
theorem tm_dropS {s : Nat} (hs : s < tm p) : tm (tdropS p s) = tm p - 1 := by
  have : (p.2.2.eraseIdx s).length = p.2.2.length - 1 := List.length_eraseIdx_of_lt hs
  exact this
theorem tS_dropS (s i : Nat) : tS (tdropS p s) i = if i < s then tS p i else tS p (i + 1) := gd_era p.2.2 (0, 0, 0) s i
theorem tdropS_w (w : tW p) {s : Nat} (hs : s < tm p) : tW (tdropS p s) := by
  obtain ⟨w1, w2, w3, w4, w5, w6, w7, w8⟩ := w
  refine ⟨w1, w2, w3, w4, w5, ?_, w7, fun y hy => w8 y (List.mem_of_mem_eraseIdx hy)⟩
  rw [tm_dropS hs]; omega
theorem tn_dropR {r : Nat} (hr : r < tn p) : tn (tdropR p r) = tn p - 1 := by
  have : (p.2.1.eraseIdx r).length = p.2.1.length - 1 := List.length_eraseIdx_of_lt hr
  exact this
theorem tR_dropR (r i : Nat) : tR (tdropR p r) i = if i < r then tR p i else tR p (i + 1) := gd_era p.2.1 (0, 0, 0, fun _ => 0) r i
theorem tm_dropR (r : Nat) : tm (tdropR p r) ≤ tm p := List.length_filterMap_le _ _
theorem tdropR_w (w : tW p) {r : Nat} (hr : r < tn p) : tW (tdropR p r) := by
  obtain ⟨w1, w2, w3, w4, w5, w6, w7, w8⟩ := w
  refine ⟨w1, w2, w3, w4, ?_, Nat.le_trans (tm_dropR r) w6, fun y hy => w7 y (List.mem_of_mem_eraseIdx hy), fun y hy => ?_⟩
  · rw [tn_dropR hr]; omega
  · obtain ⟨x, hx, e⟩ := List.mem_filterMap.mp hy
    obtain ⟨a, b, c⟩ := w8 x hx
    unfold tgo at e
    split at e
    · rename_i q
      cases e
      refine ⟨q, ?_, c⟩
      rw [tn_dropR hr]
      show (if r ≤ x.2.1 then x.2.1 - 1 else x.2.1) < _
      split <;> omega
    · cases e
theorem tn_set (r : Nat) (x : pt_R) : tn (tsetR p r x) = tn p := List.length_set
theorem tR_set (r i : Nat) (x : pt_R) : tR (tsetR p r x) i = if i = r ∧ i < tn p then x else tR p i := gd_set p.2.1 x (0, 0, 0, fun _ => 0) r i
theorem tsetR_w (w : tW p) {r : Nat} {x : pt_R} (hx : tWr x) : tW (tsetR p r x) := by
  obtain ⟨w1, w2, w3, w4, w5, w6, w7, w8⟩ := w
  refine ⟨w1, w2, w3, w4, ?_, w6, fun y hy => ?_, fun y hy => ?_⟩
  · rw [tn_set]; exact w5
  · rcases List.mem_or_eq_of_mem_set hy with h | h
    · exact w7 y h
    · rw [h]; exact hx
  · rw [tn_set]; exact w8 y hy
theorem tsetK_w (w : tW p) {r b : Nat} (hr : r < tn p) (hb : b ≤ 1) : tW (tsetK p r b) := tsetR_w w ⟨(w.row hr).1, (w.row hr).2.1, (w.row hr).2.2.1, hb, (w.row hr).2.2.2.2⟩
theorem tsetN_w (w : tW p) {r n : Nat} (hr : r < tn p) (hb : n ≤ 6) : tW (tsetN p r n) := tsetR_w w ⟨(w.row hr).1, (w.row hr).2.1, hb, (w.row hr).2.2.2.1, (w.row hr).2.2.2.2⟩
theorem tsetA_w (w : tW p) {r c : Nat} {v : Int} (hr : r < tn p) (h1 : -99 ≤ v) (h2 : v ≤ 99) : tW (tsetA p r c v) := tsetR_w w ⟨(w.row hr).1, (w.row hr).2.1, (w.row hr).2.2.1, (w.row hr).2.2.2.1, fun i => by
  show -99 ≤ (if i = c then v else tA p r i) ∧ (if i = c then v else tA p r i) ≤ 99
  split
  · exact ⟨h1, h2⟩
  · exact (w.row hr).2.2.2.2 i⟩
theorem tsetC_w (w : tW p) {c h e : Nat} (h1 : 1 ≤ c ∧ c ≤ 4) (h2 : 6 ≤ h ∧ h ≤ 40) (h3 : e ≤ 4) : tW (tsetC p c h e) := ⟨h1, h2, h3, w.2.2.2⟩
theorem tsetH_w (w : tW p) {a h : Nat} (hk : tokH a h = true) : tW (tsetH p a h) := by
  obtain ⟨w1, w2, w3, w4, w5, w6, w7, w8⟩ := w
  unfold tsetH
  unfold tokH at hk
  by_cases h0 : a = 0
  · rw [if_pos h0] at hk ⊢
    simp at hk
    exact ⟨w1, hk, w3, w4, w5, w6, w7, w8⟩
  · rw [if_neg h0] at hk ⊢
    by_cases h1 : a = 1
    · rw [if_pos h1] at hk ⊢
      simp at hk
      exact ⟨w1, w2, hk, w4, w5, w6, w7, w8⟩
    · rw [if_neg h1] at hk ⊢
      simp at hk
      refine ⟨w1, w2, w3, ⟨?_, fun n g1 g2 => ?_⟩, w5, w6, w7, w8⟩
      · show (if 0 = a - 1 then h else tV p 0) = 0
        rw [if_neg (by omega)]
        exact w4.1
      · show 1 ≤ (if n = a - 1 then h else tV p n) ∧ (if n = a - 1 then h else tV p n) ≤ 3
        split
        · omega
        · exact w4.2 n g1 g2
theorem tplay_w (w : tW p) (r : Nat) : tW (tplay p r) := by
  unfold tplay
  split
  · split
    · exact tputR_w w (by omega) (by omega) (by omega) (by omega)
    · exact w
  · split
    · exact w
    · have : r / 4 % tn p < tn p := Nat.mod_lt _ (by omega)
      split
      · exact tsetK_w w this (by omega)
      · exact tdropR_w w this
end OPS
