/-! ===== tables as mathematical values, and what is asked of them ===== -/
abbrev pt_R : Type := Nat × Nat × Nat × (Nat → Int)
abbrev pt_S : Type := Nat × Nat × Nat
/-- columns, height of the page, of the heading, of the notes; rows (height, note, 1 if it stays, amounts); spans (first, last, 1 if it may be cut) -/
abbrev pt_T : Type := (Nat × Nat × Nat × (Nat → Nat)) × List pt_R × List pt_S
def tC (p : pt_T) : Nat := p.1.1
def tP (p : pt_T) : Nat := p.1.2.1
def tE (p : pt_T) : Nat := p.1.2.2.1
def tV (p : pt_T) (n : Nat) : Nat := p.1.2.2.2 n
def tn (p : pt_T) : Nat := p.2.1.length
def tm (p : pt_T) : Nat := p.2.2.length
def tR (p : pt_T) (r : Nat) : pt_R := p.2.1.getD r (0, 0, 0, fun _ => 0)
def tS (p : pt_T) (s : Nat) : pt_S := p.2.2.getD s (0, 0, 0)
def tH (p : pt_T) (r : Nat) : Nat := (tR p r).1
def tN (p : pt_T) (r : Nat) : Nat := (tR p r).2.1
def tK (p : pt_T) (r : Nat) : Nat := (tR p r).2.2.1
def tA (p : pt_T) (r c : Nat) : Int := (tR p r).2.2.2 c
def tF (p : pt_T) (s : Nat) : Nat := (tS p s).1
def tL (p : pt_T) (s : Nat) : Nat := (tS p s).2.1
def tM (p : pt_T) (s : Nat) : Nat := (tS p s).2.2
def tWr (x : pt_R) : Prop := 1 ≤ x.1 ∧ x.1 ≤ 6 ∧ x.2.1 ≤ 6 ∧ x.2.2.1 ≤ 1 ∧ ∀ c, -99 ≤ x.2.2.2 c ∧ x.2.2.2 c ≤ 99
def tWs (n : Nat) (x : pt_S) : Prop := x.1 < x.2.1 ∧ x.2.1 < n ∧ x.2.2 ≤ 1
def tW (p : pt_T) : Prop := (1 ≤ tC p ∧ tC p ≤ 4) ∧ (6 ≤ tP p ∧ tP p ≤ 40) ∧ tE p ≤ 4 ∧ (tV p 0 = 0 ∧ ∀ n, 1 ≤ n → n ≤ 6 → 1 ≤ tV p n ∧ tV p n ≤ 3) ∧ tn p ≤ 24 ∧ tm p ≤ 6 ∧ (∀ x ∈ p.2.1, tWr x) ∧ ∀ x ∈ p.2.2, tWs (tn p) x
def iI (z : Int) : Int32 := Int32.ofInt z
def sumN (f : Nat → Nat) : Nat → Nat
  | 0 => 0
  | n + 1 => sumN f n + f n
def sumZ (f : Nat → Int) : Nat → Int
  | 0 => 0
  | n + 1 => sumZ f n + f n
def b01 (b : Bool) : Nat := if b = true then 1 else 0
/-- may the table be cut behind the row r -/
def tcut (p : pt_T) (r : Nat) : Bool := tK p r == 0 && (List.range (tm p)).all fun s => tM p s == 1 || decide (r < tF p s) || decide (tL p s ≤ r)
def tend (p : pt_T) (r : Nat) : Bool := decide (r + 1 = tn p) || tcut p r
def tnam (p : pt_T) (a : Nat) : Nat := sumN (fun s => b01 (decide (tF p s < a) && decide (a ≤ tL p s))) (tm p)
/-- the notes of k rows from a on: bit n for the note n, bit 0 for none -/
def tmsk (p : pt_T) (a : Nat) : Nat → Nat
  | 0 => 0
  | k + 1 => tmsk p a k ||| 1 <<< tN p (a + k)
def tnc (p : pt_T) (m : Nat) : Nat := sumN (fun k => if m.testBit (k + 1) = true then tV p (k + 1) else 0) 6
/-- the lines that the rows from a on, k of them, need, but for the sums carried forward -/
def tln (p : pt_T) (a k : Nat) : Nat := tE p + tnam p a + (if a = 0 then 0 else 1) + sumN (fun i => tH p (a + i)) k + tnc p (tmsk p a k)
def tcy (p : pt_T) (b : Nat) : Nat := if b + 1 = tn p then 0 else 1
def tlines (p : pt_T) (a b : Nat) : Nat := tln p a (b + 1 - a) + tcy p b
/-- the last of k rows from a on that can end a page within h lines -/
def tlf (p : pt_T) (h a : Nat) : Nat → Option Nat
  | 0 => none
  | k + 1 => if tend p (a + k) = true ∧ tlines p a (a + k) ≤ h then some (a + k) else tlf p h a k
def tlast (p : pt_T) (h a : Nat) : Option Nat := tlf p h a (tn p - a)
def tfe (p : pt_T) : Nat → Nat → Nat
  | 0, a => a
  | k + 1, a => if tend p a = true then a else tfe p k (a + 1)
def tnx (p : pt_T) (h a : Nat) : Nat := (tlast p h a).getD (tfe p (tn p - a) a)
/-- the pages from the row a on: first row, last row, whether it is overfull -/
def tpl (p : pt_T) (h : Nat) : Nat → Nat → List (Nat × Nat × Bool)
  | 0, _ => []
  | f + 1, a => if a < tn p then (a, tnx p h a, (tlast p h a).isNone) :: tpl p h f (tnx p h a + 1) else []
def tpg (p : pt_T) (h : Nat) : List (Nat × Nat × Bool) := tpl p h 24 0
def tov (L : List (Nat × Nat × Bool)) : Nat := sumN (fun k => b01 (L.getD k (0, 0, false)).2.2) L.length
theorem sumN_le (f : Nat → Nat) (B : Nat) : ∀ n, (∀ k, k < n → f k ≤ B) → sumN f n ≤ B * n
  | 0, _ => Nat.zero_le _
  | n + 1, h => by
    have := sumN_le f B n (fun k hk => h k (by omega))
    have := h n (by omega)
    show sumN f n + f n ≤ _
    rw [Nat.mul_succ]
    omega
theorem sumN_eq {f g : Nat → Nat} : ∀ n, (∀ k, k < n → f k = g k) → sumN f n = sumN g n
  | 0, _ => rfl
  | n + 1, h => by
    show sumN f n + f n = sumN g n + g n
    rw [sumN_eq n (fun k hk => h k (by omega)), h n (by omega)]
theorem sumN_mono {f g : Nat → Nat} : ∀ n, (∀ k, k < n → f k ≤ g k) → sumN f n ≤ sumN g n
  | 0, _ => Nat.le_refl _
  | n + 1, h => Nat.add_le_add (sumN_mono n (fun k hk => h k (by omega))) (h n (by omega))
theorem b01_le (b : Bool) : b01 b ≤ 1 := by cases b <;> decide
section PT
variable {p : pt_T}
theorem tW.row (h : tW p) {r : Nat} (hr : r < tn p) : tWr (tR p r) := by
  have e : tR p r = p.2.1[r]'hr := by
    unfold tR
    rw [List.getD_eq_getElem?_getD, List.getElem?_eq_getElem hr]
    rfl
  rw [e]
  exact h.2.2.2.2.2.2.1 _ (List.getElem_mem hr)
theorem tW.span (h : tW p) {s : Nat} (hs : s < tm p) : tWs (tn p) (tS p s) := by
  have e : tS p s = p.2.2[s]'hs := by
    unfold tS
    rw [List.getD_eq_getElem?_getD, List.getElem?_eq_getElem hs]
    rfl
  rw [e]
  exact h.2.2.2.2.2.2.2 _ (List.getElem_mem hs)
theorem tnam_le {a : Nat} : tnam p a ≤ tm p := by
  have := sumN_le (fun s => b01 (decide (tF p s < a) && decide (a ≤ tL p s))) 1 (tm p) (fun k _ => b01_le _)
  unfold tnam
  omega
/-- one more note -/
theorem tnc_or (h0 : tV p 0 = 0) (m : Nat) {n : Nat} (hn : n ≤ 6) : tnc p (m ||| 1 <<< n) = tnc p m + (if m.testBit n = true then 0 else tV p n) := by
  have key : ∀ k, (m ||| 1 <<< n).testBit (k + 1) = (m.testBit (k + 1) || decide (k + 1 = n)) := by
    intro k
    rw [Nat.testBit_or, Nat.one_shiftLeft, Nat.testBit_two_pow]
    congr 1
    exact decide_eq_decide.mpr eq_comm
  unfold tnc
  simp only [sumN, key]
  by_cases hb : m.testBit n = true
  · rcases (show n = 0 ∨ n = 1 ∨ n = 2 ∨ n = 3 ∨ n = 4 ∨ n = 5 ∨ n = 6 by omega) with rfl | rfl | rfl | rfl | rfl | rfl | rfl <;> simp [hb]
  · rcases (show n = 0 ∨ n = 1 ∨ n = 2 ∨ n = 3 ∨ n = 4 ∨ n = 5 ∨ n = 6 by omega) with rfl | rfl | rfl | rfl | rfl | rfl | rfl <;> simp [hb, h0] <;> omega
theorem tnc_mono {m m' : Nat} (h : ∀ k, m.testBit k = true → m'.testBit k = true) : tnc p m ≤ tnc p m' := by
  refine sumN_mono 6 fun k _ => ?_
  by_cases q : m.testBit (k + 1) = true
  · rw [if_pos q, if_pos (h _ q)]
    exact Nat.le_refl _
  · rw [if_neg q]
    exact Nat.zero_le _
theorem tln_step (h : tW p) {a k : Nat} (hr : a + k < tn p) : tln p a k + 1 ≤ tln p a (k + 1) := by
  have h1 := (h.row hr).1
  have h2 : tnc p (tmsk p a k) ≤ tnc p (tmsk p a (k + 1)) := tnc_mono fun j hj => by
    show (tmsk p a k ||| 1 <<< tN p (a + k)).testBit j = true
    rw [Nat.testBit_or, hj, Bool.true_or]
  have h3 : sumN (fun i => tH p (a + i)) (k + 1) = sumN (fun i => tH p (a + i)) k + tH p (a + k) := rfl
  have h4 : 1 ≤ tH p (a + k) := h1
  unfold tln
  omega
theorem tlines_mono1 (h : tW p) {a b : Nat} (hab : a ≤ b) (hb : b + 1 < tn p) : tlines p a b ≤ tlines p a (b + 1) := by
  have h1 := tln_step h (a := a) (k := b + 1 - a) (by omega)
  have e : b + 1 + 1 - a = b + 1 - a + 1 := by omega
  have h2 : tcy p b ≤ 1 := by unfold tcy; split <;> omega
  unfold tlines
  rw [e]
  omega
/-- behind a row that does not fit none does -/
theorem tlines_mono (h : tW p) {a b : Nat} (hab : a ≤ b) : ∀ j, b + j < tn p → tlines p a b ≤ tlines p a (b + j)
  | 0, _ => Nat.le_refl _
  | j + 1, hj => Nat.le_trans (tlines_mono h hab j (by omega)) (tlines_mono1 h (by omega) (by omega))
theorem tlf_stop {h a k : Nat} : ∀ j, (∀ i, k ≤ i → i < k + j → h < tlines p a (a + i)) → tlf p h a (k + j) = tlf p h a k
  | 0, _ => rfl
  | j + 1, hj => by
    show (if tend p (a + (k + j)) = true ∧ tlines p a (a + (k + j)) ≤ h then some (a + (k + j)) else tlf p h a (k + j)) = _
    rw [if_neg (fun q => by have := hj (k + j) (by omega) (by omega); omega)]
    exact tlf_stop j (fun i h1 h2 => hj i h1 (by omega))
theorem tlf_some {h a b : Nat} : ∀ k, tlf p h a k = some b → a ≤ b ∧ b < a + k ∧ tend p b = true ∧ tlines p a b ≤ h
  | 0, e => by cases e
  | k + 1, e => by
    unfold tlf at e
    split at e
    · rename_i q
      cases e
      exact ⟨by omega, by omega, q⟩
    · obtain ⟨h1, h2, h3⟩ := tlf_some k e
      exact ⟨h1, by omega, h3⟩
theorem tlf_none {h a : Nat} : ∀ k, tlf p h a k = none → ∀ i, i < k → tend p (a + i) = true → h < tlines p a (a + i)
  | 0, _, i, hi, _ => by omega
  | k + 1, e, i, hi, he => by
    unfold tlf at e
    split at e
    · cases e
    · rename_i q
      by_cases hk : i = k
      · subst hk
        exact Nat.not_le.mp fun q2 => q ⟨he, q2⟩
      · exact tlf_none k e i (by omega) he
theorem tend_last {r : Nat} (h : r + 1 = tn p) : tend p r = true := by
  unfold tend
  rw [decide_eq_true h, Bool.true_or]
theorem tfe_spec : ∀ (k a : Nat), a + k = tn p → 0 < k → a ≤ tfe p k a ∧ tfe p k a < tn p ∧ tend p (tfe p k a) = true ∧ ∀ i, a ≤ i → i < tfe p k a → ¬ tend p i = true
  | 0, _, _, h => absurd h (by omega)
  | k + 1, a, hk, _ => by
    unfold tfe
    split
    · rename_i q
      exact ⟨Nat.le_refl _, by omega, q, fun i h1 h2 => by omega⟩
    · rename_i q
      have hk0 : 0 < k := by
        rcases Nat.eq_zero_or_pos k with h0 | h0
        · exact absurd (tend_last (p := p) (r := a) (by omega)) q
        · exact h0
      obtain ⟨h1, h2, h3, h4⟩ := tfe_spec k (a + 1) (by omega) hk0
      refine ⟨by omega, h2, h3, fun i g1 g2 => ?_⟩
      by_cases hi : i = a
      · subst hi; exact q
      · exact h4 i (by omega) g2
theorem tnx_spec {h a : Nat} (ha : a < tn p) : a ≤ tnx p h a ∧ tnx p h a < tn p ∧ tend p (tnx p h a) = true ∧ ((tlast p h a).isNone = true ↔ h < tlines p a (tnx p h a)) := by
  unfold tnx
  cases hl : tlast p h a with
  | some b =>
    obtain ⟨h1, h2, h3, h4⟩ := tlf_some _ hl
    refine ⟨h1, by show b < _; omega, h3, ?_⟩
    show (false = true) ↔ h < tlines p a b
    constructor
    · intro q; cases q
    · intro q; omega
  | none =>
    obtain ⟨h1, h2, h3, h4⟩ := tfe_spec (p := p) (tn p - a) a (by omega) (by omega)
    refine ⟨h1, h2, h3, ?_⟩
    show (true = true) ↔ _
    have := tlf_none _ hl (tfe p (tn p - a) a - a) (by omega) (by rw [show a + (tfe p (tn p - a) a - a) = tfe p (tn p - a) a by omega]; exact h3)
    rw [show a + (tfe p (tn p - a) a - a) = tfe p (tn p - a) a by omega] at this
    exact ⟨fun _ => this, fun _ => rfl⟩
end PT
