/-! ===== the most even cuts, as values ===== -/
def tcost (p : pt_T) (a b : Nat) : Nat := if tP p < tlines p a b then 1000 * (tlines p a b - tP p) else if b + 1 = tn p then 0 else (tP p - tlines p a b) * (tP p - tlines p a b)
/-- the best end of the page that begins with the row a, among k rows; c tells what the rest costs -/
def tbk (p : pt_T) (c : Nat → Nat) (a : Nat) : Nat → Option (Nat × Nat)
  | 0 => none
  | k + 1 => if tend p (a + k) = true then
      (match tbk p c a k with
        | none => some (tcost p a (a + k) + c (a + k + 1), a + k)
        | some x => if tcost p a (a + k) + c (a + k + 1) < x.1 then some (tcost p a (a + k) + c (a + k + 1), a + k) else some x)
    else tbk p c a k
/-- costs and ends of the last m rows -/
def tdp (p : pt_T) : Nat → (Nat → Nat) × (Nat → Nat)
  | 0 => (fun _ => 0, fun _ => 0)
  | m + 1 => (fun i => if i = tn p - (m + 1) then ((tbk p (tdp p m).1 (tn p - (m + 1)) (m + 1)).getD (0, 0)).1 else (tdp p m).1 i, fun i => if i = tn p - (m + 1) then ((tbk p (tdp p m).1 (tn p - (m + 1)) (m + 1)).getD (0, 0)).2 else (tdp p m).2 i)
/-- the end of the page i -/
def tcl (e : Nat → Nat) (n : Nat) : Nat → Nat → Nat → Option Nat
  | 0, _, _ => none
  | f + 1, i, a => if a < n then (if i = 0 then some (e a) else tcl e n f (i - 1) (e a + 1)) else none
section EV
variable {p : pt_T}
theorem tcost_le (hw : tW p) {a b : Nat} (hab : a ≤ b) (hb : b < tn p) : tcost p a b ≤ 300000 := by
  have h1 := tln_le hw (a := a) (k := b + 1 - a) (by omega)
  have h2 := hw.2.1.2
  have hl : tlines p a b ≤ 201 := by unfold tlines tcy; split <;> omega
  unfold tcost
  split
  · omega
  · split
    · omega
    · have : (tP p - tlines p a b) * (tP p - tlines p a b) ≤ 40 * 40 := Nat.mul_le_mul (by omega) (by omega)
      omega
theorem tbk_s (c : Nat → Nat) (a k : Nat) : tbk p c a (k + 1) = if tend p (a + k) = true then (match tbk p c a k with
        | none => some (tcost p a (a + k) + c (a + k + 1), a + k)
        | some x => if tcost p a (a + k) + c (a + k + 1) < x.1 then some (tcost p a (a + k) + c (a + k + 1), a + k) else some x) else tbk p c a k := rfl
theorem tbk_le (hw : tW p) {c : Nat → Nat} {a : Nat} (hc : ∀ i, a < i → i ≤ tn p → c i ≤ 300000 * (tn p - i)) : ∀ k, a + k ≤ tn p → ∀ x, tbk p c a k = some x → x.1 ≤ 300000 * (tn p - a) ∧ a ≤ x.2 ∧ x.2 < a + k
  | 0, _, x, e => by cases e
  | k + 1, hk, x, e => by
    rw [tbk_s] at e
    have h1 := tcost_le hw (a := a) (b := a + k) (by omega) (by omega)
    have h2 := hc (a + k + 1) (by omega) (by omega)
    have h3 := tbk_le hw hc k (by omega)
    have new : ∀ x : Nat × Nat, (tcost p a (a + k) + c (a + k + 1), a + k) = x → x.1 ≤ 300000 * (tn p - a) ∧ a ≤ x.2 ∧ x.2 < a + (k + 1) := by
      intro x hx
      subst hx
      refine ⟨?_, ?_, ?_⟩ <;> simp only <;> omega
    split at e
    · cases ht : tbk p c a k with
      | none =>
        rw [ht] at e
        exact new x (Option.some.inj e)
      | some y =>
        rw [ht] at e
        simp only at e
        split at e
        · exact new x (Option.some.inj e)
        · obtain ⟨g1, g2, g3⟩ := h3 y ht
          have := Option.some.inj e
          subst this
          exact ⟨g1, g2, by omega⟩
    · obtain ⟨g1, g2, g3⟩ := h3 x e
      exact ⟨g1, g2, by omega⟩
theorem tbk_some {c : Nat → Nat} {a k : Nat} (h : a + k + 1 = tn p) : ∃ x, tbk p c a (k + 1) = some x := by
  rw [tbk_s, if_pos (tend_last (by omega))]
  cases tbk p c a k with
  | none => exact ⟨_, rfl⟩
  | some y =>
    simp only
    split
    · exact ⟨_, rfl⟩
    · exact ⟨_, rfl⟩
theorem tdp_le (hw : tW p) : ∀ m, m ≤ tn p → ∀ i, tn p - m ≤ i → i ≤ tn p → (tdp p m).1 i ≤ 300000 * (tn p - i) ∧ (i < tn p → i ≤ (tdp p m).2 i ∧ (tdp p m).2 i < tn p)
  | 0, _, i, h1, h2 => ⟨Nat.zero_le _, fun h3 => by omega⟩
  | m + 1, hm, i, h1, h2 => by
    have ih := tdp_le hw m (by omega)
    show (if i = tn p - (m + 1) then ((tbk p (tdp p m).1 (tn p - (m + 1)) (m + 1)).getD (0, 0)).1 else (tdp p m).1 i) ≤ _ ∧ (i < tn p → i ≤ (if i = tn p - (m + 1) then ((tbk p (tdp p m).1 (tn p - (m + 1)) (m + 1)).getD (0, 0)).2 else (tdp p m).2 i) ∧ (if i = tn p - (m + 1) then ((tbk p (tdp p m).1 (tn p - (m + 1)) (m + 1)).getD (0, 0)).2 else (tdp p m).2 i) < tn p)
    by_cases q : i = tn p - (m + 1)
    · rw [if_pos q, if_pos q]
      obtain ⟨x, hx⟩ := tbk_some (p := p) (c := (tdp p m).1) (a := tn p - (m + 1)) (k := m) (by omega)
      rw [hx]
      obtain ⟨g1, g2, g3⟩ := tbk_le hw (c := (tdp p m).1) (a := tn p - (m + 1)) (fun i h3 h4 => (ih i (by omega) h4).1) (m + 1) (by omega) x hx
      subst q
      refine ⟨g1, fun _ => ⟨g2, ?_⟩⟩
      show x.2 < tn p
      omega
    · rw [if_neg q, if_neg q]
      exact ih i (by omega) h2
end EV
