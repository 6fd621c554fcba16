/-! ===== pages as values ===== -/
abbrev pt_P : Type := Nat × Nat × Bool
def pgA (L : List pt_P) (k : Nat) : pt_P := L.getD k (0, 0, false)
/-- the number of the page that holds the row r -/
def tpo : List pt_P → Nat → Nat
  | [], _ => 0
  | x :: L, r => if x.2.1 < r then tpo L r + 1 else 0
section PG
variable {p : pt_T} {h : Nat}
theorem pgA_z (x : pt_P) (L : List pt_P) : pgA (x :: L) 0 = x := rfl
theorem pgA_s (x : pt_P) (L : List pt_P) (k : Nat) : pgA (x :: L) (k + 1) = pgA L k := rfl
theorem tpl_c {f a : Nat} (ha : a < tn p) : tpl p h (f + 1) a = (a, tnx p h a, (tlast p h a).isNone) :: tpl p h f (tnx p h a + 1) := if_pos ha
theorem tpl_n {f a : Nat} (ha : ¬ a < tn p) : tpl p h f a = [] := by
  cases f with
  | zero => rfl
  | succ f => exact if_neg ha
theorem tpl_at : ∀ (f a k : Nat), k < (tpl p h f a).length → (k = 0 → (pgA (tpl p h f a) k).1 = a) ∧ (∀ j, k = j + 1 → (pgA (tpl p h f a) k).1 = (pgA (tpl p h f a) j).2.1 + 1) ∧ (pgA (tpl p h f a) k).1 ≤ (pgA (tpl p h f a) k).2.1 ∧ (pgA (tpl p h f a) k).2.1 < tn p ∧ ((pgA (tpl p h f a) k).2.2 = true ↔ h < tlines p (pgA (tpl p h f a) k).1 (pgA (tpl p h f a) k).2.1)
  | 0, _, _, hk => absurd hk (Nat.not_lt_zero _)
  | f + 1, a, k, hk => by
    by_cases ha : a < tn p
    · rw [tpl_c ha] at hk ⊢
      obtain ⟨h1, h2, h3, h4⟩ := tnx_spec (p := p) (h := h) ha
      cases k with
      | zero => exact ⟨fun _ => rfl, fun j hj => by omega, h1, h2, h4⟩
      | succ k =>
        have hk' : k < (tpl p h f (tnx p h a + 1)).length := by simpa using hk
        obtain ⟨g1, g2, g3⟩ := tpl_at f (tnx p h a + 1) k hk'
        refine ⟨fun q => by omega, fun j hj => ?_, g3⟩
        have : j = k := by omega
        subst this
        cases j with
        | zero => exact g1 rfl
        | succ j => exact g2 j rfl
    · rw [tpl_n ha] at hk
      exact absurd hk (Nat.not_lt_zero _)
theorem tpo_lt : ∀ (f a r : Nat), tn p ≤ f + a → a ≤ r → r < tn p → tpo (tpl p h f a) r < (tpl p h f a).length
  | 0, a, r, h1, h2, h3 => by omega
  | f + 1, a, r, h1, h2, h3 => by
    have ha : a < tn p := by omega
    obtain ⟨g1, g2, _⟩ := tnx_spec (p := p) (h := h) ha
    rw [tpl_c ha]
    show (if tnx p h a < r then tpo (tpl p h f (tnx p h a + 1)) r + 1 else 0) < _
    split
    · have := tpo_lt f (tnx p h a + 1) r (by omega) (by omega) h3
      simpa using this
    · simp
theorem tpo_spec : ∀ (L : List pt_P) (r : Nat), tpo L r < L.length → (∀ k, k < tpo L r → (pgA L k).2.1 < r) ∧ r ≤ (pgA L (tpo L r)).2.1
  | [], _, h => absurd h (Nat.not_lt_zero _)
  | x :: L, r, h => by
    unfold tpo at h ⊢
    by_cases q : x.2.1 < r
    · rw [if_pos q] at h ⊢
      obtain ⟨h1, h2⟩ := tpo_spec L r (by simpa using h)
      refine ⟨fun k hk => ?_, h2⟩
      cases k with
      | zero => exact q
      | succ k => exact h1 k (by omega)
    · rw [if_neg q]
      exact ⟨fun k hk => absurd hk (Nat.not_lt_zero _), Nat.not_lt.mp q⟩
theorem tpl_len : ∀ f a, (tpl p h f a).length ≤ f ∧ (tpl p h f a).length ≤ tn p - a
  | 0, a => ⟨Nat.le_refl _, Nat.zero_le _⟩
  | f + 1, a => by
    by_cases ha : a < tn p
    · obtain ⟨g1, g2, _⟩ := tnx_spec (p := p) (h := h) ha
      rw [tpl_c ha]
      have := tpl_len f (tnx p h a + 1)
      simp only [List.length_cons]
      omega
    · rw [tpl_n ha]
      exact ⟨Nat.zero_le _, Nat.zero_le _⟩
theorem tov_app (L : List pt_P) (x : pt_P) : tov (L ++ [x]) = tov L + b01 x.2.2 := by
  unfold tov
  rw [List.length_append]
  show sumN _ (L.length + 1) = _
  show sumN _ L.length + _ = _
  have e1 : sumN (fun k => b01 ((L ++ [x]).getD k (0, 0, false)).2.2) L.length = sumN (fun k => b01 (L.getD k (0, 0, false)).2.2) L.length := sumN_eq _ fun k hk => by
    show b01 ((L ++ [x]).getD k (0, 0, false)).2.2 = _
    rw [gd_app, if_pos hk]
  rw [e1]
  show _ + b01 ((L ++ [x]).getD L.length (0, 0, false)).2.2 = _
  rw [gd_app, if_neg (Nat.lt_irrefl _), if_pos rfl]
theorem tov_le (L : List pt_P) : tov L ≤ L.length := by
  have := sumN_le (fun k => b01 (L.getD k (0, 0, false)).2.2) 1 L.length (fun k _ => b01_le _)
  unfold tov
  omega
end PG
