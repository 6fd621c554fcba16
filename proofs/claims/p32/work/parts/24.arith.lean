/-! ===== ints as numbers, for rewriting ===== -/
theorem ar_lit : (0 : Int32) = nI 0 ∧ (1 : Int32) = nI 1 ∧ (2 : Int32) = nI 2 ∧ (3 : Int32) = nI 3 ∧ (4 : Int32) = nI 4 ∧ (5 : Int32) = nI 5 ∧ (6 : Int32) = nI 6 ∧ (7 : Int32) = nI 7 ∧ (10 : Int32) = nI 10 ∧ (11 : Int32) = nI 11 ∧ (14 : Int32) = nI 14 ∧ (20 : Int32) = nI 20 ∧ (23 : Int32) = nI 23 ∧ (24 : Int32) = nI 24 ∧ (32 : Int32) = nI 32 ∧ (40 : Int32) = nI 40 ∧ (48 : Int32) = nI 48 ∧ (96 : Int32) = nI 96 ∧ (99 : Int32) = nI 99 ∧ (100 : Int32) = nI 100 ∧ (160 : Int32) = nI 160 ∧ (179 : Int32) = nI 179 ∧ (197 : Int32) = nI 197 ∧ (194 : Int32) = nI 194 ∧ (172 : Int32) = nI 172 ∧ (9 : Int32) = nI 9 ∧ (8 : Int32) = nI 8 ∧ (13 : Int32) = nI 13 ∧ (12 : Int32) = nI 12 ∧ (255 : Int32) = nI 255 ∧ (1000 : Int32) = nI 1000 ∧ (10000 : Int32) = nI 10000 ∧ (2561 : Int32) = nI 2561 ∧ (25 : Int32) = nI 25 ∧ (84 : Int32) = nI 84 ∧ (104 : Int32) = nI 104 ∧ (107 : Int32) = nI 107 ∧ (110 : Int32) = nI 110 ∧ (114 : Int32) = nI 114 ∧ (115 : Int32) = nI 115 ∧ (43 : Int32) = nI 43 ∧ (45 : Int32) = nI 45 := by
  refine ⟨?_, ?_, ?_, ?_, ?_, ?_, ?_, ?_, ?_, ?_, ?_, ?_, ?_, ?_, ?_, ?_, ?_, ?_, ?_, ?_, ?_, ?_, ?_, ?_, ?_, ?_, ?_, ?_, ?_, ?_, ?_, ?_, ?_, ?_, ?_, ?_, ?_, ?_, ?_, ?_, ?_, ?_⟩ <;> decide +kernel
theorem ar_in {k n : Nat} (h : k < 2 ^ 31) : vp_in (nI k) n = (k < n) := by
  unfold vp_in
  rw [nI_clamp h]
  have h0 : ¬ nI k < 0 := nI_pos h
  apply propext
  constructor
  · intro q
    exact Nat.not_le.mp fun z => q (Or.inr z)
  · intro q z
    rcases z with z | z
    · exact h0 z
    · omega
theorem ar_lt {a b : Nat} (ha : a < 2 ^ 31) (hb : b < 2 ^ 31) : (nI a < nI b) = (a < b) := propext (nI_ltI ha hb)
theorem ar_le {a b : Nat} (ha : a < 2 ^ 31) (hb : b < 2 ^ 31) : (nI a ≤ nI b) = (a ≤ b) := propext (nI_leI ha hb)
theorem ar_eq {a b : Nat} (ha : a < 2 ^ 31) (hb : b < 2 ^ 31) : (nI a = nI b) = (a = b) := propext (nI_eq ha hb)
theorem ar_cl {a : Nat} (ha : a < 2 ^ 31) : (nI a).toNatClampNeg = a := nI_clamp ha
theorem ar_sub {a b : Nat} (h : b ≤ a) : nI a - nI b = nI (a - b) := pk_sub h
/-- an end told as 'the last one': one less than a number -/
theorem ar_m1 {b r : Nat} (hb : b < 2 ^ 31) (hr : r < 2 ^ 31) : (nI b - nI 1 < nI r) = (b ≤ r) := by
  have e : (nI b - nI 1).toInt = (b : Int) - 1 := by
    by_cases q : b = 0
    · subst q; decide +kernel
    · rw [ar_sub (by omega), nI_toInt (by omega)]; omega
  apply propext
  rw [Int32.lt_iff_toInt_lt, e, nI_toInt hr]
  omega
theorem ar_neg1 : (-1 : Int32) = nI 0 - nI 1 := by decide +kernel
theorem iI_nI (n : Nat) : nI n = iI (n : Int) := by
  unfold nI iI
  exact (Int32.ofInt_eq_ofNat).symm
theorem iI_add (a b : Int) : iI a + iI b = iI (a + b) := (Int32.ofInt_add a b).symm
theorem iI_sub (a b : Int) : iI a - iI b = iI (a - b) := (Int32.ofInt_sub a b).symm
theorem iI_mul (a b : Int) : iI a * iI b = iI (a * b) := (Int32.ofInt_mul a b).symm
theorem iI_neg (a : Int) : -iI a = iI (-a) := (Int32.ofInt_neg a).symm
theorem iI_toInt {a : Int} (h1 : -2147483648 ≤ a) (h2 : a < 2147483648) : (iI a).toInt = a := Int32.toInt_ofInt_of_le (by simpa using h1) (by simpa using h2)
theorem iI_lt {a b : Int} (h1 : -2147483648 ≤ a ∧ a < 2147483648) (h2 : -2147483648 ≤ b ∧ b < 2147483648) : (iI a < iI b) = (a < b) := by
  apply propext
  rw [Int32.lt_iff_toInt_lt, iI_toInt h1.1 h1.2, iI_toInt h2.1 h2.2]
theorem iI_le {a b : Int} (h1 : -2147483648 ≤ a ∧ a < 2147483648) (h2 : -2147483648 ≤ b ∧ b < 2147483648) : (iI a ≤ iI b) = (a ≤ b) := by
  apply propext
  rw [Int32.le_iff_toInt_le, iI_toInt h1.1 h1.2, iI_toInt h2.1 h2.2]
theorem iI_eq {a b : Int} (h1 : -2147483648 ≤ a ∧ a < 2147483648) (h2 : -2147483648 ≤ b ∧ b < 2147483648) : (iI a = iI b) = (a = b) := by
  apply propext
  constructor
  · intro q
    rw [← iI_toInt h1.1 h1.2, ← iI_toInt h2.1 h2.2, q]
  · intro q; rw [q]
/-- every int is a number or below 0 -/
theorem ar_cases (x : Int32) : x < nI 0 ∨ ∃ k : Nat, k < 2 ^ 31 ∧ x = nI k := by
  by_cases h : x < 0
  · exact Or.inl h
  · exact Or.inr (nI_of h)
theorem am_tt : (∀ p : Prop, (True ∧ p) = p) ∧ (∀ p : Prop, (p ∧ True) = p) ∧ (∀ p : Prop, (True → p) = p) ∧ (∀ p : Prop, (True ∨ p) = True) ∧ (∀ p : Prop, (p ∨ True) = True) ∧ (∀ p : Prop, (p → True) = True) ∧ (∀ p : Prop, (False → p) = True) ∧ (∀ p : Prop, (False ∨ p) = p) ∧ (∀ p : Prop, (p ∨ False) = p) ∧ (∀ p : Prop, (False ∧ p) = False) ∧ (∀ p : Prop, (p ∧ False) = False) := by
  refine ⟨?_, ?_, ?_, ?_, ?_, ?_, ?_, ?_, ?_, ?_, ?_⟩ <;> intro p <;> simp
/-- reading behind a write -/
theorem am_upI_at (I : am_I) (a : am_A) (k : Nat) (x : Int32) (b : am_A) (j : Nat) : am_upI I a k x b j = if b = a ∧ j = k then x else I b j := by
  unfold am_upI upd
  by_cases h : b = a
  · subst h
    by_cases h2 : j = k
    · simp [h2]
    · simp [h2]
  · simp [h]
theorem am_upI_ne {I : am_I} {a b : am_A} {k : Nat} {x : Int32} (h : ¬ b = a) : am_upI I a k x b = I b := if_neg h
theorem am_upI_eq {I : am_I} {a : am_A} {k : Nat} {x : Int32} : am_upI I a k x a k = x := by rw [am_upI_at, if_pos ⟨rfl, rfl⟩]
theorem nar_b (x : Nat) (h : x ≤ 1) : vp_nar .boolean (nI x) = nI x := by
  rcases (show x = 0 ∨ x = 1 by omega) with rfl | rfl <;> decide +kernel
theorem am_lz : (∀ n : Nat, (n ≤ n) = True) ∧ ((am_fk 7 0 = 1) = False) ∧ ((am_fk 7 1 = 1) = False) ∧ ((am_fk 7 2 = 1) = False) ∧ ((am_fk 7 3 = 1) = False) ∧ ((am_fk 7 4 = 1) = False) ∧ ((am_fk 3 1 = 1) = False) ∧ ((am_fk 3 2 = 1) = False) ∧ ((am_fk 4 0 = 1) = False) ∧ ((am_fk 4 1 = 1) = False) ∧ ((am_fk 5 0 = 1) = False) ∧ ((am_fk 5 1 = 1) = False) ∧ ((am_fk 5 2 = 1) = False) ∧ ((am_fk 5 3 = 1) = False) ∧ ((am_fk 1 0 = 1) = False) ∧ ((am_fk 1 1 = 1) = False) ∧ ((am_fk 1 2 = 1) = False) ∧ ((am_fk 1 3 = 1) = False) ∧ ((am_fk 1 4 = 1) = False) ∧ ((am_fk 8 1 = 1) = False) ∧ ((am_fk 8 2 = 1) = False) ∧ ((am_fk 9 0 = 1) = False) ∧ ((am_fk 9 2 = 1) = False) ∧ ((am_fk 9 3 = 1) = False) ∧ ((am_fk 9 9 = 1) = False) ∧ ((am_fk 9 13 = 1) = False) ∧ ((false = true) = False) := by
  refine ⟨?_, ?_, ?_, ?_, ?_, ?_, ?_, ?_, ?_, ?_, ?_, ?_, ?_, ?_, ?_, ?_, ?_, ?_, ?_, ?_, ?_, ?_, ?_, ?_, ?_, ?_, ?_⟩
  · intro n; exact propext ⟨fun _ => trivial, fun _ => Nat.le_refl n⟩
  all_goals (simp only [eq_iff_iff]; first | decide | simp)
/-- all equations of the steps -/
def am_z := And.intro am_q (And.intro am_ql (And.intro am_qc (And.intro am_qk (And.intro am_qr (And.intro am_g0 (And.intro am_lz am_tt))))))
