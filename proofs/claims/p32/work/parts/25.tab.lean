/-! ===== the class Table, and its methods' contracts ===== -/
/-- the Table number t holds p -/
def rC (I : am_I) (t : Nat) (p : pt_T) : Prop :=
  (I (7, t) 0 = nI (tC p) ∧ I (7, t) 1 = nI (tn p) ∧ I (7, t) 2 = nI (tm p) ∧ I (7, t) 3 = nI (tP p) ∧ I (7, t) 4 = nI (tE p)) ∧
  (∀ r, r < tn p → I (10, t) r = nI (tH p r) ∧ I (11, t) r = nI (tN p r) ∧ I (12, t) r = nI (tK p r) ∧ ∀ c, c < 4 → I (13, t) (r * 4 + c) = iI (tA p r c)) ∧
  (∀ s, s < tm p → I (14, t) s = nI (tF p s) ∧ I (15, t) s = nI (tL p s) ∧ I (16, t) s = nI (tM p s)) ∧
  ∀ n, n ≤ 6 → I (17, t) n = nI (tV p n)
/-- the cells of the Table t -/
def isT (t : Nat) (a : am_A) : Prop := a.2 = t ∧ (a.1 = 7 ∨ (10 ≤ a.1 ∧ a.1 ≤ 17))
/-- all but the cells of S stays -/
def am_fr (S : am_A → Prop) (I I' : am_I) : Prop := ∀ a, ¬ S a → I' a = I a
theorem am_fr.rf {S : am_A → Prop} {I : am_I} : am_fr S I I := fun _ _ => rfl
theorem am_fr.up {S : am_A → Prop} {I I' : am_I} (h : am_fr S I I') {a : am_A} {k : Nat} {x : Int32} (ha : S a) : am_fr S I (am_upI I' a k x) := fun b hb => by
  rw [am_upI_ne (fun e : b = a => hb (by rw [e]; exact ha))]
  exact h b hb
theorem am_fr.tr {S : am_A → Prop} {I I' I'' : am_I} (h : am_fr S I I') (h' : am_fr S I' I'') : am_fr S I I'' := fun b hb => (h' b hb).trans (h b hb)
theorem am_fr.mono {S S' : am_A → Prop} {I I' : am_I} (h : am_fr S I I') (hs : ∀ a, S a → S' a) : am_fr S' I I' := fun b hb => h b fun q => hb (hs b q)
theorem rC.kept {I I' : am_I} {t : Nat} {p : pt_T} (h : rC I t p) (hk : ∀ a, isT t a → I' a = I a) : rC I' t p := by
  have k : ∀ s : Nat, s = 7 ∨ (10 ≤ s ∧ s ≤ 17) → I' (s, t) = I (s, t) := fun s hs => hk (s, t) ⟨rfl, hs⟩
  unfold rC
  rw [k 7 (by omega), k 10 (by omega), k 11 (by omega), k 12 (by omega), k 13 (by omega), k 14 (by omega), k 15 (by omega), k 16 (by omega), k 17 (by omega)]
  exact h
theorem rC.fr {I I' : am_I} {t : Nat} {p : pt_T} {S : am_A → Prop} (h : rC I t p) (hf : am_fr S I I') (hs : ∀ a, isT t a → ¬ S a) : rC I' t p := h.kept fun a ha => hf a (hs a ha)
section TAB
variable {l : Launch} {D t : Nat} {I : am_I} {J : am_J} {P : am_P} {p : pt_T}
theorem s_hasRow {r : Int32} (hD : 1 ≤ D) (h : rC I t p) (hw : tW p) (k0 : (∀ j, j < tn p → ¬ r = nI j) → P (.inl (some (vI (nI 0)))) am_G0 I J) (k1 : ∀ j, j < tn p → r = nI j → P (.inl (some (vI (nI 1)))) am_G0 I J) : am_T l D y_Table_hasRow [vR (7, t), vI r] am_G0 I J P := by
  obtain ⟨d, rfl⟩ : ∃ d, D = d + 1 := ⟨D - 1, by omega⟩
  have hn := hw.2.2.2.2.1
  refine en_Table_hasRow 20 (Nat.le_of_ble_eq_true rfl) ?_
  simp only [am_z, cq_Table_hasRow, Nat.reduceAdd, h.1.2.1, ar_lit]
  rcases ar_cases r with hr | ⟨j, hj, rfl⟩
  · rw [if_pos hr]
    exact k0 fun j hj q => by rw [q, ar_lt (by omega) (by omega)] at hr; omega
  · simp (disch := omega) only [ar_lt, ar_le]
    rw [if_neg (by omega)]
    split
    · exact k0 fun i hi q => by rw [ar_eq (by omega) (by omega)] at q; omega
    · exact k1 j (by omega) rfl
theorem s_amountAt {r c : Nat} (hD : 1 ≤ D) (h : rC I t p) (hw : tW p) (hr : r < tn p) (hc : c < 4) (k : P (.inl (some (vI (iI (tA p r c))))) am_G0 I J) : am_T l D y_Table_amountAt [vR (7, t), vI (nI r), vI (nI c)] am_G0 I J P := by
  obtain ⟨d, rfl⟩ : ∃ d, D = d + 1 := ⟨D - 1, by omega⟩
  have hn := hw.2.2.2.2.1
  refine en_Table_amountAt 20 (Nat.le_of_ble_eq_true rfl) ?_
  simp (disch := omega) only [am_z, cq_Table_amountAt, Nat.reduceAdd, ar_lit, pk_mul, nI_add, ar_in, ar_cl, (h.2.1 r hr).2.2.2 c hc]
  exact ⟨by omega, k⟩
theorem s_putAmount {r c : Nat} {v : Int32} (hD : 1 ≤ D) (hr : r < 24) (hc : c < 4) (k : P (.inl none) am_G0 (am_upI I (13, t) (r * 4 + c) v) J) : am_T l D y_Table_putAmount [vR (7, t), vI (nI r), vI (nI c), vI v] am_G0 I J P := by
  obtain ⟨d, rfl⟩ : ∃ d, D = d + 1 := ⟨D - 1, by omega⟩
  refine en_Table_putAmount 20 (Nat.le_of_ble_eq_true rfl) ?_
  simp (disch := omega) only [am_z, cq_Table_putAmount, Nat.reduceAdd, ar_lit, pk_mul, nI_add, ar_in, ar_cl]
  exact ⟨by omega, k⟩
/-- the sum of the rows from a on, up to b (b alone not) -/
def tsum (p : pt_T) (a b c : Nat) : Int := sumZ (fun i => tA p (a + i) c) (b - a)
theorem s_sumOfRows {a b c : Nat} (hD : 2 ≤ D) (h : rC I t p) (hw : tW p) (hab : a ≤ b) (hb : b ≤ tn p) (hc : c < 4) (k : P (.inl (some (vI (iI (tsum p a b c))))) am_G0 I J) : am_T l D y_Table_sumOfRows [vR (7, t), vI (nI a), vI (nI b - nI 1), vI (nI c)] am_G0 I J P := by
  obtain ⟨d, rfl⟩ : ∃ d, D = d + 1 := ⟨D - 1, by omega⟩
  have hn := hw.2.2.2.2.1
  have loop : ∀ m j : Nat, j + m = b - a → am_X l (0, fun _ => 0) (d + 1) y_Table_sumOfRows P 6 [some (vR (7, t)), some (vI (nI a)), some (vI (nI b - nI 1)), some (vI (nI c)), some (vI (iI (sumZ (fun i => tA p (a + i) c) j))), some (vI (nI (a + j)))] [] 0 0 am_G0 I J := by
    intro m
    induction m with
    | zero =>
      intro j hj
      refine rn_Table_sumOfRows 20 ?_
      simp (disch := omega) only [am_z, cq_Table_sumOfRows, Nat.reduceAdd, ar_m1]
      rw [if_pos (by omega)]
      have e : j = b - a := by omega
      subst e
      exact k
    | succ m ih =>
      intro j hj
      refine rn_Table_sumOfRows 20 ?_
      simp (disch := omega) only [am_z, cq_Table_sumOfRows, Nat.reduceAdd, ar_m1]
      rw [if_neg (by omega)]
      refine s_amountAt (by omega) h hw (by omega) hc ?_
      simp only [am_z, Nat.reduceAdd]
      refine rn_Table_sumOfRows 20 ?_
      simp only [am_z, cq_Table_sumOfRows, Nat.reduceAdd]
      rw [iI_add, ar_lit.2.1, nI_add, Nat.add_assoc]
      exact @ih (j + 1) (by omega)
  refine en_Table_sumOfRows 20 (Nat.le_of_ble_eq_true rfl) ?_
  simp only [am_z, cq_Table_sumOfRows, Nat.reduceAdd]
  exact @loop (b - a) 0 (by omega)
end TAB
