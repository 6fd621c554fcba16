/-! ===== the reference: notes, names, lines ===== -/
theorem sh_has : ∀ m, m < 64 → ∀ k, k < 6 → (nI m >>> (nI k &&& 31)) &&& nI 1 = nI (b01 (m.testBit k)) := by decide +kernel
theorem sh_half : ∀ m, m < 128 → ∀ n, n < 7 → (m ||| 1 <<< n) / 2 = m / 2 ||| (if n = 0 then 0 else 1 <<< (n - 1)) := by decide +kernel
theorem sh_or0 : ∀ m, m < 128 → nI m ||| nI 0 = nI m := by decide +kernel
theorem sh_tb (m k : Nat) : (m / 2).testBit k = m.testBit (k + 1) := by rw [Nat.testBit_succ]
section RF
variable {l : Launch} {D u : Nat} {I : am_I} {J : am_J} {P : am_P} {p : pt_T}
theorem s_M_has {G : am_G} {m k : Nat} (hD : 1 ≤ D) (hm : m < 64) (hk : k < 6) (c : P (.inl (some (vI (nI (b01 (m.testBit k)))))) G I J) : am_T l D y_M_has [vI (nI m), vI (nI k)] G I J P := by
  obtain ⟨d, rfl⟩ : ∃ d, D = d + 1 := ⟨D - 1, by omega⟩
  have e : ∀ x : Nat, x ≤ 1 → x = b01 (m.testBit k) → P (.inl (some (vI (nI x)))) G I J := fun x _ hx => by rw [hx]; exact c
  have hb := b01_le (m.testBit k)
  refine en_M_has 20 (Nat.le_of_ble_eq_true rfl) ?_
  simp (disch := omega) only [am_z, cq_M_has, Nat.reduceAdd, Nat.zero_le, Nat.reduceLeDiff, ar_lit, sh_has m hm k hk, ar_eq]
  split
  · rename_i q
    exact e 1 (by omega) q.symm
  · rename_i q
    exact e 0 (by omega) (by omega)
theorem s_M_notes {a b : Nat} (hD : 2 ≤ D) (hu : isU u) (h : rF (I (u, 0)) p) (hw : tW p) (hab : a ≤ b) (hb : b < tn p) (k : P (.inl (some (vI (nI (tmsk p a (b + 1 - a) / 2))))) am_G0 I J) : am_T l D y_M_notes [vR (u, 0), vI (nI a), vI (nI b)] am_G0 I J P := by
  obtain ⟨d, rfl⟩ : ∃ d, D = d + 1 := ⟨D - 1, by omega⟩
  have hn := hw.2.2.2.2.1
  have loop : ∀ m j a5, j + m = b + 1 - a → am_X l (0, fun _ => 0) (d + 1) y_M_notes P 5 [some (vR (u, 0)), some (vI (nI a)), some (vI (nI b)), some (vI (nI (tmsk p a j / 2))), some (vI (nI (a + j))), a5] [] 0 0 am_G0 I J := by
    intro m
    induction m with
    | zero =>
      intro j a5 hj
      have : j = b + 1 - a := by omega
      subst this
      refine rn_M_notes 20 ?_
      simp (disch := omega) only [am_z, cq_M_notes, Nat.reduceAdd, Nat.zero_le, Nat.reduceLeDiff, ar_lit, ar_lt]
      rw [if_pos (by omega)]
      exact k
    | succ m ih =>
      intro j a5 hj
      have hr : a + j < tn p := by omega
      obtain ⟨r1, r2, r3, _⟩ := h.2.2.1 (a + j) hr
      have hN : tN p (a + j) ≤ 6 := (hw.row hr).2.2.1
      have hm := tmsk_lt hw (a := a) j (by omega)
      have es : tmsk p a (j + 1) / 2 = tmsk p a j / 2 ||| (if tN p (a + j) = 0 then 0 else 1 <<< (tN p (a + j) - 1)) := sh_half _ hm _ (by omega)
      have hi := @ih (j + 1) (some (vI (nI (tN p (a + j))))) (by omega)
      rw [es] at hi
      refine rn_M_notes 20 ?_
      simp (disch := omega) only [am_z, cq_M_notes, Nat.reduceAdd, Nat.zero_le, Nat.reduceLeDiff, ar_lit, ar_lt]
      rw [if_neg (by omega)]
      refine s_M_cell (by omega) ?_
      simp only [am_z, Nat.reduceAdd, Nat.zero_le, Nat.reduceLeDiff]
      refine rn_M_notes 60 ?_
      simp (disch := omega) only [am_z, cq_M_notes, Nat.reduceAdd, Nat.zero_le, Nat.reduceLeDiff, ar_lit, hu.1, hu.2.1, ar_in, ar_cl, r2, ar_le]
      refine ⟨by omega, ?_⟩
      by_cases q : tN p (a + j) = 0
      · rw [if_pos q, Nat.or_zero] at hi
        rw [if_pos (by omega)]
        simp (disch := omega) only [sh_or0 (tmsk p a j / 2) (by omega), nI_add, Nat.add_assoc]
        exact hi
      · rw [if_neg q] at hi
        rw [if_neg (by omega)]
        simp (disch := omega) only [ar_sub, sh_or (tmsk p a j / 2) (by omega) (tN p (a + j) - 1) (by omega), nI_add, Nat.add_assoc]
        exact hi
  refine en_M_notes 20 (Nat.le_of_ble_eq_true rfl) ?_
  simp (disch := omega) only [am_z, cq_M_notes, Nat.reduceAdd, Nat.zero_le, Nat.reduceLeDiff, ar_lit]
  have := @loop (b + 1 - a) 0 none (by omega)
  simp only [tmsk, Nat.zero_div, Nat.add_zero] at this
  exact this
end RF
