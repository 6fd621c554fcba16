/-! ===== Text.put, Text.isFull; the class Command: its digits ===== -/
theorem nar_c : ∀ c, c < 256 → vp_nar .char (nI c) = nI c := by decide +kernel
section TX
variable {l : Launch} {D t : Nat} {I : am_I} {J : am_J} {P : am_P} {p : pt_T} {ss : List Nat} {a : Nat}
theorem s_textFull (hD : 1 ≤ D) (h : rX I ss) (k0 : ss.length < 160 → P (.inl (some (vI (nI 0)))) am_G0 I J) (k1 : ss.length = 160 → P (.inl (some (vI (nI 1)))) am_G0 I J) : am_T l D y_Text_isFull [vR (8, 0)] am_G0 I J P := by
  obtain ⟨d, rfl⟩ : ∃ d, D = d + 1 := ⟨D - 1, by omega⟩
  have hn := h.2.2.1
  refine en_Text_isFull 20 (Nat.le_of_ble_eq_true rfl) ?_
  simp (disch := omega) only [am_z, cq_Text_isFull, Nat.reduceAdd, h.1, ar_lit, ar_lt]
  split
  · exact k0 (by omega)
  · exact k1 (by omega)
def isW (c : am_A) : Prop := c = (8, 0) ∨ c = (24, 0)
theorem s_textPut {c : Nat} (hD : 1 ≤ D) (h : rX I ss) (hc : c < 256) (hn : ss.length < 160) (k : ∀ I', am_fr isW I I' → rX I' (ss ++ [c]) → P (.inl none) am_G0 I' J) : am_T l D y_Text_put [vR (8, 0), vI (nI c)] am_G0 I J P := by
  obtain ⟨d, rfl⟩ : ∃ d, D = d + 1 := ⟨D - 1, by omega⟩
  obtain ⟨h1, h3, h4, h5⟩ := h
  refine en_Text_put 40 (Nat.le_of_ble_eq_true rfl) ?_
  simp (disch := omega) only [am_z, cq_Text_put, Nat.reduceAdd, h1, am_uS, ar_lit, ar_in, ar_cl, nar_c c hc, nI_add]
  refine ⟨hn, k _ (am_fr.up (am_fr.up am_fr.rf (Or.inr rfl)) (Or.inl rfl)) ⟨?_, fun j hj => ?_, ?_, fun x hx => ?_⟩⟩
  · rw [am_uE, upd_e]; simp
  · simp (disch := omega) only [am_uE, am_uS]
    rw [upd_at, gd_app]
    by_cases q : j = ss.length
    · rw [if_pos q, if_neg (by omega), if_pos q]
    · have : j < ss.length := by simp at hj; omega
      rw [if_neg q, if_pos this]
      exact h3 j this
  · simp; omega
  · rcases List.mem_append.mp hx with hx | hx
    · exact h5 x hx
    · rw [List.mem_singleton.mp hx]; exact hc
/-- the five digits -/
def rK (I : am_I) (g : Nat) : Prop := I (1, 0) 0 = nI (g / 10000) ∧ I (1, 0) 1 = nI (g / 1000 % 10) ∧ I (1, 0) 2 = nI (g / 100 % 10) ∧ I (1, 0) 3 = nI (g / 10 % 10) ∧ I (1, 0) 4 = nI (g % 10)
theorem s_setDigits {g : Nat} (hD : 1 ≤ D) (hg : g < 100000) (k : ∀ I', am_fr (fun c => c = (1, 0)) I I' → rK I' g → P (.inl none) am_G0 I' J) : am_T l D y_Command_setDigits [vR (1, 0), vI (nI g)] am_G0 I J P := by
  obtain ⟨d, rfl⟩ : ∃ d, D = d + 1 := ⟨D - 1, by omega⟩
  have e1 : nI g / nI 10000 = nI (g / 10000) := pk_div (by omega) (by omega) (by omega)
  have e2 : nI g / nI 1000 = nI (g / 1000) := pk_div (by omega) (by omega) (by omega)
  have e3 : nI g / nI 100 = nI (g / 100) := pk_div (by omega) (by omega) (by omega)
  have e4 : nI g - nI g / nI 10 * nI 10 = nI (g % 10) := ar_mod (by omega) (by omega) (by omega)
  have e5 : nI (g / 10) - nI (g / 10) / nI 10 * nI 10 = nI (g / 10 % 10) := ar_mod (by omega) (by omega) (by omega)
  have e6 : nI g / nI 10 = nI (g / 10) := pk_div (by omega) (by omega) (by omega)
  have e7 : nI (g / 10) * nI 10 = nI (g / 10 * 10) := pk_mul _ _
  have e8 : nI g - nI (g / 10 * 10) = nI (g % 10) := by rw [ar_sub (by omega)]; congr 1; omega
  refine en_Command_setDigits 60 (Nat.le_of_ble_eq_true rfl) ?_
  simp (disch := omega) only [am_z, cq_Command_setDigits, Nat.reduceAdd, ar_lit, ar_eq, Nat.reduceEqDiff, not_false_eq_true, e1, e2, e3, e6, e7, e8, ar_mod]
  refine k _ (fun c hc => ?_) ⟨?_, ?_, ?_, ?_, ?_⟩
  · simp only [am_upI_ne hc]
  all_goals simp (disch := omega) only [am_uE, upd_n, upd_e]
theorem s_firstPair {g : Nat} (hD : 1 ≤ D) (hk : rK I g) (k : P (.inl (some (vI (nI (g / 100 % 100))))) am_G0 I J) : am_T l D y_Command_firstPair [vR (1, 0)] am_G0 I J P := by
  obtain ⟨d, rfl⟩ : ∃ d, D = d + 1 := ⟨D - 1, by omega⟩
  refine en_Command_firstPair 60 (Nat.le_of_ble_eq_true rfl) ?_
  simp (disch := omega) only [am_z, cq_Command_firstPair, Nat.reduceAdd, ar_lit, hk.2.1, hk.2.2.1, pk_mul, nI_add]
  rw [show 10 * (g / 1000 % 10) + g / 100 % 10 = g / 100 % 100 by omega]
  exact k
end TX
