/-! ===== the class Table: a round of simulate ===== -/
section TAB
variable {l : Launch} {D t u : Nat} {I : am_I} {J : am_J} {P : am_P} {p : pt_T}
theorem s_playRound {r : Nat} (hD : 4 ≤ D) (hr : rC I t p) (hw : tW p) (h31 : r < 2 ^ 31) (k : ∀ I', am_fr (isT t) I I' → rC I' t (tplay p r) → P (.inl none) am_G0 I' J) : am_T l D y_Table_playRound [vR (7, t), vI (nI r)] am_G0 I J P := by
  obtain ⟨d, rfl⟩ : ∃ d, D = d + 1 := ⟨D - 1, by omega⟩
  have hn := hw.2.2.2.2.1
  have hq : r / 4 < 2 ^ 31 := by omega
  have hq2 : r / 32 < 2 ^ 31 := by omega
  have d4 : nI r / nI 4 = nI (r / 4) := pk_div (by omega) (by omega) (by omega)
  have d32 : nI r / nI 32 = nI (r / 32) := pk_div (by omega) (by omega) (by omega)
  refine en_Table_playRound 60 (Nat.le_of_ble_eq_true rfl) ?_
  simp (disch := omega) only [am_z, cq_Table_playRound, Nat.reduceAdd, ar_lit, d4, d32, ar_mod, ar_eq, Nat.reduceEqDiff, not_false_eq_true, hr.1.2.1]
  have m3 : r % 3 < 3 := Nat.mod_lt _ (by omega)
  by_cases r0 : r % 3 = 0
  · rw [if_pos r0]
    refine s_isFull (by omega) hr hw (fun h24 => ?_) (fun h24 => ?_)
    · simp only [am_z, Nat.reduceAdd]
      refine rn_Table_playRound 60 ?_
      simp (disch := omega) only [am_z, cq_Table_playRound, Nat.reduceAdd, ar_lit, d4, d32, ar_mod, ar_eq, Nat.reduceEqDiff, not_false_eq_true, nI_add, ↓reduceIte]
      refine s_putRow (by omega) hr h24 ?_
      intro I' hf hr'
      simp only [am_z, Nat.reduceAdd]
      refine rn_Table_playRound 60 ?_
      simp only [am_z, cq_Table_playRound, Nat.reduceAdd]
      refine k I' hf ?_
      unfold tplay
      rw [if_pos r0, if_pos h24]
      exact hr'
    · simp only [am_z, Nat.reduceAdd]
      refine rn_Table_playRound 60 ?_
      simp (disch := omega) only [am_z, cq_Table_playRound, Nat.reduceAdd, ar_lit, ar_eq, r0]
      simp (disch := omega) only [Nat.reduceEqDiff, ↓reduceIte, if_neg]
      refine k I am_fr.rf ?_
      unfold tplay
      rw [if_pos r0, if_neg (by omega)]
      exact hr
  · rw [if_neg r0]
    by_cases n0 : tn p = 0
    · have : P (.inl none) am_G0 I J := k I am_fr.rf (by unfold tplay; rw [if_neg r0, if_pos n0]; exact hr)
      simp only [n0, ↓reduceIte]
      split
      · split
        · exact this
        · exact this
      · split
        · exact this
        · exact this
    · have hm : r / 4 % tn p < tn p := Nat.mod_lt _ (by omega)
      by_cases r1 : r % 3 = 1
      · have hb : tK p (r / 4 % tn p) ≤ 1 := (hw.row hm).2.2.2.1
        have hk : I (12, t) (r / 4 % tn p) = nI (tK p (r / 4 % tn p)) := (hr.2.1 _ hm).2.2.1
        have fin : ∀ b, b = 1 - tK p (r / 4 % tn p) → P (.inl none) am_G0 (am_upI I (12, t) (r / 4 % tn p) (nI b)) J := fun b e => by
          refine k _ (am_fr.up am_fr.rf ⟨rfl, by simp⟩) ?_
          unfold tplay
          rw [if_neg r0, if_neg n0, if_pos r1, e]
          exact rC.setK hr hm
        rw [if_pos r1, if_neg n0]
        simp (disch := omega) only [n0, am_tt, not_false_eq_true, ar_in, ar_cl, hk, ar_eq, nar_b]
        refine ⟨by omega, ?_⟩
        split
        · exact ⟨by omega, fin 1 (by omega)⟩
        · exact ⟨by omega, fin 0 (by omega)⟩
      · rw [if_neg r1, if_pos (by omega), if_neg n0]
        refine ⟨n0, s_dropRow (by omega) hr hw hm ?_⟩
        intro I' hf hr'
        simp only [am_z, Nat.reduceAdd]
        refine rn_Table_playRound 60 ?_
        simp only [am_z, cq_Table_playRound, Nat.reduceAdd]
        refine k I' hf ?_
        unfold tplay
        rw [if_neg r0, if_neg n0, if_neg r1]
        exact hr'
end TAB
