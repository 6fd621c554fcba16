/-! ===== TablePager: what its calls share ===== -/
section RQ
variable {l : Launch} {D : Nat} {I : am_I} {J : am_J} {P : am_P} {p : pt_T}
theorem s_layOut (hD : 5 ≤ D) (hr : rC I 0 p) (hw : tW p) (k : ∀ I', am_fr isY I I' → rL I' (tpg p (tP p)) → P (.inl none) am_G0 I' J) : am_T l D y_P_layOut [vR (0, 0)] am_G0 I J P := by
  obtain ⟨d, rfl⟩ : ∃ d, D = d + 1 := ⟨D - 1, by omega⟩
  have hP := hw.2.1.2
  refine en_P_layOut 20 (Nat.le_of_ble_eq_true rfl) ?_
  simp only [am_z, cq_P_layOut, Nat.reduceAdd, Nat.zero_le, Nat.reduceLeDiff, hr.1.2.2.2.1]
  refine s_lay (by omega) hr hw (by omega) (fun I' hf hl => ?_)
  simp only [am_z, Nat.reduceAdd, Nat.zero_le, Nat.reduceLeDiff]
  refine rn_P_layOut 20 ?_
  simp only [am_z, cq_P_layOut, Nat.reduceAdd, Nat.zero_le, Nat.reduceLeDiff]
  exact k I' hf hl
theorem s_countPages (hD : 6 ≤ D) (hr : rC I 0 p) (hw : tW p) (k : ∀ I', am_fr isY I I' → P (.inl (some (vI (nI (tpg p (tP p)).length)))) am_G0 I' J) : am_T l D y_P_countPages [vR (0, 0)] am_G0 I J P := by
  obtain ⟨d, rfl⟩ : ∃ d, D = d + 1 := ⟨D - 1, by omega⟩
  refine en_P_countPages 20 (Nat.le_of_ble_eq_true rfl) ?_
  simp only [am_z, cq_P_countPages, Nat.reduceAdd, Nat.zero_le, Nat.reduceLeDiff]
  refine s_layOut (by omega) hr hw (fun I' hf hl => ?_)
  simp only [am_z, Nat.reduceAdd, Nat.zero_le, Nat.reduceLeDiff]
  refine rn_P_countPages 20 ?_
  simp only [am_z, cq_P_countPages, Nat.reduceAdd, Nat.zero_le, Nat.reduceLeDiff, hl.1]
  exact k I' hf
theorem s_requireRow {r : Int32} (hD : 6 ≤ D) (hr : rC I 0 p) (hw : tW p) (kx : (∀ j, j < tn p → ¬ r = nI j) → P (.inr 3) am_G0 I J) (k : ∀ j, j < tn p → r = nI j → P (.inl none) am_G0 I J) : am_T l D y_P_requireRow [vR (0, 0), vI r] am_G0 I J P := by
  obtain ⟨d, rfl⟩ : ∃ d, D = d + 1 := ⟨D - 1, by omega⟩
  refine en_P_requireRow 20 hD (Nat.le_of_ble_eq_true rfl) ?_
  simp only [am_z, cq_P_requireRow, Nat.reduceAdd, Nat.zero_le, Nat.reduceLeDiff]
  refine s_hasRow (by omega) hr hw (fun h => ?_) (fun j hj e => ?_)
  · simp only [am_z, Nat.reduceAdd, Nat.zero_le, Nat.reduceLeDiff]
    refine rn_P_requireRow hD 20 ?_
    simp only [am_z, cq_P_requireRow, Nat.reduceAdd, Nat.zero_le, Nat.reduceLeDiff, ar_lit, ↓reduceIte]
    exact kx h
  · simp only [am_z, Nat.reduceAdd, Nat.zero_le, Nat.reduceLeDiff]
    refine rn_P_requireRow hD 20 ?_
    simp (disch := omega) only [am_z, cq_P_requireRow, Nat.reduceAdd, Nat.zero_le, Nat.reduceLeDiff, ar_lit, ar_eq, Nat.reduceEqDiff, ↓reduceIte]
    exact k j hj e
theorem s_requireColumn {r : Int32} (hD : 6 ≤ D) (hr : rC I 0 p) (hw : tW p) (kx : (∀ j, j < tC p → ¬ r = nI j) → P (.inr 3) am_G0 I J) (k : ∀ j, j < tC p → r = nI j → P (.inl none) am_G0 I J) : am_T l D y_P_requireColumn [vR (0, 0), vI r] am_G0 I J P := by
  obtain ⟨d, rfl⟩ : ∃ d, D = d + 1 := ⟨D - 1, by omega⟩
  refine en_P_requireColumn 20 hD (Nat.le_of_ble_eq_true rfl) ?_
  simp only [am_z, cq_P_requireColumn, Nat.reduceAdd, Nat.zero_le, Nat.reduceLeDiff]
  refine s_hasColumn (by omega) hr hw (fun h => ?_) (fun j hj e => ?_)
  · simp only [am_z, Nat.reduceAdd, Nat.zero_le, Nat.reduceLeDiff]
    refine rn_P_requireColumn hD 20 ?_
    simp only [am_z, cq_P_requireColumn, Nat.reduceAdd, Nat.zero_le, Nat.reduceLeDiff, ar_lit, ↓reduceIte]
    exact kx h
  · simp only [am_z, Nat.reduceAdd, Nat.zero_le, Nat.reduceLeDiff]
    refine rn_P_requireColumn hD 20 ?_
    simp (disch := omega) only [am_z, cq_P_requireColumn, Nat.reduceAdd, Nat.zero_le, Nat.reduceLeDiff, ar_lit, ar_eq, Nat.reduceEqDiff, ↓reduceIte]
    exact k j hj e
theorem s_requireSpan {r : Int32} (hD : 6 ≤ D) (hr : rC I 0 p) (hw : tW p) (kx : (∀ j, j < tm p → ¬ r = nI j) → P (.inr 3) am_G0 I J) (k : ∀ j, j < tm p → r = nI j → P (.inl none) am_G0 I J) : am_T l D y_P_requireSpan [vR (0, 0), vI r] am_G0 I J P := by
  obtain ⟨d, rfl⟩ : ∃ d, D = d + 1 := ⟨D - 1, by omega⟩
  refine en_P_requireSpan 20 hD (Nat.le_of_ble_eq_true rfl) ?_
  simp only [am_z, cq_P_requireSpan, Nat.reduceAdd, Nat.zero_le, Nat.reduceLeDiff]
  refine s_hasSpan (by omega) hr hw (fun h => ?_) (fun j hj e => ?_)
  · simp only [am_z, Nat.reduceAdd, Nat.zero_le, Nat.reduceLeDiff]
    refine rn_P_requireSpan hD 20 ?_
    simp only [am_z, cq_P_requireSpan, Nat.reduceAdd, Nat.zero_le, Nat.reduceLeDiff, ar_lit, ↓reduceIte]
    exact kx h
  · simp only [am_z, Nat.reduceAdd, Nat.zero_le, Nat.reduceLeDiff]
    refine rn_P_requireSpan hD 20 ?_
    simp (disch := omega) only [am_z, cq_P_requireSpan, Nat.reduceAdd, Nat.zero_le, Nat.reduceLeDiff, ar_lit, ar_eq, Nat.reduceEqDiff, ↓reduceIte]
    exact k j hj e
theorem s_requirePage {r : Int32} (hD : 6 ≤ D) (hr : rC I 0 p) (hw : tW p) (kx : ∀ I', am_fr isY I I' → (∀ j, j < (tpg p (tP p)).length → ¬ r = nI j) → P (.inr 3) am_G0 I' J) (k : ∀ I' j, am_fr isY I I' → rL I' (tpg p (tP p)) → j < (tpg p (tP p)).length → r = nI j → P (.inl none) am_G0 I' J) : am_T l D y_P_requirePage [vR (0, 0), vI r] am_G0 I J P := by
  obtain ⟨d, rfl⟩ : ∃ d, D = d + 1 := ⟨D - 1, by omega⟩
  refine en_P_requirePage 20 hD (Nat.le_of_ble_eq_true rfl) ?_
  simp only [am_z, cq_P_requirePage, Nat.reduceAdd, Nat.zero_le, Nat.reduceLeDiff]
  refine s_layOut (by omega) hr hw (fun I' hf hl => ?_)
  simp only [am_z, Nat.reduceAdd, Nat.zero_le, Nat.reduceLeDiff]
  refine rn_P_requirePage hD 20 ?_
  simp only [am_z, cq_P_requirePage, Nat.reduceAdd, Nat.zero_le, Nat.reduceLeDiff]
  refine s_hasPage (by omega) hl tpg_len (fun h => ?_) (fun j hj e => ?_)
  · simp only [am_z, Nat.reduceAdd, Nat.zero_le, Nat.reduceLeDiff]
    refine rn_P_requirePage hD 20 ?_
    simp only [am_z, cq_P_requirePage, Nat.reduceAdd, Nat.zero_le, Nat.reduceLeDiff, ar_lit, ↓reduceIte]
    exact kx I' hf h
  · simp only [am_z, Nat.reduceAdd, Nat.zero_le, Nat.reduceLeDiff]
    refine rn_P_requirePage hD 20 ?_
    simp (disch := omega) only [am_z, cq_P_requirePage, Nat.reduceAdd, Nat.zero_le, Nat.reduceLeDiff, ar_lit, ar_eq, Nat.reduceEqDiff, ↓reduceIte]
    exact k I' j hf hl hj e
theorem s_requireSlot {r : Int32} (hD : 6 ≤ D) (kx : (∀ j, j < 2 → ¬ r = nI j) → P (.inr 3) am_G0 I J) (k : ∀ j, j < 2 → r = nI j → P (.inl none) am_G0 I J) : am_T l D y_P_requireSlot [vI r] am_G0 I J P := by
  obtain ⟨d, rfl⟩ : ∃ d, D = d + 1 := ⟨D - 1, by omega⟩
  refine en_P_requireSlot 20 hD (Nat.le_of_ble_eq_true rfl) ?_
  simp only [am_z, cq_P_requireSlot, Nat.reduceAdd, Nat.zero_le, Nat.reduceLeDiff, ar_lit]
  rcases ar_cases r with hr | ⟨j, hj, rfl⟩
  · rw [if_pos hr]
    exact kx fun j hj q => by rw [q, ar_lt (by omega) (by omega)] at hr; omega
  · simp (disch := omega) only [ar_lt]
    rw [if_neg (by omega)]
    split
    · exact k j (by omega) rfl
    · exact kx fun i hi q => by rw [ar_eq (by omega) (by omega)] at q; omega
end RQ
