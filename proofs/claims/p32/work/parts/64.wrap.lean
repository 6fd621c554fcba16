/-! ===== the law's wrappers: an answer, or a number that stands for the exception ===== -/
def xE : Nat → Int64
  | 1 => -9000000000000000002
  | 2 => -9000000000000000003
  | _ => -9000000000000000001
def wx (K : List Nat) (r : Nat × Int32) : Int64 := if r.1 = 0 then r.2.toInt64 else xE (K.getD (r.1 - 1) 0)
section HL
variable {l : Launch} {D : Nat} {I : am_I} {J : am_J} {P : am_P} {s : pt_G}
theorem b_append {c : Int32} : (q_append s c).1.1 ≤ 2 := by
  unfold q_append
  repeat' split
  all_goals simp
theorem s_L_append {c : Int32} (hD : 8 ≤ D) (h : st I s) (k : ∀ I', st I' (q_append s c).2 → P (.inl (some (vL (wx [1, 2] (q_append s c).1)))) am_G0 I' J) : am_T l D y_L_append [vR (0, 0), vI c] am_G0 I J P := by
  obtain ⟨d, rfl⟩ : ∃ d, D = d + 1 := ⟨D - 1, by omega⟩
  refine en_L_append 20 (Nat.le_of_ble_eq_true rfl) ?_
  simp (disch := omega) only [am_z, cq_L_append, Nat.reduceAdd, Nat.zero_le, Nat.reduceLeDiff, ar_lit]
  refine s_P_append (by omega) h (fun I' hf hs => ?_)
  have hb9 := b_append (c := c) (s := s)
  generalize q_append s c = r at *
  obtain ⟨⟨n, v⟩, s'⟩ := r
  simp only at hb9
  rcases (show n = 0 ∨ n = 1 ∨ n = 2 by omega) with rfl | rfl | rfl
  · show am_X l (0, fun _ => 0) (d + 1) y_L_append P 5 _ [vI v] 1 6 am_G0 I' J
    refine rn_L_append 20 ?_
    simp (disch := omega) only [am_z, cq_L_append, Nat.reduceAdd, Nat.zero_le, Nat.reduceLeDiff, ar_lit]
    exact k I' hs
  · exact k I' hs
  · exact k I' hs
theorem b_load : (q_load s).1.1 ≤ 1 := by
  unfold q_load
  repeat' split
  all_goals simp
theorem s_L_load (hD : 8 ≤ D) (h : st I s) (k : ∀ I', st I' (q_load s).2 → P (.inl (some (vL (wx [2] (q_load s).1)))) am_G0 I' J) : am_T l D y_L_load [vR (0, 0)] am_G0 I J P := by
  obtain ⟨d, rfl⟩ : ∃ d, D = d + 1 := ⟨D - 1, by omega⟩
  refine en_L_load 20 (Nat.le_of_ble_eq_true rfl) ?_
  simp (disch := omega) only [am_z, cq_L_load, Nat.reduceAdd, Nat.zero_le, Nat.reduceLeDiff, ar_lit]
  refine s_P_load (by omega) h (fun I' hf hs => ?_)
  have hb9 := b_load (s := s)
  generalize q_load s = r at *
  obtain ⟨⟨n, v⟩, s'⟩ := r
  simp only at hb9
  rcases (show n = 0 ∨ n = 1 by omega) with rfl | rfl
  · show am_X l (0, fun _ => 0) (d + 1) y_L_load P 4 _ [vI v] 1 6 am_G0 I' J
    refine rn_L_load 20 ?_
    simp (disch := omega) only [am_z, cq_L_load, Nat.reduceAdd, Nat.zero_le, Nat.reduceLeDiff, ar_lit]
    exact k I' hs
  · exact k I' hs
theorem b_about {a : Int32} : (q_about s.2.1 a).1 ≤ 1 := by
  unfold q_about
  repeat' split
  all_goals simp
theorem s_L_about {a : Int32} (hD : 8 ≤ D) (h : st I s) (k : ∀ I', st I' s → P (.inl (some (vL (wx [1] (q_about s.2.1 a))))) am_G0 I' J) : am_T l D y_L_about [vR (0, 0), vI a] am_G0 I J P := by
  obtain ⟨d, rfl⟩ : ∃ d, D = d + 1 := ⟨D - 1, by omega⟩
  refine en_L_about 20 (Nat.le_of_ble_eq_true rfl) ?_
  simp (disch := omega) only [am_z, cq_L_about, Nat.reduceAdd, Nat.zero_le, Nat.reduceLeDiff, ar_lit]
  refine s_P_about (by omega) h (fun I' hf hs => ?_)
  have hb9 := b_about (a := a) (s := s)
  generalize q_about s.2.1 a = r at *
  obtain ⟨n, v⟩ := r
  simp only at hb9
  rcases (show n = 0 ∨ n = 1 by omega) with rfl | rfl
  · show am_X l (0, fun _ => 0) (d + 1) y_L_about P 5 _ [vI v] 1 6 am_G0 I' J
    refine rn_L_about 20 ?_
    simp (disch := omega) only [am_z, cq_L_about, Nat.reduceAdd, Nat.zero_le, Nat.reduceLeDiff, ar_lit]
    exact k I' hs
  · exact k I' hs
theorem b_row {a : Int32} {b : Int32} : (q_row s.2.1 a b).1 ≤ 2 := by
  unfold q_row
  repeat' split
  all_goals simp
theorem s_L_row {a : Int32} {b : Int32} (hD : 8 ≤ D) (h : st I s) (k : ∀ I', st I' s → P (.inl (some (vL (wx [3, 1] (q_row s.2.1 a b))))) am_G0 I' J) : am_T l D y_L_row [vR (0, 0), vI a, vI b] am_G0 I J P := by
  obtain ⟨d, rfl⟩ : ∃ d, D = d + 1 := ⟨D - 1, by omega⟩
  refine en_L_row 20 (Nat.le_of_ble_eq_true rfl) ?_
  simp (disch := omega) only [am_z, cq_L_row, Nat.reduceAdd, Nat.zero_le, Nat.reduceLeDiff, ar_lit]
  refine s_P_row (by omega) h (fun I' hf hs => ?_)
  have hb9 := b_row (a := a) (b := b) (s := s)
  generalize q_row s.2.1 a b = r at *
  obtain ⟨n, v⟩ := r
  simp only at hb9
  rcases (show n = 0 ∨ n = 1 ∨ n = 2 by omega) with rfl | rfl | rfl
  · show am_X l (0, fun _ => 0) (d + 1) y_L_row P 6 _ [vI v] 2 12 am_G0 I' J
    refine rn_L_row 20 ?_
    simp (disch := omega) only [am_z, cq_L_row, Nat.reduceAdd, Nat.zero_le, Nat.reduceLeDiff, ar_lit]
    exact k I' hs
  · exact k I' hs
  · exact k I' hs
theorem b_amount {a : Int32} {b : Int32} : (q_amount s.2.1 a b).1 ≤ 1 := by
  unfold q_amount
  repeat' split
  all_goals simp
theorem s_L_amount {a : Int32} {b : Int32} (hD : 8 ≤ D) (h : st I s) (k : ∀ I', st I' s → P (.inl (some (vL (wx [3] (q_amount s.2.1 a b))))) am_G0 I' J) : am_T l D y_L_amount [vR (0, 0), vI a, vI b] am_G0 I J P := by
  obtain ⟨d, rfl⟩ : ∃ d, D = d + 1 := ⟨D - 1, by omega⟩
  refine en_L_amount 20 (Nat.le_of_ble_eq_true rfl) ?_
  simp (disch := omega) only [am_z, cq_L_amount, Nat.reduceAdd, Nat.zero_le, Nat.reduceLeDiff, ar_lit]
  refine s_P_amount (by omega) h (fun I' hf hs => ?_)
  have hb9 := b_amount (a := a) (b := b) (s := s)
  generalize q_amount s.2.1 a b = r at *
  obtain ⟨n, v⟩ := r
  simp only at hb9
  rcases (show n = 0 ∨ n = 1 by omega) with rfl | rfl
  · show am_X l (0, fun _ => 0) (d + 1) y_L_amount P 6 _ [vI v] 2 12 am_G0 I' J
    refine rn_L_amount 20 ?_
    simp (disch := omega) only [am_z, cq_L_amount, Nat.reduceAdd, Nat.zero_le, Nat.reduceLeDiff, ar_lit]
    exact k I' hs
  · exact k I' hs
theorem b_span {a : Int32} {b : Int32} : (q_span s.2.1 a b).1 ≤ 2 := by
  unfold q_span
  repeat' split
  all_goals simp
theorem s_L_span {a : Int32} {b : Int32} (hD : 8 ≤ D) (h : st I s) (k : ∀ I', st I' s → P (.inl (some (vL (wx [3, 1] (q_span s.2.1 a b))))) am_G0 I' J) : am_T l D y_L_span [vR (0, 0), vI a, vI b] am_G0 I J P := by
  obtain ⟨d, rfl⟩ : ∃ d, D = d + 1 := ⟨D - 1, by omega⟩
  refine en_L_span 20 (Nat.le_of_ble_eq_true rfl) ?_
  simp (disch := omega) only [am_z, cq_L_span, Nat.reduceAdd, Nat.zero_le, Nat.reduceLeDiff, ar_lit]
  refine s_P_span (by omega) h (fun I' hf hs => ?_)
  have hb9 := b_span (a := a) (b := b) (s := s)
  generalize q_span s.2.1 a b = r at *
  obtain ⟨n, v⟩ := r
  simp only at hb9
  rcases (show n = 0 ∨ n = 1 ∨ n = 2 by omega) with rfl | rfl | rfl
  · show am_X l (0, fun _ => 0) (d + 1) y_L_span P 6 _ [vI v] 2 12 am_G0 I' J
    refine rn_L_span 20 ?_
    simp (disch := omega) only [am_z, cq_L_span, Nat.reduceAdd, Nat.zero_le, Nat.reduceLeDiff, ar_lit]
    exact k I' hs
  · exact k I' hs
  · exact k I' hs
theorem b_note {a : Int32} : (q_note s.2.1 a).1 ≤ 1 := by
  unfold q_note
  repeat' split
  all_goals simp
theorem s_L_note {a : Int32} (hD : 8 ≤ D) (h : st I s) (k : ∀ I', st I' s → P (.inl (some (vL (wx [1] (q_note s.2.1 a))))) am_G0 I' J) : am_T l D y_L_note [vR (0, 0), vI a] am_G0 I J P := by
  obtain ⟨d, rfl⟩ : ∃ d, D = d + 1 := ⟨D - 1, by omega⟩
  refine en_L_note 20 (Nat.le_of_ble_eq_true rfl) ?_
  simp (disch := omega) only [am_z, cq_L_note, Nat.reduceAdd, Nat.zero_le, Nat.reduceLeDiff, ar_lit]
  refine s_P_note (by omega) h (fun I' hf hs => ?_)
  have hb9 := b_note (a := a) (s := s)
  generalize q_note s.2.1 a = r at *
  obtain ⟨n, v⟩ := r
  simp only at hb9
  rcases (show n = 0 ∨ n = 1 by omega) with rfl | rfl
  · show am_X l (0, fun _ => 0) (d + 1) y_L_note P 5 _ [vI v] 1 6 am_G0 I' J
    refine rn_L_note 20 ?_
    simp (disch := omega) only [am_z, cq_L_note, Nat.reduceAdd, Nat.zero_le, Nat.reduceLeDiff, ar_lit]
    exact k I' hs
  · exact k I' hs
theorem b_page {a : Int32} {b : Int32} : (q_page s.2.1 a b).1 ≤ 2 := by
  unfold q_page
  repeat' split
  all_goals simp
theorem s_L_page {a : Int32} {b : Int32} (hD : 8 ≤ D) (h : st I s) (k : ∀ I', st I' s → P (.inl (some (vL (wx [3, 1] (q_page s.2.1 a b))))) am_G0 I' J) : am_T l D y_L_page [vR (0, 0), vI a, vI b] am_G0 I J P := by
  obtain ⟨d, rfl⟩ : ∃ d, D = d + 1 := ⟨D - 1, by omega⟩
  refine en_L_page 20 (Nat.le_of_ble_eq_true rfl) ?_
  simp (disch := omega) only [am_z, cq_L_page, Nat.reduceAdd, Nat.zero_le, Nat.reduceLeDiff, ar_lit]
  refine s_P_page (by omega) h (fun I' hf hs => ?_)
  have hb9 := b_page (a := a) (b := b) (s := s)
  generalize q_page s.2.1 a b = r at *
  obtain ⟨n, v⟩ := r
  simp only at hb9
  rcases (show n = 0 ∨ n = 1 ∨ n = 2 by omega) with rfl | rfl | rfl
  · show am_X l (0, fun _ => 0) (d + 1) y_L_page P 6 _ [vI v] 2 12 am_G0 I' J
    refine rn_L_page 20 ?_
    simp (disch := omega) only [am_z, cq_L_page, Nat.reduceAdd, Nat.zero_le, Nat.reduceLeDiff, ar_lit]
    exact k I' hs
  · exact k I' hs
  · exact k I' hs
theorem b_brought {a : Int32} {b : Int32} : (q_brought s.2.1 a b).1 ≤ 1 := by
  unfold q_brought
  repeat' split
  all_goals simp
theorem s_L_brought {a : Int32} {b : Int32} (hD : 8 ≤ D) (h : st I s) (k : ∀ I', st I' s → P (.inl (some (vL (wx [3] (q_brought s.2.1 a b))))) am_G0 I' J) : am_T l D y_L_brought [vR (0, 0), vI a, vI b] am_G0 I J P := by
  obtain ⟨d, rfl⟩ : ∃ d, D = d + 1 := ⟨D - 1, by omega⟩
  refine en_L_brought 20 (Nat.le_of_ble_eq_true rfl) ?_
  simp (disch := omega) only [am_z, cq_L_brought, Nat.reduceAdd, Nat.zero_le, Nat.reduceLeDiff, ar_lit]
  refine s_P_brought (by omega) h (fun I' hf hs => ?_)
  have hb9 := b_brought (a := a) (b := b) (s := s)
  generalize q_brought s.2.1 a b = r at *
  obtain ⟨n, v⟩ := r
  simp only at hb9
  rcases (show n = 0 ∨ n = 1 by omega) with rfl | rfl
  · show am_X l (0, fun _ => 0) (d + 1) y_L_brought P 6 _ [vI v] 2 12 am_G0 I' J
    refine rn_L_brought 20 ?_
    simp (disch := omega) only [am_z, cq_L_brought, Nat.reduceAdd, Nat.zero_le, Nat.reduceLeDiff, ar_lit]
    exact k I' hs
  · exact k I' hs
theorem b_carried {a : Int32} {b : Int32} : (q_carried s.2.1 a b).1 ≤ 1 := by
  unfold q_carried
  repeat' split
  all_goals simp
theorem s_L_carried {a : Int32} {b : Int32} (hD : 8 ≤ D) (h : st I s) (k : ∀ I', st I' s → P (.inl (some (vL (wx [3] (q_carried s.2.1 a b))))) am_G0 I' J) : am_T l D y_L_carried [vR (0, 0), vI a, vI b] am_G0 I J P := by
  obtain ⟨d, rfl⟩ : ∃ d, D = d + 1 := ⟨D - 1, by omega⟩
  refine en_L_carried 20 (Nat.le_of_ble_eq_true rfl) ?_
  simp (disch := omega) only [am_z, cq_L_carried, Nat.reduceAdd, Nat.zero_le, Nat.reduceLeDiff, ar_lit]
  refine s_P_carried (by omega) h (fun I' hf hs => ?_)
  have hb9 := b_carried (a := a) (b := b) (s := s)
  generalize q_carried s.2.1 a b = r at *
  obtain ⟨n, v⟩ := r
  simp only at hb9
  rcases (show n = 0 ∨ n = 1 by omega) with rfl | rfl
  · show am_X l (0, fun _ => 0) (d + 1) y_L_carried P 6 _ [vI v] 2 12 am_G0 I' J
    refine rn_L_carried 20 ?_
    simp (disch := omega) only [am_z, cq_L_carried, Nat.reduceAdd, Nat.zero_le, Nat.reduceLeDiff, ar_lit]
    exact k I' hs
  · exact k I' hs
theorem b_richest {a : Int32} : (q_richest s.2.1 a).1 ≤ 1 := by
  unfold q_richest
  repeat' split
  all_goals simp
theorem s_L_richest {a : Int32} (hD : 8 ≤ D) (h : st I s) (k : ∀ I', st I' s → P (.inl (some (vL (wx [3] (q_richest s.2.1 a))))) am_G0 I' J) : am_T l D y_L_richest [vR (0, 0), vI a] am_G0 I J P := by
  obtain ⟨d, rfl⟩ : ∃ d, D = d + 1 := ⟨D - 1, by omega⟩
  refine en_L_richest 20 (Nat.le_of_ble_eq_true rfl) ?_
  simp (disch := omega) only [am_z, cq_L_richest, Nat.reduceAdd, Nat.zero_le, Nat.reduceLeDiff, ar_lit]
  refine s_P_richest (by omega) h (fun I' hf hs => ?_)
  have hb9 := b_richest (a := a) (s := s)
  generalize q_richest s.2.1 a = r at *
  obtain ⟨n, v⟩ := r
  simp only at hb9
  rcases (show n = 0 ∨ n = 1 by omega) with rfl | rfl
  · show am_X l (0, fun _ => 0) (d + 1) y_L_richest P 5 _ [vI v] 1 6 am_G0 I' J
    refine rn_L_richest 20 ?_
    simp (disch := omega) only [am_z, cq_L_richest, Nat.reduceAdd, Nat.zero_le, Nat.reduceLeDiff, ar_lit]
    exact k I' hs
  · exact k I' hs
theorem b_addRow {a : Int32} {b : Int32} : (q_addRow s a b).1.1 ≤ 2 := by
  unfold q_addRow
  repeat' split
  all_goals simp
theorem s_L_addRow {a : Int32} {b : Int32} (hD : 8 ≤ D) (h : st I s) (k : ∀ I', st I' (q_addRow s a b).2 → P (.inl (some (vL (wx [1, 2] (q_addRow s a b).1)))) am_G0 I' J) : am_T l D y_L_addRow [vR (0, 0), vI a, vI b] am_G0 I J P := by
  obtain ⟨d, rfl⟩ : ∃ d, D = d + 1 := ⟨D - 1, by omega⟩
  refine en_L_addRow 20 (Nat.le_of_ble_eq_true rfl) ?_
  simp (disch := omega) only [am_z, cq_L_addRow, Nat.reduceAdd, Nat.zero_le, Nat.reduceLeDiff, ar_lit]
  refine s_P_addRow (by omega) h (fun I' hf hs => ?_)
  have hb9 := b_addRow (a := a) (b := b) (s := s)
  generalize q_addRow s a b = r at *
  obtain ⟨⟨n, v⟩, s'⟩ := r
  simp only at hb9
  rcases (show n = 0 ∨ n = 1 ∨ n = 2 by omega) with rfl | rfl | rfl
  · show am_X l (0, fun _ => 0) (d + 1) y_L_addRow P 6 _ [vI v] 1 6 am_G0 I' J
    refine rn_L_addRow 20 ?_
    simp (disch := omega) only [am_z, cq_L_addRow, Nat.reduceAdd, Nat.zero_le, Nat.reduceLeDiff, ar_lit]
    exact k I' hs
  · exact k I' hs
  · exact k I' hs
theorem b_setAmount {a : Int32} {b : Int32} {c : Int32} : (q_setAmount s a b c).1.1 ≤ 2 := by
  unfold q_setAmount
  repeat' split
  all_goals simp
theorem s_L_setAmount {a : Int32} {b : Int32} {c : Int32} (hD : 8 ≤ D) (h : st I s) (k : ∀ I', st I' (q_setAmount s a b c).2 → P (.inl (some (vL (wx [3, 1] (q_setAmount s a b c).1)))) am_G0 I' J) : am_T l D y_L_setAmount [vR (0, 0), vI a, vI b, vI c] am_G0 I J P := by
  obtain ⟨d, rfl⟩ : ∃ d, D = d + 1 := ⟨D - 1, by omega⟩
  refine en_L_setAmount 20 (Nat.le_of_ble_eq_true rfl) ?_
  simp (disch := omega) only [am_z, cq_L_setAmount, Nat.reduceAdd, Nat.zero_le, Nat.reduceLeDiff, ar_lit]
  refine s_P_setAmount (by omega) h (fun I' hf hs => ?_)
  have hb9 := b_setAmount (a := a) (b := b) (c := c) (s := s)
  generalize q_setAmount s a b c = r at *
  obtain ⟨⟨n, v⟩, s'⟩ := r
  simp only at hb9
  rcases (show n = 0 ∨ n = 1 ∨ n = 2 by omega) with rfl | rfl | rfl
  · show am_X l (0, fun _ => 0) (d + 1) y_L_setAmount P 7 _ [vI v] 3 18 am_G0 I' J
    refine rn_L_setAmount 20 ?_
    simp (disch := omega) only [am_z, cq_L_setAmount, Nat.reduceAdd, Nat.zero_le, Nat.reduceLeDiff, ar_lit]
    exact k I' hs
  · exact k I' hs
  · exact k I' hs
theorem b_keep {a : Int32} {b : Nat} : (q_keep s a b).1.1 ≤ 1 := by
  unfold q_keep
  repeat' split
  all_goals simp
theorem s_L_keep {a : Int32} {b : Nat} (hD : 8 ≤ D) (hb : b ≤ 1) (h : st I s) (k : ∀ I', st I' (q_keep s a b).2 → P (.inl (some (vL (wx [3] (q_keep s a b).1)))) am_G0 I' J) : am_T l D y_L_keep [vR (0, 0), vI a, vI (nI b)] am_G0 I J P := by
  obtain ⟨d, rfl⟩ : ∃ d, D = d + 1 := ⟨D - 1, by omega⟩
  refine en_L_keep 20 (Nat.le_of_ble_eq_true rfl) ?_
  simp (disch := omega) only [am_z, cq_L_keep, Nat.reduceAdd, Nat.zero_le, Nat.reduceLeDiff, ar_lit]
  refine s_P_keep (by omega) hb h (fun I' hf hs => ?_)
  have hb9 := b_keep (a := a) (b := b) (s := s)
  generalize q_keep s a b = r at *
  obtain ⟨⟨n, v⟩, s'⟩ := r
  simp only at hb9
  rcases (show n = 0 ∨ n = 1 by omega) with rfl | rfl
  · show am_X l (0, fun _ => 0) (d + 1) y_L_keep P 6 _ [vI v] 1 6 am_G0 I' J
    refine rn_L_keep 20 ?_
    simp (disch := omega) only [am_z, cq_L_keep, Nat.reduceAdd, Nat.zero_le, Nat.reduceLeDiff, ar_lit]
    exact k I' hs
  · exact k I' hs
theorem b_removeRow {a : Int32} : (q_removeRow s a).1.1 ≤ 1 := by
  unfold q_removeRow
  repeat' split
  all_goals simp
theorem s_L_removeRow {a : Int32} (hD : 8 ≤ D) (h : st I s) (k : ∀ I', st I' (q_removeRow s a).2 → P (.inl (some (vL (wx [3] (q_removeRow s a).1)))) am_G0 I' J) : am_T l D y_L_removeRow [vR (0, 0), vI a] am_G0 I J P := by
  obtain ⟨d, rfl⟩ : ∃ d, D = d + 1 := ⟨D - 1, by omega⟩
  refine en_L_removeRow 20 (Nat.le_of_ble_eq_true rfl) ?_
  simp (disch := omega) only [am_z, cq_L_removeRow, Nat.reduceAdd, Nat.zero_le, Nat.reduceLeDiff, ar_lit]
  refine s_P_removeRow (by omega) h (fun I' hf hs => ?_)
  have hb9 := b_removeRow (a := a) (s := s)
  generalize q_removeRow s a = r at *
  obtain ⟨⟨n, v⟩, s'⟩ := r
  simp only at hb9
  rcases (show n = 0 ∨ n = 1 by omega) with rfl | rfl
  · show am_X l (0, fun _ => 0) (d + 1) y_L_removeRow P 5 _ [vI v] 1 6 am_G0 I' J
    refine rn_L_removeRow 20 ?_
    simp (disch := omega) only [am_z, cq_L_removeRow, Nat.reduceAdd, Nat.zero_le, Nat.reduceLeDiff, ar_lit]
    exact k I' hs
  · exact k I' hs
theorem b_addSpan {a : Int32} {b : Int32} {c : Nat} : (q_addSpan s a b c).1.1 ≤ 3 := by
  unfold q_addSpan
  repeat' split
  all_goals simp
theorem s_L_addSpan {a : Int32} {b : Int32} {c : Nat} (hD : 8 ≤ D) (hb : c ≤ 1) (h : st I s) (k : ∀ I', st I' (q_addSpan s a b c).2 → P (.inl (some (vL (wx [3, 1, 2] (q_addSpan s a b c).1)))) am_G0 I' J) : am_T l D y_L_addSpan [vR (0, 0), vI a, vI b, vI (nI c)] am_G0 I J P := by
  obtain ⟨d, rfl⟩ : ∃ d, D = d + 1 := ⟨D - 1, by omega⟩
  refine en_L_addSpan 20 (Nat.le_of_ble_eq_true rfl) ?_
  simp (disch := omega) only [am_z, cq_L_addSpan, Nat.reduceAdd, Nat.zero_le, Nat.reduceLeDiff, ar_lit]
  refine s_P_addSpan (by omega) hb h (fun I' hf hs => ?_)
  have hb9 := b_addSpan (a := a) (b := b) (c := c) (s := s)
  generalize q_addSpan s a b c = r at *
  obtain ⟨⟨n, v⟩, s'⟩ := r
  simp only at hb9
  rcases (show n = 0 ∨ n = 1 ∨ n = 2 ∨ n = 3 by omega) with rfl | rfl | rfl | rfl
  · show am_X l (0, fun _ => 0) (d + 1) y_L_addSpan P 7 _ [vI v] 3 18 am_G0 I' J
    refine rn_L_addSpan 20 ?_
    simp (disch := omega) only [am_z, cq_L_addSpan, Nat.reduceAdd, Nat.zero_le, Nat.reduceLeDiff, ar_lit]
    exact k I' hs
  · exact k I' hs
  · exact k I' hs
  · exact k I' hs
theorem b_removeSpan {a : Int32} : (q_removeSpan s a).1.1 ≤ 1 := by
  unfold q_removeSpan
  repeat' split
  all_goals simp
theorem s_L_removeSpan {a : Int32} (hD : 8 ≤ D) (h : st I s) (k : ∀ I', st I' (q_removeSpan s a).2 → P (.inl (some (vL (wx [3] (q_removeSpan s a).1)))) am_G0 I' J) : am_T l D y_L_removeSpan [vR (0, 0), vI a] am_G0 I J P := by
  obtain ⟨d, rfl⟩ : ∃ d, D = d + 1 := ⟨D - 1, by omega⟩
  refine en_L_removeSpan 20 (Nat.le_of_ble_eq_true rfl) ?_
  simp (disch := omega) only [am_z, cq_L_removeSpan, Nat.reduceAdd, Nat.zero_le, Nat.reduceLeDiff, ar_lit]
  refine s_P_removeSpan (by omega) h (fun I' hf hs => ?_)
  have hb9 := b_removeSpan (a := a) (s := s)
  generalize q_removeSpan s a = r at *
  obtain ⟨⟨n, v⟩, s'⟩ := r
  simp only at hb9
  rcases (show n = 0 ∨ n = 1 by omega) with rfl | rfl
  · show am_X l (0, fun _ => 0) (d + 1) y_L_removeSpan P 5 _ [vI v] 1 6 am_G0 I' J
    refine rn_L_removeSpan 20 ?_
    simp (disch := omega) only [am_z, cq_L_removeSpan, Nat.reduceAdd, Nat.zero_le, Nat.reduceLeDiff, ar_lit]
    exact k I' hs
  · exact k I' hs
theorem b_setHeight {a : Int32} {b : Int32} : (q_setHeight s a b).1.1 ≤ 1 := by
  unfold q_setHeight
  repeat' split
  all_goals simp
theorem s_L_setHeight {a : Int32} {b : Int32} (hD : 8 ≤ D) (h : st I s) (k : ∀ I', st I' (q_setHeight s a b).2 → P (.inl (some (vL (wx [1] (q_setHeight s a b).1)))) am_G0 I' J) : am_T l D y_L_setHeight [vR (0, 0), vI a, vI b] am_G0 I J P := by
  obtain ⟨d, rfl⟩ : ∃ d, D = d + 1 := ⟨D - 1, by omega⟩
  refine en_L_setHeight 20 (Nat.le_of_ble_eq_true rfl) ?_
  simp (disch := omega) only [am_z, cq_L_setHeight, Nat.reduceAdd, Nat.zero_le, Nat.reduceLeDiff, ar_lit]
  refine s_P_setHeight (by omega) h (fun I' hf hs => ?_)
  have hb9 := b_setHeight (a := a) (b := b) (s := s)
  generalize q_setHeight s a b = r at *
  obtain ⟨⟨n, v⟩, s'⟩ := r
  simp only at hb9
  rcases (show n = 0 ∨ n = 1 by omega) with rfl | rfl
  · show am_X l (0, fun _ => 0) (d + 1) y_L_setHeight P 6 _ [vI v] 1 6 am_G0 I' J
    refine rn_L_setHeight 20 ?_
    simp (disch := omega) only [am_z, cq_L_setHeight, Nat.reduceAdd, Nat.zero_le, Nat.reduceLeDiff, ar_lit]
    exact k I' hs
  · exact k I' hs
theorem b_undo : (q_undo s).1.1 ≤ 1 := by
  unfold q_undo
  repeat' split
  all_goals simp
theorem s_L_undo (hD : 8 ≤ D) (h : st I s) (k : ∀ I', st I' (q_undo s).2 → P (.inl (some (vL (wx [2] (q_undo s).1)))) am_G0 I' J) : am_T l D y_L_undo [vR (0, 0)] am_G0 I J P := by
  obtain ⟨d, rfl⟩ : ∃ d, D = d + 1 := ⟨D - 1, by omega⟩
  refine en_L_undo 20 (Nat.le_of_ble_eq_true rfl) ?_
  simp (disch := omega) only [am_z, cq_L_undo, Nat.reduceAdd, Nat.zero_le, Nat.reduceLeDiff, ar_lit]
  refine s_P_undo (by omega) h (fun I' hf hs => ?_)
  have hb9 := b_undo (s := s)
  generalize q_undo s = r at *
  obtain ⟨⟨n, v⟩, s'⟩ := r
  simp only at hb9
  rcases (show n = 0 ∨ n = 1 by omega) with rfl | rfl
  · show am_X l (0, fun _ => 0) (d + 1) y_L_undo P 4 _ [vI v] 1 6 am_G0 I' J
    refine rn_L_undo 20 ?_
    simp (disch := omega) only [am_z, cq_L_undo, Nat.reduceAdd, Nat.zero_le, Nat.reduceLeDiff, ar_lit]
    exact k I' hs
  · exact k I' hs
theorem b_heightFor {a : Int32} : (q_heightFor s.2.1 a).1 ≤ 1 := by
  unfold q_heightFor
  repeat' split
  all_goals simp
theorem s_L_heightFor {a : Int32} (hD : 8 ≤ D) (h : st I s) (k : ∀ I', st I' s → P (.inl (some (vL (wx [1] (q_heightFor s.2.1 a))))) am_G0 I' J) : am_T l D y_L_heightFor [vR (0, 0), vI a] am_G0 I J P := by
  obtain ⟨d, rfl⟩ : ∃ d, D = d + 1 := ⟨D - 1, by omega⟩
  refine en_L_heightFor 20 (Nat.le_of_ble_eq_true rfl) ?_
  simp (disch := omega) only [am_z, cq_L_heightFor, Nat.reduceAdd, Nat.zero_le, Nat.reduceLeDiff, ar_lit]
  refine s_P_heightFor (by omega) h (fun I' hf hs => ?_)
  have hb9 := b_heightFor (a := a) (s := s)
  generalize q_heightFor s.2.1 a = r at *
  obtain ⟨n, v⟩ := r
  simp only at hb9
  rcases (show n = 0 ∨ n = 1 by omega) with rfl | rfl
  · show am_X l (0, fun _ => 0) (d + 1) y_L_heightFor P 5 _ [vI v] 1 6 am_G0 I' J
    refine rn_L_heightFor 20 ?_
    simp (disch := omega) only [am_z, cq_L_heightFor, Nat.reduceAdd, Nat.zero_le, Nat.reduceLeDiff, ar_lit]
    exact k I' hs
  · exact k I' hs
theorem b_evenCut {a : Int32} : (q_evenCut s.2.1 a).1 ≤ 1 := by
  unfold q_evenCut
  repeat' split
  all_goals simp
theorem s_L_evenCut {a : Int32} (hD : 8 ≤ D) (h : st I s) (k : ∀ I', st I' s → P (.inl (some (vL (wx [1] (q_evenCut s.2.1 a))))) am_G0 I' J) : am_T l D y_L_evenCut [vR (0, 0), vI a] am_G0 I J P := by
  obtain ⟨d, rfl⟩ : ∃ d, D = d + 1 := ⟨D - 1, by omega⟩
  refine en_L_evenCut 20 (Nat.le_of_ble_eq_true rfl) ?_
  simp (disch := omega) only [am_z, cq_L_evenCut, Nat.reduceAdd, Nat.zero_le, Nat.reduceLeDiff, ar_lit]
  refine s_P_evenCut (by omega) h (fun I' hf hs => ?_)
  have hb9 := b_evenCut (a := a) (s := s)
  generalize q_evenCut s.2.1 a = r at *
  obtain ⟨n, v⟩ := r
  simp only at hb9
  rcases (show n = 0 ∨ n = 1 by omega) with rfl | rfl
  · show am_X l (0, fun _ => 0) (d + 1) y_L_evenCut P 5 _ [vI v] 1 6 am_G0 I' J
    refine rn_L_evenCut 20 ?_
    simp (disch := omega) only [am_z, cq_L_evenCut, Nat.reduceAdd, Nat.zero_le, Nat.reduceLeDiff, ar_lit]
    exact k I' hs
  · exact k I' hs
theorem b_emptyFrom {a : Int32} : (q_emptyFrom s.2.1 a).1 ≤ 1 := by
  unfold q_emptyFrom
  repeat' split
  all_goals simp
theorem s_L_emptyFrom {a : Int32} (hD : 8 ≤ D) (h : st I s) (k : ∀ I', st I' s → P (.inl (some (vL (wx [3] (q_emptyFrom s.2.1 a))))) am_G0 I' J) : am_T l D y_L_emptyFrom [vR (0, 0), vI a] am_G0 I J P := by
  obtain ⟨d, rfl⟩ : ∃ d, D = d + 1 := ⟨D - 1, by omega⟩
  refine en_L_emptyFrom 20 (Nat.le_of_ble_eq_true rfl) ?_
  simp (disch := omega) only [am_z, cq_L_emptyFrom, Nat.reduceAdd, Nat.zero_le, Nat.reduceLeDiff, ar_lit]
  refine s_P_emptyFrom (by omega) h (fun I' hf hs => ?_)
  have hb9 := b_emptyFrom (a := a) (s := s)
  generalize q_emptyFrom s.2.1 a = r at *
  obtain ⟨n, v⟩ := r
  simp only at hb9
  rcases (show n = 0 ∨ n = 1 by omega) with rfl | rfl
  · show am_X l (0, fun _ => 0) (d + 1) y_L_emptyFrom P 5 _ [vI v] 1 6 am_G0 I' J
    refine rn_L_emptyFrom 20 ?_
    simp (disch := omega) only [am_z, cq_L_emptyFrom, Nat.reduceAdd, Nat.zero_le, Nat.reduceLeDiff, ar_lit]
    exact k I' hs
  · exact k I' hs
theorem b_script {a : Int32} {t : Int64} : (q_runScript s.2.1 a t).1 ≤ 1 := by
  unfold q_runScript
  repeat' split
  all_goals simp
theorem s_L_script {a : Int32} {t : Int64} (hD : 8 ≤ D) (h : st I s) (k : ∀ I', st I' s → P (.inl (some (vL (wx [1] (q_runScript s.2.1 a t))))) am_G0 I' J) : am_T l D y_L_script [vR (0, 0), vI a, vL t] am_G0 I J P := by
  obtain ⟨d, rfl⟩ : ∃ d, D = d + 1 := ⟨D - 1, by omega⟩
  refine en_L_script 20 (Nat.le_of_ble_eq_true rfl) ?_
  simp (disch := omega) only [am_z, cq_L_script, Nat.reduceAdd, Nat.zero_le, Nat.reduceLeDiff, ar_lit]
  refine s_P_runScript (by omega) h (fun I' hf hs => ?_)
  have hb9 := b_script (a := a) (t := t) (s := s)
  generalize q_runScript s.2.1 a t = r at *
  obtain ⟨n, v⟩ := r
  simp only at hb9
  rcases (show n = 0 ∨ n = 1 by omega) with rfl | rfl
  · show am_X l (0, fun _ => 0) (d + 1) y_L_script P 6 _ [vI v] 1 6 am_G0 I' J
    refine rn_L_script 20 ?_
    simp (disch := omega) only [am_z, cq_L_script, Nat.reduceAdd, Nat.zero_le, Nat.reduceLeDiff, ar_lit]
    exact k I' hs
  · exact k I' hs
theorem b_simulate {t : Int64} {a : Int32} : (q_simulate s.2.1 t a).1 ≤ 1 := by
  unfold q_simulate
  repeat' split
  all_goals simp
theorem s_L_simulate {t : Int64} {a : Int32} (hD : 8 ≤ D) (h : st I s) (k : ∀ I', st I' s → P (.inl (some (vL (wx [1] (q_simulate s.2.1 t a))))) am_G0 I' J) : am_T l D y_L_simulate [vR (0, 0), vL t, vI a] am_G0 I J P := by
  obtain ⟨d, rfl⟩ : ∃ d, D = d + 1 := ⟨D - 1, by omega⟩
  refine en_L_simulate 20 (Nat.le_of_ble_eq_true rfl) ?_
  simp (disch := omega) only [am_z, cq_L_simulate, Nat.reduceAdd, Nat.zero_le, Nat.reduceLeDiff, ar_lit]
  refine s_P_simulate (by omega) h (fun I' hf hs => ?_)
  have hb9 := b_simulate (t := t) (a := a) (s := s)
  generalize q_simulate s.2.1 t a = r at *
  obtain ⟨n, v⟩ := r
  simp only at hb9
  rcases (show n = 0 ∨ n = 1 by omega) with rfl | rfl
  · show am_X l (0, fun _ => 0) (d + 1) y_L_simulate P 6 _ [vI v] 1 6 am_G0 I' J
    refine rn_L_simulate 20 ?_
    simp (disch := omega) only [am_z, cq_L_simulate, Nat.reduceAdd, Nat.zero_le, Nat.reduceLeDiff, ar_lit]
    exact k I' hs
  · exact k I' hs
theorem b_save {a : Int32} : (q_save s a).1.1 ≤ 1 := by
  unfold q_save
  repeat' split
  all_goals simp
theorem s_L_save {a : Int32} (hD : 8 ≤ D) (h : st I s) (k : ∀ I', st I' (q_save s a).2 → P (.inl (some (vL (wx [3] (q_save s a).1)))) am_G0 I' J) : am_T l D y_L_save [vR (0, 0), vI a] am_G0 I J P := by
  obtain ⟨d, rfl⟩ : ∃ d, D = d + 1 := ⟨D - 1, by omega⟩
  refine en_L_save 20 (Nat.le_of_ble_eq_true rfl) ?_
  simp (disch := omega) only [am_z, cq_L_save, Nat.reduceAdd, Nat.zero_le, Nat.reduceLeDiff, ar_lit]
  refine s_P_save (by omega) h (fun I' hf hs => ?_)
  have hb9 := b_save (a := a) (s := s)
  generalize q_save s a = r at *
  obtain ⟨⟨n, v⟩, s'⟩ := r
  simp only at hb9
  rcases (show n = 0 ∨ n = 1 by omega) with rfl | rfl
  · show am_X l (0, fun _ => 0) (d + 1) y_L_save P 5 _ [vI v] 1 6 am_G0 I' J
    refine rn_L_save 20 ?_
    simp (disch := omega) only [am_z, cq_L_save, Nat.reduceAdd, Nat.zero_le, Nat.reduceLeDiff, ar_lit]
    exact k I' hs
  · exact k I' hs
theorem b_restore {a : Int32} : (q_restore s a).1.1 ≤ 2 := by
  unfold q_restore
  repeat' split
  all_goals simp
theorem s_L_restore {a : Int32} (hD : 8 ≤ D) (h : st I s) (k : ∀ I', st I' (q_restore s a).2 → P (.inl (some (vL (wx [3, 2] (q_restore s a).1)))) am_G0 I' J) : am_T l D y_L_restore [vR (0, 0), vI a] am_G0 I J P := by
  obtain ⟨d, rfl⟩ : ∃ d, D = d + 1 := ⟨D - 1, by omega⟩
  refine en_L_restore 20 (Nat.le_of_ble_eq_true rfl) ?_
  simp (disch := omega) only [am_z, cq_L_restore, Nat.reduceAdd, Nat.zero_le, Nat.reduceLeDiff, ar_lit]
  refine s_P_restore (by omega) h (fun I' hf hs => ?_)
  have hb9 := b_restore (a := a) (s := s)
  generalize q_restore s a = r at *
  obtain ⟨⟨n, v⟩, s'⟩ := r
  simp only at hb9
  rcases (show n = 0 ∨ n = 1 ∨ n = 2 by omega) with rfl | rfl | rfl
  · show am_X l (0, fun _ => 0) (d + 1) y_L_restore P 5 _ [vI v] 2 12 am_G0 I' J
    refine rn_L_restore 20 ?_
    simp (disch := omega) only [am_z, cq_L_restore, Nat.reduceAdd, Nat.zero_le, Nat.reduceLeDiff, ar_lit]
    exact k I' hs
  · exact k I' hs
  · exact k I' hs
end HL
