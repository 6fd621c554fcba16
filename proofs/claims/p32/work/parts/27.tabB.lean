/-! ===== the class Table: methods that write ===== -/
/-- m cells from k on overwritten -/
def am_fil (I : am_I) (b : am_A) (k m : Nat) (x : Int32) : am_I := fun a i => if a = b ∧ k ≤ i ∧ i < k + m then x else I a i
theorem am_fil_at (I : am_I) (b : am_A) (k m : Nat) (x : Int32) (a : am_A) (i : Nat) : am_fil I b k m x a i = if a = b ∧ k ≤ i ∧ i < k + m then x else I a i := rfl
theorem am_fil_z (I : am_I) (b : am_A) (k : Nat) (x : Int32) : am_fil I b k 0 x = I := by
  funext a i
  rw [am_fil_at, if_neg (by omega)]
theorem am_fil_s (I : am_I) (b : am_A) (k m : Nat) (x : Int32) : am_upI (am_fil I b k m x) b (k + m) x = am_fil I b k (m + 1) x := by
  funext a i
  rw [am_upI_at, am_fil_at, am_fil_at]
  by_cases h : a = b
  · subst h
    by_cases h2 : i = k + m
    · rw [if_pos ⟨rfl, h2⟩, if_pos ⟨rfl, by omega, by omega⟩]
    · rw [if_neg (fun q => h2 q.2)]
      by_cases h3 : k ≤ i ∧ i < k + m
      · rw [if_pos ⟨rfl, h3⟩, if_pos ⟨rfl, by omega, by omega⟩]
      · rw [if_neg (fun q => h3 q.2), if_neg (fun q => h3 (by omega))]
  · rw [if_neg (fun q => h q.1), if_neg (fun q => h q.1), if_neg (fun q => h q.1)]
theorem am_fr.fil {S : am_A → Prop} {I I' : am_I} (h : am_fr S I I') {a : am_A} {k m : Nat} {x : Int32} (ha : S a) : am_fr S I (am_fil I' a k m x) := fun b hb => by
  funext i
  rw [am_fil_at, if_neg (fun q => hb (by rw [q.1]; exact ha))]
  exact congrFun (h b hb) i
section TAB
variable {l : Launch} {D t : Nat} {I : am_I} {J : am_J} {P : am_P} {p : pt_T}
theorem s_hasColumn {r : Int32} (hD : 1 ≤ D) (h : rC I t p) (hw : tW p) (k0 : (∀ j, j < tC p → ¬ r = nI j) → P (.inl (some (vI (nI 0)))) am_G0 I J) (k1 : ∀ j, j < tC p → r = nI j → P (.inl (some (vI (nI 1)))) am_G0 I J) : am_T l D y_Table_hasColumn [vR (7, t), vI r] am_G0 I J P := by
  obtain ⟨d, rfl⟩ : ∃ d, D = d + 1 := ⟨D - 1, by omega⟩
  have hn := hw.1.2
  refine en_Table_hasColumn 20 (Nat.le_of_ble_eq_true rfl) ?_
  simp only [am_z, cq_Table_hasColumn, Nat.reduceAdd, h.1.1, ar_lit]
  rcases ar_cases r with hr | ⟨j, hj, rfl⟩
  · rw [if_pos hr]
    exact k0 fun j hj q => by rw [q, ar_lt (by omega) (by omega)] at hr; omega
  · simp (disch := omega) only [ar_lt, ar_le]
    rw [if_neg (by omega)]
    split
    · exact k0 fun i hi q => by rw [ar_eq (by omega) (by omega)] at q; omega
    · exact k1 j (by omega) rfl
theorem s_hasSpan {r : Int32} (hD : 1 ≤ D) (h : rC I t p) (hw : tW p) (k0 : (∀ j, j < tm p → ¬ r = nI j) → P (.inl (some (vI (nI 0)))) am_G0 I J) (k1 : ∀ j, j < tm p → r = nI j → P (.inl (some (vI (nI 1)))) am_G0 I J) : am_T l D y_Table_hasSpan [vR (7, t), vI r] am_G0 I J P := by
  obtain ⟨d, rfl⟩ : ∃ d, D = d + 1 := ⟨D - 1, by omega⟩
  have hn := hw.2.2.2.2.2.1
  refine en_Table_hasSpan 20 (Nat.le_of_ble_eq_true rfl) ?_
  simp only [am_z, cq_Table_hasSpan, Nat.reduceAdd, h.1.2.2.1, ar_lit]
  rcases ar_cases r with hr | ⟨j, hj, rfl⟩
  · rw [if_pos hr]
    exact k0 fun j hj q => by rw [q, ar_lt (by omega) (by omega)] at hr; omega
  · simp (disch := omega) only [ar_lt, ar_le]
    rw [if_neg (by omega)]
    split
    · exact k0 fun i hi q => by rw [ar_eq (by omega) (by omega)] at q; omega
    · exact k1 j (by omega) rfl
theorem s_isFull (hD : 1 ≤ D) (h : rC I t p) (hw : tW p) (k0 : tn p < 24 → P (.inl (some (vI (nI 0)))) am_G0 I J) (k1 : tn p = 24 → P (.inl (some (vI (nI 1)))) am_G0 I J) : am_T l D y_Table_isFull [vR (7, t)] am_G0 I J P := by
  obtain ⟨d, rfl⟩ : ∃ d, D = d + 1 := ⟨D - 1, by omega⟩
  have hn := hw.2.2.2.2.1
  refine en_Table_isFull 20 (Nat.le_of_ble_eq_true rfl) ?_
  simp (disch := omega) only [am_z, cq_Table_isFull, Nat.reduceAdd, h.1.2.1, ar_lit, ar_lt]
  split
  · exact k0 (by omega)
  · exact k1 (by omega)
theorem s_hasAllSpans (hD : 1 ≤ D) (h : rC I t p) (hw : tW p) (k0 : tm p < 6 → P (.inl (some (vI (nI 0)))) am_G0 I J) (k1 : tm p = 6 → P (.inl (some (vI (nI 1)))) am_G0 I J) : am_T l D y_Table_hasAllSpans [vR (7, t)] am_G0 I J P := by
  obtain ⟨d, rfl⟩ : ∃ d, D = d + 1 := ⟨D - 1, by omega⟩
  have hn := hw.2.2.2.2.2.1
  refine en_Table_hasAllSpans 20 (Nat.le_of_ble_eq_true rfl) ?_
  simp (disch := omega) only [am_z, cq_Table_hasAllSpans, Nat.reduceAdd, h.1.2.2.1, ar_lit, ar_lt]
  split
  · exact k0 (by omega)
  · exact k1 (by omega)
theorem s_allowsRow {a b : Int32} (hD : 1 ≤ D) (k0 : (∀ h n, 1 ≤ h → h ≤ 6 → n ≤ 6 → a = nI h → b = nI n → False) → P (.inl (some (vI (nI 0)))) am_G0 I J) (k1 : ∀ h n, 1 ≤ h → h ≤ 6 → n ≤ 6 → a = nI h → b = nI n → P (.inl (some (vI (nI 1)))) am_G0 I J) : am_T l D y_Table_allowsRow [vI a, vI b] am_G0 I J P := by
  obtain ⟨d, rfl⟩ : ∃ d, D = d + 1 := ⟨D - 1, by omega⟩
  refine en_Table_allowsRow 20 (Nat.le_of_ble_eq_true rfl) ?_
  simp only [am_z, cq_Table_allowsRow, Nat.reduceAdd, ar_lit]
  rcases ar_cases a with ha | ⟨h, hh, rfl⟩
  · rw [if_pos (by rw [Int32.lt_iff_toInt_lt] at ha ⊢; rw [show (nI 1).toInt = 1 from rfl]; rw [show (nI 0).toInt = 0 from rfl] at ha; omega)]
    exact k0 fun h n h1 h2 _ q _ => by rw [q, ar_lt (by omega) (by omega)] at ha; omega
  simp (disch := omega) only [ar_lt]
  split
  · exact k0 fun h' n h1 h2 _ q _ => by rw [ar_eq (by omega) (by omega)] at q; omega
  split
  · exact k0 fun h' n h1 h2 _ q _ => by rw [ar_eq (by omega) (by omega)] at q; omega
  rcases ar_cases b with hb | ⟨n, hn, rfl⟩
  · rw [if_pos hb]
    exact k0 fun h' n h1 h2 h3 _ q => by rw [q, ar_lt (by omega) (by omega)] at hb; omega
  simp (disch := omega) only [ar_lt]
  rw [if_neg (by omega)]
  split
  · exact k0 fun h' n' h1 h2 h3 _ q => by rw [ar_eq (by omega) (by omega)] at q; omega
  · exact k1 h n (by omega) (by omega) (by omega) rfl rfl
/-- the table t, with a row more -/
theorem rC.putRow {h n : Nat} (hr : rC I t p) : rC (am_upI (am_fil (am_upI (am_upI (am_upI I (10, t) (tn p) (nI h)) (11, t) (tn p) (nI n)) (12, t) (tn p) (nI 0)) (13, t) (tn p * 4) 4 (nI 0)) (7, t) 1 (nI (tn p + 1))) t (tputR p h n) := by
  obtain ⟨⟨h1, h2, h3, h4, h5⟩, hR, hS, hV⟩ := hr
  refine ⟨⟨?_, ?_, ?_, ?_, ?_⟩, fun r q => ?_, fun s q => ?_, fun m q => ?_⟩
  · exact Eq.trans (by simp [am_upI_at, am_fil_at]) h1
  · simp [am_upI_at, am_fil_at, tn_put]
  · exact Eq.trans (by simp [am_upI_at, am_fil_at]) h3
  · exact Eq.trans (by simp [am_upI_at, am_fil_at]) h4
  · exact Eq.trans (by simp [am_upI_at, am_fil_at]) h5
  · rw [tn_put] at q
    unfold tH tN tK tA
    rw [tR_put h n r q]
    by_cases hq : r < tn p
    · rw [if_pos hq]
      obtain ⟨g1, g2, g3, g4⟩ := hR r hq
      refine ⟨?_, ?_, ?_, fun c hc => ?_⟩
      · exact Eq.trans (by simp [am_upI_at, am_fil_at, show ¬ r = tn p by omega]) g1
      · exact Eq.trans (by simp [am_upI_at, am_fil_at, show ¬ r = tn p by omega]) g2
      · exact Eq.trans (by simp [am_upI_at, am_fil_at, show ¬ r = tn p by omega]) g3
      · have := g4 c hc
        exact Eq.trans (by simp [am_upI_at, am_fil_at, show ¬ tn p * 4 ≤ r * 4 + c by omega]) this
    · rw [if_neg hq]
      have : r = tn p := by omega
      subst this
      refine ⟨by simp [am_upI_at, am_fil_at], by simp [am_upI_at, am_fil_at], by simp [am_upI_at, am_fil_at], fun c hc => ?_⟩
      simp [am_upI_at, am_fil_at, hc]
      rfl
  · obtain ⟨g1, g2, g3⟩ := hS s q
    exact ⟨Eq.trans (by simp [am_upI_at, am_fil_at]) g1, Eq.trans (by simp [am_upI_at, am_fil_at]) g2, Eq.trans (by simp [am_upI_at, am_fil_at]) g3⟩
  · exact Eq.trans (by simp [am_upI_at, am_fil_at]) (hV m q)
theorem s_putRow {h n : Nat} (hD : 2 ≤ D) (hr : rC I t p) (hn : tn p < 24) (k : ∀ I', am_fr (isT t) I I' → rC I' t (tputR p h n) → P (.inl none) am_G0 I' J) : am_T l D y_Table_putRow [vR (7, t), vI (nI h), vI (nI n)] am_G0 I J P := by
  obtain ⟨d, rfl⟩ : ∃ d, D = d + 1 := ⟨D - 1, by omega⟩
  have loop : ∀ m j : Nat, j + m = 4 → am_X l (0, fun _ => 0) (d + 1) y_Table_putRow P 29 [some (vR (7, t)), some (vI (nI h)), some (vI (nI n)), some (vI (nI (tn p))), some (vI (nI j))] [] 0 0 am_G0 (am_fil (am_upI (am_upI (am_upI I (10, t) (tn p) (nI h)) (11, t) (tn p) (nI n)) (12, t) (tn p) (nI 0)) (13, t) (tn p * 4) j (nI 0)) J := by
    intro m
    induction m with
    | zero =>
      intro j hj
      have : j = 4 := by omega
      subst this
      refine rn_Table_putRow 20 ?_
      simp (disch := omega) only [am_z, cq_Table_putRow, Nat.reduceAdd, ar_lit, ar_le, ↓reduceIte]
      have e : am_fil (am_upI (am_upI (am_upI I (10, t) (tn p) (nI h)) (11, t) (tn p) (nI n)) (12, t) (tn p) (nI 0)) (13, t) (tn p * 4) 4 (nI 0) (7, t) 1 = nI (tn p) := by simpa [am_upI_at, am_fil_at] using hr.1.2.1
      rw [e, nI_add]
      refine k _ ?_ (rC.putRow hr)
      exact am_fr.up (am_fr.fil (am_fr.up (am_fr.up (am_fr.up am_fr.rf ⟨rfl, by simp⟩) ⟨rfl, by simp⟩) ⟨rfl, by simp⟩) ⟨rfl, by simp⟩) ⟨rfl, by simp⟩
    | succ m ih =>
      intro j hj
      refine rn_Table_putRow 20 ?_
      simp (disch := omega) only [am_z, cq_Table_putRow, Nat.reduceAdd, ar_lit, ar_le]
      rw [if_neg (by omega)]
      refine s_putAmount (by omega) hn (by omega) ?_
      simp only [am_z, Nat.reduceAdd]
      refine rn_Table_putRow 20 ?_
      simp only [am_z, cq_Table_putRow, Nat.reduceAdd, ar_lit, nI_add, am_fil_s]
      exact @ih (j + 1) (by omega)
  refine en_Table_putRow 40 (Nat.le_of_ble_eq_true rfl) ?_
  simp (disch := omega) only [am_z, cq_Table_putRow, Nat.reduceAdd, hr.1.2.1, ar_lit, ar_in, ar_cl, nar_b]
  refine ⟨hn, hn, hn, ?_⟩
  have := @loop 4 0 rfl
  rw [am_fil_z] at this
  exact this
end TAB
