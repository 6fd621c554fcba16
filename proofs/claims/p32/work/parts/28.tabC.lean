/-! ===== the class Table: spans and rows that go ===== -/
theorem upd_e (f : Nat → Int32) (k : Nat) (x : Int32) : upd f k x k = x := if_pos rfl
theorem upd_n (f : Nat → Int32) {k j : Nat} (x : Int32) (h : ¬ j = k) : upd f k x j = f j := if_neg h
theorem upd_at (f : Nat → Int32) (k j : Nat) (x : Int32) : upd f k x j = if j = k then x else f j := rfl
theorem am_uE (I : am_I) (a : am_A) (k : Nat) (x : Int32) : am_upI I a k x a = upd (I a) k x := if_pos rfl
theorem am_uS (I : am_I) {s s' : Nat} (t t' k : Nat) (x : Int32) (h : ¬ s = s') : am_upI I (s', t') k x (s, t) = I (s, t) := if_neg fun q => h (congrArg Prod.fst q)
theorem am_uT (I : am_I) {s s' t t' : Nat} (k : Nat) (x : Int32) (h : ¬ t = t') : am_upI I (s', t') k x (s, t) = I (s, t) := if_neg fun q => h (congrArg Prod.snd q)
/-- f, moved down by w from lo up to hi -/
def shf (f : Nat → Int32) (lo hi w : Nat) : Nat → Int32 := fun i => if lo ≤ i ∧ i < hi then f (i + w) else f i
theorem shf_z (f : Nat → Int32) (lo w : Nat) : shf f lo lo w = f := by
  funext i
  exact if_neg (by omega)
theorem shf_s (f : Nat → Int32) {lo hi : Nat} (w : Nat) (h : lo ≤ hi) : upd (shf f lo hi w) hi (f (hi + w)) = shf f lo (hi + 1) w := by
  funext i
  unfold upd shf
  by_cases h1 : i = hi
  · subst h1; rw [if_pos rfl, if_pos (by omega)]
  · rw [if_neg h1]
    by_cases h2 : lo ≤ i ∧ i < hi
    · rw [if_pos h2, if_pos (by omega)]
    · rw [if_neg h2, if_neg (by omega)]
theorem shf_up (f : Nat → Int32) {lo hi w j : Nat} (h : hi ≤ j) : shf f lo hi w j = f j := if_neg (by omega)
theorem shf_at (f : Nat → Int32) (lo hi w j : Nat) : shf f lo hi w j = if lo ≤ j ∧ j < hi then f (j + w) else f j := rfl
section TAB
variable {l : Launch} {D t : Nat} {I : am_I} {J : am_J} {P : am_P} {p : pt_T}
/-- the rows alone, in other cells -/
theorem s_putSpan {a b c m : Nat} (hD : 1 ≤ D) (h2 : I (7, t) 2 = nI m) (hm : m < 6) (hc : c ≤ 1) (k : P (.inl none) am_G0 (am_upI (am_upI (am_upI (am_upI I (14, t) m (nI a)) (15, t) m (nI b)) (16, t) m (nI c)) (7, t) 2 (nI (m + 1))) J) : am_T l D y_Table_putSpan [vR (7, t), vI (nI a), vI (nI b), vI (nI c)] am_G0 I J P := by
  obtain ⟨d, rfl⟩ : ∃ d, D = d + 1 := ⟨D - 1, by omega⟩
  refine en_Table_putSpan 40 (Nat.le_of_ble_eq_true rfl) ?_
  simp (disch := omega) only [am_z, cq_Table_putSpan, Nat.reduceAdd, h2, am_uS, ar_lit, ar_in, ar_cl, nar_b, nI_add]
  exact ⟨hm, hm, hm, k⟩
theorem rC.putSpan {x : pt_S} (hr : rC I t p) : rC (am_upI (am_upI (am_upI (am_upI I (14, t) (tm p) (nI x.1)) (15, t) (tm p) (nI x.2.1)) (16, t) (tm p) (nI x.2.2)) (7, t) 2 (nI (tm p + 1))) t (tputS p x) := by
  obtain ⟨⟨h1, h2, h3, h4, h5⟩, hR, hS, hV⟩ := hr
  refine ⟨⟨?_, ?_, ?_, ?_, ?_⟩, fun r q => ?_, fun s q => ?_, fun m q => ?_⟩
  · exact Eq.trans (by simp [am_upI_at]) h1
  · exact Eq.trans (by simp [am_upI_at]) h2
  · rw [tm_put]; simp [am_upI_at]
  · exact Eq.trans (by simp [am_upI_at]) h4
  · exact Eq.trans (by simp [am_upI_at]) h5
  · obtain ⟨g1, g2, g3, g4⟩ := hR r q
    exact ⟨Eq.trans (by simp [am_upI_at]) g1, Eq.trans (by simp [am_upI_at]) g2, Eq.trans (by simp [am_upI_at]) g3, fun c hc => Eq.trans (by simp [am_upI_at]) (g4 c hc)⟩
  · rw [tm_put] at q
    unfold tF tL tM
    rw [tS_put x s q]
    by_cases hq : s < tm p
    · rw [if_pos hq]
      obtain ⟨g1, g2, g3⟩ := hS s hq
      exact ⟨Eq.trans (by simp [am_upI_at, show ¬ s = tm p by omega]) g1, Eq.trans (by simp [am_upI_at, show ¬ s = tm p by omega]) g2, Eq.trans (by simp [am_upI_at, show ¬ s = tm p by omega]) g3⟩
    · rw [if_neg hq]
      have : s = tm p := by omega
      subst this
      exact ⟨by simp [am_upI_at], by simp [am_upI_at], by simp [am_upI_at]⟩
  · exact Eq.trans (by simp [am_upI_at]) (hV m q)
theorem am_fr.putSpan {m : Nat} {x y z w : Int32} : am_fr (isT t) I (am_upI (am_upI (am_upI (am_upI I (14, t) m x) (15, t) m y) (16, t) m z) (7, t) 2 w) :=
  am_fr.up (am_fr.up (am_fr.up (am_fr.up am_fr.rf ⟨rfl, by simp⟩) ⟨rfl, by simp⟩) ⟨rfl, by simp⟩) ⟨rfl, by simp⟩
theorem s_putSpanT {x : pt_S} (hD : 1 ≤ D) (hr : rC I t p) (hm : tm p < 6) (hc : x.2.2 ≤ 1) (k : ∀ I', am_fr (isT t) I I' → rC I' t (tputS p x) → P (.inl none) am_G0 I' J) : am_T l D y_Table_putSpan [vR (7, t), vI (nI x.1), vI (nI x.2.1), vI (nI x.2.2)] am_G0 I J P :=
  s_putSpan hD hr.1.2.2.1 hm hc (k _ am_fr.putSpan (rC.putSpan hr))
theorem s_dropSpan {g : Nat} (hD : 1 ≤ D) (hr : rC I t p) (hw : tW p) (hg : g < tm p) (k : ∀ I', am_fr (isT t) I I' → rC I' t (tdropS p g) → P (.inl none) am_G0 I' J) : am_T l D y_Table_dropSpan [vR (7, t), vI (nI g)] am_G0 I J P := by
  obtain ⟨d, rfl⟩ : ∃ d, D = d + 1 := ⟨D - 1, by omega⟩
  have hn := hw.2.2.2.2.2.1
  have loop : ∀ m j I', j + m = tm p - 1 → g ≤ j → am_fr (isT t) I I' → (∀ s, ¬ s = 7 → ¬ s = 14 → ¬ s = 15 → ¬ s = 16 → I' (s, t) = I (s, t)) → I' (7, t) = upd (I (7, t)) 2 (nI (tm p - 1)) → I' (14, t) = shf (I (14, t)) g j 1 → I' (15, t) = shf (I (15, t)) g j 1 → I' (16, t) = shf (I (16, t)) g j 1 → am_X l (0, fun _ => 0) (d + 1) y_Table_dropSpan P 12 [some (vR (7, t)), some (vI (nI g)), some (vI (nI j))] [] 0 0 am_G0 I' J := by
    intro m
    induction m with
    | zero =>
      intro j I' hj hgj hf ho i7 i14 i15 i16
      refine rn_Table_dropSpan 20 ?_
      simp (disch := omega) only [am_z, cq_Table_dropSpan, Nat.reduceAdd, i7, upd_e, ar_lit, ar_le]
      rw [if_pos (by omega)]
      have : j = tm p - 1 := by omega
      subst this
      refine k I' hf ?_
      obtain ⟨⟨h1, h2, h3, h4, h5⟩, hR, hS, hV⟩ := hr
      refine ⟨⟨?_, ?_, ?_, ?_, ?_⟩, fun r q => ?_, fun s q => ?_, fun m q => ?_⟩
      · rw [i7]; exact h1
      · rw [i7]; exact h2
      · rw [i7, tm_dropS hg]; exact upd_e _ _ _
      · rw [i7]; exact h4
      · rw [i7]; exact h5
      · rw [ho 10 (by omega) (by omega) (by omega) (by omega), ho 11 (by omega) (by omega) (by omega) (by omega), ho 12 (by omega) (by omega) (by omega) (by omega), ho 13 (by omega) (by omega) (by omega) (by omega)]
        exact hR r q
      · rw [tm_dropS hg] at q
        unfold tF tL tM
        rw [i14, i15, i16, tS_dropS, shf_at, shf_at, shf_at]
        by_cases hq : s < g
        · simp only [if_neg (show ¬ (g ≤ s ∧ s < tm p - 1) by omega), if_pos hq]
          exact hS s (by omega)
        · simp only [if_pos (show g ≤ s ∧ s < tm p - 1 by omega), if_neg hq]
          exact hS (s + 1) (by omega)
      · rw [ho 17 (by omega) (by omega) (by omega) (by omega)]
        exact hV m q
    | succ m ih =>
      intro j I' hj hgj hf ho i7 i14 i15 i16
      refine rn_Table_dropSpan 60 ?_
      simp (disch := omega) only [am_z, cq_Table_dropSpan, Nat.reduceAdd, i7, i14, i15, i16, am_uS, upd_e, ar_lit, ar_le, ar_in, ar_cl, nI_add, shf_up]
      rw [if_neg (by omega)]
      obtain ⟨g1, g2, g3⟩ := hr.2.2.1 (j + 1) (by omega)
      have hb : tM p (j + 1) ≤ 1 := (hw.span (s := j + 1) (by omega)).2.2
      rw [g3, nar_b _ hb]
      refine ⟨by omega, by omega, by omega, by omega, by omega, by omega, ?_⟩
      refine @ih (j + 1) _ (by omega) (by omega) ?_ ?_ ?_ ?_ ?_ ?_
      · exact am_fr.up (am_fr.up (am_fr.up hf ⟨rfl, by simp⟩) ⟨rfl, by simp⟩) ⟨rfl, by simp⟩
      · intro s n1 n2 n3 n4
        rw [am_uS _ _ _ _ _ n4, am_uS _ _ _ _ _ n3, am_uS _ _ _ _ _ n2]
        exact ho s n1 n2 n3 n4
      · rw [am_uS _ _ _ _ _ (by omega), am_uS _ _ _ _ _ (by omega), am_uS _ _ _ _ _ (by omega), i7]
      · rw [am_uS _ _ _ _ _ (by omega), am_uS _ _ _ _ _ (by omega), am_uE, i14, shf_s _ _ hgj]
      · rw [am_uS _ _ _ _ _ (by omega), am_uE, am_uS _ _ _ _ _ (by omega), i15, shf_s _ _ hgj]
      · rw [am_uE, am_uS _ _ _ _ _ (by omega), am_uS _ _ _ _ _ (by omega), i16, ← g3, shf_s _ _ hgj]
  refine en_Table_dropSpan 40 (Nat.le_of_ble_eq_true rfl) ?_
  simp (disch := omega) only [am_z, cq_Table_dropSpan, Nat.reduceAdd, hr.1.2.2.1, ar_lit, ar_sub]
  refine @loop (tm p - 1 - g) g _ (by omega) (by omega) ?_ ?_ ?_ ?_ ?_ ?_
  · exact am_fr.up am_fr.rf ⟨rfl, by simp⟩
  · intro s n1 _ _ _
    exact am_uS _ _ _ _ _ n1
  · exact am_uE _ _ _ _
  · rw [shf_z]; exact am_uS _ _ _ _ _ (by omega)
  · rw [shf_z]; exact am_uS _ _ _ _ _ (by omega)
  · rw [shf_z]; exact am_uS _ _ _ _ _ (by omega)
end TAB
