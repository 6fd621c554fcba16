/-! ===== the class Table: dropRow ===== -/
section TAB
variable {l : Launch} {D t : Nat} {I : am_I} {J : am_J} {P : am_P} {p : pt_T}
theorem s_amountAt' {r c : Nat} (hD : 1 ≤ D) (hr : r < 24) (hc : c < 4) (k : P (.inl (some (vI (I (13, t) (r * 4 + c))))) am_G0 I J) : am_T l D y_Table_amountAt [vR (7, t), vI (nI r), vI (nI c)] am_G0 I J P := by
  obtain ⟨d, rfl⟩ : ∃ d, D = d + 1 := ⟨D - 1, by omega⟩
  refine en_Table_amountAt 20 (Nat.le_of_ble_eq_true rfl) ?_
  simp (disch := omega) only [am_z, cq_Table_amountAt, Nat.reduceAdd, ar_lit, pk_mul, nI_add, ar_in, ar_cl]
  exact ⟨by omega, k⟩
theorem s_dropRow {g : Nat} (hD : 3 ≤ D) (hr : rC I t p) (hw : tW p) (hg : g < tn p) (k : ∀ I', am_fr (isT t) I I' → rC I' t (tdropR p g) → P (.inl (some (vI (nI (tm p - tm (tdropR p g)))))) am_G0 I' J) : am_T l D y_Table_dropRow [vR (7, t), vI (nI g)] am_G0 I J P := by
  obtain ⟨d, rfl⟩ : ∃ d, D = d + 1 := ⟨D - 1, by omega⟩
  have hn := hw.2.2.2.2.1
  have loop : ∀ m j I' a3, j + m = tn p - 1 → g ≤ j → am_fr (isT t) I I' → (∀ s, 14 ≤ s → I' (s, t) = I (s, t)) → I' (7, t) = upd (I (7, t)) 1 (nI (tn p - 1)) → I' (10, t) = shf (I (10, t)) g j 1 → I' (11, t) = shf (I (11, t)) g j 1 → I' (12, t) = shf (I (12, t)) g j 1 → I' (13, t) = shf (I (13, t)) (g * 4) (j * 4) 4 → am_X l (0, fun _ => 0) (d + 1) y_Table_dropRow P 12 [some (vR (7, t)), some (vI (nI g)), some (vI (nI j)), a3] [] 0 0 am_G0 I' J := by
    intro m
    induction m with
    | zero =>
      intro j I' a3 hj hgj hf ho i7 i10 i11 i12 i13
      refine rn_Table_dropRow 20 ?_
      simp (disch := omega) only [am_z, cq_Table_dropRow, Nat.reduceAdd, i7, upd_e, ar_lit, ar_le]
      rw [if_pos (by omega)]
      have : j = tn p - 1 := by omega
      subst this
      have hr' : rC I' t (p.1, p.2.1.eraseIdx g, p.2.2) := by
        obtain ⟨⟨h1, h2, h3, h4, h5⟩, hR, hS, hV⟩ := hr
        have en : tn (p.1, p.2.1.eraseIdx g, p.2.2) = tn p - 1 := tn_dropR hg
        refine ⟨⟨?_, ?_, ?_, ?_, ?_⟩, fun r q => ?_, fun s q => ?_, fun m q => ?_⟩
        · rw [i7]; exact h1
        · rw [i7, en]; exact upd_e _ _ _
        · rw [i7]; exact h3
        · rw [i7]; exact h4
        · rw [i7]; exact h5
        · rw [en] at q
          have eR : tR (p.1, p.2.1.eraseIdx g, p.2.2) r = if r < g then tR p r else tR p (r + 1) := tR_dropR g r
          unfold tH tN tK tA
          rw [i10, i11, i12, i13, eR]
          by_cases hq : r < g
          · rw [if_pos hq]
            simp only [shf_at, if_neg (show ¬ (g ≤ r ∧ r < tn p - 1) by omega)]
            obtain ⟨g1, g2, g3, g4⟩ := hR r (by omega)
            refine ⟨g1, g2, g3, fun c hc => ?_⟩
            rw [if_neg (by omega)]
            exact g4 c hc
          · rw [if_neg hq]
            simp only [shf_at, if_pos (show g ≤ r ∧ r < tn p - 1 by omega)]
            obtain ⟨g1, g2, g3, g4⟩ := hR (r + 1) (by omega)
            refine ⟨g1, g2, g3, fun c hc => ?_⟩
            rw [if_pos (by omega), show r * 4 + c + 4 = (r + 1) * 4 + c by omega]
            exact g4 c hc
        · rw [ho 14 (by omega), ho 15 (by omega), ho 16 (by omega)]
          exact hS s q
        · rw [ho 17 (by omega)]
          exact hV m q
      refine s_takeRowFromSpans (by omega) hr' hw.2.2.2.2.2.1 (fun s hs => ?_) (by omega) ?_
      · have := hw.span (s := s) hs
        exact ⟨this.1, by have := this.2.1; show tL p s < 25; unfold tL; omega, this.2.2⟩
      · intro I'' hf'' hr''
        simp only [am_z, Nat.reduceAdd]
        refine rn_Table_dropRow 20 ?_
        simp only [am_z, cq_Table_dropRow, Nat.reduceAdd]
        exact k I'' (hf.tr hf'') hr''
    | succ m ih =>
      intro j I' a3 hj hgj hf ho i7 i10 i11 i12 i13
      have inner : ∀ m' c I', c + m' = 4 → am_fr (isT t) I I' → (∀ s, 14 ≤ s → I' (s, t) = I (s, t)) → I' (7, t) = upd (I (7, t)) 1 (nI (tn p - 1)) → I' (10, t) = shf (I (10, t)) g (j + 1) 1 → I' (11, t) = shf (I (11, t)) g (j + 1) 1 → I' (12, t) = shf (I (12, t)) g (j + 1) 1 → I' (13, t) = shf (I (13, t)) (g * 4) (j * 4 + c) 4 → am_X l (0, fun _ => 0) (d + 1) y_Table_dropRow P 64 [some (vR (7, t)), some (vI (nI g)), some (vI (nI j)), some (vI (nI c))] [] 0 0 am_G0 I' J := by
        intro m'
        induction m' with
        | zero =>
          intro c I' hc hf ho i7 i10 i11 i12 i13
          have : c = 4 := by omega
          subst this
          refine rn_Table_dropRow 20 ?_
          simp (disch := omega) only [am_z, cq_Table_dropRow, Nat.reduceAdd, ar_lit, ar_le, nI_add, ↓reduceIte]
          exact @ih (j + 1) I' _ (by omega) (by omega) hf ho i7 i10 i11 i12 (by rw [i13, show (j + 1) * 4 = j * 4 + 4 by omega])
        | succ m' ih' =>
          intro c I' hc hf ho i7 i10 i11 i12 i13
          refine rn_Table_dropRow 20 ?_
          simp (disch := omega) only [am_z, cq_Table_dropRow, Nat.reduceAdd, ar_lit, ar_le, nI_add]
          rw [if_neg (by omega)]
          refine s_amountAt' (by omega) (by omega) (by omega) ?_
          simp only [am_z, Nat.reduceAdd]
          refine rn_Table_dropRow 20 ?_
          simp only [am_z, cq_Table_dropRow, Nat.reduceAdd]
          refine s_putAmount (by omega) (by omega) (by omega) ?_
          simp only [am_z, Nat.reduceAdd]
          refine rn_Table_dropRow 20 ?_
          simp only [am_z, cq_Table_dropRow, Nat.reduceAdd, ar_lit, nI_add]
          refine @ih' (c + 1) _ (by omega) (am_fr.up hf ⟨rfl, by simp⟩) ?_ ?_ ?_ ?_ ?_ ?_
          · intro s hs
            rw [am_uS _ _ _ _ _ (by omega)]; exact ho s hs
          · rw [am_uS _ _ _ _ _ (by omega)]; exact i7
          · rw [am_uS _ _ _ _ _ (by omega)]; exact i10
          · rw [am_uS _ _ _ _ _ (by omega)]; exact i11
          · rw [am_uS _ _ _ _ _ (by omega)]; exact i12
          · rw [am_uE, i13, shf_up _ (by omega), show (j + 1) * 4 + c = j * 4 + c + 4 by omega, shf_s _ _ (by omega)]
            rfl
      refine rn_Table_dropRow 60 ?_
      simp (disch := omega) only [am_z, cq_Table_dropRow, Nat.reduceAdd, i7, i10, i11, i12, am_uS, upd_e, ar_lit, ar_le, ar_in, ar_cl, nI_add, shf_up]
      rw [if_neg (by omega)]
      obtain ⟨g1, g2, g3, _⟩ := hr.2.1 (j + 1) (by omega)
      have hb : tK p (j + 1) ≤ 1 := (hw.row (r := j + 1) (by omega)).2.2.2.1
      rw [g3, nar_b _ hb]
      refine ⟨by omega, by omega, by omega, by omega, by omega, by omega, ?_⟩
      refine @inner 4 0 _ (by omega) ?_ ?_ ?_ ?_ ?_ ?_ ?_
      · exact am_fr.up (am_fr.up (am_fr.up hf ⟨rfl, by simp⟩) ⟨rfl, by simp⟩) ⟨rfl, by simp⟩
      · intro s hs
        rw [am_uS _ _ _ _ _ (by omega), am_uS _ _ _ _ _ (by omega), am_uS _ _ _ _ _ (by omega)]
        exact ho s hs
      · rw [am_uS _ _ _ _ _ (by omega), am_uS _ _ _ _ _ (by omega), am_uS _ _ _ _ _ (by omega), i7]
      · rw [am_uS _ _ _ _ _ (by omega), am_uS _ _ _ _ _ (by omega), am_uE, i10, shf_s _ _ hgj]
      · rw [am_uS _ _ _ _ _ (by omega), am_uE, am_uS _ _ _ _ _ (by omega), i11, shf_s _ _ hgj]
      · rw [am_uE, am_uS _ _ _ _ _ (by omega), am_uS _ _ _ _ _ (by omega), i12, ← g3, shf_s _ _ hgj]
      · rw [am_uS _ _ _ _ _ (by omega), am_uS _ _ _ _ _ (by omega), am_uS _ _ _ _ _ (by omega), i13]
        rfl
  refine en_Table_dropRow 40 (Nat.le_of_ble_eq_true rfl) ?_
  simp (disch := omega) only [am_z, cq_Table_dropRow, Nat.reduceAdd, hr.1.2.1, ar_lit, ar_sub]
  refine @loop (tn p - 1 - g) g _ _ (by omega) (by omega) ?_ ?_ ?_ ?_ ?_ ?_ ?_
  · exact am_fr.up am_fr.rf ⟨rfl, by simp⟩
  · intro s hs
    exact am_uS _ _ _ _ _ (by omega)
  · exact am_uE _ _ _ _
  · rw [shf_z]; exact am_uS _ _ _ _ _ (by omega)
  · rw [shf_z]; exact am_uS _ _ _ _ _ (by omega)
  · rw [shf_z]; exact am_uS _ _ _ _ _ (by omega)
  · rw [shf_z]; exact am_uS _ _ _ _ _ (by omega)
end TAB
