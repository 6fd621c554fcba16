/-! ===== the class Table: a row goes ===== -/
section TAB
variable {l : Launch} {D t : Nat} {I : am_I} {J : am_J} {P : am_P} {p : pt_T}
/-- some of the spans are told again -/
def tspw (p : pt_T) (L : List pt_S) : pt_T := (p.1, p.2.1, L)
theorem s_takeRowFromSpans {g : Nat} (hD : 2 ≤ D) (hr : rC I t p) (hm : tm p ≤ 6) (hs : ∀ s, s < tm p → tF p s < tL p s ∧ tL p s < 25 ∧ tM p s ≤ 1) (hg : g < 25) (k : ∀ I', am_fr (isT t) I I' → rC I' t (tspw p (p.2.2.filterMap (tgo g))) → P (.inl (some (vI (nI (tm p - (p.2.2.filterMap (tgo g)).length))))) am_G0 I' J) : am_T l D y_Table_takeRowFromSpans [vR (7, t), vI (nI g)] am_G0 I J P := by
  obtain ⟨d, rfl⟩ : ∃ d, D = d + 1 := ⟨D - 1, by omega⟩
  have loop : ∀ m s I' L a4 a5, s + m = tm p → am_fr (isT t) I I' → L = (p.2.2.take s).filterMap (tgo g) → rC I' t (tspw p L) → (∀ i, s ≤ i → i < tm p → I' (14, t) i = nI (tF p i) ∧ I' (15, t) i = nI (tL p i) ∧ I' (16, t) i = nI (tM p i)) → am_X l (0, fun _ => 0) (d + 1) y_Table_takeRowFromSpans P 12 [some (vR (7, t)), some (vI (nI g)), some (vI (nI (tm p))), some (vI (nI s)), a4, a5] [] 0 0 am_G0 I' J := by
    intro m
    induction m with
    | zero =>
      intro s I' L a4 a5 hj hf hL hr' hk
      have : s = tm p := by omega
      subst this
      have hL2 : L = p.2.2.filterMap (tgo g) := by rw [hL]; unfold tm; rw [List.take_length]
      have hl : L.length ≤ tm p := by rw [hL2]; exact List.length_filterMap_le _ _
      have h2 : I' (7, t) 2 = nI L.length := hr'.1.2.2.1
      refine rn_Table_takeRowFromSpans 20 ?_
      simp (disch := omega) only [am_z, cq_Table_takeRowFromSpans, Nat.reduceAdd, ar_lit, ar_le, ↓reduceIte, h2, ar_sub]
      rw [hL2]
      refine k I' hf ?_
      rw [← hL2]; exact hr'
    | succ m ih =>
      intro s I' L a4 a5 hj hf hL hr' hk
      obtain ⟨k1, k2, k3⟩ := hk s (by omega) (by omega)
      obtain ⟨b1, b2, b3⟩ := hs s (by omega)
      have h6 : s < 6 := by omega
      have ex : p.2.2[s]? = some (tS p s) := by
        unfold tS
        rw [List.getD_eq_getElem?_getD, List.getElem?_eq_getElem (show s < p.2.2.length by unfold tm at hj; omega)]
        rfl
      have eL : (p.2.2.take (s + 1)).filterMap (tgo g) = L ++ (tgo g (tS p s)).toList := by
        rw [List.take_add_one, ex, List.filterMap_append, hL]
        congr 1
      have hl : L.length ≤ s := by
        rw [hL]
        exact Nat.le_trans (List.length_filterMap_le _ _) (by rw [List.length_take]; omega)
      have h2 : I' (7, t) 2 = nI L.length := hr'.1.2.2.1
      have fin : ∀ a b, tgone g (tS p s) = (a, b, tM p s) → if b ≤ a then am_X l (0, fun _ => 0) (d + 1) y_Table_takeRowFromSpans P 12 [some (vR (7, t)), some (vI (nI g)), some (vI (nI (tm p))), some (vI (nI (s + 1))), some (vI (nI a)), some (vI (nI b))] [] 0 0 am_G0 I' J else am_T l d y_Table_putSpan [vR (7, t), vI (nI a), vI (nI b), vI (nI (tM p s))] am_G0 I' J (am_k (am_X l (0, fun _ => 0) (d + 1) y_Table_takeRowFromSpans P) P 96 [some (vR (7, t)), some (vI (nI g)), some (vI (nI (tm p))), some (vI (nI s)), some (vI (nI a)), some (vI (nI b))] [] 0 0) := by
        intro a b e
        have e2 : tgo g (tS p s) = if a < b then some (a, b, tM p s) else none := by unfold tgo; rw [e]
        split
        · refine @ih (s + 1) I' L _ _ (by omega) hf ?_ hr' (fun i h1 h2 => hk i (by omega) h2)
          rw [eL, e2, if_neg (by omega)]
          exact (List.append_nil L).symm
        · refine s_putSpan (m := L.length) (by omega) h2 (by omega) b3 ?_
          simp only [am_z, Nat.reduceAdd]
          refine rn_Table_takeRowFromSpans 20 ?_
          simp only [am_z, cq_Table_takeRowFromSpans, Nat.reduceAdd, ar_lit, nI_add]
          refine @ih (s + 1) _ (L ++ [(a, b, tM p s)]) _ _ (by omega) (hf.tr am_fr.putSpan) ?_ (rC.putSpan hr' (x := (a, b, tM p s))) (fun i h1 h2 => ?_)
          · rw [eL, e2, if_pos (by omega)]
            rfl
          · obtain ⟨q1, q2, q3⟩ := hk i (by omega) h2
            have hne : ¬ i = L.length := by omega
            exact ⟨Eq.trans (by simp [am_upI_at, hne]) q1, Eq.trans (by simp [am_upI_at, hne]) q2, Eq.trans (by simp [am_upI_at, hne]) q3⟩
      refine rn_Table_takeRowFromSpans 60 ?_
      simp (disch := omega) only [am_z, cq_Table_takeRowFromSpans, Nat.reduceAdd, ar_lit, ar_le, ar_lt, k1, k2, k3, ar_in, ar_cl, nI_add, h6]
      rw [if_neg (by omega)]
      have eg : tgone g (tS p s) = (if g < tF p s then tF p s - 1 else tF p s, if g ≤ tL p s then tL p s - 1 else tL p s, tM p s) := rfl
      split
      · rename_i q1
        split
        · rename_i q2
          exact fin (tF p s) (tL p s) (by rw [eg, if_neg (by omega), if_neg (by omega)])
        · rename_i q2
          rw [ar_sub (by omega)]
          simp (disch := omega) only [ar_le]
          exact fin (tF p s) (tL p s - 1) (by rw [eg, if_neg (by omega), if_pos (by omega)])
      · rename_i q1
        rw [ar_sub (show 1 ≤ tF p s by omega), if_neg (by omega), ar_sub (by omega)]
        simp (disch := omega) only [ar_le]
        exact fin (tF p s - 1) (tL p s - 1) (by rw [eg, if_pos (by omega), if_pos (by omega)])
  refine en_Table_takeRowFromSpans 40 (Nat.le_of_ble_eq_true rfl) ?_
  simp (disch := omega) only [am_z, cq_Table_takeRowFromSpans, Nat.reduceAdd, hr.1.2.2.1, ar_lit]
  refine @loop (tm p) 0 _ [] _ _ (by omega) (am_fr.up am_fr.rf ⟨rfl, by simp⟩) rfl ?_ ?_
  · obtain ⟨⟨h1, h2, h3, h4, h5⟩, hR, hS, hV⟩ := hr
    refine ⟨⟨?_, ?_, ?_, ?_, ?_⟩, fun r q => ?_, fun s q => absurd q (Nat.not_lt_zero _), fun m q => ?_⟩
    · exact Eq.trans (by simp [am_upI_at]) h1
    · exact Eq.trans (by simp [am_upI_at]) h2
    · simp [am_upI_at]; rfl
    · exact Eq.trans (by simp [am_upI_at]) h4
    · exact Eq.trans (by simp [am_upI_at]) h5
    · obtain ⟨g1, g2, g3, g4⟩ := hR r q
      exact ⟨Eq.trans (by simp [am_upI_at]) g1, Eq.trans (by simp [am_upI_at]) g2, Eq.trans (by simp [am_upI_at]) g3, fun c hc => Eq.trans (by simp [am_upI_at]) (g4 c hc)⟩
    · exact Eq.trans (by simp [am_upI_at]) (hV m q)
  · intro i _ hi
    obtain ⟨g1, g2, g3⟩ := hr.2.2.1 i hi
    rw [am_uS _ _ _ _ _ (by omega), am_uS _ _ _ _ _ (by omega), am_uS _ _ _ _ _ (by omega)]
    exact ⟨g1, g2, g3⟩
end TAB
