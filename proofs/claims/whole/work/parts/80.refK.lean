/-! ===== the reference: single numbers of the row change ===== -/
section RF
variable {p : pt_T} {f g : Nat → Int32}
theorem rF.setR {r : Nat} {x : pt_R} (hr : rF f p) (hw : tW p) (h : r < tn p) (e0 : ∀ k, ¬ (11 + 7 * r ≤ k ∧ k < 11 + 7 * r + 7) → g k = f k) (e1 : g (11 + 7 * r + 0) = nI x.1 ∧ g (11 + 7 * r + 1) = nI x.2.1 ∧ g (11 + 7 * r + 2) = nI x.2.2.1 ∧ ∀ c, c < 4 → g (11 + 7 * r + (3 + c)) = iI (x.2.2.2 c)) : rF g (tsetR p r x) := by
  obtain ⟨⟨h0, h1, h2, h3, h4⟩, hV, hR, hS⟩ := hr
  have hn := hw.2.2.2.2.1
  refine ⟨⟨?_, ?_, ?_, ?_, ?_⟩, fun m q => ?_, fun i q => ?_, fun s q => ?_⟩
  · rw [e0 _ (by omega)]; exact h0
  · rw [e0 _ (by omega), tn_set]; exact h1
  · rw [e0 _ (by omega)]; exact h2
  · rw [e0 _ (by omega)]; exact h3
  · rw [e0 _ (by omega)]; exact h4
  · rw [e0 _ (by omega)]; exact hV m q
  · rw [tn_set] at q
    unfold tH tN tK tA
    rw [tR_set]
    by_cases hq : i = r
    · subst hq
      rw [if_pos ⟨rfl, q⟩]
      exact e1
    · rw [if_neg (fun z => hq z.1)]
      obtain ⟨g1, g2, g3, g4⟩ := hR i q
      refine ⟨?_, ?_, ?_, fun c hc => ?_⟩
      · rw [e0 _ (by omega)]; exact g1
      · rw [e0 _ (by omega)]; exact g2
      · rw [e0 _ (by omega)]; exact g3
      · rw [e0 _ (by omega)]; exact g4 c hc
  · rw [e0 _ (by omega), e0 _ (by omega), e0 _ (by omega)]
    exact hS s q
theorem rF.setK {r b : Nat} (hr : rF f p) (hw : tW p) (h : r < tn p) : rF (upd f (11 + 7 * r + 2) (nI b)) (tsetK p r b) := by
  obtain ⟨g1, g2, g3, g4⟩ := hr.2.2.1 r h
  refine hr.setR hw h (fun k hk => upd_n _ _ (by omega)) ⟨?_, ?_, upd_e _ _ _, fun c hc => ?_⟩
  · rw [upd_n _ _ (by omega)]; exact g1
  · rw [upd_n _ _ (by omega)]; exact g2
  · rw [upd_n _ _ (by omega)]; exact g4 c hc
theorem rF.setN {r n : Nat} (hr : rF f p) (hw : tW p) (h : r < tn p) : rF (upd f (11 + 7 * r + 1) (nI n)) (tsetN p r n) := by
  obtain ⟨g1, g2, g3, g4⟩ := hr.2.2.1 r h
  refine hr.setR hw h (fun k hk => upd_n _ _ (by omega)) ⟨?_, upd_e _ _ _, ?_, fun c hc => ?_⟩
  · rw [upd_n _ _ (by omega)]; exact g1
  · rw [upd_n _ _ (by omega)]; exact g3
  · rw [upd_n _ _ (by omega)]; exact g4 c hc
theorem rF.setA {r c : Nat} {v : Int} (hr : rF f p) (hw : tW p) (h : r < tn p) (hc : c < 4) : rF (upd f (11 + 7 * r + (3 + c)) (iI v)) (tsetA p r c v) := by
  obtain ⟨g1, g2, g3, g4⟩ := hr.2.2.1 r h
  refine hr.setR hw h (fun k hk => upd_n _ _ (by omega)) ⟨?_, ?_, ?_, fun i hi => ?_⟩
  · rw [upd_n _ _ (by omega)]; exact g1
  · rw [upd_n _ _ (by omega)]; exact g2
  · rw [upd_n _ _ (by omega)]; exact g3
  · show _ = iI (if i = c then v else tA p r i)
    by_cases q : i = c
    · subst q
      rw [upd_e, if_pos rfl]
    · rw [upd_n _ _ (by omega), if_neg q]; exact g4 i hi
theorem rF.setH {w h : Nat} (hr : rF f p) (hw : tW p) (h8 : w < 8) : rF (upd f (3 + w) (nI h)) (tsetH p w h) := by
  obtain ⟨⟨h0, h1, h2, h3, h4⟩, hV, hR, hS⟩ := hr
  have hn := hw.2.2.2.2.1
  have cc : tC (tsetH p w h) = tC p ∧ tn (tsetH p w h) = tn p ∧ tm (tsetH p w h) = tm p ∧ (∀ r, tR (tsetH p w h) r = tR p r) ∧ (∀ s, tS (tsetH p w h) s = tS p s) ∧ tP (tsetH p w h) = (if w = 0 then h else tP p) ∧ tE (tsetH p w h) = (if w = 1 then h else tE p) ∧ ∀ n, tV (tsetH p w h) (n + 1) = if n + 2 = w then h else tV p (n + 1) := by
    unfold tsetH
    by_cases q0 : w = 0
    · subst q0
      exact ⟨rfl, rfl, rfl, fun _ => rfl, fun _ => rfl, rfl, rfl, fun n => rfl⟩
    · by_cases q1 : w = 1
      · subst q1
        exact ⟨rfl, rfl, rfl, fun _ => rfl, fun _ => rfl, rfl, rfl, fun n => rfl⟩
      · simp only [if_neg q0, if_neg q1]
        refine ⟨rfl, rfl, rfl, fun _ => rfl, fun _ => rfl, rfl, rfl, fun n => ?_⟩
        show (if n + 1 = w - 1 then h else tV p (n + 1)) = _
        by_cases q : n + 2 = w
        · rw [if_pos q, if_pos (by omega)]
        · rw [if_neg q, if_neg (by omega)]
  obtain ⟨c1, c2, c3, c4, c5, c6, c7, c8⟩ := cc
  refine ⟨⟨?_, ?_, ?_, ?_, ?_⟩, fun m q => ?_, fun i q => ?_, fun s q => ?_⟩
  · rw [upd_n _ _ (by omega), c1]; exact h0
  · rw [upd_n _ _ (by omega), c2]; exact h1
  · rw [upd_n _ _ (by omega), c3]; exact h2
  · rw [c6, upd_at]
    by_cases q : w = 0
    · rw [if_pos q, if_pos (by omega)]
    · rw [if_neg q, if_neg (by omega)]; exact h3
  · rw [c7, upd_at]
    by_cases q : w = 1
    · rw [if_pos q, if_pos (by omega)]
    · rw [if_neg q, if_neg (by omega)]; exact h4
  · rw [c8, upd_at]
    by_cases q2 : m + 2 = w
    · rw [if_pos q2, if_pos (by omega)]
    · rw [if_neg q2, if_neg (by omega)]; exact hV m q
  · rw [c2] at q
    unfold tH tN tK tA
    rw [c4, upd_n _ _ (by omega), upd_n _ _ (by omega), upd_n _ _ (by omega)]
    obtain ⟨g1, g2, g3, g4⟩ := hR i q
    refine ⟨g1, g2, g3, fun c hc => ?_⟩
    rw [upd_n _ _ (by omega)]
    exact g4 c hc
  · rw [c3] at q
    unfold tF tL tM
    rw [c5, upd_n _ _ (by omega), upd_n _ _ (by omega), upd_n _ _ (by omega)]
    exact hS s q
end RF
