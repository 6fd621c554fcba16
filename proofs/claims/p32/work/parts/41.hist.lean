/-! ===== the classes History and Slots ===== -/
theorem am_R18 (k : Nat) (h : k < 14) : am_R0 (18, 0) k = some (7, k + 1) := if_pos h
theorem am_R19 (k : Nat) (h : k < 2) : am_R0 (19, 0) k = some (7, k + 15) := if_pos h
/-- the remembered states, the latest first -/
def rH (I : am_I) (L : List pt_T) : Prop := ∃ nx, nx < 14 ∧ I (3, 0) 1 = nI nx ∧ I (3, 0) 2 = nI L.length ∧ L.length ≤ 14 ∧ ∀ i, i < L.length → rC I ((nx + 13 - i) % 14 + 1) (L.getD i tnew) ∧ tW (L.getD i tnew)
def isH (c : am_A) : Prop := c = (3, 0) ∨ ∃ k, 1 ≤ k ∧ k ≤ 14 ∧ isT k c
theorem isH_3 : isH (3, 0) := Or.inl rfl
theorem isH_t {k : Nat} (h1 : 1 ≤ k) (h2 : k ≤ 14) {c : am_A} (h : isT k c) : isH c := Or.inr ⟨k, h1, h2, h⟩
theorem isT_ne {t u : Nat} (h : ¬ t = u) {c : am_A} (hc : isT t c) : ¬ isT u c := fun q => h (hc.1.symm.trans q.1)
section HS
variable {l : Launch} {D t : Nat} {I : am_I} {J : am_J} {P : am_P} {p : pt_T} {L : List pt_T}
theorem rH.kept {I' : am_I} (h : rH I L) (hk : ∀ c, isH c → I' c = I c) : rH I' L := by
  obtain ⟨nx, h1, h2, h3, h4, h5⟩ := h
  refine ⟨nx, h1, ?_, ?_, h4, fun i hi => ?_⟩
  · rw [hk _ isH_3]; exact h2
  · rw [hk _ isH_3]; exact h3
  · obtain ⟨g1, g2⟩ := h5 i hi
    exact ⟨g1.kept fun c hc => hk c (isH_t (by omega) (by have := Nat.mod_lt (nx + 13 - i) (show 0 < 14 by omega); omega) hc), g2⟩
theorem s_forget (hD : 1 ≤ D) (h : rH I L) (k : ∀ I', am_fr (fun c => c = (3, 0)) I I' → rH I' [] → P (.inl none) am_G0 I' J) : am_T l D y_History_forget [vR (3, 0)] am_G0 I J P := by
  obtain ⟨d, rfl⟩ : ∃ d, D = d + 1 := ⟨D - 1, by omega⟩
  obtain ⟨nx, h1, h2, _⟩ := h
  refine en_History_forget 20 (Nat.le_of_ble_eq_true rfl) ?_
  simp only [am_z, cq_History_forget, Nat.reduceAdd, ar_lit]
  refine k _ (fun c hc => am_upI_ne hc) ⟨nx, h1, ?_, ?_, by simp, fun i hi => absurd hi (Nat.not_lt_zero _)⟩
  · rw [am_uE, upd_n _ _ (by omega)]; exact h2
  · rw [am_uE, upd_e]; rfl
theorem s_remember (hD : 2 ≤ D) (h : rH I L) (hr : rC I t p) (hw : tW p) (ht : t = 0 ∨ 14 < t) (k : ∀ I', am_fr isH I I' → rH I' ((p :: L).take 14) → P (.inl none) am_G0 I' J) : am_T l D y_History_remember [vR (3, 0), vR (7, t)] am_G0 I J P := by
  obtain ⟨d, rfl⟩ : ∃ d, D = d + 1 := ⟨D - 1, by omega⟩
  obtain ⟨nx, h1, h2, h3, h4, h5⟩ := h
  refine en_History_remember 20 (Nat.le_of_ble_eq_true rfl) ?_
  simp (disch := omega) only [am_z, cq_History_remember, Nat.reduceAdd, ar_lit, h2, ar_in, ar_cl, am_R18, h1]
  refine s_copyFrom (by omega) hr hw (by omega) (fun I' hf hr' => ?_)
  have e3 : I' (3, 0) = I (3, 0) := hf _ (fun q => by have := q.2; simp at this)
  simp only [am_z, Nat.reduceAdd]
  refine rn_History_remember 60 ?_
  simp (disch := omega) only [am_z, cq_History_remember, Nat.reduceAdd, ar_lit, e3, h2, h3, am_uE, upd_n, upd_e, nI_add, ar_mod, ar_lt, ar_eq, Nat.reduceEqDiff, not_false_eq_true, List.length_nil, Nat.zero_le]
  refine ⟨by simp, k _ ?_ ⟨(nx + 1) % 14, by omega, ?_, ?_, ?_, fun i hi => ?_⟩⟩
  · exact am_fr.up (am_fr.up (hf.mono (fun c hc => isH_t (by omega) (by omega) hc)) isH_3) isH_3
  · simp (disch := omega) only [am_uE, upd_n, upd_e]
  · rw [am_uE, upd_e, List.length_take]
    show (if 14 < L.length + 1 then nI 14 else nI (L.length + 1)) = nI (min 14 (L.length + 1))
    split
    · rw [show min 14 (L.length + 1) = 14 by omega]
    · rw [show min 14 (L.length + 1) = L.length + 1 by omega]
  · rw [List.length_take]; omega
  · rw [List.length_take] at hi
    have hi' : i < 14 ∧ i < L.length + 1 := by
      have : (p :: L).length = L.length + 1 := rfl
      omega
    have eg : ((p :: L).take 14).getD i tnew = (p :: L).getD i tnew := by
      rw [List.getD_eq_getElem?_getD, List.getD_eq_getElem?_getD, List.getElem?_take_of_lt hi'.1]
    rw [eg]
    have kp : ∀ u q, rC I' u q → rC (am_upI (am_upI I' (3, 0) 1 (nI ((nx + 1) % 14))) (3, 0) 2 (if 14 < L.length + 1 then nI 14 else nI (L.length + 1))) u q := fun u q h => h.kept fun c hc => by
      have hne : ¬ c = (3, 0) := fun e => by have := hc.2; rw [e] at this; simp at this
      rw [am_upI_ne hne, am_upI_ne hne]
    cases i with
    | zero =>
      refine ⟨kp _ _ ?_, hw⟩
      rw [show ((nx + 1) % 14 + 13 - 0) % 14 + 1 = nx + 1 by omega]
      exact hr'
    | succ i =>
      obtain ⟨g1, g2⟩ := h5 i (by omega)
      refine ⟨kp _ _ ?_, g2⟩
      rw [show ((nx + 1) % 14 + 13 - (i + 1)) % 14 + 1 = (nx + 13 - i) % 14 + 1 by omega]
      exact g1.fr hf (fun c hc => isT_ne (by omega) hc)
theorem s_takeBack (hD : 2 ≤ D) (h : rH I (p :: L)) (ht : t = 0 ∨ 14 < t) (k : ∀ I', am_fr (fun c => c = (3, 0) ∨ isT t c) I I' → rH I' L → rC I' t p → tW p → P (.inl none) am_G0 I' J) : am_T l D y_History_takeBack [vR (3, 0), vR (7, t)] am_G0 I J P := by
  obtain ⟨d, rfl⟩ : ∃ d, D = d + 1 := ⟨D - 1, by omega⟩
  obtain ⟨nx, h1, h2, h3, h4, h5⟩ := h
  rw [List.length_cons] at h3 h4
  have hb : (nx + 13) % 14 < 14 := by omega
  refine en_History_takeBack 60 (Nat.le_of_ble_eq_true rfl) ?_
  simp (disch := omega) only [am_z, cq_History_takeBack, Nat.reduceAdd, ar_lit, h2, h3, am_uE, upd_n, upd_e, nI_add, ar_sub, show nx + 14 - 1 = nx + 13 by omega, ar_mod, ar_eq, Nat.reduceEqDiff, not_false_eq_true, ar_in, ar_cl, hb, am_R18, Nat.add_sub_cancel]
  obtain ⟨g1, g2⟩ := h5 0 (by simp)
  have kp : ∀ u q, rC I u q → rC (am_upI (am_upI I (3, 0) 1 (nI ((nx + 13) % 14))) (3, 0) 2 (nI L.length)) u q := fun u q h => h.kept fun c hc => by
    have hne : ¬ c = (3, 0) := fun e => by have := hc.2; rw [e] at this; simp at this
    rw [am_upI_ne hne, am_upI_ne hne]
  refine s_copyFrom (by omega) (kp _ _ g1) g2 (by omega) (fun I' hf hr' => ?_)
  simp only [am_z, Nat.reduceAdd]
  refine rn_History_takeBack 60 ?_
  simp only [am_z, cq_History_takeBack, Nat.reduceAdd]
  have e3 : I' (3, 0) = _ := hf (3, 0) (fun q => by have := q.2; simp at this)
  refine k I' ?_ ⟨(nx + 13) % 14, hb, ?_, ?_, by omega, fun i hi => ?_⟩ hr' g2
  · exact (am_fr.up (am_fr.up am_fr.rf (Or.inl rfl)) (Or.inl rfl)).tr (hf.mono fun c hc => Or.inr hc)
  · rw [e3]
    simp (disch := omega) only [am_uE, upd_n, upd_e]
  · rw [e3]
    simp (disch := omega) only [am_uE, upd_n, upd_e]
  · obtain ⟨q1, q2⟩ := h5 (i + 1) (by rw [List.length_cons]; omega)
    refine ⟨?_, q2⟩
    rw [show ((nx + 13) % 14 + 13 - i) % 14 + 1 = (nx + 13 - (i + 1)) % 14 + 1 by omega]
    refine (kp _ _ q1).fr hf (fun c hc => isT_ne ?_ hc)
    have := Nat.mod_lt (nx + 13 - (i + 1)) (show 0 < 14 by omega)
    omega
/-- the save slots -/
def rZ (I : am_I) (z : Nat → Option pt_T) : Prop := ∀ k, k < 2 → I (20, 0) k = nI (b01 (z k).isSome) ∧ ∀ q, z k = some q → rC I (k + 15) q ∧ tW q
def isZ (c : am_A) : Prop := c = (20, 0) ∨ isT 15 c ∨ isT 16 c
theorem isZ_t {k : Nat} (h : k < 2) {c : am_A} (hc : isT (k + 15) c) : isZ c := by
  rcases (show k = 0 ∨ k = 1 by omega) with rfl | rfl
  · exact Or.inr (Or.inl hc)
  · exact Or.inr (Or.inr hc)
theorem rZ.kept {I' : am_I} {z : Nat → Option pt_T} (h : rZ I z) (hk : ∀ c, isZ c → I' c = I c) : rZ I' z := fun k hkk => by
  obtain ⟨h1, h2⟩ := h k hkk
  refine ⟨by rw [hk _ (Or.inl rfl)]; exact h1, fun q hq => ?_⟩
  obtain ⟨g1, g2⟩ := h2 q hq
  exact ⟨g1.kept fun c hc => hk c (isZ_t hkk hc), g2⟩
theorem s_empty (hD : 1 ≤ D) (k : ∀ I', am_fr (fun c => c = (20, 0)) I I' → rZ I' (fun _ => none) → P (.inl none) am_G0 I' J) : am_T l D y_Slots_empty [vR (6, 0)] am_G0 I J P := by
  obtain ⟨d, rfl⟩ : ∃ d, D = d + 1 := ⟨D - 1, by omega⟩
  have loop : ∀ m j I', j + m = 2 → am_fr (fun c => c = (20, 0)) I I' → (∀ i, i < j → I' (20, 0) i = nI 0) → am_X l (0, fun _ => 0) (d + 1) y_Slots_empty P 2 [some (vR (6, 0)), some (vI (nI j))] [] 0 0 am_G0 I' J := by
    intro m
    induction m with
    | zero =>
      intro j I' hj hf hz
      have : j = 2 := by omega
      subst this
      refine rn_Slots_empty 20 ?_
      simp (disch := omega) only [am_z, cq_Slots_empty, Nat.reduceAdd, ar_lit, ar_le, ↓reduceIte]
      exact k I' hf (fun i hi => ⟨hz i hi, fun q hq => by cases hq⟩)
    | succ m ih =>
      intro j I' hj hf hz
      refine rn_Slots_empty 20 ?_
      simp (disch := omega) only [am_z, cq_Slots_empty, Nat.reduceAdd, ar_lit, ar_le, ar_in, ar_cl, nI_add, nar_b]
      rw [if_neg (by omega)]
      refine ⟨by omega, @ih (j + 1) _ (by omega) (fun c hc => (am_upI_ne hc).trans (hf c hc)) (fun i hi => ?_)⟩
      rw [am_uE, upd_at]
      split
      · rfl
      · exact hz i (by omega)
  refine en_Slots_empty 20 (Nat.le_of_ble_eq_true rfl) ?_
  simp only [am_z, cq_Slots_empty, Nat.reduceAdd, ar_lit]
  exact @loop 2 0 I rfl am_fr.rf (fun i hi => absurd hi (Nat.not_lt_zero _))
theorem s_isFilled {z : Nat → Option pt_T} {i : Nat} (hD : 1 ≤ D) (h : rZ I z) (hi : i < 2) (k : P (.inl (some (vI (nI (b01 (z i).isSome))))) am_G0 I J) : am_T l D y_Slots_isFilled [vR (6, 0), vI (nI i)] am_G0 I J P := by
  obtain ⟨d, rfl⟩ : ∃ d, D = d + 1 := ⟨D - 1, by omega⟩
  refine en_Slots_isFilled 20 (Nat.le_of_ble_eq_true rfl) ?_
  simp (disch := omega) only [am_z, cq_Slots_isFilled, Nat.reduceAdd, ar_lit, ar_in, ar_cl, (h i hi).1]
  refine ⟨hi, ?_, k⟩
  cases (z i).isSome
  · exact Or.inl rfl
  · exact Or.inr rfl
theorem s_put {z : Nat → Option pt_T} {i : Nat} (hD : 2 ≤ D) (h : rZ I z) (hi : i < 2) (hr : rC I 0 p) (hw : tW p) (k : ∀ I', am_fr isZ I I' → rZ I' (fun j => if j = i then some p else z j) → P (.inl none) am_G0 I' J) : am_T l D y_Slots_put [vR (6, 0), vI (nI i), vR (7, 0)] am_G0 I J P := by
  obtain ⟨d, rfl⟩ : ∃ d, D = d + 1 := ⟨D - 1, by omega⟩
  refine en_Slots_put 20 (Nat.le_of_ble_eq_true rfl) ?_
  simp (disch := omega) only [am_z, cq_Slots_put, Nat.reduceAdd, ar_lit, ar_in, ar_cl, hi, am_R19]
  refine s_copyFrom (by omega) hr hw (by omega) (fun I' hf hr' => ?_)
  have e20 : I' (20, 0) = I (20, 0) := hf _ (fun q => by have := q.2; simp at this)
  simp only [am_z, Nat.reduceAdd]
  refine rn_Slots_put 20 ?_
  simp (disch := omega) only [am_z, cq_Slots_put, Nat.reduceAdd, ar_lit, ar_in, ar_cl, hi, nar_b]
  have kp : ∀ u q, rC I' u q → rC (am_upI I' (20, 0) i (nI 1)) u q := fun u q h => h.kept fun c hc => by
    have hne : ¬ c = (20, 0) := fun e => by have := hc.2; rw [e] at this; simp at this
    rw [am_upI_ne hne]
  refine k _ (am_fr.up (hf.mono fun c hc => isZ_t hi hc) (Or.inl rfl)) (fun j hj => ?_)
  rw [am_uE, upd_at, e20]
  show _ = nI (b01 (if j = i then some p else z j).isSome) ∧ ∀ q, (if j = i then some p else z j) = some q → rC (am_upI I' (20, 0) i (nI 1)) (j + 15) q ∧ tW q
  by_cases q : j = i
  · simp only [if_pos q]
    refine ⟨rfl, fun q' hq' => ?_⟩
    cases hq'
    subst q
    exact ⟨kp _ _ hr', hw⟩
  · simp only [if_neg q]
    refine ⟨(h j hj).1, fun q' hq' => ?_⟩
    obtain ⟨g1, g2⟩ := (h j hj).2 q' hq'
    exact ⟨kp _ _ (g1.fr hf fun c hc => isT_ne (by omega) hc), g2⟩
theorem s_copyTo {z : Nat → Option pt_T} {i : Nat} (hD : 2 ≤ D) (h : rZ I z) (hi : i < 2) (hz : z i = some p) (k : ∀ I', am_fr (isT 0) I I' → rC I' 0 p → tW p → P (.inl none) am_G0 I' J) : am_T l D y_Slots_copyTo [vR (6, 0), vI (nI i), vR (7, 0)] am_G0 I J P := by
  obtain ⟨d, rfl⟩ : ∃ d, D = d + 1 := ⟨D - 1, by omega⟩
  obtain ⟨g1, g2⟩ := (h i hi).2 p hz
  refine en_Slots_copyTo 20 (Nat.le_of_ble_eq_true rfl) ?_
  simp (disch := omega) only [am_z, cq_Slots_copyTo, Nat.reduceAdd, ar_lit, ar_in, ar_cl, hi, am_R19]
  refine s_copyFrom (by omega) g1 g2 (by omega) (fun I' hf hr' => ?_)
  simp only [am_z, Nat.reduceAdd]
  refine rn_Slots_copyTo 20 ?_
  simp only [am_z, cq_Slots_copyTo, Nat.reduceAdd]
  exact k I' hf hr' g2
end HS
