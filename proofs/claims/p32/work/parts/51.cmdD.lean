/-! ===== the class Command: runOn ===== -/
def tdo (g : Nat) (p : pt_T) : Option pt_T := if g / 10000 = 1 then tdo1 g p else if g / 10000 = 2 then tdo2 g p else if g / 10000 = 3 then tdo3 g p else if g / 10000 = 4 then tdo4 g p else if g / 10000 = 5 then tdo5 g p else if tholds g p = true then some p else none
theorem tdo_w {g : Nat} {p q : pt_T} (hw : tW p) (h : tdo g p = some q) : tW q := by
  unfold tdo at h
  split at h
  · unfold tdo1 at h
    split at h
    · rename_i c; rw [← Option.some.inj h]; exact tputR_w hw c.2.2.2.2 c.1.1 c.1.2 c.2.1
    · cases h
  · split at h
    · unfold tdo2 at h
      split at h
      · rename_i c; rw [← Option.some.inj h]; exact tsetA_w hw c.1 (by omega) (by omega)
      · cases h
    · split at h
      · unfold tdo3 at h
        split at h
        · rename_i c; rw [← Option.some.inj h]; exact tsetK_w hw c.1 c.2.1
        · cases h
      · split at h
        · unfold tdo4 at h
          split at h
          · rename_i c; rw [← Option.some.inj h]; exact tdropR_w hw c.1
          · cases h
        · split at h
          · unfold tdo5 at h
            split at h
            · rename_i c; rw [← Option.some.inj h]; exact tsetH_w hw c.1
            · cases h
          · split at h
            · rw [← Option.some.inj h]; exact hw
            · cases h
section CM
variable {l : Launch} {D t : Nat} {I : am_I} {J : am_J} {P : am_P} {p : pt_T} {g : Nat}
theorem s_runOn (hD : 6 ≤ D) (hk : rK I g) (hg : g < 100000) (hr : rC I t p) (hw : tW p) (k : ∀ I', am_fr (fun c => isT t c ∨ isY c) I I' → rC I' t ((tdo g p).getD p) → P (.inl (some (vI (nI (b01 (tdo g p).isSome))))) am_G0 I' J) : am_T l D y_Command_runOn [vR (1, 0), vR (7, t), vR (4, 0)] am_G0 I J P := by
  obtain ⟨d, rfl⟩ : ∃ d, D = d + 1 := ⟨D - 1, by omega⟩
  have b1 : ∀ o : Option pt_T, nI (b01 o.isSome) = nI 0 ∨ nI (b01 o.isSome) = nI 1 := fun o => by
    cases o.isSome
    · exact Or.inl rfl
    · exact Or.inr rfl
  have kk : ∀ o, tdo g p = o → ∀ I', am_fr (isT t) I I' → rC I' t (o.getD p) → P (.inl (some (vI (nI (b01 o.isSome))))) am_G0 I' J := fun o e I' hf hr' => by
    rw [← e] at hr' ⊢
    exact k I' (hf.mono fun c => Or.inl) hr'
  refine en_Command_runOn 60 (Nat.le_of_ble_eq_true rfl) ?_
  by_cases q1 : g / 10000 = 1
  · have e0 : I (1, 0) 0 = nI 1 := by rw [hk.1, q1]
    have ti : (nI 1).toInt = 1 := by decide +kernel
    have et : tdo g p = tdo1 g p := by unfold tdo; rw [if_pos q1]
    simp (disch := omega) only [am_z, cq_Command_runOn, Nat.reduceAdd, ar_lit, e0, ti, Int.reduceLT, Int.reduceSub, Int.reduceToNat, List.getElem?_cons_zero, List.getElem?_cons_succ, ↓reduceIte]
    refine s_addsRow (by omega) hk hr hw (fun I' hf hr' => ?_)
    simp only [am_z, Nat.reduceAdd]
    refine rn_Command_runOn 60 ?_
    simp only [am_z, cq_Command_runOn, Nat.reduceAdd]
    exact ⟨b1 _, kk _ et I' hf hr'⟩
  by_cases q2 : g / 10000 = 2
  · have e0 : I (1, 0) 0 = nI 2 := by rw [hk.1, q2]
    have ti : (nI 2).toInt = 2 := by decide +kernel
    have et : tdo g p = tdo2 g p := by unfold tdo; rw [if_neg q1, if_pos q2]
    simp (disch := omega) only [am_z, cq_Command_runOn, Nat.reduceAdd, ar_lit, e0, ti, Int.reduceLT, Int.reduceSub, Int.reduceToNat, List.getElem?_cons_zero, List.getElem?_cons_succ, ↓reduceIte]
    refine s_putsAmount (by omega) hk hr hw (fun I' hf hr' => ?_)
    simp only [am_z, Nat.reduceAdd]
    refine rn_Command_runOn 60 ?_
    simp only [am_z, cq_Command_runOn, Nat.reduceAdd]
    exact ⟨b1 _, kk _ et I' hf hr'⟩
  by_cases q3 : g / 10000 = 3
  · have e0 : I (1, 0) 0 = nI 3 := by rw [hk.1, q3]
    have ti : (nI 3).toInt = 3 := by decide +kernel
    have et : tdo g p = tdo3 g p := by unfold tdo; rw [if_neg q1, if_neg q2, if_pos q3]
    simp (disch := omega) only [am_z, cq_Command_runOn, Nat.reduceAdd, ar_lit, e0, ti, Int.reduceLT, Int.reduceSub, Int.reduceToNat, List.getElem?_cons_zero, List.getElem?_cons_succ, ↓reduceIte]
    refine s_marksRow (by omega) hk hr hw (fun I' hf hr' => ?_)
    simp only [am_z, Nat.reduceAdd]
    refine rn_Command_runOn 60 ?_
    simp only [am_z, cq_Command_runOn, Nat.reduceAdd]
    exact ⟨b1 _, kk _ et I' hf hr'⟩
  by_cases q4 : g / 10000 = 4
  · have e0 : I (1, 0) 0 = nI 4 := by rw [hk.1, q4]
    have ti : (nI 4).toInt = 4 := by decide +kernel
    have et : tdo g p = tdo4 g p := by unfold tdo; rw [if_neg q1, if_neg q2, if_neg q3, if_pos q4]
    simp (disch := omega) only [am_z, cq_Command_runOn, Nat.reduceAdd, ar_lit, e0, ti, Int.reduceLT, Int.reduceSub, Int.reduceToNat, List.getElem?_cons_zero, List.getElem?_cons_succ, ↓reduceIte]
    refine s_dropsRow (by omega) hk hr hw (fun I' hf hr' => ?_)
    simp only [am_z, Nat.reduceAdd]
    refine rn_Command_runOn 60 ?_
    simp only [am_z, cq_Command_runOn, Nat.reduceAdd]
    exact ⟨b1 _, kk _ et I' hf hr'⟩
  by_cases q5 : g / 10000 = 5
  · have e0 : I (1, 0) 0 = nI 5 := by rw [hk.1, q5]
    have ti : (nI 5).toInt = 5 := by decide +kernel
    have et : tdo g p = tdo5 g p := by unfold tdo; rw [if_neg q1, if_neg q2, if_neg q3, if_neg q4, if_pos q5]
    simp (disch := omega) only [am_z, cq_Command_runOn, Nat.reduceAdd, ar_lit, e0, ti, Int.reduceLT, Int.reduceSub, Int.reduceToNat, List.getElem?_cons_zero, List.getElem?_cons_succ, ↓reduceIte]
    refine s_putsHeight (by omega) hk hr (fun I' hf hr' => ?_)
    simp only [am_z, Nat.reduceAdd]
    refine rn_Command_runOn 60 ?_
    simp only [am_z, cq_Command_runOn, Nat.reduceAdd]
    exact ⟨b1 _, kk _ et I' hf hr'⟩
  have et : tdo g p = if tholds g p = true then some p else none := by unfold tdo; rw [if_neg q1, if_neg q2, if_neg q3, if_neg q4, if_neg q5]
  have fin : am_T l d y_Command_holds [vR (1, 0), vR (7, t), vR (4, 0)] am_G0 I J (am_k (am_X l (0, fun _ => 0) (d + 1) y_Command_runOn P) P 76 [some (vR (1, 0)), some (vR (7, t)), some (vR (4, 0))] [] 0 0) := by
    refine s_holds (by omega) hk hg hr hw (fun I' hf => ?_)
    have hr' : rC I' t p := hr.fr hf (fun c => isY_t)
    have kf := k I' (hf.mono fun c => Or.inr)
    rw [et] at kf
    simp only [am_z, Nat.reduceAdd]
    refine rn_Command_runOn 60 ?_
    simp only [am_z, cq_Command_runOn, Nat.reduceAdd]
    cases hh : tholds g p
    · rw [hh] at kf
      exact ⟨Or.inl rfl, kf hr'⟩
    · rw [hh] at kf
      exact ⟨Or.inr rfl, kf hr'⟩
  by_cases q0 : g / 10000 = 0
  · have e0 : I (1, 0) 0 = nI 0 := by rw [hk.1, q0]
    have ti : (nI 0).toInt = 0 := by decide +kernel
    simp (disch := omega) only [am_z, cq_Command_runOn, Nat.reduceAdd, ar_lit, e0, ti, Int.reduceLT, Int.reduceSub, Int.reduceToNat, List.getElem?_cons_zero, List.getElem?_cons_succ, ↓reduceIte]
    exact fin
  · have hq : g / 10000 = 6 ∨ g / 10000 = 7 ∨ g / 10000 = 8 ∨ g / 10000 = 9 := by omega
    rcases hq with q | q | q | q
    · have e0 : I (1, 0) 0 = nI 6 := by rw [hk.1, q]
      have ti : (nI 6).toInt = 6 := by decide +kernel
      simp (disch := omega) only [am_z, cq_Command_runOn, Nat.reduceAdd, ar_lit, e0, ti, Int.reduceLT, Int.reduceSub, Int.reduceToNat, List.getElem?_cons_zero, List.getElem?_cons_succ, ↓reduceIte, List.getElem?_nil]
      exact fin
    · have e0 : I (1, 0) 0 = nI 7 := by rw [hk.1, q]
      have ti : (nI 7).toInt = 7 := by decide +kernel
      simp (disch := omega) only [am_z, cq_Command_runOn, Nat.reduceAdd, ar_lit, e0, ti, Int.reduceLT, Int.reduceSub, Int.reduceToNat, List.getElem?_cons_zero, List.getElem?_cons_succ, ↓reduceIte, List.getElem?_nil]
      exact fin
    · have e0 : I (1, 0) 0 = nI 8 := by rw [hk.1, q]
      have ti : (nI 8).toInt = 8 := by decide +kernel
      simp (disch := omega) only [am_z, cq_Command_runOn, Nat.reduceAdd, ar_lit, e0, ti, Int.reduceLT, Int.reduceSub, Int.reduceToNat, List.getElem?_cons_zero, List.getElem?_cons_succ, ↓reduceIte, List.getElem?_nil]
      exact fin
    · have e0 : I (1, 0) 0 = nI 9 := by rw [hk.1, q]
      have ti : (nI 9).toInt = 9 := by decide +kernel
      simp (disch := omega) only [am_z, cq_Command_runOn, Nat.reduceAdd, ar_lit, e0, ti, Int.reduceLT, Int.reduceSub, Int.reduceToNat, List.getElem?_cons_zero, List.getElem?_cons_succ, ↓reduceIte, List.getElem?_nil]
      exact fin
end CM
