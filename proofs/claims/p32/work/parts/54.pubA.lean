/-! ===== TablePager: its calls, against values: the number of the exception among those listed (0: none), the answer, the state ===== -/
/-- how a call ends: K tells which exceptions it lists (1 IllegalArgument, 2 IllegalState, 3 IndexOutOfBounds) -/
def ox (K : List Nat) (r : Nat × Int32) : Option am_V ⊕ Nat := if r.1 = 0 then .inl (some (vI r.2)) else .inr (K.getD (r.1 - 1) 0)
def q_append (s : pt_G) (c : Int32) : (Nat × Int32) × pt_G := if 0 ≤ c.toInt ∧ c.toInt ≤ 255 then (if s.1.length < 160 then ((0, nI (s.1.length + 1)), (s.1 ++ [c.toInt.toNat], s.2)) else ((2, 0), s)) else ((1, 0), s)
def q_clear (s : pt_G) : (Nat × Int32) × pt_G := ((0, nI s.1.length), ([], s.2))
def q_error (s : pt_G) : (Nat × Int32) × pt_G := ((0, pans (ptext s.1)), s)
def q_load (s : pt_G) : (Nat × Int32) × pt_G := match (ptext s.1).2 with
  | none => ((1, 0), s)
  | some p => ((0, nI (tn p)), (s.1, p, [], fun _ => none))
section PB
variable {l : Launch} {D : Nat} {I : am_I} {J : am_J} {P : am_P} {s : pt_G}
theorem ar_nat {x : Int32} (h : 0 ≤ x.toInt) : x = nI x.toInt.toNat := by
  have h2 := Int32.toInt_lt x
  rw [ar_eqI (by omega)]
  omega
theorem isW_T {t : Nat} {c : am_A} (h : isT t c) : ¬ isW c := by
  intro q
  have := h.2
  rcases q with q | q <;> rw [q] at this <;> simp at this
theorem isW_H {c : am_A} (h : isH c) : ¬ isW c := by
  rcases h with q | ⟨k, _, _, q⟩
  · rw [q]; unfold isW; simp
  · exact isW_T q
theorem isW_Z {c : am_A} (h : isZ c) : ¬ isW c := by
  rcases h with q | q | q
  · rw [q]; unfold isW; simp
  · exact isW_T q
  · exact isW_T q
theorem s_P_append {c : Int32} (hD : 6 ≤ D) (h : st I s) (k : ∀ I', am_fr isC I I' → st I' (q_append s c).2 → P (ox [1, 2] (q_append s c).1) am_G0 I' J) : am_T l D y_P_append [vR (0, 0), vI c] am_G0 I J P := by
  obtain ⟨d, rfl⟩ : ∃ d, D = d + 1 := ⟨D - 1, by omega⟩
  obtain ⟨h1, h2, h3, h4, h5, h6⟩ := id h
  unfold q_append at k
  refine en_P_append 20 hD (Nat.le_of_ble_eq_true rfl) ?_
  simp (disch := omega) only [am_z, cq_P_append, Nat.reduceAdd, Nat.zero_le, Nat.reduceLeDiff, ar_lit, ar_ltI, ar_geI]
  by_cases q1 : c.toInt < 0
  · rw [if_pos (by omega)]
    rw [if_neg (by omega)] at k
    exact k I am_fr.rf h
  · rw [if_neg (by omega)]
    by_cases q2 : c.toInt ≤ 255
    · rw [if_pos (by omega)]
      rw [if_pos (by omega)] at k
      refine s_textFull (by omega) h1 (fun q => ?_) (fun q => ?_)
      · rw [if_pos q] at k
        simp only [am_z, Nat.reduceAdd]
        refine rn_P_append hD 20 ?_
        have hc : c = nI c.toInt.toNat := ar_nat (by omega)
        have hcc : (c.toUInt32 % 65536).toInt32 = nI c.toInt.toNat := by
          have := (sb_byte c.toInt.toNat (by omega)).2.1
          rw [← hc] at this
          rw [this]
          exact hc
        simp (disch := omega) only [am_z, cq_P_append, Nat.reduceAdd, Nat.zero_le, Nat.reduceLeDiff, ar_lit, ↓reduceIte, hcc]
        refine s_textPut (by omega) h1 (by omega) q (fun I' hf ht => ?_)
        simp only [am_z, Nat.reduceAdd]
        refine rn_P_append hD 20 ?_
        simp only [am_z, cq_P_append, Nat.reduceAdd, ht.1]
        have kk : ∀ c, isO c → ¬ c = (8, 0) → ¬ c = (24, 0) → I' c = I c := fun c _ n1 n2 => hf c (fun q => q.elim n1 n2)
        have e : (s.1 ++ [c.toInt.toNat]).length = s.1.length + 1 := by simp
        rw [e]
        refine k I' (hf.mono fun c => isC_W) ⟨ht, h2.kept (fun c hc => ?_), h3, h4.kept (fun c hc => ?_), h5.kept (fun c hc => ?_), ?_⟩
        · exact hf c (isW_T hc)
        · exact hf c (isW_H hc)
        · exact hf c (isW_Z hc)
        · rw [hf (17, 17) (by unfold isW; simp)]; exact h6
      · rw [if_neg (by omega)] at k
        simp only [am_z, Nat.reduceAdd]
        refine rn_P_append hD 20 ?_
        simp (disch := omega) only [am_z, cq_P_append, Nat.reduceAdd, Nat.zero_le, Nat.reduceLeDiff, ar_lit, ar_eq, Nat.reduceEqDiff, ↓reduceIte]
        exact k I am_fr.rf h
    · rw [if_neg (by omega)]
      rw [if_neg (by omega)] at k
      exact k I am_fr.rf h
theorem s_P_clearText (hD : 1 ≤ D) (h : st I s) (k : ∀ I', am_fr isC I I' → st I' (q_clear s).2 → P (ox [] (q_clear s).1) am_G0 I' J) : am_T l D y_P_clearText [vR (0, 0)] am_G0 I J P := by
  obtain ⟨d, rfl⟩ : ∃ d, D = d + 1 := ⟨D - 1, by omega⟩
  obtain ⟨h1, h2, h3, h4, h5, h6⟩ := id h
  refine en_P_clearText 20 (Nat.le_of_ble_eq_true rfl) ?_
  simp only [am_z, cq_P_clearText, Nat.reduceAdd, ar_lit, h1.1]
  have ne : ∀ c, ¬ isW c → am_upI I (8, 0) 1 (nI 0) c = I c := fun c q => am_upI_ne fun e => q (Or.inl e)
  refine k _ (am_fr.up am_fr.rf (isC_W (Or.inl rfl))) ⟨⟨?_, fun j hj => absurd hj (Nat.not_lt_zero _), by simp [q_clear], fun c hc => by cases hc⟩, h2.kept (fun c hc => ne c (isW_T hc)), h3, h4.kept (fun c hc => ne c (isW_H hc)), h5.kept (fun c hc => ne c (isW_Z hc)), ?_⟩
  · rw [am_uE, upd_e]; rfl
  · rw [ne (17, 17) (by unfold isW; simp)]; exact h6
end PB
