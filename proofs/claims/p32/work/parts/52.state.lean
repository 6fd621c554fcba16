/-! ===== the state of the class as one value ===== -/
/-- the text, the table, the remembered states, the save slots -/
abbrev pt_G : Type := List Nat × pt_T × List pt_T × (Nat → Option pt_T)
def isC (c : am_A) : Prop := c.1 < 9 ∨ (10 ≤ c.1 ∧ c.1 ≤ 24)
def st (I : am_I) (s : pt_G) : Prop := rX I s.1 ∧ rC I 0 s.2.1 ∧ tW s.2.1 ∧ rH I s.2.2.1 ∧ rZ I s.2.2.2 ∧ I (17, 17) 0 = nI 0
theorem isC_T {t : Nat} {c : am_A} (h : isT t c) : isC c := by
  rcases h.2 with q | q
  · exact Or.inl (by omega)
  · exact Or.inr (by omega)
theorem isC_Y {c : am_A} (h : isY c) : isC c := by
  rcases h with q | q | q <;> rw [q] <;> unfold isC <;> simp
theorem isC_S {s : Nat} {c : am_A} (h : isS s c) : isC c := by
  unfold isS at h
  rw [h]; unfold isC; simp
theorem isC_V {c : am_A} (h : isV c) : isC c := by
  rcases h with q | q | q <;> rw [q] <;> unfold isC <;> simp
theorem isC_H {c : am_A} (h : isH c) : isC c := by
  rcases h with q | ⟨k, _, _, q⟩
  · rw [q]; unfold isC; simp
  · exact isC_T q
theorem isC_Z {c : am_A} (h : isZ c) : isC c := by
  rcases h with q | q | q
  · rw [q]; unfold isC; simp
  · exact isC_T q
  · exact isC_T q
theorem isC_X {c : am_A} (h : isX c) : isC c := by
  unfold isX at h
  rw [h]; unfold isC; simp
theorem isC_W {c : am_A} (h : isW c) : isC c := by
  rcases h with q | q <;> rw [q] <;> unfold isC <;> simp
/-- the cells that hold the state -/
def isO (c : am_A) : Prop := c = (8, 0) ∨ c = (24, 0) ∨ isT 0 c ∨ isH c ∨ isZ c ∨ c = (17, 17)
theorem st.kept {I I' : am_I} {s : pt_G} (h : st I s) (hk : ∀ c, isO c → I' c = I c) : st I' s := by
  obtain ⟨h1, h2, h3, h4, h5, h6⟩ := h
  refine ⟨h1.kept (hk _ (Or.inl rfl)) (hk _ (Or.inr (Or.inl rfl))), h2.kept (fun c hc => hk c (Or.inr (Or.inr (Or.inl hc)))), h3, h4.kept (fun c hc => hk c (Or.inr (Or.inr (Or.inr (Or.inl hc))))), h5.kept (fun c hc => hk c (Or.inr (Or.inr (Or.inr (Or.inr (Or.inl hc)))))), ?_⟩
  rw [hk _ (Or.inr (Or.inr (Or.inr (Or.inr (Or.inr rfl)))))]
  exact h6
theorem isO_Y {c : am_A} (h : isO c) : ¬ isY c := by
  have tt : ∀ t, isT t c → ¬ isY c := fun t ht => isY_t ht
  rcases h with q | q | q | q | q | q
  · rw [q]; unfold isY; simp
  · rw [q]; unfold isY; simp
  · exact tt _ q
  · rcases q with q | ⟨k, _, _, q⟩
    · rw [q]; unfold isY; simp
    · exact tt _ q
  · rcases q with q | q | q
    · rw [q]; unfold isY; simp
    · exact tt _ q
    · exact tt _ q
  · rw [q]; unfold isY; simp
theorem isO_V {c : am_A} (h : isO c) : ¬ isV c := by
  have tt : ∀ t, isT t c → ¬ isV c := fun t ht => isV_t ht
  rcases h with q | q | q | q | q | q
  · rw [q]; unfold isV; simp
  · rw [q]; unfold isV; simp
  · exact tt _ q
  · rcases q with q | ⟨k, _, _, q⟩
    · rw [q]; unfold isV; simp
    · exact tt _ q
  · rcases q with q | q | q
    · rw [q]; unfold isV; simp
    · exact tt _ q
    · exact tt _ q
  · rw [q]; unfold isV; simp
theorem st.frY {I I' : am_I} {s : pt_G} (h : st I s) (hf : am_fr isY I I') : st I' s := h.kept fun c hc => hf c (isO_Y hc)
theorem st.frV {I I' : am_I} {s : pt_G} (h : st I s) (hf : am_fr isV I I') : st I' s := h.kept fun c hc => hf c (isO_V hc)
theorem st.frS {I I' : am_I} {s : pt_G} (h : st I s) (hf : am_fr (isS 0) I I') : st I' s := h.frY (hf.mono fun c q => by unfold isS at q; rw [q]; exact isY_5)
