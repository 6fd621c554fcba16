/-! ===== TablePager: errorPosition, load ===== -/
section PB
variable {l : Launch} {D : Nat} {I : am_I} {J : am_J} {P : am_P} {s : pt_G}
theorem isXT_c {t : Nat} {c : am_A} (h : isXT t c) : isC c := h.elim isC_X isC_T
theorem isX_H {c : am_A} (h : isH c) : ¬ isX c := by
  rcases h with q | ⟨k, _, _, q⟩
  · rw [q]; unfold isX; simp
  · exact isX_t q
theorem isX_Z {c : am_A} (h : isZ c) : ¬ isX c := by
  rcases h with q | q | q
  · rw [q]; unfold isX; simp
  · exact isX_t q
  · exact isX_t q
theorem isT_H {t : Nat} (ht : t = 0 ∨ 14 < t) {c : am_A} (h : isH c) : ¬ isT t c := by
  rcases h with q | ⟨k, h1, h2, q⟩
  · rw [q]; intro z; have := z.2; simp at this
  · exact isT_ne (by omega) q
theorem isT_Z {t : Nat} (ht : t < 15 ∨ 16 < t) {c : am_A} (h : isZ c) : ¬ isT t c := by
  rcases h with q | q | q
  · rw [q]; intro z; have := z.2; simp at this
  · exact isT_ne (by omega) q
  · exact isT_ne (by omega) q
theorem rC.v0 {t : Nat} {p : pt_T} (h : rC I t p) (hw : tW p) : I (17, t) 0 = nI 0 := by
  have := h.2.2.2 0 (by omega)
  rw [hw.2.2.2.1.1] at this
  exact this
/-- the scratch table was used, and the text's place -/
theorem st.scr {I' : am_I} {q : pt_T} (h : st I s) (hf : am_fr (isXT 17) I I') (hx : rX I' s.1) (hr : rC I' 17 q) (hw : tW q) : st I' s := by
  obtain ⟨h1, h2, h3, h4, h5, h6⟩ := h
  refine ⟨hx, h2.kept (fun c hc => hf c ?_), h3, h4.kept (fun c hc => hf c ?_), h5.kept (fun c hc => hf c ?_), hr.v0 hw⟩
  · exact fun z => z.elim (isX_t hc) (isT_ne (by omega) hc)
  · exact fun z => z.elim (isX_H hc) (isT_H (by omega) hc)
  · exact fun z => z.elim (isX_Z hc) (isT_Z (by omega) hc)
theorem s_P_errorPosition (hD : 6 ≤ D) (h : st I s) (k : ∀ I', am_fr isC I I' → st I' (q_error s).2 → P (ox [] (q_error s).1) am_G0 I' J) : am_T l D y_P_errorPosition [vR (0, 0)] am_G0 I J P := by
  obtain ⟨d, rfl⟩ : ∃ d, D = d + 1 := ⟨D - 1, by omega⟩
  refine en_P_errorPosition 20 (Nat.le_of_ble_eq_true rfl) ?_
  simp only [am_z, cq_P_errorPosition, Nat.reduceAdd]
  refine s_readInto (by omega) h.1 h.2.2.2.2.2 (fun I' q' hf ht hr hw _ => ?_)
  simp only [am_z, Nat.reduceAdd]
  refine rn_P_errorPosition 20 ?_
  simp only [am_z, cq_P_errorPosition, Nat.reduceAdd]
  exact k I' (hf.mono fun c => isXT_c) (h.scr hf ht.x hr hw)
end PB
