/-! ===== TablePager: load ===== -/
section PB
variable {l : Launch} {D : Nat} {I : am_I} {J : am_J} {P : am_P} {s : pt_G}
theorem pans_eq {r : Nat × Option pt_T} (h : r.1 < 1000) : (pans r = -999999) = (r.2.isSome = true) := by
  unfold pans
  cases r.2 with
  | none =>
    simp only [Option.isSome_none, Bool.false_eq_true, eq_iff_iff, iff_false]
    intro q
    have e : (nI r.1).toInt = -999999 := by rw [q]; decide +kernel
    rw [nI_toInt (by omega)] at e
    omega
  | some b => simp
theorem isC_3 : isC (3, 0) := Or.inl (by decide)
theorem isC_20 : isC (20, 0) := Or.inr ⟨by decide, by decide⟩
theorem s_P_load (hD : 6 ≤ D) (h : st I s) (k : ∀ I', am_fr isC I I' → st I' (q_load s).2 → P (ox [2] (q_load s).1) am_G0 I' J) : am_T l D y_P_load [vR (0, 0)] am_G0 I J P := by
  obtain ⟨d, rfl⟩ : ∃ d, D = d + 1 := ⟨D - 1, by omega⟩
  refine en_P_load 20 hD (Nat.le_of_ble_eq_true rfl) ?_
  simp only [am_z, cq_P_load, Nat.reduceAdd, Nat.zero_le, Nat.reduceLeDiff]
  refine s_readInto (by omega) h.1 h.2.2.2.2.2 (fun I1 q' f1 t1 r1 w1 e1 => ?_)
  have s1 : st I1 s := h.scr f1 t1.x r1 w1
  have hb : (ptext s.1).1 < 1000 := by have := t1.2.2.2.1; have := t1.2.2.2.2.2; omega
  have g1 : am_fr isC I I1 := f1.mono fun c => isXT_c
  unfold q_load at k
  simp only [am_z, Nat.reduceAdd]
  refine rn_P_load hD 20 ?_
  simp only [am_z, cq_P_load, Nat.reduceAdd, Nat.zero_le, Nat.reduceLeDiff, pans_eq hb]
  cases e : (ptext s.1).2 with
  | none =>
    rw [e] at k
    simp only [Option.isSome_none, Bool.false_eq_true, ↓reduceIte]
    exact k I1 g1 s1
  | some p =>
    rw [e] at k
    have := e1 p e
    subst this
    simp only [Option.isSome_some, ↓reduceIte]
    refine s_copyFrom (by omega) r1 w1 (by omega) (fun I2 f2 r2 => ?_)
    have hH2 : rH I2 s.2.2.1 := s1.2.2.2.1.kept fun c hc => f2 c (isT_H (by omega) hc)
    simp only [am_z, Nat.reduceAdd]
    refine rn_P_load hD 20 ?_
    simp only [am_z, cq_P_load, Nat.reduceAdd, Nat.zero_le, Nat.reduceLeDiff]
    refine s_forget (by omega) hH2 (fun I3 f3 hH3 => ?_)
    simp only [am_z, Nat.reduceAdd]
    refine rn_P_load hD 20 ?_
    simp only [am_z, cq_P_load, Nat.reduceAdd, Nat.zero_le, Nat.reduceLeDiff]
    refine s_empty (by omega) (fun I4 f4 hZ4 => ?_)
    have hT : ∀ {t : Nat} {c : am_A}, isT t c → I4 c = I2 c := fun {t c} hc => by
      rw [f4 c (fun e => by have := hc.2; rw [e] at this; simp at this), f3 c (fun e => by have := hc.2; rw [e] at this; simp at this)]
    have r4 : rC I4 0 q' := r2.kept fun c hc => hT hc
    simp only [am_z, Nat.reduceAdd]
    refine rn_P_load hD 20 ?_
    simp only [am_z, cq_P_load, Nat.reduceAdd, Nat.zero_le, Nat.reduceLeDiff, r4.1.2.1]
    refine k I4 (((g1.tr (f2.mono fun c => isC_T)).tr (f3.mono fun c hc => by rw [hc]; exact isC_3)).tr (f4.mono fun c hc => by rw [hc]; exact isC_20)) ⟨s1.1.kept ?_ ?_, r4, w1, hH3.kept (fun c hc => f4 c ?_), hZ4, ?_⟩
    · rw [f4 _ (by simp), f3 _ (by simp), f2 _ (fun q => by have := q.2; simp at this)]
    · rw [f4 _ (by simp), f3 _ (by simp), f2 _ (fun q => by have := q.2; simp at this)]
    · intro z
      rw [z] at hc
      rcases hc with q | ⟨_, _, _, q⟩
      · simp at q
      · have := q.2; simp at this
    · rw [f4 _ (by simp), f3 _ (by simp), f2 _ (fun q => by have := q.1; simp at this)]
      exact s1.2.2.2.2.2
end PB
