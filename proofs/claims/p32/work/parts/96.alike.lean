/-! ===== the law: two tables alike ===== -/
theorem al_lit : (30 : Int32) = nI 30 ∧ (60 : Int32) = nI 60 ∧ (83003 : Int32) = nI 83003 := ⟨rfl, rfl, rfl⟩
section AL
variable {l : Launch} {D : Nat} {I : am_I} {J : am_J} {P : am_P} {s : pt_G} {X : Nat}
theorem s_L_alike (hD : 10 ≤ D) (hb : bt I s s) (k : ∀ I' J', bt I' s s → P (.inl (some (vI (nI 1)))) am_G2 I' J') : am_T l D y_L_alike [vR (0, 32), vR (0, 0), vI (nI X)] am_G2 I J P := by
  obtain ⟨d, rfl⟩ : ∃ d, D = d + 1 := ⟨D - 1, by omega⟩
  refine en_L_alike 60 (Nat.le_of_ble_eq_true rfl) ?_
  simp (disch := omega) only [am_z, cq_L_alike, Nat.reduceAdd, Nat.zero_le, Nat.reduceLeDiff, ar_lit, leT]
  refine two_p (s' := s) (o := .inl (some (vL (nowv s.2.1)))) hb (by exact trivial) fa_nil (fun _ _ => rfl) (fun I J P' h k => s_L_now (by omega) h k) (fun I1 J1 hb => ?_)
  simp only [am_z, Nat.reduceAdd, Nat.zero_le, Nat.reduceLeDiff]
  refine rn_L_alike 60 ?_
  simp (disch := omega) only [am_z, cq_L_alike, Nat.reduceAdd, Nat.zero_le, Nat.reduceLeDiff, ar_lit, al_lit, ac_lit, ar_eq, Nat.reduceEqDiff, not_false_eq_true, am_tt, leT, lc_eq, ↓reduceIte]
  refine two_q (s' := s) (o := .inl (some (vL (nowv s.2.1)))) hb (by exact trivial) fa_nil (fun _ _ => rfl) (fun I J P' h k => s_L_now (by omega) h k) (fun I2 J2 hb => ?_)
  simp only [am_z, Nat.reduceAdd, Nat.zero_le, Nat.reduceLeDiff]
  refine rn_L_alike 60 ?_
  simp (disch := omega) only [am_z, cq_L_alike, Nat.reduceAdd, Nat.zero_le, Nat.reduceLeDiff, ar_lit, al_lit, ac_lit, ar_eq, Nat.reduceEqDiff, not_false_eq_true, am_tt, leT, lc_eq, ↓reduceIte]
  refine two_p (s' := s) (o := .inl (some (vI (pans (ptext s.1))))) hb (by exact trivial) fa_nil (fun _ _ => rfl) (fun I J P' h k => s_P_errorPosition (by omega) h (fun I' _ h' => k I' h')) (fun I3 J3 hb => ?_)
  simp only [am_z, Nat.reduceAdd, Nat.zero_le, Nat.reduceLeDiff]
  refine rn_L_alike 60 ?_
  simp (disch := omega) only [am_z, cq_L_alike, Nat.reduceAdd, Nat.zero_le, Nat.reduceLeDiff, ar_lit, al_lit, ac_lit, ar_eq, Nat.reduceEqDiff, not_false_eq_true, am_tt, leT, lc_eq, ↓reduceIte]
  refine two_q (s' := s) (o := .inl (some (vI (pans (ptext s.1))))) hb (by exact trivial) fa_nil (fun _ _ => rfl) (fun I J P' h k => s_P_errorPosition (by omega) h (fun I' _ h' => k I' h')) (fun I4 J4 hb => ?_)
  simp only [am_z, Nat.reduceAdd, Nat.zero_le, Nat.reduceLeDiff]
  refine rn_L_alike 60 ?_
  simp (disch := omega) only [am_z, cq_L_alike, Nat.reduceAdd, Nat.zero_le, Nat.reduceLeDiff, ar_lit, al_lit, ac_lit, ar_eq, Nat.reduceEqDiff, not_false_eq_true, am_tt, leT, lc_eq, ↓reduceIte]
  refine two_p (s' := s) (o := .inl (some (vI (nI (tC0 s.2.1 0))))) hb (by exact trivial) fa_nil (fun _ _ => rfl) (fun I J P' h k => s_P_evenest (by omega) h (fun I' _ h' => k I' h')) (fun I5 J5 hb => ?_)
  simp only [am_z, Nat.reduceAdd, Nat.zero_le, Nat.reduceLeDiff]
  refine rn_L_alike 60 ?_
  simp (disch := omega) only [am_z, cq_L_alike, Nat.reduceAdd, Nat.zero_le, Nat.reduceLeDiff, ar_lit, al_lit, ac_lit, ar_eq, Nat.reduceEqDiff, not_false_eq_true, am_tt, leT, lc_eq, ↓reduceIte]
  refine two_q (s' := s) (o := .inl (some (vI (nI (tC0 s.2.1 0))))) hb (by exact trivial) fa_nil (fun _ _ => rfl) (fun I J P' h k => s_P_evenest (by omega) h (fun I' _ h' => k I' h')) (fun I6 J6 hb => ?_)
  simp only [am_z, Nat.reduceAdd, Nat.zero_le, Nat.reduceLeDiff]
  refine rn_L_alike 60 ?_
  simp (disch := omega) only [am_z, cq_L_alike, Nat.reduceAdd, Nat.zero_le, Nat.reduceLeDiff, ar_lit, al_lit, ac_lit, ar_eq, Nat.reduceEqDiff, not_false_eq_true, am_tt, leT, lc_eq, ↓reduceIte]
  refine two_p (s' := s) (o := .inl (some (vL _))) hb (by exact trivial) (fa_cons trivial fa_nil) (fun _ _ => rfl) (fun I J P' h k => s_L_evenCut (by omega) h k) (fun I7 J7 hb => ?_)
  simp only [am_z, Nat.reduceAdd, Nat.zero_le, Nat.reduceLeDiff]
  refine rn_L_alike 60 ?_
  simp (disch := omega) only [am_z, cq_L_alike, Nat.reduceAdd, Nat.zero_le, Nat.reduceLeDiff, ar_lit, al_lit, ac_lit, ar_eq, Nat.reduceEqDiff, not_false_eq_true, am_tt, leT, lc_eq, ↓reduceIte]
  refine two_q (s' := s) (o := .inl (some (vL _))) hb (by exact trivial) (fa_cons trivial fa_nil) (fun _ _ => rfl) (fun I J P' h k => s_L_evenCut (by omega) h k) (fun I8 J8 hb => ?_)
  simp only [am_z, Nat.reduceAdd, Nat.zero_le, Nat.reduceLeDiff]
  refine rn_L_alike 60 ?_
  simp (disch := omega) only [am_z, cq_L_alike, Nat.reduceAdd, Nat.zero_le, Nat.reduceLeDiff, ar_lit, al_lit, ac_lit, ar_eq, Nat.reduceEqDiff, not_false_eq_true, am_tt, leT, lc_eq, ↓reduceIte]
  refine two_p (s' := s) (o := .inl (some (vL _))) hb (by exact trivial) (fa_cons trivial fa_nil) (fun _ _ => rfl) (fun I J P' h k => s_L_heightFor (by omega) h k) (fun I9 J9 hb => ?_)
  simp only [am_z, Nat.reduceAdd, Nat.zero_le, Nat.reduceLeDiff]
  refine rn_L_alike 60 ?_
  simp (disch := omega) only [am_z, cq_L_alike, Nat.reduceAdd, Nat.zero_le, Nat.reduceLeDiff, ar_lit, al_lit, ac_lit, ar_eq, Nat.reduceEqDiff, not_false_eq_true, am_tt, leT, lc_eq, ↓reduceIte]
  refine two_q (s' := s) (o := .inl (some (vL _))) hb (by exact trivial) (fa_cons trivial fa_nil) (fun _ _ => rfl) (fun I J P' h k => s_L_heightFor (by omega) h k) (fun I10 J10 hb => ?_)
  simp only [am_z, Nat.reduceAdd, Nat.zero_le, Nat.reduceLeDiff]
  refine rn_L_alike 60 ?_
  simp (disch := omega) only [am_z, cq_L_alike, Nat.reduceAdd, Nat.zero_le, Nat.reduceLeDiff, ar_lit, al_lit, ac_lit, ar_eq, Nat.reduceEqDiff, not_false_eq_true, am_tt, leT, lc_eq, ↓reduceIte]
  refine two_p (s' := s) (o := .inl (some (vL _))) hb (by exact trivial) (fa_cons trivial fa_nil) (fun _ _ => rfl) (fun I J P' h k => s_L_emptyFrom (by omega) h k) (fun I11 J11 hb => ?_)
  simp only [am_z, Nat.reduceAdd, Nat.zero_le, Nat.reduceLeDiff]
  refine rn_L_alike 60 ?_
  simp (disch := omega) only [am_z, cq_L_alike, Nat.reduceAdd, Nat.zero_le, Nat.reduceLeDiff, ar_lit, al_lit, ac_lit, ar_eq, Nat.reduceEqDiff, not_false_eq_true, am_tt, leT, lc_eq, ↓reduceIte]
  refine two_q (s' := s) (o := .inl (some (vL _))) hb (by exact trivial) (fa_cons trivial fa_nil) (fun _ _ => rfl) (fun I J P' h k => s_L_emptyFrom (by omega) h k) (fun I12 J12 hb => ?_)
  simp only [am_z, Nat.reduceAdd, Nat.zero_le, Nat.reduceLeDiff]
  refine rn_L_alike 60 ?_
  simp (disch := omega) only [am_z, cq_L_alike, Nat.reduceAdd, Nat.zero_le, Nat.reduceLeDiff, ar_lit, al_lit, ac_lit, ar_eq, Nat.reduceEqDiff, not_false_eq_true, am_tt, leT, lc_eq, ↓reduceIte]
  refine two_p (s' := s) (o := .inl (some (vL _))) hb (by exact trivial) (fa_cons trivial fa_nil) (fun _ _ => rfl) (fun I J P' h k => s_L_richest (by omega) h k) (fun I13 J13 hb => ?_)
  simp only [am_z, Nat.reduceAdd, Nat.zero_le, Nat.reduceLeDiff]
  refine rn_L_alike 60 ?_
  simp (disch := omega) only [am_z, cq_L_alike, Nat.reduceAdd, Nat.zero_le, Nat.reduceLeDiff, ar_lit, al_lit, ac_lit, ar_eq, Nat.reduceEqDiff, not_false_eq_true, am_tt, leT, lc_eq, ↓reduceIte]
  refine two_q (s' := s) (o := .inl (some (vL _))) hb (by exact trivial) (fa_cons trivial fa_nil) (fun _ _ => rfl) (fun I J P' h k => s_L_richest (by omega) h k) (fun I14 J14 hb => ?_)
  simp only [am_z, Nat.reduceAdd, Nat.zero_le, Nat.reduceLeDiff]
  refine rn_L_alike 60 ?_
  simp (disch := omega) only [am_z, cq_L_alike, Nat.reduceAdd, Nat.zero_le, Nat.reduceLeDiff, ar_lit, al_lit, ac_lit, ar_eq, Nat.reduceEqDiff, not_false_eq_true, am_tt, leT, lc_eq, ↓reduceIte]
  refine two_p (s' := s) (o := .inl (some (vL _))) hb (by exact trivial) (fa_cons trivial (fa_cons trivial fa_nil)) (fun _ _ => rfl) (fun I J P' h k => s_L_page (by omega) h k) (fun I15 J15 hb => ?_)
  simp only [am_z, Nat.reduceAdd, Nat.zero_le, Nat.reduceLeDiff]
  refine rn_L_alike 60 ?_
  simp (disch := omega) only [am_z, cq_L_alike, Nat.reduceAdd, Nat.zero_le, Nat.reduceLeDiff, ar_lit, al_lit, ac_lit, ar_eq, Nat.reduceEqDiff, not_false_eq_true, am_tt, leT, lc_eq, ↓reduceIte]
  refine two_q (s' := s) (o := .inl (some (vL _))) hb (by exact trivial) (fa_cons trivial (fa_cons trivial fa_nil)) (fun _ _ => rfl) (fun I J P' h k => s_L_page (by omega) h k) (fun I16 J16 hb => ?_)
  simp only [am_z, Nat.reduceAdd, Nat.zero_le, Nat.reduceLeDiff]
  refine rn_L_alike 60 ?_
  simp (disch := omega) only [am_z, cq_L_alike, Nat.reduceAdd, Nat.zero_le, Nat.reduceLeDiff, ar_lit, al_lit, ac_lit, ar_eq, Nat.reduceEqDiff, not_false_eq_true, am_tt, leT, lc_eq, ↓reduceIte]
  refine two_p (s' := s) (o := .inl (some (vL _))) hb (by exact trivial) (fa_cons trivial (fa_cons trivial fa_nil)) (fun _ _ => rfl) (fun I J P' h k => s_L_carried (by omega) h k) (fun I17 J17 hb => ?_)
  simp only [am_z, Nat.reduceAdd, Nat.zero_le, Nat.reduceLeDiff]
  refine rn_L_alike 60 ?_
  simp (disch := omega) only [am_z, cq_L_alike, Nat.reduceAdd, Nat.zero_le, Nat.reduceLeDiff, ar_lit, al_lit, ac_lit, ar_eq, Nat.reduceEqDiff, not_false_eq_true, am_tt, leT, lc_eq, ↓reduceIte]
  refine two_q (s' := s) (o := .inl (some (vL _))) hb (by exact trivial) (fa_cons trivial (fa_cons trivial fa_nil)) (fun _ _ => rfl) (fun I J P' h k => s_L_carried (by omega) h k) (fun I18 J18 hb => ?_)
  simp only [am_z, Nat.reduceAdd, Nat.zero_le, Nat.reduceLeDiff]
  refine rn_L_alike 60 ?_
  simp (disch := omega) only [am_z, cq_L_alike, Nat.reduceAdd, Nat.zero_le, Nat.reduceLeDiff, ar_lit, al_lit, ac_lit, ar_eq, Nat.reduceEqDiff, not_false_eq_true, am_tt, leT, lc_eq, ↓reduceIte]
  refine two_p (s' := s) (o := .inl (some (vL _))) hb (by exact trivial) (fa_cons trivial (fa_cons trivial fa_nil)) (fun _ _ => rfl) (fun I J P' h k => s_L_simulate (by omega) h k) (fun I19 J19 hb => ?_)
  simp only [am_z, Nat.reduceAdd, Nat.zero_le, Nat.reduceLeDiff]
  refine rn_L_alike 60 ?_
  simp (disch := omega) only [am_z, cq_L_alike, Nat.reduceAdd, Nat.zero_le, Nat.reduceLeDiff, ar_lit, al_lit, ac_lit, ar_eq, Nat.reduceEqDiff, not_false_eq_true, am_tt, leT, lc_eq, ↓reduceIte]
  refine two_q (s' := s) (o := .inl (some (vL _))) hb (by exact trivial) (fa_cons trivial (fa_cons trivial fa_nil)) (fun _ _ => rfl) (fun I J P' h k => s_L_simulate (by omega) h k) (fun I20 J20 hb => ?_)
  simp only [am_z, Nat.reduceAdd, Nat.zero_le, Nat.reduceLeDiff]
  refine rn_L_alike 60 ?_
  simp (disch := omega) only [am_z, cq_L_alike, Nat.reduceAdd, Nat.zero_le, Nat.reduceLeDiff, ar_lit, al_lit, ac_lit, ar_eq, Nat.reduceEqDiff, not_false_eq_true, am_tt, leT, lc_eq, ↓reduceIte]
  refine two_p (s' := s) (o := .inl (some (vL _))) hb (by exact trivial) (fa_cons trivial (fa_cons trivial fa_nil)) (fun _ _ => rfl) (fun I J P' h k => s_L_script (by omega) h k) (fun I21 J21 hb => ?_)
  simp only [am_z, Nat.reduceAdd, Nat.zero_le, Nat.reduceLeDiff]
  refine rn_L_alike 60 ?_
  simp (disch := omega) only [am_z, cq_L_alike, Nat.reduceAdd, Nat.zero_le, Nat.reduceLeDiff, ar_lit, al_lit, ac_lit, ar_eq, Nat.reduceEqDiff, not_false_eq_true, am_tt, leT, lc_eq, ↓reduceIte]
  refine two_q (s' := s) (o := .inl (some (vL _))) hb (by exact trivial) (fa_cons trivial (fa_cons trivial fa_nil)) (fun _ _ => rfl) (fun I J P' h k => s_L_script (by omega) h k) (fun I22 J22 hb => ?_)
  simp only [am_z, Nat.reduceAdd, Nat.zero_le, Nat.reduceLeDiff]
  refine rn_L_alike 60 ?_
  simp (disch := omega) only [am_z, cq_L_alike, Nat.reduceAdd, Nat.zero_le, Nat.reduceLeDiff, ar_lit, al_lit, ac_lit, ar_eq, Nat.reduceEqDiff, not_false_eq_true, am_tt, leT, lc_eq, ↓reduceIte]
  exact k _ _ hb
end AL
