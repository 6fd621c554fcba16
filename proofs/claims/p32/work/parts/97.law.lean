/-! ===== the law: its loop ===== -/
def lwP : am_P := fun o _ _ _ => o = .inl (some (vI 1))
theorem s_V_load {l : Launch} {D : Nat} {I : am_I} {J : am_J} {P : am_P} {ss : List Nat} {q : pt_T} {r : pt_T × List pt_T × (Nat → Option pt_T)} (hD : 8 ≤ D) (h : st I (ss, r)) (hpt : ptext ss = (ss.length, some q)) (k : ∀ I', st I' (ss, q, [], fun _ => none) → P (.inl (some (vL ((nI (tn q)).toInt64)))) am_G0 I' J) : am_T l D y_L_load [vR (0, 0)] am_G0 I J P := by
  have e : q_load (ss, r) = ((0, nI (tn q)), (ss, q, [], fun _ => none)) := by
    unfold q_load
    show (match (ptext ss).2 with | none => _ | some q => _) = _
    rw [hpt]
  refine s_L_load hD h (fun I' h' => ?_)
  rw [e] at h' ⊢
  exact k I' h'
/-- what the round k makes at most -/
def lcst (k : Nat) : Nat := if k % 30 = 0 then 802 else 34 + (if k % 6 = 0 then 13600 else 0) + (if k % 10 = 9 then 7003 else 0) + (if k % 5 = 0 then 1500 else 0)
theorem lcst_all : sumN lcst 60 ≤ 300000 := by decide +kernel
theorem lcst_le {k : Nat} (hk : k ≤ 60) : sumN lcst k ≤ 300000 := by
  have := sumN_up lcst k (60 - k)
  rw [show k + (60 - k) = 60 by omega] at this
  exact Nat.le_trans this lcst_all
section LW
variable {l : Launch} {d : Nat} {sc : Nat × (Nat → Int32)}
theorem lw_end (hD : 10 ≤ d) {I : am_I} {J : am_J} {s : pt_G} {kc ks : Nat} {x5 x6 : Option am_V} (hb : bt I s s) (hk1 : kc ≤ 400000) (hk2 : ks ≤ 3000000) : am_X l sc (d + 1) y_L_law lwP 52 [some (vR (36, 0)), some (vR (0, 32)), some (vR (0, 0)), some (vI (nI 1)), some (vI (nI 60)), x5, x6] [] kc ks am_G2 I J := by
  have h9 : 9 ≤ d := by omega
  refine rn_L_law h9 40 ?_
  simp (disch := omega) only [am_z, cq_L_law, Nat.reduceAdd, Nat.zero_le, Nat.reduceLeDiff, ar_lit, al_lit, ar_le, ar_eq, Nat.reduceEqDiff, ↓reduceIte, leT]
  refine s_L_alike (by omega) hb (fun I1 J1 hb => ?_)
  simp only [am_z, Nat.reduceAdd, Nat.zero_le, Nat.reduceLeDiff]
  refine rn_L_law h9 40 ?_
  simp (disch := omega) only [am_z, cq_L_law, Nat.reduceAdd, Nat.zero_le, Nat.reduceLeDiff, ar_lit, ar_eq, Nat.reduceEqDiff, ↓reduceIte]
  exact rfl
set_option maxRecDepth 100000 in
theorem lw_round (hD : 10 ≤ d) (hn : sc.1 ≤ 260) {k : Nat} (hk : k < 60) {I : am_I} {J : am_J} {s : pt_G} {kc ks : Nat} {x5 x6 : Option am_V} (hb : bt I s s) (hk1 : kc ≤ 20000 + sumN lcst k) (hk2 : ks ≤ 110000 + 6 * sumN lcst k)
    (next : ∀ I J s kc ks x5 x6, bt I s s → kc ≤ 20000 + sumN lcst (k + 1) → ks ≤ 110000 + 6 * sumN lcst (k + 1) → am_X l sc (d + 1) y_L_law lwP 52 [some (vR (36, 0)), some (vR (0, 32)), some (vR (0, 0)), some (vI (nI 1)), some (vI (nI (k + 1))), x5, x6] [] kc ks am_G2 I J) :
    am_X l sc (d + 1) y_L_law lwP 52 [some (vR (36, 0)), some (vR (0, 32)), some (vR (0, 0)), some (vI (nI 1)), some (vI (nI k)), x5, x6] [] kc ks am_G2 I J := by
  have h9 : 9 ≤ d := by omega
  have hs1 : sumN lcst (k + 1) = sumN lcst k + lcst k := rfl
  have hs2 := lcst_le (k := k + 1) (by omega)
  obtain ⟨X, hX, eX⟩ := drv_nn sc (nI (2 * k))
  obtain ⟨Y, hY, eY⟩ := drv_nn sc (nI (2 * k + 1))
  have j270 : ∀ I J s kc ks x5 x6, bt I s s → kc ≤ 20000 + sumN lcst (k + 1) → ks ≤ 110000 + 6 * sumN lcst (k + 1) → am_X l sc (d + 1) y_L_law lwP 270 [some (vR (36, 0)), some (vR (0, 32)), some (vR (0, 0)), some (vI (nI 1)), some (vI (nI k)), x5, x6] [] kc ks am_G2 I J := by
    intro I J s kc ks x5 x6 hb q1 q2
    refine rn_L_law h9 40 ?_
    simp (disch := omega) only [am_z, cq_L_law, Nat.reduceAdd, Nat.zero_le, Nat.reduceLeDiff, ar_lit, nI_add]
    exact next I J s kc ks x5 x6 hb q1 q2
  refine rn_L_law h9 40 ?_
  simp (disch := omega) only [am_z, cq_L_law, Nat.reduceAdd, Nat.zero_le, Nat.reduceLeDiff, ar_lit, al_lit, ar_le, ar_eq, Nat.reduceEqDiff, ↓reduceIte, pk_mul, drw_e, hn, ar_lt, Nat.not_lt_zero, not_false_eq_true]
  rw [if_neg (by omega), eX]
  refine rn_L_law h9 40 ?_
  simp (disch := omega) only [am_z, cq_L_law, Nat.reduceAdd, Nat.zero_le, Nat.reduceLeDiff, ar_lit, pk_mul, nI_add, drw_e, hn, ar_lt, Nat.not_lt_zero, not_false_eq_true]
  rw [eY]
  refine rn_L_law h9 40 ?_
  simp (disch := omega) only [am_z, cq_L_law, Nat.reduceAdd, Nat.zero_le, Nat.reduceLeDiff, ar_lit, al_lit, pk_div, ar_mod2, ar_eq, Nat.reduceEqDiff, not_false_eq_true, leT]
  by_cases q30 : k % 30 = 0
  · have ec : lcst k = 802 := if_pos q30
    rw [if_pos q30]
    obtain ⟨ss', q, hpt, htl⟩ := tells_ex X Y hX hY
    obtain ⟨ss, rest⟩ := s
    refine two_p (s' := (ss', rest)) (o := .inl (some (vI (nI 1)))) hb (by exact trivial) (fa_cons trivial (fa_cons trivial fa_nil)) (fun _ _ => rfl) (fun I J P' h k => htl l d J P' I ss rest (by omega) h k) (fun I1 J1 hb => ?_)
    simp only [am_z, Nat.reduceAdd, Nat.zero_le, Nat.reduceLeDiff]
    refine rn_L_law h9 40 ?_
    simp (disch := omega) only [am_z, cq_L_law, Nat.reduceAdd, Nat.zero_le, Nat.reduceLeDiff, ar_lit, ar_eq, Nat.reduceEqDiff, ↓reduceIte, leT]
    refine two_q (s' := (ss', rest)) (o := .inl (some (vI (nI 1)))) hb (by exact trivial) (fa_cons trivial (fa_cons trivial fa_nil)) (fun _ _ => rfl) (fun I J P' h k => htl l d J P' I ss rest (by omega) h k) (fun I2 J2 hb => ?_)
    simp only [am_z, Nat.reduceAdd, Nat.zero_le, Nat.reduceLeDiff]
    refine rn_L_law h9 40 ?_
    simp (disch := omega) only [am_z, cq_L_law, Nat.reduceAdd, Nat.zero_le, Nat.reduceLeDiff, ar_lit, ar_eq, Nat.reduceEqDiff, ↓reduceIte, leT]
    refine two_p (s' := (ss', q, [], fun _ => none)) (o := .inl (some (vL ((nI (tn q)).toInt64)))) hb (by exact trivial) fa_nil (fun _ _ => rfl) (fun I J P' h k => s_V_load (by omega) h hpt k) (fun I3 J3 hb => ?_)
    simp only [am_z, Nat.reduceAdd, Nat.zero_le, Nat.reduceLeDiff]
    refine rn_L_law h9 40 ?_
    simp (disch := omega) only [am_z, cq_L_law, Nat.reduceAdd, Nat.zero_le, Nat.reduceLeDiff, ar_lit, ar_eq, Nat.reduceEqDiff, ↓reduceIte, leT]
    refine two_q (s' := (ss', q, [], fun _ => none)) (o := .inl (some (vL ((nI (tn q)).toInt64)))) hb (by exact trivial) fa_nil (fun _ _ => rfl) (fun I J P' h k => s_V_load (by omega) h hpt k) (fun I4 J4 hb => ?_)
    simp only [am_z, Nat.reduceAdd, Nat.zero_le, Nat.reduceLeDiff]
    refine rn_L_law h9 40 ?_
    simp (disch := omega) only [am_z, cq_L_law, Nat.reduceAdd, Nat.zero_le, Nat.reduceLeDiff, ar_lit, lc_eq, ↓reduceIte]
    exact j270 _ _ _ _ _ _ _ hb (by omega) (by omega)
  · have ec : lcst k = 34 + (if k % 6 = 0 then 13600 else 0) + (if k % 10 = 9 then 7003 else 0) + (if k % 5 = 0 then 1500 else 0) := if_neg q30
    rw [if_neg q30]
    obtain ⟨v, s', hact⟩ := act_ex s X Y hb.1.w hX hY
    have j243 : ∀ I J s kc ks, bt I s s → kc + (if k % 5 = 0 then 1500 else 0) ≤ 20000 + sumN lcst (k + 1) → ks + 6 * (if k % 5 = 0 then 1500 else 0) ≤ 110000 + 6 * sumN lcst (k + 1) → am_X l sc (d + 1) y_L_law lwP 243 [some (vR (36, 0)), some (vR (0, 32)), some (vR (0, 0)), some (vI (nI 1)), some (vI (nI k)), some (vI (nI X)), some (vI (nI Y))] [] kc ks am_G2 I J := by
      intro I J s kc ks hb q1 q2
      refine rn_L_law h9 40 ?_
      simp (disch := omega) only [am_z, cq_L_law, Nat.reduceAdd, Nat.zero_le, Nat.reduceLeDiff, ar_lit, pk_div, ar_mod2, ar_eq, ar_lt, Nat.reduceEqDiff, not_false_eq_true, ↓reduceIte]
      by_cases q5 : k % 5 = 0
      · rw [if_pos q5] at q1 q2
        rw [if_neg (by omega)]
        refine ⟨⟨by omega, by omega⟩, ?_⟩
        refine s_L_alike (by omega) hb (fun I1 J1 hb => ?_)
        simp only [am_z, Nat.reduceAdd, Nat.zero_le, Nat.reduceLeDiff]
        refine rn_L_law h9 40 ?_
        simp (disch := omega) only [am_z, cq_L_law, Nat.reduceAdd, Nat.zero_le, Nat.reduceLeDiff, ar_lit, ar_eq, Nat.reduceEqDiff, ↓reduceIte]
        exact j270 _ _ _ _ _ _ _ hb (by omega) (by omega)
      · rw [if_neg q5] at q1 q2
        rw [if_pos (by omega)]
        exact j270 _ _ _ _ _ _ _ hb (by omega) (by omega)
    have j194 : ∀ I J s kc ks, bt I s s → kc + (if k % 10 = 9 then 7003 else 0) + (if k % 5 = 0 then 1500 else 0) ≤ 20000 + sumN lcst (k + 1) → ks + 6 * (if k % 10 = 9 then 7003 else 0) + 6 * (if k % 5 = 0 then 1500 else 0) ≤ 110000 + 6 * sumN lcst (k + 1) → am_X l sc (d + 1) y_L_law lwP 194 [some (vR (36, 0)), some (vR (0, 32)), some (vR (0, 0)), some (vI (nI 1)), some (vI (nI k)), some (vI (nI X)), some (vI (nI Y))] [] kc ks am_G2 I J := by
      intro I J s kc ks hb q1 q2
      refine rn_L_law h9 40 ?_
      simp (disch := omega) only [am_z, cq_L_law, Nat.reduceAdd, Nat.zero_le, Nat.reduceLeDiff, ar_lit, pk_div, ar_mod2, ar_eq, ar_lt, Nat.reduceEqDiff, not_false_eq_true]
      by_cases q9 : k % 10 = 9
      · rw [if_pos q9] at q1 q2
        rw [if_pos q9]
        refine rn_L_law h9 40 ?_
        simp (disch := omega) only [am_z, cq_L_law, Nat.reduceAdd, Nat.zero_le, Nat.reduceLeDiff, ar_lit, ar_eq, Nat.reduceEqDiff, ↓reduceIte]
        refine ⟨⟨by omega, by omega⟩, ?_⟩
        obtain ⟨t, p, H, Z⟩ := s
        refine two_q (s' := (t, p, [], fun j => if j = 1 then some p else Z j)) (o := .inl (some (vI (nI 1)))) hb (by exact trivial) (fa_cons trivial fa_nil) (fun _ _ => rfl) (fun I J P' h k => s_L_follows (by omega) hY h k) (fun I1 J1 hb => ?_)
        have h24 : tn p ≤ 24 := hb.1.w.2.2.2.2.1
        simp only [am_z, Nat.reduceAdd, Nat.zero_le, Nat.reduceLeDiff]
        refine rn_L_law h9 40 ?_
        simp (disch := omega) only [am_z, cq_L_law, Nat.reduceAdd, Nat.zero_le, Nat.reduceLeDiff, ar_lit, ar_eq, Nat.reduceEqDiff, ↓reduceIte]
        refine ⟨⟨by omega, by omega⟩, ?_⟩
        refine two_p (s' := (t, p, H, fun j => if j = 1 then some p else Z j)) (o := .inl (some (vL (lI (tn p : Int))))) hb (by exact trivial) (fa_cons trivial fa_nil) (fun _ _ => rfl) (fun I J P' h k => s_V_save (by omega) h (by omega) k) (fun I2 J2 hb => ?_)
        simp only [am_z, Nat.reduceAdd, Nat.zero_le, Nat.reduceLeDiff]
        refine rn_L_law h9 40 ?_
        simp (disch := omega) only [am_z, cq_L_law, Nat.reduceAdd, Nat.zero_le, Nat.reduceLeDiff, ar_lit, lc_lt, lI_lit.1, lI_lt]
        rw [if_neg (by omega)]
        refine ⟨⟨by omega, by omega⟩, ?_⟩
        refine two_p (s' := (t, p, [], fun j => if j = 1 then some p else Z j)) (o := .inl (some (vL (lI (tn p : Int))))) hb (by exact trivial) (fa_cons trivial fa_nil) (fun _ _ => rfl) (fun I J P' h k => s_V_restore (q := p) (by omega) h (by omega) rfl h24 k) (fun I3 J3 hb => ?_)
        simp only [am_z, Nat.reduceAdd, Nat.zero_le, Nat.reduceLeDiff]
        refine rn_L_law h9 40 ?_
        simp (disch := omega) only [am_z, cq_L_law, Nat.reduceAdd, Nat.zero_le, Nat.reduceLeDiff, ar_lit, lc_lt, lI_lit.1, lI_lt]
        rw [if_neg (by omega)]
        exact j243 _ _ _ _ _ hb (by omega) (by omega)
      · rw [if_neg q9] at q1 q2
        rw [if_neg q9]
        exact j243 _ _ _ _ _ hb (by omega) (by omega)
    refine two_p (s' := s') (o := .inl (some (vL v))) hb (by exact trivial) (fa_cons trivial (fa_cons trivial fa_nil)) (fun _ _ => rfl) (fun I J P' h k => hact l d J P' I (by omega) h k) (fun I1 J1 hb => ?_)
    simp only [am_z, Nat.reduceAdd, Nat.zero_le, Nat.reduceLeDiff]
    refine rn_L_law h9 40 ?_
    simp (disch := omega) only [am_z, cq_L_law, Nat.reduceAdd, Nat.zero_le, Nat.reduceLeDiff, ar_lit]
    refine ⟨⟨by omega, by omega⟩, ?_⟩
    refine two_q (s' := s') (o := .inl (some (vL v))) hb (by exact trivial) (fa_cons trivial (fa_cons trivial fa_nil)) (fun _ _ => rfl) (fun I J P' h k => hact l d J P' I (by omega) h k) (fun I2 J2 hb => ?_)
    simp only [am_z, Nat.reduceAdd, Nat.zero_le, Nat.reduceLeDiff]
    refine rn_L_law h9 60 ?_
    simp (disch := omega) only [am_z, cq_L_law, Nat.reduceAdd, Nat.zero_le, Nat.reduceLeDiff, ar_lit, lc_eq, ↓reduceIte, pk_div, ar_mod2, ar_eq, Nat.reduceEqDiff, not_false_eq_true]
    by_cases q6 : k % 6 = 0
    · rw [if_pos q6] at ec
      rw [if_pos q6]
      refine rn_L_law h9 40 ?_
      simp (disch := omega) only [am_z, cq_L_law, Nat.reduceAdd, Nat.zero_le, Nat.reduceLeDiff, ar_lit, ar_eq, Nat.reduceEqDiff, ↓reduceIte]
      refine ⟨⟨by omega, by omega⟩, ?_⟩
      refine two_q (s' := s') (o := .inl (some (vI (nI 1)))) hb (by exact trivial) fa_nil (fun _ _ => rfl) (fun I J P' h k => s_L_errors (by omega) h k) (fun I3 J3 hb => ?_)
      simp only [am_z, Nat.reduceAdd, Nat.zero_le, Nat.reduceLeDiff]
      refine rn_L_law h9 40 ?_
      simp (disch := omega) only [am_z, cq_L_law, Nat.reduceAdd, Nat.zero_le, Nat.reduceLeDiff, ar_lit, ar_eq, Nat.reduceEqDiff, ↓reduceIte]
      refine ⟨⟨by omega, by omega⟩, ?_⟩
      refine two_q (s' := s') (o := .inl (some (vI (nI 1)))) hb (by exact trivial) fa_nil (fun _ _ => rfl) (fun I J P' h k => s_L_kept (by omega) h k) (fun I4 J4 hb => ?_)
      simp only [am_z, Nat.reduceAdd, Nat.zero_le, Nat.reduceLeDiff]
      refine rn_L_law h9 40 ?_
      simp (disch := omega) only [am_z, cq_L_law, Nat.reduceAdd, Nat.zero_le, Nat.reduceLeDiff, ar_lit, ar_eq, Nat.reduceEqDiff, ↓reduceIte]
      exact j194 _ _ _ _ _ hb (by omega) (by omega)
    · rw [if_neg q6] at ec
      rw [if_neg q6]
      exact j194 _ _ _ _ _ hb (by omega) (by omega)
theorem lw_loop (hD : 10 ≤ d) (hn : sc.1 ≤ 260) : ∀ m k I J s kc ks x5 x6, k + m = 60 → bt I s s → kc ≤ 20000 + sumN lcst k → ks ≤ 110000 + 6 * sumN lcst k → am_X l sc (d + 1) y_L_law lwP 52 [some (vR (36, 0)), some (vR (0, 32)), some (vR (0, 0)), some (vI (nI 1)), some (vI (nI k)), x5, x6] [] kc ks am_G2 I J := by
  intro m
  induction m with
  | zero =>
    intro k I J s kc ks x5 x6 hk hb q1 q2
    obtain rfl : k = 60 := by omega
    have := lcst_all
    exact lw_end hD hb (by omega) (by omega)
  | succ m ih =>
    intro k I J s kc ks x5 x6 hk hb q1 q2
    exact lw_round hD hn (by omega) hb q1 q2 (fun I J s kc ks x5 x6 hb q1 q2 => ih (k + 1) I J s kc ks x5 x6 (by omega) hb q1 q2)
end LW
