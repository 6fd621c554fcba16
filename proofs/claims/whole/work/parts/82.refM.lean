/-! ===== the reference: heightFor ===== -/
/-- another height of the page -/
def tsetP (p : pt_T) (h : Nat) : pt_T := ((tC p, h, tE p, tV p), p.2)
theorem tsetP_H (p : pt_T) (h : Nat) : tsetH p 0 h = tsetP p h := if_pos rfl
theorem tsetP_e (p : pt_T) : tsetP p (tP p) = p := rfl
theorem tsetP_P (p : pt_T) (h h' : Nat) : tsetP (tsetP p h) h' = tsetP p h' := rfl
section HP
variable {p : pt_T} {g h : Nat}
theorem tsetP_n : tn (tsetP p g) = tn p := rfl
theorem tsetP_end (r : Nat) : tend (tsetP p g) r = tend p r := rfl
theorem tsetP_msk (a : Nat) : ∀ k, tmsk (tsetP p g) a k = tmsk p a k
  | 0 => rfl
  | k + 1 => by
    show tmsk (tsetP p g) a k ||| 1 <<< tN (tsetP p g) (a + k) = tmsk p a k ||| 1 <<< tN p (a + k)
    rw [tsetP_msk a k]
    rfl
theorem tsetP_lin (a b : Nat) : tlines (tsetP p g) a b = tlines p a b := by
  unfold tlines tln
  rw [tsetP_msk]
  rfl
theorem tsetP_tlf (a : Nat) : ∀ k, tlf (tsetP p g) h a k = tlf p h a k
  | 0 => rfl
  | k + 1 => by rw [tlf_s, tlf_s, tsetP_end, tsetP_lin, tsetP_tlf a k]
theorem tsetP_tfe : ∀ k a, tfe (tsetP p g) k a = tfe p k a
  | 0, _ => rfl
  | k + 1, a => by rw [tfe_s, tfe_s, tsetP_end, tsetP_tfe k (a + 1)]
theorem tsetP_last (a : Nat) : tlast (tsetP p g) h a = tlast p h a := by
  unfold tlast
  rw [tsetP_n, tsetP_tlf]
theorem tsetP_nx (a : Nat) : tnx (tsetP p g) h a = tnx p h a := by
  unfold tnx
  rw [tsetP_last, tsetP_n, tsetP_tfe]
theorem tsetP_tpl : ∀ f a, tpl (tsetP p g) h f a = tpl p h f a
  | 0, _ => rfl
  | f + 1, a => by
    by_cases ha : a < tn p
    · rw [tpl_c (p := tsetP p g) ha, tpl_c ha, tsetP_nx, tsetP_last, tsetP_tpl f]
    · rw [tpl_n (p := tsetP p g) ha, tpl_n ha]
theorem tsetP_tpg : tpg (tsetP p g) h = tpg p h := tsetP_tpl 24 0
theorem tsetP_w (hw : tW p) (h1 : 6 ≤ g) (h2 : g ≤ 40) : tW (tsetP p g) := ⟨hw.1, ⟨h1, h2⟩, hw.2.2⟩
end HP
section RG
variable {l : Launch} {D : Nat} {I I' : am_I} {J : am_J} {P : am_P} {s : pt_G}
theorem s_M_heightFor {n : Int32} (hD : 9 ≤ D) (h : sm I s) (k : mk P J I (q_heightFor s.2.1 n, s)) : am_T l D y_M_heightFor [vR (9, 0), vI n] am_G0 I J P := by
  obtain ⟨d, rfl⟩ : ∃ d, D = d + 1 := ⟨D - 1, by omega⟩
  have hw := h.w
  unfold q_heightFor at k
  refine en_M_heightFor 20 (Nat.le_of_ble_eq_true rfl) ?_
  simp (disch := omega) only [am_z, cq_M_heightFor, Nat.reduceAdd, Nat.zero_le, Nat.reduceLeDiff, ar_lit]
  refine s_M_inL (lo := 1) (hi := 24) (by omega) (i64_i n) (by decide +kernel) (by decide +kernel) ?_
  by_cases q : 1 ≤ n.toInt ∧ n.toInt ≤ 24
  · rw [if_pos q] at k
    rw [decide_eq_true q]
    have en : n = nI n.toInt.toNat := ar_nat (by omega)
    have hb : n.toInt.toNat < 25 := by omega
    generalize n.toInt.toNat = j at en hb k
    subst en
    simp only [am_z, Nat.reduceAdd, Nat.zero_le, Nat.reduceLeDiff]
    refine rn_M_heightFor 20 ?_
    simp (disch := omega) only [am_z, cq_M_heightFor, Nat.reduceAdd, Nat.zero_le, Nat.reduceLeDiff, ar_lit, b01, Bool.false_eq_true, ↓reduceIte, ar_eq, Nat.reduceEqDiff]
    refine s_M_ref0 (by omega) (fun I1 f1 e1 => ?_)
    have h1 := h.r0 f1
    simp only [am_z, Nat.reduceAdd, Nat.zero_le, Nat.reduceLeDiff]
    refine rn_M_heightFor 20 ?_
    simp (disch := omega) only [am_z, cq_M_heightFor, Nat.reduceAdd, Nat.zero_le, Nat.reduceLeDiff, ar_lit, ↓reduceIte]
    refine s_M_begin (by omega) h1 (fun I2 f2 r2 => ?_)
    have h2 := h1.fr f2 (by simp) (by simp)
    have loop : ∀ f hh I' h0, hh + f = 41 → 6 ≤ hh → am_fr isM I I' → sm I' s → I' (9, 0) 0 = nI 0 → rF (I' (28, 0)) (tsetP s.2.1 h0) → tW (tsetP s.2.1 h0) → thf s.2.1 j f hh = thf s.2.1 j 35 6 → am_X l (0, fun _ => 0) (d + 1) y_M_heightFor P 33 [some (vR (9, 0)), some (vI (nI j)), some (vI (nI hh))] [] 0 0 am_G0 I' J := by
      intro f
      induction f with
      | zero =>
        intro hh I' h0 hf _ hfr h' e' hr0 hw0 he
        have : hh = 41 := by omega
        subst this
        refine rn_M_heightFor 20 ?_
        simp (disch := omega) only [am_z, cq_M_heightFor, Nat.reduceAdd, Nat.zero_le, Nat.reduceLeDiff, ar_lit, ar_in, ar_cl, ar_eq, ar_lt, ar_le, ar_sub, nI_add, Nat.reduceEqDiff, ↓reduceIte, Nat.reduceLT]
        have kk := k I' hfr h' e'
        simp only at kk
        rw [← he] at kk
        exact kk
      | succ f ih =>
        intro hh I' h0 hf h6 hfr h' e' hr0 hw0 he
        have hlen := tpg_len (p := s.2.1) (h := hh)
        have hov := tov_le (tpg s.2.1 hh)
        refine rn_M_heightFor 20 ?_
        simp (disch := omega) only [am_z, cq_M_heightFor, Nat.reduceAdd, Nat.zero_le, Nat.reduceLeDiff, ar_lit, ar_lt, ar_in, ar_cl, Nat.reduceLT, am_tt]
        rw [if_neg (by omega)]
        have fA : fM [28] [] I' (am_upI I' (28, 0) 3 (nI hh)) := fM.rf.up (Or.inl (by simp))
        have hwA := tsetP_w (g := hh) hw h6 (by omega)
        have rA : rF (am_upI I' (28, 0) 3 (nI hh) (28, 0)) (tsetP s.2.1 hh) := by
          rw [am_uE]
          have := hr0.setH (w := 0) (h := hh) hw0 (by omega)
          rw [tsetP_H, tsetP_P] at this
          exact this
        have hA := h'.fr fA (by simp) (by simp)
        refine s_M_lay (by omega) isU_28 rA hwA (fun I2 f2 l2 => ?_)
        rw [tsetP_tpg, show tP (tsetP s.2.1 hh) = hh from rfl] at l2 ⊢
        have h2 := hA.rL f2
        have hfr2 := (hfr.tr (fA.toM (by simp))).tr f2.mL
        have e2 : I2 (9, 0) 0 = nI 0 := f2.l0.trans ((fA.f9 (by simp) (by simp)).trans e')
        have rB : rF (I2 (28, 0)) (tsetP s.2.1 hh) := rA.fM f2 (by simp) (by omega)
        have es : thf s.2.1 j (f + 1) hh = if (tpg s.2.1 hh).length ≤ j ∧ tov (tpg s.2.1 hh) = 0 then nI hh else thf s.2.1 j f (hh + 1) := rfl
        by_cases q3 : j < (tpg s.2.1 hh).length
        · simp only [am_z, Nat.reduceAdd, Nat.zero_le, Nat.reduceLeDiff]
          refine rn_M_heightFor 40 ?_
          simp (disch := omega) only [am_z, cq_M_heightFor, Nat.reduceAdd, Nat.zero_le, Nat.reduceLeDiff, ar_lit, ar_lt, if_pos q3, nI_add]
          rw [es, if_neg (by omega)] at he
          exact @ih (hh + 1) I2 hh (by omega) (by omega) hfr2 h2 e2 rB hwA he
        · simp only [am_z, Nat.reduceAdd, Nat.zero_le, Nat.reduceLeDiff]
          refine rn_M_heightFor 40 ?_
          simp (disch := omega) only [am_z, cq_M_heightFor, Nat.reduceAdd, Nat.zero_le, Nat.reduceLeDiff, ar_lit, ar_lt, if_neg q3]
          refine s_M_overfull (by omega) isU_28 rB hwA (by rw [tsetP_tpg]; exact l2) ?_
          rw [tsetP_tpg, show tP (tsetP s.2.1 hh) = hh from rfl]
          by_cases q4 : tov (tpg s.2.1 hh) = 0
          · simp only [am_z, Nat.reduceAdd, Nat.zero_le, Nat.reduceLeDiff]
            refine rn_M_heightFor 40 ?_
            simp (disch := omega) only [am_z, cq_M_heightFor, Nat.reduceAdd, Nat.zero_le, Nat.reduceLeDiff, ar_lit, ar_eq, if_pos q4]
            rw [es, if_pos (by omega)] at he
            have kk := k I2 hfr2 h2 e2
            simp only at kk
            rw [← he] at kk
            exact kk
          · simp only [am_z, Nat.reduceAdd, Nat.zero_le, Nat.reduceLeDiff]
            refine rn_M_heightFor 40 ?_
            simp (disch := omega) only [am_z, cq_M_heightFor, Nat.reduceAdd, Nat.zero_le, Nat.reduceLeDiff, ar_lit, ar_eq, if_neg q4, nI_add]
            rw [es, if_neg (by omega)] at he
            exact @ih (hh + 1) I2 hh (by omega) (by omega) hfr2 h2 e2 rB hwA he
    simp only [am_z, Nat.reduceAdd, Nat.zero_le, Nat.reduceLeDiff]
    refine rn_M_heightFor 20 ?_
    simp (disch := omega) only [am_z, cq_M_heightFor, Nat.reduceAdd, Nat.zero_le, Nat.reduceLeDiff, ar_lit]
    exact @loop 35 6 I2 (tP s.2.1) rfl (by omega) (f1.m0.tr (f2.toM (by simp))) h2 ((f2.f9 (by simp) (by simp)).trans e1) r2 hw rfl
  · rw [if_neg q] at k
    rw [decide_eq_false q]
    simp only [am_z, Nat.reduceAdd, Nat.zero_le, Nat.reduceLeDiff]
    refine rn_M_heightFor 20 ?_
    simp (disch := omega) only [am_z, cq_M_heightFor, Nat.reduceAdd, Nat.zero_le, Nat.reduceLeDiff, ar_lit, b01, Bool.false_eq_true, ↓reduceIte]
    refine s_M_refN (by omega) (by omega) (by omega) (fun I1 f1 e1 => ?_)
    simp only [am_z, Nat.reduceAdd, Nat.zero_le, Nat.reduceLeDiff]
    refine rn_M_heightFor 20 ?_
    simp (disch := omega) only [am_z, cq_M_heightFor, Nat.reduceAdd, Nat.zero_le, Nat.reduceLeDiff, ar_lit, ar_eq, Nat.reduceEqDiff, ↓reduceIte]
    exact k I1 f1.m0 (h.r0 f1) e1
end RG
