/-! ===== page, on both sides; the reference: brought, carried, richest ===== -/
def tpgv (p : pt_T) (x : pt_P) : Nat → Int32
  | 0 => nI x.1
  | 1 => nI x.2.1
  | 2 => nI (tlines p x.1 x.2.1)
  | 3 => nI (tP p) - nI (tlines p x.1 x.2.1)
  | 4 => nI (tnam p x.1)
  | _ => nI (tmsk p x.1 (x.2.1 + 1 - x.1) / 2)
def q_page (p : pt_T) (a w : Int32) : Nat × Int32 := match tix (tpg p (tP p)).length a with
  | none => (1, 0)
  | some i => match tix 6 w with
    | none => (2, 0)
    | some j => (0, tpgv p (pgA (tpg p (tP p)) i) j)
section PB
variable {l : Launch} {D : Nat} {I : am_I} {J : am_J} {P : am_P} {s : pt_G}
theorem s_P_page {a w : Int32} (hD : 7 ≤ D) (h : st I s) (k : ∀ I', am_fr isC I I' → st I' s → P (ox [3, 1] (q_page s.2.1 a w)) am_G0 I' J) : am_T l D y_P_page [vR (0, 0), vI a, vI w] am_G0 I J P := by
  obtain ⟨d, rfl⟩ : ∃ d, D = d + 1 := ⟨D - 1, by omega⟩
  have hp := h.p
  have hw := h.w
  have h24 := hw.2.2.2.2.1
  have hlen := tpg_len (p := s.2.1) (h := tP s.2.1)
  unfold q_page at k
  refine en_P_page 20 (by omega) (Nat.le_of_ble_eq_true rfl) ?_
  simp (disch := omega) only [am_z, cq_P_page, Nat.reduceAdd, Nat.zero_le, Nat.reduceLeDiff, ar_lit]
  refine s_requirePage (by omega) hp hw (fun I' hf hx => ?_) (fun I1 i f1 l1 hi er => ?_)
  · rw [tix_x (by omega) hx] at k
    simp only [am_z, Nat.reduceAdd, Nat.zero_le, Nat.reduceLeDiff]
    exact k I' (hf.mono fun c => isC_Y) (h.frY hf)
  · rw [tix_i er hi (by omega)] at k
    subst er
    have h1 := h.frY f1
    obtain ⟨b1, b2, _⟩ := tpg_at (p := s.2.1) (h := tP s.2.1) i hi
    simp only [am_z, Nat.reduceAdd, Nat.zero_le, Nat.reduceLeDiff]
    refine rn_P_page (by omega) 20 ?_
    simp (disch := omega) only [am_z, cq_P_page, Nat.reduceAdd, Nat.zero_le, Nat.reduceLeDiff, ar_lit]
    refine s_sheetOf (by omega) h1.p hw l1 hi (fun I2 f2 r2 => ?_)
    have h2 := h1.frS f2
    have l2 : rL I2 (tpg s.2.1 (tP s.2.1)) := l1.kept (f2 _ (fun q => by unfold isS at q; simp at q)) (f2 _ (fun q => by unfold isS at q; simp at q))
    have kk := k I2 ((f1.mono fun c => isC_Y).tr (f2.mono fun c => isC_S)) h2
    rcases tix_c 6 w (by omega) with ⟨e, hs⟩ | ⟨j, hj, ew, e⟩
    · rw [e] at kk
      by_cases h0 : w.toInt < 0
      · simp only [am_z, Nat.reduceAdd, Nat.zero_le, Nat.reduceLeDiff]
        refine rn_P_page (by omega) 20 ?_
        simp (disch := omega) only [am_z, cq_P_page, Nat.reduceAdd, Nat.zero_le, Nat.reduceLeDiff, ar_lit, if_pos h0]
        exact kk
      · have hn : ([56, 65, 74, 79, 92, 97] : List Nat)[(w.toInt - 0).toNat]? = none := sw_none (by simp; omega)
        simp only [am_z, Nat.reduceAdd, Nat.zero_le, Nat.reduceLeDiff]
        refine rn_P_page (by omega) 20 ?_
        simp (disch := omega) only [am_z, cq_P_page, Nat.reduceAdd, Nat.zero_le, Nat.reduceLeDiff, ar_lit, if_neg h0, hn]
        exact kk
    · rw [e] at kk
      subst ew
      rcases (show j = 0 ∨ j = 1 ∨ j = 2 ∨ j = 3 ∨ j = 4 ∨ j = 5 by omega) with rfl | rfl | rfl | rfl | rfl | rfl
      · simp only [am_z, Nat.reduceAdd, Nat.zero_le, Nat.reduceLeDiff]
        refine rn_P_page (by omega) 20 ?_
        simp (disch := omega) only [am_z, cq_P_page, Nat.reduceAdd, Nat.zero_le, Nat.reduceLeDiff, ar_lit, show (nI 0).toInt = 0 by decide +kernel, Int.reduceLT, Int.reduceSub, Int.reduceToNat, List.getElem?_cons_zero, List.getElem?_cons_succ, ↓reduceIte]
        refine s_firstOf (by omega) l2 hi ?_
        simp only [am_z, Nat.reduceAdd, Nat.zero_le, Nat.reduceLeDiff]
        refine rn_P_page (by omega) 20 ?_
        simp (disch := omega) only [am_z, cq_P_page, Nat.reduceAdd, Nat.zero_le, Nat.reduceLeDiff, ar_lit]
        exact kk
      · simp only [am_z, Nat.reduceAdd, Nat.zero_le, Nat.reduceLeDiff]
        refine rn_P_page (by omega) 20 ?_
        simp (disch := omega) only [am_z, cq_P_page, Nat.reduceAdd, Nat.zero_le, Nat.reduceLeDiff, ar_lit, show (nI 1).toInt = 1 by decide +kernel, Int.reduceLT, Int.reduceSub, Int.reduceToNat, List.getElem?_cons_zero, List.getElem?_cons_succ, ↓reduceIte]
        refine s_lastOf (by omega) l2 hlen hi ?_
        simp only [am_z, Nat.reduceAdd, Nat.zero_le, Nat.reduceLeDiff]
        refine rn_P_page (by omega) 20 ?_
        simp (disch := omega) only [am_z, cq_P_page, Nat.reduceAdd, Nat.zero_le, Nat.reduceLeDiff, ar_lit]
        exact kk
      · simp only [am_z, Nat.reduceAdd, Nat.zero_le, Nat.reduceLeDiff]
        refine rn_P_page (by omega) 20 ?_
        simp (disch := omega) only [am_z, cq_P_page, Nat.reduceAdd, Nat.zero_le, Nat.reduceLeDiff, ar_lit, show (nI 2).toInt = 2 by decide +kernel, Int.reduceLT, Int.reduceSub, Int.reduceToNat, List.getElem?_cons_zero, List.getElem?_cons_succ, ↓reduceIte]
        refine s_needed (by omega) r2 b1 ?_
        simp only [am_z, Nat.reduceAdd, Nat.zero_le, Nat.reduceLeDiff]
        refine rn_P_page (by omega) 20 ?_
        simp (disch := omega) only [am_z, cq_P_page, Nat.reduceAdd, Nat.zero_le, Nat.reduceLeDiff, ar_lit]
        exact kk
      · simp only [am_z, Nat.reduceAdd, Nat.zero_le, Nat.reduceLeDiff]
        refine rn_P_page (by omega) 20 ?_
        simp (disch := omega) only [am_z, cq_P_page, Nat.reduceAdd, Nat.zero_le, Nat.reduceLeDiff, ar_lit, show (nI 3).toInt = 3 by decide +kernel, Int.reduceLT, Int.reduceSub, Int.reduceToNat, List.getElem?_cons_zero, List.getElem?_cons_succ, ↓reduceIte, h2.p.1.2.2.2.1]
        refine s_needed (by omega) r2 b1 ?_
        simp only [am_z, Nat.reduceAdd, Nat.zero_le, Nat.reduceLeDiff]
        refine rn_P_page (by omega) 20 ?_
        simp (disch := omega) only [am_z, cq_P_page, Nat.reduceAdd, Nat.zero_le, Nat.reduceLeDiff, ar_lit]
        exact kk
      · simp only [am_z, Nat.reduceAdd, Nat.zero_le, Nat.reduceLeDiff]
        refine rn_P_page (by omega) 20 ?_
        simp (disch := omega) only [am_z, cq_P_page, Nat.reduceAdd, Nat.zero_le, Nat.reduceLeDiff, ar_lit, show (nI 4).toInt = 4 by decide +kernel, Int.reduceLT, Int.reduceSub, Int.reduceToNat, List.getElem?_cons_zero, List.getElem?_cons_succ, ↓reduceIte, r2.1]
        exact kk
      · simp only [am_z, Nat.reduceAdd, Nat.zero_le, Nat.reduceLeDiff]
        refine rn_P_page (by omega) 20 ?_
        simp (disch := omega) only [am_z, cq_P_page, Nat.reduceAdd, Nat.zero_le, Nat.reduceLeDiff, ar_lit, show (nI 5).toInt = 5 by decide +kernel, Int.reduceLT, Int.reduceSub, Int.reduceToNat, List.getElem?_cons_zero, List.getElem?_cons_succ, ↓reduceIte]
        refine s_noteBits (by omega) hw r2 (by omega) ?_
        simp only [am_z, Nat.reduceAdd, Nat.zero_le, Nat.reduceLeDiff]
        refine rn_P_page (by omega) 20 ?_
        simp (disch := omega) only [am_z, cq_P_page, Nat.reduceAdd, Nat.zero_le, Nat.reduceLeDiff, ar_lit]
        exact kk
end PB
section RG
variable {l : Launch} {D : Nat} {I I' : am_I} {J : am_J} {P : am_P} {s : pt_G}
theorem rQ.f0 {L : List pt_P} (h : rQ I L) (hf : fM [] [0] I I') : rQ I' L := by
  unfold rQ
  rw [hf.f9 (by simp) (by simp), hf.at (s := 32) (by simp) (by omega)]
  exact h
theorem s_M_page {a w : Int32} (hD : 9 ≤ D) (h : sm I s) (k : mk P J I (q_page s.2.1 a w, s)) : am_T l D y_M_page [vR (9, 0), vI a, vI w] am_G0 I J P := by
  obtain ⟨d, rfl⟩ : ∃ d, D = d + 1 := ⟨D - 1, by omega⟩
  have hlen := tpg_len (p := s.2.1) (h := tP s.2.1)
  unfold q_page at k
  refine en_M_page 20 (Nat.le_of_ble_eq_true rfl) ?_
  simp (disch := omega) only [am_z, cq_M_page, Nat.reduceAdd, Nat.zero_le, Nat.reduceLeDiff, ar_lit]
  refine s_M_isPage (by omega) h.p h.w (fun I1 f1 l1 => ?_)
  have h1 := h.rL f1
  rcases tix_c (tpg s.2.1 (tP s.2.1)).length a (by omega) with ⟨e, hs⟩ | ⟨i, hi, er, e⟩
  · rw [e] at k ⊢
    simp only [Option.isSome_none]
    simp only [am_z, Nat.reduceAdd, Nat.zero_le, Nat.reduceLeDiff]
    refine rn_M_page 20 ?_
    simp (disch := omega) only [am_z, cq_M_page, Nat.reduceAdd, Nat.zero_le, Nat.reduceLeDiff, ar_lit, b01, Bool.false_eq_true, ↓reduceIte]
    refine s_M_refN (by omega) (by omega) (by omega) (fun I2 f2 e2 => ?_)
    simp only [am_z, Nat.reduceAdd, Nat.zero_le, Nat.reduceLeDiff]
    refine rn_M_page 20 ?_
    simp (disch := omega) only [am_z, cq_M_page, Nat.reduceAdd, Nat.zero_le, Nat.reduceLeDiff, ar_lit, ar_eq, Nat.reduceEqDiff, ↓reduceIte]
    exact k I2 (f1.mL.tr f2.m0) (h1.r0 f2) e2
  · rw [e] at k ⊢
    subst er
    simp only [Option.isSome_some]
    simp only [am_z, Nat.reduceAdd, Nat.zero_le, Nat.reduceLeDiff]
    refine rn_M_page 20 ?_
    simp (disch := omega) only [am_z, cq_M_page, Nat.reduceAdd, Nat.zero_le, Nat.reduceLeDiff, ar_lit, b01, Bool.false_eq_true, ↓reduceIte, ar_eq, Nat.reduceEqDiff, lc_z.1]
    refine s_M_inT (n := 6) (by omega) (by decide +kernel) ?_
    rcases tix_c 6 w (by omega) with ⟨e, hs⟩ | ⟨j, hj, ew, e⟩
    · rw [e] at k ⊢
      simp only [Option.isSome_none]
      simp only [am_z, Nat.reduceAdd, Nat.zero_le, Nat.reduceLeDiff]
      refine rn_M_page 20 ?_
      simp (disch := omega) only [am_z, cq_M_page, Nat.reduceAdd, Nat.zero_le, Nat.reduceLeDiff, ar_lit, b01, Bool.false_eq_true, ↓reduceIte]
      refine s_M_refN (by omega) (by omega) (by omega) (fun I2 f2 e2 => ?_)
      simp only [am_z, Nat.reduceAdd, Nat.zero_le, Nat.reduceLeDiff]
      refine rn_M_page 20 ?_
      simp (disch := omega) only [am_z, cq_M_page, Nat.reduceAdd, Nat.zero_le, Nat.reduceLeDiff, ar_lit, ar_eq, Nat.reduceEqDiff, ↓reduceIte]
      exact k I2 (f1.mL.tr f2.m0) (h1.r0 f2) e2
    · rw [e] at k ⊢
      subst ew
      simp only [Option.isSome_some]
      simp only [am_z, Nat.reduceAdd, Nat.zero_le, Nat.reduceLeDiff]
      refine rn_M_page 20 ?_
      simp (disch := omega) only [am_z, cq_M_page, Nat.reduceAdd, Nat.zero_le, Nat.reduceLeDiff, ar_lit, b01, Bool.false_eq_true, ↓reduceIte, ar_eq, Nat.reduceEqDiff]
      refine s_M_ref0 (by omega) (fun I2 f2 e2 => ?_)
      have h2 := h1.r0 f2
      have l2 := l1.f0 f2
      have hw := h2.w
      obtain ⟨b1, b2, _⟩ := tpg_at (p := s.2.1) (h := tP s.2.1) i hi
      have h24 := hw.2.2.2.2.1
      have hi24 : i < 24 := by omega
      have kk := k I2 (f1.mL.tr f2.m0) h2 e2
      simp only [am_z, Nat.reduceAdd, Nat.zero_le, Nat.reduceLeDiff]
      refine rn_M_page 20 ?_
      simp (disch := omega) only [am_z, cq_M_page, Nat.reduceAdd, Nat.zero_le, Nat.reduceLeDiff, ar_lit, ↓reduceIte]
      refine s_M_startOf (by omega) l2 hi ?_
      rcases (show j = 0 ∨ j = 1 ∨ j = 2 ∨ j = 3 ∨ j = 4 ∨ j = 5 by omega) with rfl | rfl | rfl | rfl | rfl | rfl
      · simp only [am_z, Nat.reduceAdd, Nat.zero_le, Nat.reduceLeDiff]
        refine rn_M_page 40 ?_
        simp (disch := omega) only [am_z, cq_M_page, Nat.reduceAdd, Nat.zero_le, Nat.reduceLeDiff, ar_lit, show (nI 0).toInt = 0 by decide +kernel, Int.reduceLT, Int.reduceSub, Int.reduceToNat, List.getElem?_cons_zero, List.getElem?_cons_succ, ↓reduceIte, ar_in, ar_cl, l2.2 i hi]
        exact ⟨hi24, kk⟩
      · simp only [am_z, Nat.reduceAdd, Nat.zero_le, Nat.reduceLeDiff]
        refine rn_M_page 40 ?_
        simp (disch := omega) only [am_z, cq_M_page, Nat.reduceAdd, Nat.zero_le, Nat.reduceLeDiff, ar_lit, show (nI 1).toInt = 1 by decide +kernel, Int.reduceLT, Int.reduceSub, Int.reduceToNat, List.getElem?_cons_zero, List.getElem?_cons_succ, ↓reduceIte, ar_in, ar_cl, l2.2 i hi]
        exact ⟨hi24, kk⟩
      · simp only [am_z, Nat.reduceAdd, Nat.zero_le, Nat.reduceLeDiff]
        refine rn_M_page 40 ?_
        simp (disch := omega) only [am_z, cq_M_page, Nat.reduceAdd, Nat.zero_le, Nat.reduceLeDiff, ar_lit, show (nI 2).toInt = 2 by decide +kernel, Int.reduceLT, Int.reduceSub, Int.reduceToNat, List.getElem?_cons_zero, List.getElem?_cons_succ, ↓reduceIte, ar_in, ar_cl, l2.2 i hi]
        refine ⟨hi24, ?_⟩
        refine s_M_lines (by omega) isU_27 h2.p hw b1 b2 ?_
        simp only [am_z, Nat.reduceAdd, Nat.zero_le, Nat.reduceLeDiff]
        refine rn_M_page 20 ?_
        simp (disch := omega) only [am_z, cq_M_page, Nat.reduceAdd, Nat.zero_le, Nat.reduceLeDiff, ar_lit]
        exact kk
      · simp only [am_z, Nat.reduceAdd, Nat.zero_le, Nat.reduceLeDiff]
        refine rn_M_page 40 ?_
        simp (disch := omega) only [am_z, cq_M_page, Nat.reduceAdd, Nat.zero_le, Nat.reduceLeDiff, ar_lit, show (nI 3).toInt = 3 by decide +kernel, Int.reduceLT, Int.reduceSub, Int.reduceToNat, List.getElem?_cons_zero, List.getElem?_cons_succ, ↓reduceIte, ar_in, ar_cl, l2.2 i hi, h2.p.1.2.2.2.1, Nat.reduceLT, am_tt]
        refine ⟨hi24, ?_⟩
        refine s_M_lines (by omega) isU_27 h2.p hw b1 b2 ?_
        simp only [am_z, Nat.reduceAdd, Nat.zero_le, Nat.reduceLeDiff]
        refine rn_M_page 20 ?_
        simp (disch := omega) only [am_z, cq_M_page, Nat.reduceAdd, Nat.zero_le, Nat.reduceLeDiff, ar_lit]
        exact kk
      · simp only [am_z, Nat.reduceAdd, Nat.zero_le, Nat.reduceLeDiff]
        refine rn_M_page 40 ?_
        simp (disch := omega) only [am_z, cq_M_page, Nat.reduceAdd, Nat.zero_le, Nat.reduceLeDiff, ar_lit, show (nI 4).toInt = 4 by decide +kernel, Int.reduceLT, Int.reduceSub, Int.reduceToNat, List.getElem?_cons_zero, List.getElem?_cons_succ, ↓reduceIte, ar_in, ar_cl, l2.2 i hi]
        refine ⟨hi24, ?_⟩
        refine s_M_names (by omega) isU_27 h2.p hw (by omega) ?_
        simp only [am_z, Nat.reduceAdd, Nat.zero_le, Nat.reduceLeDiff]
        refine rn_M_page 20 ?_
        simp (disch := omega) only [am_z, cq_M_page, Nat.reduceAdd, Nat.zero_le, Nat.reduceLeDiff, ar_lit]
        exact kk
      · simp only [am_z, Nat.reduceAdd, Nat.zero_le, Nat.reduceLeDiff]
        refine rn_M_page 40 ?_
        simp (disch := omega) only [am_z, cq_M_page, Nat.reduceAdd, Nat.zero_le, Nat.reduceLeDiff, ar_lit, show (nI 5).toInt = 5 by decide +kernel, Int.reduceLT, Int.reduceSub, Int.reduceToNat, List.getElem?_cons_zero, List.getElem?_cons_succ, ↓reduceIte, List.getElem?_nil, ar_in, ar_cl, l2.2 i hi]
        refine ⟨hi24, ?_⟩
        refine s_M_notes (by omega) isU_27 h2.p hw b1 b2 ?_
        simp only [am_z, Nat.reduceAdd, Nat.zero_le, Nat.reduceLeDiff]
        refine rn_M_page 20 ?_
        simp (disch := omega) only [am_z, cq_M_page, Nat.reduceAdd, Nat.zero_le, Nat.reduceLeDiff, ar_lit]
        exact kk
theorem s_M_brought {a c : Int32} (hD : 9 ≤ D) (h : sm I s) (k : mk P J I (q_brought s.2.1 a c, s)) : am_T l D y_M_brought [vR (9, 0), vI a, vI c] am_G0 I J P := by
  obtain ⟨d, rfl⟩ : ∃ d, D = d + 1 := ⟨D - 1, by omega⟩
  have hlen := tpg_len (p := s.2.1) (h := tP s.2.1)
  have h4 := h.w.1.2
  unfold q_brought at k
  refine en_M_brought 20 (Nat.le_of_ble_eq_true rfl) ?_
  simp (disch := omega) only [am_z, cq_M_brought, Nat.reduceAdd, Nat.zero_le, Nat.reduceLeDiff, ar_lit]
  refine s_M_isPage (by omega) h.p h.w (fun I1 f1 l1 => ?_)
  have h1 := h.rL f1
  rcases tix_c (tpg s.2.1 (tP s.2.1)).length a (by omega) with ⟨e, hs⟩ | ⟨i, hi, er, e⟩
  · rw [e] at k ⊢
    simp only [Option.isSome_none]
    simp only [am_z, Nat.reduceAdd, Nat.zero_le, Nat.reduceLeDiff]
    refine rn_M_brought 20 ?_
    simp (disch := omega) only [am_z, cq_M_brought, Nat.reduceAdd, Nat.zero_le, Nat.reduceLeDiff, ar_lit, b01, Bool.false_eq_true, ↓reduceIte]
    refine s_M_refN (by omega) (by omega) (by omega) (fun I2 f2 e2 => ?_)
    simp only [am_z, Nat.reduceAdd, Nat.zero_le, Nat.reduceLeDiff]
    refine rn_M_brought 20 ?_
    simp (disch := omega) only [am_z, cq_M_brought, Nat.reduceAdd, Nat.zero_le, Nat.reduceLeDiff, ar_lit, ar_eq, Nat.reduceEqDiff, ↓reduceIte]
    exact k I2 (f1.mL.tr f2.m0) (h1.r0 f2) e2
  · rw [e] at k ⊢
    subst er
    simp only [Option.isSome_some]
    simp only [am_z, Nat.reduceAdd, Nat.zero_le, Nat.reduceLeDiff]
    refine rn_M_brought 20 ?_
    simp (disch := omega) only [am_z, cq_M_brought, Nat.reduceAdd, Nat.zero_le, Nat.reduceLeDiff, ar_lit, b01, Bool.false_eq_true, ↓reduceIte, ar_eq, Nat.reduceEqDiff]
    refine s_M_isColumn (by omega) h1.p h1.w ?_
    rcases tix_c (tC s.2.1) c (by omega) with ⟨e, hs⟩ | ⟨j, hj, ec, e⟩
    · rw [e] at k ⊢
      simp only [Option.isSome_none]
      simp only [am_z, Nat.reduceAdd, Nat.zero_le, Nat.reduceLeDiff]
      refine rn_M_brought 20 ?_
      simp (disch := omega) only [am_z, cq_M_brought, Nat.reduceAdd, Nat.zero_le, Nat.reduceLeDiff, ar_lit, b01, Bool.false_eq_true, ↓reduceIte]
      refine s_M_refN (by omega) (by omega) (by omega) (fun I2 f2 e2 => ?_)
      simp only [am_z, Nat.reduceAdd, Nat.zero_le, Nat.reduceLeDiff]
      refine rn_M_brought 20 ?_
      simp (disch := omega) only [am_z, cq_M_brought, Nat.reduceAdd, Nat.zero_le, Nat.reduceLeDiff, ar_lit, ar_eq, Nat.reduceEqDiff, ↓reduceIte]
      exact k I2 (f1.mL.tr f2.m0) (h1.r0 f2) e2
    · rw [e] at k ⊢
      subst ec
      simp only [Option.isSome_some]
      simp only [am_z, Nat.reduceAdd, Nat.zero_le, Nat.reduceLeDiff]
      refine rn_M_brought 20 ?_
      simp (disch := omega) only [am_z, cq_M_brought, Nat.reduceAdd, Nat.zero_le, Nat.reduceLeDiff, ar_lit, b01, Bool.false_eq_true, ↓reduceIte, ar_eq, Nat.reduceEqDiff]
      refine s_M_ref0 (by omega) (fun I2 f2 e2 => ?_)
      have h2 := h1.r0 f2
      have l2 := l1.f0 f2
      obtain ⟨b1, b2, _⟩ := tpg_at (p := s.2.1) (h := tP s.2.1) i hi
      simp only [am_z, Nat.reduceAdd, Nat.zero_le, Nat.reduceLeDiff]
      refine rn_M_brought 20 ?_
      simp (disch := omega) only [am_z, cq_M_brought, Nat.reduceAdd, Nat.zero_le, Nat.reduceLeDiff, ar_lit, ↓reduceIte]
      refine s_M_startOf (by omega) l2 hi ?_
      simp only [am_z, Nat.reduceAdd, Nat.zero_le, Nat.reduceLeDiff]
      refine rn_M_brought 20 ?_
      simp (disch := omega) only [am_z, cq_M_brought, Nat.reduceAdd, Nat.zero_le, Nat.reduceLeDiff, ar_lit]
      refine s_M_sum (by omega) isU_27 h2.p h2.w (Nat.zero_le _) (by omega) (by omega) ?_
      simp only [am_z, Nat.reduceAdd, Nat.zero_le, Nat.reduceLeDiff]
      refine rn_M_brought 20 ?_
      simp (disch := omega) only [am_z, cq_M_brought, Nat.reduceAdd, Nat.zero_le, Nat.reduceLeDiff, ar_lit]
      exact k I2 (f1.mL.tr f2.m0) h2 e2
theorem s_M_carried {a c : Int32} (hD : 9 ≤ D) (h : sm I s) (k : mk P J I (q_carried s.2.1 a c, s)) : am_T l D y_M_carried [vR (9, 0), vI a, vI c] am_G0 I J P := by
  obtain ⟨d, rfl⟩ : ∃ d, D = d + 1 := ⟨D - 1, by omega⟩
  have hlen := tpg_len (p := s.2.1) (h := tP s.2.1)
  have h4 := h.w.1.2
  unfold q_carried at k
  refine en_M_carried 20 (Nat.le_of_ble_eq_true rfl) ?_
  simp (disch := omega) only [am_z, cq_M_carried, Nat.reduceAdd, Nat.zero_le, Nat.reduceLeDiff, ar_lit]
  refine s_M_isPage (by omega) h.p h.w (fun I1 f1 l1 => ?_)
  have h1 := h.rL f1
  rcases tix_c (tpg s.2.1 (tP s.2.1)).length a (by omega) with ⟨e, hs⟩ | ⟨i, hi, er, e⟩
  · rw [e] at k ⊢
    simp only [Option.isSome_none]
    simp only [am_z, Nat.reduceAdd, Nat.zero_le, Nat.reduceLeDiff]
    refine rn_M_carried 20 ?_
    simp (disch := omega) only [am_z, cq_M_carried, Nat.reduceAdd, Nat.zero_le, Nat.reduceLeDiff, ar_lit, b01, Bool.false_eq_true, ↓reduceIte]
    refine s_M_refN (by omega) (by omega) (by omega) (fun I2 f2 e2 => ?_)
    simp only [am_z, Nat.reduceAdd, Nat.zero_le, Nat.reduceLeDiff]
    refine rn_M_carried 20 ?_
    simp (disch := omega) only [am_z, cq_M_carried, Nat.reduceAdd, Nat.zero_le, Nat.reduceLeDiff, ar_lit, ar_eq, Nat.reduceEqDiff, ↓reduceIte]
    exact k I2 (f1.mL.tr f2.m0) (h1.r0 f2) e2
  · rw [e] at k ⊢
    subst er
    simp only [Option.isSome_some]
    simp only [am_z, Nat.reduceAdd, Nat.zero_le, Nat.reduceLeDiff]
    refine rn_M_carried 20 ?_
    simp (disch := omega) only [am_z, cq_M_carried, Nat.reduceAdd, Nat.zero_le, Nat.reduceLeDiff, ar_lit, b01, Bool.false_eq_true, ↓reduceIte, ar_eq, Nat.reduceEqDiff]
    refine s_M_isColumn (by omega) h1.p h1.w ?_
    rcases tix_c (tC s.2.1) c (by omega) with ⟨e, hs⟩ | ⟨j, hj, ec, e⟩
    · rw [e] at k ⊢
      simp only [Option.isSome_none]
      simp only [am_z, Nat.reduceAdd, Nat.zero_le, Nat.reduceLeDiff]
      refine rn_M_carried 20 ?_
      simp (disch := omega) only [am_z, cq_M_carried, Nat.reduceAdd, Nat.zero_le, Nat.reduceLeDiff, ar_lit, b01, Bool.false_eq_true, ↓reduceIte]
      refine s_M_refN (by omega) (by omega) (by omega) (fun I2 f2 e2 => ?_)
      simp only [am_z, Nat.reduceAdd, Nat.zero_le, Nat.reduceLeDiff]
      refine rn_M_carried 20 ?_
      simp (disch := omega) only [am_z, cq_M_carried, Nat.reduceAdd, Nat.zero_le, Nat.reduceLeDiff, ar_lit, ar_eq, Nat.reduceEqDiff, ↓reduceIte]
      exact k I2 (f1.mL.tr f2.m0) (h1.r0 f2) e2
    · rw [e] at k ⊢
      subst ec
      simp only [Option.isSome_some]
      simp only [am_z, Nat.reduceAdd, Nat.zero_le, Nat.reduceLeDiff]
      refine rn_M_carried 20 ?_
      simp (disch := omega) only [am_z, cq_M_carried, Nat.reduceAdd, Nat.zero_le, Nat.reduceLeDiff, ar_lit, b01, Bool.false_eq_true, ↓reduceIte, ar_eq, Nat.reduceEqDiff]
      refine s_M_ref0 (by omega) (fun I2 f2 e2 => ?_)
      have h2 := h1.r0 f2
      have l2 := l1.f0 f2
      obtain ⟨b1, b2, _⟩ := tpg_at (p := s.2.1) (h := tP s.2.1) i hi
      simp only [am_z, Nat.reduceAdd, Nat.zero_le, Nat.reduceLeDiff]
      refine rn_M_carried 20 ?_
      simp (disch := omega) only [am_z, cq_M_carried, Nat.reduceAdd, Nat.zero_le, Nat.reduceLeDiff, ar_lit, ↓reduceIte, ar_in, ar_cl, l2.2 i hi]
      refine ⟨by omega, ?_⟩
      refine s_M_sum' (by omega) isU_27 h2.p h2.w (Nat.zero_le _) b2 (by omega) ?_
      simp only [am_z, Nat.reduceAdd, Nat.zero_le, Nat.reduceLeDiff]
      refine rn_M_carried 20 ?_
      simp (disch := omega) only [am_z, cq_M_carried, Nat.reduceAdd, Nat.zero_le, Nat.reduceLeDiff, ar_lit]
      exact k I2 (f1.mL.tr f2.m0) h2 e2
theorem s_M_richest {c : Int32} (hD : 9 ≤ D) (h : sm I s) (k : mk P J I (q_richest s.2.1 c, s)) : am_T l D y_M_richest [vR (9, 0), vI c] am_G0 I J P := by
  obtain ⟨d, rfl⟩ : ∃ d, D = d + 1 := ⟨D - 1, by omega⟩
  have hlen := tpg_len (p := s.2.1) (h := tP s.2.1)
  have h4 := h.w.1.2
  have hw := h.w
  unfold q_richest at k
  refine en_M_richest 20 (Nat.le_of_ble_eq_true rfl) ?_
  simp (disch := omega) only [am_z, cq_M_richest, Nat.reduceAdd, Nat.zero_le, Nat.reduceLeDiff, ar_lit]
  refine s_M_isColumn (by omega) h.p h.w ?_
  rcases tix_c (tC s.2.1) c (by omega) with ⟨e, hs⟩ | ⟨j, hj, ec, e⟩
  · rw [e] at k ⊢
    simp only [Option.isSome_none]
    simp only [am_z, Nat.reduceAdd, Nat.zero_le, Nat.reduceLeDiff]
    refine rn_M_richest 20 ?_
    simp (disch := omega) only [am_z, cq_M_richest, Nat.reduceAdd, Nat.zero_le, Nat.reduceLeDiff, ar_lit, b01, Bool.false_eq_true, ↓reduceIte]
    refine s_M_refN (by omega) (by omega) (by omega) (fun I2 f2 e2 => ?_)
    simp only [am_z, Nat.reduceAdd, Nat.zero_le, Nat.reduceLeDiff]
    refine rn_M_richest 20 ?_
    simp (disch := omega) only [am_z, cq_M_richest, Nat.reduceAdd, Nat.zero_le, Nat.reduceLeDiff, ar_lit, ar_eq, Nat.reduceEqDiff, ↓reduceIte]
    exact k I2 f2.m0 (h.r0 f2) e2
  · rw [e] at k ⊢
    subst ec
    simp only [Option.isSome_some]
    simp only [am_z, Nat.reduceAdd, Nat.zero_le, Nat.reduceLeDiff]
    refine rn_M_richest 20 ?_
    simp (disch := omega) only [am_z, cq_M_richest, Nat.reduceAdd, Nat.zero_le, Nat.reduceLeDiff, ar_lit, b01, Bool.false_eq_true, ↓reduceIte, ar_eq, Nat.reduceEqDiff]
    refine s_M_ref0 (by omega) (fun I1 f1 e1 => ?_)
    have h1 := h.r0 f1
    simp only [am_z, Nat.reduceAdd, Nat.zero_le, Nat.reduceLeDiff]
    refine rn_M_richest 20 ?_
    simp (disch := omega) only [am_z, cq_M_richest, Nat.reduceAdd, Nat.zero_le, Nat.reduceLeDiff, ar_lit, ↓reduceIte]
    refine s_M_lay (by omega) isU_27 h1.p h1.w (fun I2 f2 l2 => ?_)
    have h2 := h1.rL f2
    have kk := k I2 (f1.m0.tr f2.mL) h2 (f2.l0.trans e1)
    have loop : ∀ m i b g a5, i + m = (tpg s.2.1 (tP s.2.1)).length → b = lv ((trch s.2.1 (tpg s.2.1 (tP s.2.1)) j i).map Prod.fst) → g = iI (((trch s.2.1 (tpg s.2.1 (tP s.2.1)) j i).map Prod.snd).getD (-999999)) → am_X l (0, fun _ => 0) (d + 1) y_M_richest P 40 [some (vR (9, 0)), some (vI (nI j)), some (vI b), some (vI g), some (vI (nI i)), a5] [] 0 0 am_G0 I2 J := by
      intro m
      induction m with
      | zero =>
        intro i b g a5 hi hb hg
        refine rn_M_richest 20 ?_
        simp (disch := omega) only [am_z, cq_M_richest, Nat.reduceAdd, Nat.zero_le, Nat.reduceLeDiff, ar_lit, l2.1, ar_le]
        rw [if_pos (by omega)]
        have : i = (tpg s.2.1 (tP s.2.1)).length := by omega
        subst this
        rw [hb]
        exact kk
      | succ m ih =>
        intro i b g a5 hi hb hg
        have hil : i < (tpg s.2.1 (tP s.2.1)).length := by omega
        obtain ⟨b1, b2, _⟩ := tpg_at (p := s.2.1) (h := tP s.2.1) i hil
        have hs := tsum_le hw (a := (pgA (tpg s.2.1 (tP s.2.1)) i).1) (b := (pgA (tpg s.2.1 (tP s.2.1)) i).2.1 + 1) (c := j) (by omega) (by omega)
        have es := trch_s s.2.1 (tpg s.2.1 (tP s.2.1)) j i
        have hle := trch_le hw (c := j) i (Nat.le_of_lt hil)
        refine rn_M_richest 20 ?_
        simp (disch := omega) only [am_z, cq_M_richest, Nat.reduceAdd, Nat.zero_le, Nat.reduceLeDiff, ar_lit, l2.1, ar_le]
        rw [if_neg (by omega)]
        refine s_M_startOf (by omega) l2 hil ?_
        simp only [am_z, Nat.reduceAdd, Nat.zero_le, Nat.reduceLeDiff]
        refine rn_M_richest 20 ?_
        simp (disch := omega) only [am_z, cq_M_richest, Nat.reduceAdd, Nat.zero_le, Nat.reduceLeDiff, ar_lit, ar_in, ar_cl, l2.2 i hil]
        refine ⟨by omega, ?_⟩
        refine s_M_sum' (by omega) isU_27 h2.p hw (by omega) b2 (by omega) ?_
        have gb : ∃ z : Int, g = iI z ∧ -999999 ≤ z ∧ z ≤ 2376 ∧ (trch s.2.1 (tpg s.2.1 (tP s.2.1)) j (i + 1) = if z < tsum s.2.1 (pgA (tpg s.2.1 (tP s.2.1)) i).1 ((pgA (tpg s.2.1 (tP s.2.1)) i).2.1 + 1) j then some (i, tsum s.2.1 (pgA (tpg s.2.1 (tP s.2.1)) i).1 ((pgA (tpg s.2.1 (tP s.2.1)) i).2.1 + 1) j) else trch s.2.1 (tpg s.2.1 (tP s.2.1)) j i) := by
          cases e2 : trch s.2.1 (tpg s.2.1 (tP s.2.1)) j i with
          | none =>
            rw [e2] at es hg
            refine ⟨-999999, hg, by omega, by omega, ?_⟩
            rw [es, if_pos (by omega)]
          | some y =>
            rw [e2] at es hg
            obtain ⟨g1, g2, g3⟩ := hle y e2
            refine ⟨y.2, hg, by omega, by omega, es⟩
        obtain ⟨z, hz, z1, z2, et⟩ := gb
        by_cases q : tsum s.2.1 (pgA (tpg s.2.1 (tP s.2.1)) i).1 ((pgA (tpg s.2.1 (tP s.2.1)) i).2.1 + 1) j ≤ z
        · rw [if_neg (by omega)] at et
          simp only [am_z, Nat.reduceAdd, Nat.zero_le, Nat.reduceLeDiff]
          refine rn_M_richest 60 ?_
          simp (disch := omega) only [am_z, cq_M_richest, Nat.reduceAdd, Nat.zero_le, Nat.reduceLeDiff, ar_lit, hz, iI_le (a := tsum s.2.1 (pgA (tpg s.2.1 (tP s.2.1)) i).1 ((pgA (tpg s.2.1 (tP s.2.1)) i).2.1 + 1) j) (b := z) (by omega) (by omega), if_pos q, nI_add]
          exact @ih (i + 1) _ _ _ (by omega) (by rw [et]; exact hb) (by rw [et, ← hz]; exact hg)
        · rw [if_pos (by omega)] at et
          simp only [am_z, Nat.reduceAdd, Nat.zero_le, Nat.reduceLeDiff]
          refine rn_M_richest 60 ?_
          simp (disch := omega) only [am_z, cq_M_richest, Nat.reduceAdd, Nat.zero_le, Nat.reduceLeDiff, ar_lit, hz, iI_le (a := tsum s.2.1 (pgA (tpg s.2.1 (tP s.2.1)) i).1 ((pgA (tpg s.2.1 (tP s.2.1)) i).2.1 + 1) j) (b := z) (by omega) (by omega), if_neg q, nI_add]
          exact @ih (i + 1) _ _ _ (by omega) (by rw [et]; rfl) (by rw [et]; rfl)
    simp only [am_z, Nat.reduceAdd, Nat.zero_le, Nat.reduceLeDiff]
    refine rn_M_richest 20 ?_
    simp (disch := omega) only [am_z, cq_M_richest, Nat.reduceAdd, Nat.zero_le, Nat.reduceLeDiff, ar_lit]
    exact @loop _ 0 _ _ _ (Nat.zero_add _) rfl rfl
end RG
