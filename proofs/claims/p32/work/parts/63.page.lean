/-! ===== page, on both sides; the reference: brought, carried, richest ===== -/
def tpgv (p : pt_T) (x : pt_P) : Nat → Int32
  | 0 => nI x.1
  | 1 => nI x.2.1
  | 2 => nI (tlines p x.1 x.2.1)
  | 3 => nI (tP p) - nI (tlines p x.1 x.2.1)
  | 4 => nI (tnam p x.1)
  | _ => nI (tmsk p x.1 (x.2.1 + 1 - x.1) / 2)
def q_page (p : pt_T) (a w : Int32) : Nat × Int32 := match tix (tpg p (tP p)).length a with
  | none => (1, 0)
  | some i => match tix 6 w with
    | none => (2, 0)
    | some j => (0, tpgv p (pgA (tpg p (tP p)) i) j)
section PB
variable {l : Launch} {D : Nat} {I : am_I} {J : am_J} {P : am_P} {s : pt_G}
theorem s_P_page {a w : Int32} (hD : 7 ≤ D) (h : st I s) (k : ∀ I', am_fr isC I I' → st I' s → P (ox [3, 1] (q_page s.2.1 a w)) am_G0 I' J) : am_T l D y_P_page [vR (0, 0), vI a, vI w] am_G0 I J P := by
  obtain ⟨d, rfl⟩ : ∃ d, D = d + 1 := ⟨D - 1, by omega⟩
  have hp := h.p
  have hw := h.w
  have h24 := hw.2.2.2.2.1
  have hlen := tpg_len (p := s.2.1) (h := tP s.2.1)
  unfold q_page at k
  refine en_P_page 20 (by omega) (Nat.le_of_ble_eq_true rfl) ?_
  simp (disch := omega) only [am_z, cq_P_page, Nat.reduceAdd, Nat.zero_le, Nat.reduceLeDiff, ar_lit]
  refine s_requirePage (by omega) hp hw (fun I' hf hx => ?_) (fun I1 i f1 l1 hi er => ?_)
  · rw [tix_x (by omega) hx] at k
    simp only [am_z, Nat.reduceAdd, Nat.zero_le, Nat.reduceLeDiff]
    exact k I' (hf.mono fun c => isC_Y) (h.frY hf)
  · rw [tix_i er hi (by omega)] at k
    subst er
    have h1 := h.frY f1
    obtain ⟨b1, b2, _⟩ := tpg_at (p := s.2.1) (h := tP s.2.1) i hi
    simp only [am_z, Nat.reduceAdd, Nat.zero_le, Nat.reduceLeDiff]
    refine rn_P_page (by omega) 20 ?_
    simp (disch := omega) only [am_z, cq_P_page, Nat.reduceAdd, Nat.zero_le, Nat.reduceLeDiff, ar_lit]
    refine s_sheetOf (by omega) h1.p hw l1 hi (fun I2 f2 r2 => ?_)
    have h2 := h1.frS f2
    have l2 : rL I2 (tpg s.2.1 (tP s.2.1)) := l1.kept (f2 _ (fun q => by unfold isS at q; simp at q)) (f2 _ (fun q => by unfold isS at q; simp at q))
    have kk := k I2 ((f1.mono fun c => isC_Y).tr (f2.mono fun c => isC_S)) h2
    rcases tix_c 6 w (by omega) with ⟨e, hs⟩ | ⟨j, hj, ew, e⟩
    · rw [e] at kk
      by_cases h0 : w.toInt < 0
      · simp only [am_z, Nat.reduceAdd, Nat.zero_le, Nat.reduceLeDiff]
        refine rn_P_page (by omega) 20 ?_
        simp (disch := omega) only [am_z, cq_P_page, Nat.reduceAdd, Nat.zero_le, Nat.reduceLeDiff, ar_lit, if_pos h0]
        exact kk
      · have hn : ([56, 65, 74, 79, 92, 97] : List Nat)[(w.toInt - 0).toNat]? = none := sw_none (by simp; omega)
        simp only [am_z, Nat.reduceAdd, Nat.zero_le, Nat.reduceLeDiff]
        refine rn_P_page (by omega) 20 ?_
        simp (disch := omega) only [am_z, cq_P_page, Nat.reduceAdd, Nat.zero_le, Nat.reduceLeDiff, ar_lit, if_neg h0, hn]
        exact kk
    · rw [e] at kk
      subst ew
      rcases (show j = 0 ∨ j = 1 ∨ j = 2 ∨ j = 3 ∨ j = 4 ∨ j = 5 by omega) with rfl | rfl | rfl | rfl | rfl | rfl
      · simp only [am_z, Nat.reduceAdd, Nat.zero_le, Nat.reduceLeDiff]
        refine rn_P_page (by omega) 20 ?_
        simp (disch := omega) only [am_z, cq_P_page, Nat.reduceAdd, Nat.zero_le, Nat.reduceLeDiff, ar_lit, show (nI 0).toInt = 0 by decide +kernel, Int.reduceLT, Int.reduceSub, Int.reduceToNat, List.getElem?_cons_zero, List.getElem?_cons_succ, ↓reduceIte]
        refine s_firstOf (by omega) l2 hi ?_
        simp only [am_z, Nat.reduceAdd, Nat.zero_le, Nat.reduceLeDiff]
        refine rn_P_page (by omega) 20 ?_
        simp (disch := omega) only [am_z, cq_P_page, Nat.reduceAdd, Nat.zero_le, Nat.reduceLeDiff, ar_lit]
        exact kk
      · simp only [am_z, Nat.reduceAdd, Nat.zero_le, Nat.reduceLeDiff]
        refine rn_P_page (by omega) 20 ?_
        simp (disch := omega) only [am_z, cq_P_page, Nat.reduceAdd, Nat.zero_le, Nat.reduceLeDiff, ar_lit, show (nI 1).toInt = 1 by decide +kernel, Int.reduceLT, Int.reduceSub, Int.reduceToNat, List.getElem?_cons_zero, List.getElem?_cons_succ, ↓reduceIte]
        refine s_lastOf (by omega) l2 hlen hi ?_
        simp only [am_z, Nat.reduceAdd, Nat.zero_le, Nat.reduceLeDiff]
        refine rn_P_page (by omega) 20 ?_
        simp (disch := omega) only [am_z, cq_P_page, Nat.reduceAdd, Nat.zero_le, Nat.reduceLeDiff, ar_lit]
        exact kk
      · simp only [am_z, Nat.reduceAdd, Nat.zero_le, Nat.reduceLeDiff]
        refine rn_P_page (by omega) 20 ?_
        simp (disch := omega) only [am_z, cq_P_page, Nat.reduceAdd, Nat.zero_le, Nat.reduceLeDiff, ar_lit, show (nI 2).toInt = 2 by decide +kernel, Int.reduceLT, Int.reduceSub, Int.reduceToNat, List.getElem?_cons_zero, List.getElem?_cons_succ, ↓reduceIte]
        refine s_needed (by omega) r2 b1 ?_
        simp only [am_z, Nat.reduceAdd, Nat.zero_le, Nat.reduceLeDiff]
        refine rn_P_page (by omega) 20 ?_
        simp (disch := omega) only [am_z, cq_P_page, Nat.reduceAdd, Nat.zero_le, Nat.reduceLeDiff, ar_lit]
        exact kk
      · simp only [am_z, Nat.reduceAdd, Nat.zero_le, Nat.reduceLeDiff]
        refine rn_P_page (by omega) 20 ?_
        simp (disch := omega) only [am_z, cq_P_page, Nat.reduceAdd, Nat.zero_le, Nat.reduceLeDiff, ar_lit, show (nI 3).toInt = 3 by decide +kernel, Int.reduceLT, Int.reduceSub, Int.reduceToNat, List.getElem?_cons_zero, List.getElem?_cons_succ, ↓reduceIte, h2.p.1.2.2.2.1]
        refine s_needed (by omega) r2 b1 ?_
        simp only [am_z, Nat.reduceAdd, Nat.zero_le, Nat.reduceLeDiff]
        refine rn_P_page (by omega) 20 ?_
        simp (disch := omega) only [am_z, cq_P_page, Nat.reduceAdd, Nat.zero_le, Nat.reduceLeDiff, ar_lit]
        exact kk
      · simp only [am_z, Nat.reduceAdd, Nat.zero_le, Nat.reduceLeDiff]
        refine rn_P_page (by omega) 20 ?_
        simp (disch := omega) only [am_z, cq_P_page, Nat.reduceAdd, Nat.zero_le, Nat.reduceLeDiff, ar_lit, show (nI 4).toInt = 4 by decide +kernel, Int.reduceLT, Int.reduceSub, Int.reduceToNat, List.getElem?_cons_zero, List.getElem?_cons_succ, ↓reduceIte, r2.1]
        exact kk
      · simp only [am_z, Nat.reduceAdd, Nat.zero_le, Nat.reduceLeDiff]
        refine rn_P_page (by omega) 20 ?_
        simp (disch := omega) only [am_z, cq_P_page, Nat.reduceAdd, Nat.zero_le, Nat.reduceLeDiff, ar_lit, show (nI 5).toInt = 5 by decide +kernel, Int.reduceLT, Int.reduceSub, Int.reduceToNat, List.getElem?_cons_zero, List.getElem?_cons_succ, ↓reduceIte]
        refine s_noteBits (by omega) hw r2 (by omega) ?_
        simp only [am_z, Nat.reduceAdd, Nat.zero_le, Nat.reduceLeDiff]
        refine rn_P_page (by omega) 20 ?_
        simp (disch := omega) only [am_z, cq_P_page, Nat.reduceAdd, Nat.zero_le, Nat.reduceLeDiff, ar_lit]
        exact kk
end PB
