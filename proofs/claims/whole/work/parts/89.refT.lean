/-! ===== the reference: the whole text, errorPosition, load ===== -/
section RG
variable {l : Launch} {D : Nat} {I : am_I} {J : am_J} {P : am_P} {p : pt_T} {ss : List Nat} {a : Nat} {s : pt_G}
theorem rF.setC {f : Nat → Int32} {c h e : Nat} (hr : rF (upd f 0 (nI 1)) tnew) : rF (upd (upd (upd f 0 (nI c)) 3 (nI h)) 4 (nI e)) (tsetC tnew c h e) := by
  obtain ⟨⟨h0, h1, h2, h3, h4⟩, hV, hR, hS⟩ := hr
  refine ⟨⟨?_, ?_, ?_, ?_, ?_⟩, fun m q => ?_, fun r q => absurd q (Nat.not_lt_zero _), fun s q => absurd q (Nat.not_lt_zero _)⟩
  · simp (disch := omega) only [upd_n, upd_e]; rfl
  · simp (disch := omega) only [upd_n, upd_e] at h1 ⊢; exact h1
  · simp (disch := omega) only [upd_n, upd_e] at h2 ⊢; exact h2
  · simp (disch := omega) only [upd_n, upd_e]; rfl
  · simp (disch := omega) only [upd_n, upd_e]; rfl
  · have := hV m q
    simp (disch := omega) only [upd_n] at this ⊢
    exact this
theorem pall_s (ss : List Nat) (f a : Nat) (p : pt_T) : pall ss (f + 1) a p = if a < ss.length then (match (ppart ss a p).2 with
      | none => ((ppart ss a p).1, none)
      | some q => pall ss f (ppart ss a p).1 q) else (a, some p) := rfl
theorem s_M_readText (hD : 6 ≤ D) (h : rN I ss) (k : ∀ I', fM [26] [3, 4] I I' → (ptext ss).1 ≤ 160 → (∀ q, (ptext ss).2 = some q → rF (I' (26, 0)) q ∧ tW q) → P (.inl (some (vI (pans (ptext ss))))) am_G0 I' J) : am_T l D y_M_readText [vR (9, 0)] am_G0 I J P := by
  obtain ⟨d, rfl⟩ : ∃ d, D = d + 1 := ⟨D - 1, by omega⟩
  have hl := h.2.2.1
  -- a bad end
  have bad : ∀ I' x, fM [26] [3, 4] I I' → rP I' ss x false → ptext ss = (x, none) → am_X l (0, fun _ => 0) (d + 1) y_M_readText P 65 [some (vR (9, 0))] [] 0 0 am_G0 I' J := by
    intro I' x hf hp he
    have kk := k I' hf
    rw [he] at kk
    refine rn_M_readText 20 ?_
    simp (disch := omega) only [am_z, cq_M_readText, Nat.reduceAdd, Nat.zero_le, Nat.reduceLeDiff, ar_lit, hp.1, hp.2.1, b01, Bool.false_eq_true, ↓reduceIte]
    exact kk (by have := hp.2.2.2; show x ≤ 160; omega) (fun q hq => by cases hq)
  have loop : ∀ f a p I', ss.length ≤ a + f → fM [26] [3, 4] I I' → rP I' ss a true → rF (I' (26, 0)) p → tW p → pall ss f a p = ptext ss → am_X l (0, fun _ => 0) (d + 1) y_M_readText P 65 [some (vR (9, 0))] [] 0 0 am_G0 I' J := by
    intro f
    induction f with
    | zero =>
      intro a p I' hf hfr hp hr hw he
      have e0 : pall ss 0 a p = (a, some p) := rfl
      rw [e0] at he
      have kk := k I' hfr
      rw [← he] at kk
      have hz := hp.2.2.1.1
      have hal := hp.2.2.2
      have q : ss.length ≤ a := by omega
      refine rn_M_readText 20 ?_
      simp (disch := omega) only [am_z, cq_M_readText, Nat.reduceAdd, Nat.zero_le, Nat.reduceLeDiff, ar_lit, hp.1, hp.2.1, hz, ar_le, if_pos q, b01, Bool.false_eq_true, ↓reduceIte, ar_eq, Nat.reduceEqDiff]
      exact kk (by show a ≤ 160; omega) (fun q hq => by cases hq; exact ⟨hr, hw⟩)
    | succ f ih =>
      intro a p I' hf hfr hp hr hw he
      rw [pall_s] at he
      have hz := hp.2.2.1.1
      have hal := hp.2.2.2
      by_cases q : ss.length ≤ a
      · rw [if_neg (by omega)] at he
        have kk := k I' hfr
        rw [← he] at kk
        refine rn_M_readText 20 ?_
        simp (disch := omega) only [am_z, cq_M_readText, Nat.reduceAdd, Nat.zero_le, Nat.reduceLeDiff, ar_lit, hp.1, hp.2.1, hz, ar_le, if_pos q, b01, Bool.false_eq_true, ↓reduceIte, ar_eq, Nat.reduceEqDiff]
        exact kk (by show a ≤ 160; omega) (fun q hq => by cases hq; exact ⟨hr, hw⟩)
      · rw [if_pos (by omega)] at he
        have fin : ∀ pc, (pc = 96 ∨ pc = 112 ∨ pc = 119) → kq (am_k (am_X l (0, fun _ => 0) (d + 1) y_M_readText P) P pc [some (vR (9, 0))] [] 0 0) J ss I' (ppart ss a p) := by
          intro pc hpc I2 f2 p2 r2
          have nxt : am_X l (0, fun _ => 0) (d + 1) y_M_readText P 65 [some (vR (9, 0))] [] 0 0 am_G0 I2 J := by
            cases e : (ppart ss a p).2 with
            | none =>
              rw [e] at he p2
              exact bad I2 _ (hfr.tr f2) p2 he.symm
            | some q' =>
              rw [e] at he p2
              obtain ⟨r3, w3⟩ := r2 q' e
              have := ppart_gt e
              exact @ih _ q' I2 (by omega) (hfr.tr f2) p2 r3 w3 he
          rcases hpc with rfl | rfl | rfl
          · simp only [am_z, Nat.reduceAdd, Nat.zero_le, Nat.reduceLeDiff]
            refine rn_M_readText 1 ?_
            simp only [am_z, cq_M_readText, Nat.reduceAdd, Nat.zero_le, Nat.reduceLeDiff]
            exact nxt
          · simp only [am_z, Nat.reduceAdd, Nat.zero_le, Nat.reduceLeDiff]
            refine rn_M_readText 1 ?_
            simp only [am_z, cq_M_readText, Nat.reduceAdd, Nat.zero_le, Nat.reduceLeDiff]
            exact nxt
          · simp only [am_z, Nat.reduceAdd, Nat.zero_le, Nat.reduceLeDiff]
            refine rn_M_readText 1 ?_
            simp only [am_z, cq_M_readText, Nat.reduceAdd, Nat.zero_le, Nat.reduceLeDiff]
            exact nxt
        refine rn_M_readText 20 ?_
        simp (disch := omega) only [am_z, cq_M_readText, Nat.reduceAdd, Nat.zero_le, Nat.reduceLeDiff, ar_lit, hp.1, hp.2.1, hz, ar_le, if_neg q, b01, Bool.false_eq_true, ↓reduceIte, ar_eq, Nat.reduceEqDiff]
        refine s_M_isNext (by omega) hp (by omega) ?_
        by_cases q114 : ss[a]? = some 114
        · rw [decide_eq_true q114]
          simp only [am_z, Nat.reduceAdd, Nat.zero_le, Nat.reduceLeDiff]
          refine rn_M_readText 20 ?_
          simp (disch := omega) only [am_z, cq_M_readText, Nat.reduceAdd, Nat.zero_le, Nat.reduceLeDiff, ar_lit, b01, Bool.false_eq_true, ↓reduceIte, ar_eq, Nat.reduceEqDiff]
          exact s_M_readRow (by omega) hp q114 hr hw (fin 96 (Or.inl rfl))
        · rw [decide_eq_false q114]
          simp only [am_z, Nat.reduceAdd, Nat.zero_le, Nat.reduceLeDiff]
          refine rn_M_readText 20 ?_
          simp (disch := omega) only [am_z, cq_M_readText, Nat.reduceAdd, Nat.zero_le, Nat.reduceLeDiff, ar_lit, b01, Bool.false_eq_true, ↓reduceIte]
          refine s_M_isNext (by omega) hp (by omega) ?_
          by_cases q115 : ss[a]? = some 115
          · rw [decide_eq_true q115]
            simp only [am_z, Nat.reduceAdd, Nat.zero_le, Nat.reduceLeDiff]
            refine rn_M_readText 20 ?_
            simp (disch := omega) only [am_z, cq_M_readText, Nat.reduceAdd, Nat.zero_le, Nat.reduceLeDiff, ar_lit, b01, Bool.false_eq_true, ↓reduceIte, ar_eq, Nat.reduceEqDiff]
            exact s_M_readSpan (by omega) hp q115 hr hw (fin 112 (Or.inr (Or.inl rfl)))
          · rw [decide_eq_false q115]
            simp only [am_z, Nat.reduceAdd, Nat.zero_le, Nat.reduceLeDiff]
            refine rn_M_readText 20 ?_
            simp (disch := omega) only [am_z, cq_M_readText, Nat.reduceAdd, Nat.zero_le, Nat.reduceLeDiff, ar_lit, b01, Bool.false_eq_true, ↓reduceIte]
            exact s_M_readMore (by omega) hp q114 q115 hr hw (fin 119 (Or.inr (Or.inr rfl)))
  have fA : fM [26] [3, 4] I (am_upI (am_upI I (9, 0) 3 (nI 0)) (9, 0) 4 (nI 1)) := (fM.rf.up (Or.inr ⟨rfl, by simp⟩)).up (Or.inr ⟨rfl, by simp⟩)
  have fB : fM [26] [] (am_upI (am_upI I (9, 0) 3 (nI 0)) (9, 0) 4 (nI 1)) (am_cu (am_upI (am_upI I (9, 0) 3 (nI 0)) (9, 0) 4 (nI 1)) 26) := fM.cu
  have pA : rP (am_upI (am_upI I (9, 0) 3 (nI 0)) (9, 0) 4 (nI 1)) ss 0 true := by
    refine ⟨?_, ?_, h.fM fA (by simp) (by simp), Nat.zero_le _⟩
    · rw [am_uE, upd_n _ _ (by omega), am_uE, upd_e]
    · rw [am_uE, upd_e]; rfl
  have pB := rP_26 pA fB
  refine en_M_readText 20 (Nat.le_of_ble_eq_true rfl) ?_
  simp (disch := omega) only [am_z, cq_M_readText, Nat.reduceAdd, Nat.zero_le, Nat.reduceLeDiff, ar_lit]
  refine s_M_clean (by omega) isU_26 ?_
  simp only [am_z, Nat.reduceAdd, Nat.zero_le, Nat.reduceLeDiff]
  refine rn_M_readText 20 ?_
  simp (disch := omega) only [am_z, cq_M_readText, Nat.reduceAdd, Nat.zero_le, Nat.reduceLeDiff, ar_lit]
  refine s_M_isNext (by omega) pB (by omega) ?_
  simp only [am_z, Nat.reduceAdd, Nat.zero_le, Nat.reduceLeDiff]
  refine rn_M_readText 1 ?_
  simp only [am_z, cq_M_readText, Nat.reduceAdd, Nat.zero_le, Nat.reduceLeDiff]
  -- the head, the first signs of which are good or not
  refine s_M_accept (b := decide (ss[0]? = some 84)) (by omega) pB (fun _ q => pt_len (of_decide_eq_true q)) (fun I1 f1 p1 => ?_)
  have e1 : I1 (26, 0) = am_cu (am_upI (am_upI I (9, 0) 3 (nI 0)) (9, 0) 4 (nI 1)) 26 (26, 0) := f1.at (by simp) (by omega)
  rw [Bool.true_and] at p1
  have fr1 := (fA.tr fB.m26).tr f1.m34
  simp only [am_z, Nat.reduceAdd, Nat.zero_le, Nat.reduceLeDiff]
  refine rn_M_readText 20 ?_
  simp (disch := omega) only [am_z, cq_M_readText, Nat.reduceAdd, Nat.zero_le, Nat.reduceLeDiff, ar_lit]
  refine s_M_digit (by omega) p1 (by omega) (by omega) (fun I2 f2 p2 => ?_)
  have e2 : I2 (26, 0) = I1 (26, 0) := f2.at (by simp) (by omega)
  simp only [am_z, Nat.reduceAdd, Nat.zero_le, Nat.reduceLeDiff]
  refine rn_M_readText 20 ?_
  simp (disch := omega) only [am_z, cq_M_readText, Nat.reduceAdd, Nat.zero_le, Nat.reduceLeDiff, ar_lit, ar_in, ar_cl, Nat.reduceLT, am_tt]
  have f3 : ∀ y, fM [26] [] I2 (am_upI I2 (26, 0) 0 y) := fun y => fM.rf.up (Or.inl (by simp))
  refine s_M_two (by omega) (rP_26 p2 (f3 _)) (by omega) (by omega) (fun I4 x f4 p4 hx => ?_)
  simp only [am_z, Nat.reduceAdd, Nat.zero_le, Nat.reduceLeDiff]
  refine rn_M_readText 20 ?_
  simp (disch := omega) only [am_z, cq_M_readText, Nat.reduceAdd, Nat.zero_le, Nat.reduceLeDiff, ar_lit, ar_in, ar_cl, Nat.reduceLT, am_tt]
  have f5 : fM [26] [] I4 (am_upI I4 (26, 0) 3 x) := fM.rf.up (Or.inl (by simp))
  refine s_M_digit (by omega) (rP_26 p4 f5) (by omega) (by omega) (fun I6 f6 p6 => ?_)
  simp only [am_z, Nat.reduceAdd, Nat.zero_le, Nat.reduceLeDiff]
  refine rn_M_readText 20 ?_
  simp (disch := omega) only [am_z, cq_M_readText, Nat.reduceAdd, Nat.zero_le, Nat.reduceLeDiff, ar_lit, ar_in, ar_cl, Nat.reduceLT, am_tt]
  generalize hv6 : nI ((pd ss (pw ss (pd ss (decide (ss[0]? = some 84)) (if decide (ss[0]? = some 84) = true then 0 + 1 else 0) 1 4).2.isSome (pd ss (decide (ss[0]? = some 84)) (if decide (ss[0]? = some 84) = true then 0 + 1 else 0) 1 4).1 6 40).2.isSome (pw ss (pd ss (decide (ss[0]? = some 84)) (if decide (ss[0]? = some 84) = true then 0 + 1 else 0) 1 4).2.isSome (pd ss (decide (ss[0]? = some 84)) (if decide (ss[0]? = some 84) = true then 0 + 1 else 0) 1 4).1 6 40).1 0 4).2.getD 0) = y6
  generalize hv2 : nI ((pd ss (decide (ss[0]? = some 84)) (if decide (ss[0]? = some 84) = true then 0 + 1 else 0) 1 4).2.getD 1) = y2 at f4
  have f7 : fM [26] [] I6 (am_upI I6 (26, 0) 4 y6) := fM.rf.up (Or.inl (by simp))
  have p7 := rP_26 p6 f7
  have fr7 : fM [26] [3, 4] I (am_upI I6 (26, 0) 4 y6) := (((((fr1.tr f2.m34).tr (f3 _).m26).tr f4.m34).tr f5.m26).tr f6.m34).tr f7.m26
  by_cases q84 : ss[0]? = some 84
  · have hd : decide (ss[0]? = some 84) = true := decide_eq_true q84
    simp only [hd, ↓reduceIte, Nat.zero_add, pd_t] at p7 hv2 hv6 hx
    cases e3 : (pdig ss 1 1 4).2 with
    | none =>
      rw [e3, pdig_none e3] at p7
      refine bad _ 1 fr7 p7 ?_
      unfold ptext phead
      rw [if_pos q84, e3]
    | some c =>
      obtain ⟨u1, u2, u3, _⟩ := pdig_some e3
      rw [e3, u1, Option.isSome_some] at p7 hv6 hx
      rw [e3, Option.getD_some] at hv2
      have ew : pw ss true (1 + 1) 6 40 = ppair ss 2 6 40 := rfl
      rw [ew] at p7 hv6 hx
      cases e4 : (ppair ss 2 6 40).2 with
      | none =>
        rw [e4] at p7
        refine bad _ (ppair ss 2 6 40).1 fr7 p7 ?_
        unfold ptext phead
        rw [if_pos q84, e3]
        simp only
        rw [e4]
      | some hh =>
        obtain ⟨v1, v2, v3⟩ := ppair_some e4
        have hx := hx hh e4
        rw [e4, v1, Option.isSome_some, pd_t] at p7 hv6
        cases e5 : (pdig ss 4 0 4).2 with
        | none =>
          rw [show 2 + 2 = 4 from rfl, e5, pdig_none e5] at p7
          refine bad _ 4 fr7 p7 ?_
          unfold ptext phead
          rw [if_pos q84, e3]
          simp only
          rw [e4]
          simp only
          rw [e5]
        | some e =>
          obtain ⟨w1, w2, w3, _⟩ := pdig_some e5
          rw [show 2 + 2 = 4 from rfl, e5, Option.getD_some] at hv6
          rw [show 2 + 2 = 4 from rfl, e5, w1] at p7
          have er : am_upI I6 (26, 0) 4 y6 (26, 0) = upd (upd (upd (am_cu (am_upI (am_upI I (9, 0) 3 (nI 0)) (9, 0) 4 (nI 1)) 26 (26, 0)) 0 (nI c)) 3 (nI hh)) 4 (nI e) := by
            rw [am_uE, f6.at (by simp) (by omega), am_uE, f4.at (by simp) (by omega), am_uE, e2, e1, hx, hv2, hv6]
          refine @loop 160 5 (tsetC tnew c hh e) _ (by omega) fr7 p7 ?_ (tsetC_w tnew_w ⟨u2, u3⟩ ⟨v2, v3⟩ w3) ?_
          · rw [er]
            exact rF.setC rF.new
          · have eh : phead ss = (5, some (tsetC tnew c hh e)) := by
              unfold phead
              rw [if_pos q84, e3]
              simp only
              rw [e4]
              simp only
              rw [e5]
            unfold ptext
            rw [eh]
  · have hd : decide (ss[0]? = some 84) = false := decide_eq_false q84
    simp only [hd, Bool.false_eq_true, ↓reduceIte, pd_f] at p7
    refine bad _ 0 fr7 p7 ?_
    unfold ptext phead
    rw [if_neg q84]
theorem s_M_errorPosition (hD : 9 ≤ D) (h : sm I s) (k : mk P J I (q_error s)) : am_T l D y_M_errorPosition [vR (9, 0)] am_G0 I J P := by
  obtain ⟨d, rfl⟩ : ∃ d, D = d + 1 := ⟨D - 1, by omega⟩
  refine en_M_errorPosition 20 (Nat.le_of_ble_eq_true rfl) ?_
  simp (disch := omega) only [am_z, cq_M_errorPosition, Nat.reduceAdd, Nat.zero_le, Nat.reduceLeDiff, ar_lit]
  have f1 : fM [] [0] I (am_upI I (9, 0) 0 (nI 0)) := fM.rf.up (Or.inr ⟨rfl, by simp⟩)
  have h1 := h.r0 f1
  refine s_M_readText (by omega) h1.1 (fun I2 f2 _ _ => ?_)
  simp only [am_z, Nat.reduceAdd, Nat.zero_le, Nat.reduceLeDiff]
  refine rn_M_errorPosition 20 ?_
  simp (disch := omega) only [am_z, cq_M_errorPosition, Nat.reduceAdd, Nat.zero_le, Nat.reduceLeDiff, ar_lit]
  exact k I2 (f1.m0.tr (f2.toM (by simp))) (h1.fr f2 (by simp) (by simp)) ((f2.f9 (by simp) (by simp)).trans (by rw [am_uE, upd_e]; rfl))
theorem s_M_load (hD : 9 ≤ D) (h : sm I s) (k : mk P J I (q_load s)) : am_T l D y_M_load [vR (9, 0)] am_G0 I J P := by
  obtain ⟨d, rfl⟩ : ∃ d, D = d + 1 := ⟨D - 1, by omega⟩
  unfold q_load at k
  refine en_M_load 20 (Nat.le_of_ble_eq_true rfl) ?_
  simp (disch := omega) only [am_z, cq_M_load, Nat.reduceAdd, Nat.zero_le, Nat.reduceLeDiff, ar_lit]
  refine s_M_readText (by omega) h.1 (fun I1 f1 b1 r1 => ?_)
  have h1 := h.fr f1 (by simp) (by simp)
  have g1 : am_fr isM I I1 := f1.toM (by simp)
  simp only [am_z, Nat.reduceAdd, Nat.zero_le, Nat.reduceLeDiff]
  refine rn_M_load 20 ?_
  simp (disch := omega) only [am_z, cq_M_load, Nat.reduceAdd, Nat.zero_le, Nat.reduceLeDiff, ar_lit, pans_eq (show (ptext s.1).1 < 1000 by omega)]
  cases e : (ptext s.1).2 with
  | none =>
    rw [e] at k
    simp only [Option.isSome_none, Bool.false_eq_true, ↓reduceIte]
    refine s_M_refN (by omega) (by omega) (by omega) (fun I2 f2 e2 => ?_)
    simp only [am_z, Nat.reduceAdd, Nat.zero_le, Nat.reduceLeDiff]
    refine rn_M_load 20 ?_
    simp (disch := omega) only [am_z, cq_M_load, Nat.reduceAdd, Nat.zero_le, Nat.reduceLeDiff, ar_lit, ar_eq, Nat.reduceEqDiff, ↓reduceIte]
    exact k I2 (g1.tr f2.m0) (h1.r0 f2) e2
  | some p =>
    rw [e] at k
    obtain ⟨r2, w2⟩ := r1 p e
    simp only [Option.isSome_some, ↓reduceIte]
    refine s_M_ref0 (by omega) (fun I2 f2 e2 => ?_)
    have h2 := h1.r0 f2
    simp only [am_z, Nat.reduceAdd, Nat.zero_le, Nat.reduceLeDiff]
    refine rn_M_load 20 ?_
    simp (disch := omega) only [am_z, cq_M_load, Nat.reduceAdd, Nat.zero_le, Nat.reduceLeDiff, ar_lit, ↓reduceIte]
    refine s_M_copy (a := (26, 0)) (b := (27, 0)) (fa := 0) (tb := 0) (n := 197) (by omega) ⟨rfl, by decide⟩ ⟨rfl, by decide⟩ ⟨by decide, by decide⟩ (Or.inl (by simp)) ?_
    have r3 : rF (am_cq I2 (26, 0) (27, 0) 0 0 197 (27, 0)) p := r2.ext w2 (fun m hm => by
      rw [am_cq_at, if_pos (by omega), f2.at (s := 26) (by simp) (by omega)]
      congr 1
      omega)
    simp only [am_z, Nat.reduceAdd, Nat.zero_le, Nat.reduceLeDiff]
    refine rn_M_load 60 ?_
    simp (disch := omega) only [am_z, cq_M_load, Nat.reduceAdd, Nat.zero_le, Nat.reduceLeDiff, ar_lit, ar_in, ar_cl, am_uS, r3.1.2.1, nar_b, Nat.reduceLT, am_tt]
    have ff : fM [27, 31] [9] I2 (am_upI (am_upI (am_upI (am_cq I2 (26, 0) (27, 0) 0 0 197) (9, 0) 9 (nI 0)) (31, 0) 0 (nI 0)) (31, 0) 1 (nI 0)) := (((fM.rf.cq (by simp)).up (Or.inr ⟨rfl, by simp⟩)).up (Or.inl (by simp))).up (Or.inl (by simp))
    refine k _ ((g1.tr f2.m0).tr (ff.toM (by simp))) ⟨h2.1.fM ff (by simp) (by simp), ?_, w2, ⟨?_, Nat.zero_le _, fun i hi => absurd hi (Nat.not_lt_zero _)⟩, fun j hj => ?_⟩ ?_
    · simp (disch := omega) only [am_uS]; exact r3
    · simp (disch := omega) only [am_uS, am_uE, upd_e]; rfl
    · refine ⟨?_, fun q hq => by cases hq⟩
      rw [am_uE, am_uE, upd_at, upd_at]
      rcases (show j = 0 ∨ j = 1 by omega) with rfl | rfl <;> rfl
    · rw [ff.f9 (by simp) (by simp)]
      exact e2
end RG
