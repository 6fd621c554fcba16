/-! ===== the reference: how pages are laid ===== -/
/-- the reference's pages -/
def rQ (I : am_I) (L : List pt_P) : Prop := I (9, 0) 13 = nI L.length ∧ ∀ k, k < L.length → I (32, 0) k = nI (pgA L k).2.1
section RF
variable {l : Launch} {D u : Nat} {I : am_I} {J : am_J} {P : am_P} {p : pt_T}
theorem rF.fM {I' : am_I} {A F : List Nat} (h : rF (I (u, 0)) p) (hf : fM A F I I') (hA : ¬ u ∈ A) (h9 : ¬ u = 9) : rF (I' (u, 0)) p := by
  rw [hf.at hA h9]
  exact h
theorem tlf_s (h a k : Nat) : tlf p h a (k + 1) = if tend p (a + k) = true ∧ tlines p a (a + k) ≤ h then some (a + k) else tlf p h a k := rfl
theorem tlines_le (hw : tW p) {a b : Nat} (hab : a ≤ b) (hb : b < tn p) : tlines p a b ≤ 201 := by
  have := tln_le hw (a := a) (k := b + 1 - a) (by omega)
  unfold tlines tcy
  split <;> omega
theorem s_M_lastFor {a : Nat} (hD : 4 ≤ D) (hu : isU u) (h : rF (I (u, 0)) p) (hw : tW p) (ha : a < tn p) (k : P (.inl (some (vI (lv (tlast p (tP p) a))))) am_G0 I J) : am_T l D y_M_lastFor [vR (u, 0), vI (nI a)] am_G0 I J P := by
  obtain ⟨d, rfl⟩ : ∃ d, D = d + 1 := ⟨D - 1, by omega⟩
  have hn := hw.2.2.2.2.1
  have hP := hw.2.1.2
  have loop : ∀ m, a + m ≤ tn p → tlf p (tP p) a m = tlast p (tP p) a → am_X l (0, fun _ => 0) (d + 1) y_M_lastFor P 6 [some (vR (u, 0)), some (vI (nI a)), some (vI (nI (a + m) - nI 1))] [] 0 0 am_G0 I J := by
    intro m
    induction m with
    | zero =>
      intro hm he
      refine rn_M_lastFor 20 ?_
      simp (disch := omega) only [am_z, cq_M_lastFor, Nat.reduceAdd, Nat.zero_le, Nat.reduceLeDiff, ar_lit, ar_m1]
      rw [if_pos (by omega)]
      rw [← he] at k
      exact k
    | succ m ih =>
      intro hm he
      have e1 : nI (a + (m + 1)) - nI 1 = nI (a + m) := by rw [ar_sub (by omega)]; congr 1
      rw [e1]
      have hi := @ih (by omega)
      rw [tlf_s] at he
      refine rn_M_lastFor 20 ?_
      simp (disch := omega) only [am_z, cq_M_lastFor, Nat.reduceAdd, Nat.zero_le, Nat.reduceLeDiff, ar_lit, ar_lt]
      rw [if_neg (by omega)]
      refine s_M_mayEnd (by omega) hu h hw (by omega) ?_
      cases ht : tend p (a + m)
      · rw [ht, if_neg (by simp)] at he
        simp only [am_z, Nat.reduceAdd, Nat.zero_le, Nat.reduceLeDiff]
        refine rn_M_lastFor 20 ?_
        simp (disch := omega) only [am_z, cq_M_lastFor, Nat.reduceAdd, Nat.zero_le, Nat.reduceLeDiff, ar_lit, b01, Bool.false_eq_true, ↓reduceIte, ar_addneg]
        exact hi he
      · simp only [am_z, Nat.reduceAdd, Nat.zero_le, Nat.reduceLeDiff]
        refine rn_M_lastFor 20 ?_
        simp (disch := omega) only [am_z, cq_M_lastFor, Nat.reduceAdd, Nat.zero_le, Nat.reduceLeDiff, ar_lit, b01, Bool.false_eq_true, ↓reduceIte, ar_eq, Nat.reduceEqDiff]
        have hl := tlines_le hw (a := a) (b := a + m) (by omega) (by omega)
        refine s_M_lines (by omega) hu h hw (by omega) (by omega) ?_
        simp only [am_z, Nat.reduceAdd, Nat.zero_le, Nat.reduceLeDiff]
        refine rn_M_lastFor 20 ?_
        simp (disch := omega) only [am_z, cq_M_lastFor, Nat.reduceAdd, Nat.zero_le, Nat.reduceLeDiff, ar_lit, hu.1, hu.2.1, ar_in, ar_cl, h.1.2.2.2.1, ar_lt, ar_addneg, Nat.reduceLT, am_tt]
        by_cases q : tP p < tlines p a (a + m)
        · rw [if_pos q]
          rw [if_neg (by omega)] at he
          exact hi he
        · rw [if_neg q]
          rw [if_pos ⟨ht, by omega⟩] at he
          rw [← he] at k
          exact k
  refine en_M_lastFor 20 (Nat.le_of_ble_eq_true rfl) ?_
  simp (disch := omega) only [am_z, cq_M_lastFor, Nat.reduceAdd, Nat.zero_le, Nat.reduceLeDiff, ar_lit, hu.1, hu.2.1, ar_in, ar_cl, h.1.2.1, Nat.reduceLT, am_tt]
  have := @loop (tn p - a) (by omega) rfl
  rw [show a + (tn p - a) = tn p by omega] at this
  exact this
theorem s_M_endOf {a : Nat} (hD : 5 ≤ D) (hu : isU u) (h : rF (I (u, 0)) p) (hw : tW p) (ha : a < tn p) (k : P (.inl (some (vI (nI (tnx p (tP p) a))))) am_G0 I J) : am_T l D y_M_endOf [vR (u, 0), vI (nI a)] am_G0 I J P := by
  obtain ⟨d, rfl⟩ : ∃ d, D = d + 1 := ⟨D - 1, by omega⟩
  have hn := hw.2.2.2.2.1
  have loop : ∀ m r, r + m = tn p → 0 < m → nI (tfe p m r) = nI (tnx p (tP p) a) → am_X l (0, fun _ => 0) (d + 1) y_M_endOf P 16 [some (vR (u, 0)), some (vI (nI a)), some (vI (nI r))] [] 0 0 am_G0 I J := by
    intro m
    induction m with
    | zero => intro r _ h; omega
    | succ m ih =>
      intro r hr _ he
      rw [tfe_s] at he
      refine rn_M_endOf 20 ?_
      simp only [am_z, cq_M_endOf, Nat.reduceAdd]
      refine s_M_mayEnd (by omega) hu h hw (by omega) ?_
      cases ht : tend p r
      · rw [ht, if_neg (by simp)] at he
        have hm : 0 < m := by
          rcases Nat.eq_zero_or_pos m with h0 | h0
          · rw [tend_last (p := p) (r := r) (by omega)] at ht; cases ht
          · exact h0
        simp only [am_z, Nat.reduceAdd, Nat.zero_le, Nat.reduceLeDiff]
        refine rn_M_endOf 20 ?_
        simp (disch := omega) only [am_z, cq_M_endOf, Nat.reduceAdd, Nat.zero_le, Nat.reduceLeDiff, ar_lit, b01, Bool.false_eq_true, ↓reduceIte, nI_add]
        exact @ih (r + 1) (by omega) hm he
      · rw [ht, if_pos rfl] at he
        simp only [am_z, Nat.reduceAdd, Nat.zero_le, Nat.reduceLeDiff]
        refine rn_M_endOf 20 ?_
        simp (disch := omega) only [am_z, cq_M_endOf, Nat.reduceAdd, Nat.zero_le, Nat.reduceLeDiff, ar_lit, b01, Bool.false_eq_true, ↓reduceIte, ar_eq, Nat.reduceEqDiff]
        rw [he]
        exact k
  refine en_M_endOf 20 (Nat.le_of_ble_eq_true rfl) ?_
  simp (disch := omega) only [am_z, cq_M_endOf, Nat.reduceAdd, Nat.zero_le, Nat.reduceLeDiff, ar_lit]
  refine s_M_lastFor (by omega) hu h hw ha ?_
  simp only [am_z, Nat.reduceAdd, Nat.zero_le, Nat.reduceLeDiff]
  refine rn_M_endOf 20 ?_
  simp (disch := omega) only [am_z, cq_M_endOf, Nat.reduceAdd, Nat.zero_le, Nat.reduceLeDiff, ar_lit, lv_none (fun b e => tlast_lt hw ha e)]
  cases hl : tlast p (tP p) a with
  | none =>
    simp only [Option.isNone_none, ↓reduceIte]
    exact @loop (tn p - a) a (by omega) (by omega) (by unfold tnx; rw [hl]; rfl)
  | some b =>
    simp only [Option.isNone_some, Bool.false_eq_true, ↓reduceIte]
    unfold tnx at k
    rw [hl] at k
    exact k
theorem s_M_lay (hD : 6 ≤ D) (hu : isU u) (h : rF (I (u, 0)) p) (hw : tW p) (k : ∀ I', fM [32] [13] I I' → rQ I' (tpg p (tP p)) → P (.inl (some (vI (nI (tpg p (tP p)).length)))) am_G0 I' J) : am_T l D y_M_lay [vR (9, 0), vR (u, 0)] am_G0 I J P := by
  obtain ⟨d, rfl⟩ : ∃ d, D = d + 1 := ⟨D - 1, by omega⟩
  have hn := hw.2.2.2.2.1
  have hu3 := hu.2.2
  have loop : ∀ f a L I', L.length + f = 24 → L.length ≤ a → a ≤ tn p → tpg p (tP p) = L ++ tpl p (tP p) f a → fM [32] [13] I I' → rQ I' L → am_X l (0, fun _ => 0) (d + 1) y_M_lay P 7 [some (vR (9, 0)), some (vR (u, 0)), some (vI (nI a))] [] 0 0 am_G0 I' J := by
    intro f
    induction f with
    | zero =>
      intro a L I' hf hL ha he hfr hl
      have h' : rF (I' (u, 0)) p := h.fM hfr (by simp; omega) (by omega)
      refine rn_M_lay 20 ?_
      simp (disch := omega) only [am_z, cq_M_lay, Nat.reduceAdd, Nat.zero_le, Nat.reduceLeDiff, ar_lit, hu.1, hu.2.1, ar_in, ar_cl, h'.1.2.1, hl.1, ar_le, Nat.reduceLT, am_tt]
      rw [if_pos (by omega)]
      have e : tpg p (tP p) = L := by rw [he, tpl_n (by omega), List.append_nil]
      have kk := k I' hfr
      rw [e] at kk
      exact kk hl
    | succ f ih =>
      intro a L I' hf hL ha he hfr hl
      have h' : rF (I' (u, 0)) p := h.fM hfr (by simp; omega) (by omega)
      have hl24 : L.length < 24 := by omega
      refine rn_M_lay 20 ?_
      simp (disch := omega) only [am_z, cq_M_lay, Nat.reduceAdd, Nat.zero_le, Nat.reduceLeDiff, ar_lit, hu.1, hu.2.1, ar_in, ar_cl, h'.1.2.1, hl.1, ar_le, Nat.reduceLT, am_tt]
      by_cases hq : tn p ≤ a
      · rw [if_pos hq]
        have e : tpg p (tP p) = L := by rw [he, tpl_n (by omega), List.append_nil]
        have kk := k I' hfr
        rw [e] at kk
        exact kk hl
      · have hat : a < tn p := by omega
        rw [if_neg hq]
        obtain ⟨g1, g2, _⟩ := tnx_spec (p := p) (h := tP p) hat
        refine s_M_endOf (by omega) hu h' hw hat ?_
        simp only [am_z, Nat.reduceAdd, Nat.zero_le, Nat.reduceLeDiff]
        refine rn_M_lay 60 ?_
        simp (disch := omega) only [am_z, cq_M_lay, Nat.reduceAdd, Nat.zero_le, Nat.reduceLeDiff, ar_lit, ar_in, ar_cl, am_uE, am_uS, upd_n, upd_e, hl.1, nI_add]
        refine ⟨hl24, hl24, ?_⟩
        refine @ih (tnx p (tP p) a + 1) (L ++ [(a, tnx p (tP p) a, (tlast p (tP p) a).isNone)]) _ (by simp; omega) (by simp; omega) (by omega) ?_ ?_ ⟨?_, fun j hj => ?_⟩
        · rw [he, tpl_c hat]
          simp
        · exact (hfr.up (Or.inl (by simp))).up (Or.inr ⟨rfl, by simp⟩)
        · rw [am_uE, upd_e]; simp
        · rw [am_uS _ _ _ _ _ (by omega), am_uE, upd_at]
          unfold pgA
          rw [gd_app]
          by_cases q : j = L.length
          · rw [if_pos q, if_neg (by omega), if_pos q]
          · have : j < L.length := by simp at hj; omega
            rw [if_neg q, if_pos this]
            exact hl.2 j this
  refine en_M_lay 20 (Nat.le_of_ble_eq_true rfl) ?_
  simp (disch := omega) only [am_z, cq_M_lay, Nat.reduceAdd, Nat.zero_le, Nat.reduceLeDiff, ar_lit]
  exact @loop 24 0 [] _ rfl (Nat.le_refl _) (Nat.zero_le _) rfl (fM.rf.up (Or.inr ⟨rfl, by simp⟩)) ⟨by rw [am_uE, upd_e]; rfl, fun k hk => absurd hk (Nat.not_lt_zero _)⟩
theorem s_M_startOf {h k : Nat} (hD : 1 ≤ D) (hl : rQ I (tpg p h)) (hk : k < (tpg p h).length) (c : P (.inl (some (vI (nI (pgA (tpg p h) k).1)))) am_G0 I J) : am_T l D y_M_startOf [vR (9, 0), vI (nI k)] am_G0 I J P := by
  obtain ⟨d, rfl⟩ : ∃ d, D = d + 1 := ⟨D - 1, by omega⟩
  have hn := tpg_len (p := p) (h := h)
  rw [tpg_first k hk] at c
  refine en_M_startOf 20 (Nat.le_of_ble_eq_true rfl) ?_
  simp (disch := omega) only [am_z, cq_M_startOf, Nat.reduceAdd, Nat.zero_le, Nat.reduceLeDiff, ar_lit, ar_eq]
  split
  · rename_i q
    rw [if_pos q] at c
    exact c
  · rename_i q
    rw [if_neg q] at c
    rw [ar_sub (by omega)]
    simp (disch := omega) only [ar_in, ar_cl, hl.2 (k - 1) (by omega), nI_add]
    exact ⟨by omega, c⟩
theorem s_M_overfull (hD : 4 ≤ D) (hu : isU u) (h : rF (I (u, 0)) p) (hw : tW p) (hl : rQ I (tpg p (tP p))) (c : P (.inl (some (vI (nI (tov (tpg p (tP p))))))) am_G0 I J) : am_T l D y_M_overfull [vR (9, 0), vR (u, 0)] am_G0 I J P := by
  obtain ⟨d, rfl⟩ : ∃ d, D = d + 1 := ⟨D - 1, by omega⟩
  have hn := tpg_len (p := p) (h := tP p)
  have hP := hw.2.1.2
  have h24 := hw.2.2.2.2.1
  have loop : ∀ m j, j + m = (tpg p (tP p)).length → am_X l (0, fun _ => 0) (d + 1) y_M_overfull P 4 [some (vR (9, 0)), some (vR (u, 0)), some (vI (nI (sumN (fun k => b01 (pgA (tpg p (tP p)) k).2.2) j))), some (vI (nI j))] [] 0 0 am_G0 I J := by
    intro m
    induction m with
    | zero =>
      intro j hj
      refine rn_M_overfull 20 ?_
      simp (disch := omega) only [am_z, cq_M_overfull, Nat.reduceAdd, Nat.zero_le, Nat.reduceLeDiff, ar_lit, hl.1, ar_le]
      rw [if_pos (by omega)]
      have : j = (tpg p (tP p)).length := by omega
      subst this
      exact c
    | succ m ih =>
      intro j hj
      have hjl : j < (tpg p (tP p)).length := by omega
      obtain ⟨b1, b2, b3⟩ := tpg_at (p := p) (h := tP p) j hjl
      have hll := tlines_le hw b1 b2
      have hi := @ih (j + 1) (by omega)
      have es : sumN (fun k => b01 (pgA (tpg p (tP p)) k).2.2) (j + 1) = sumN (fun k => b01 (pgA (tpg p (tP p)) k).2.2) j + b01 (pgA (tpg p (tP p)) j).2.2 := rfl
      rw [es] at hi
      refine rn_M_overfull 20 ?_
      simp (disch := omega) only [am_z, cq_M_overfull, Nat.reduceAdd, Nat.zero_le, Nat.reduceLeDiff, ar_lit, hl.1, ar_le]
      rw [if_neg (by omega)]
      refine s_M_startOf (by omega) hl hjl ?_
      simp only [am_z, Nat.reduceAdd, Nat.zero_le, Nat.reduceLeDiff]
      refine rn_M_overfull 20 ?_
      simp (disch := omega) only [am_z, cq_M_overfull, Nat.reduceAdd, Nat.zero_le, Nat.reduceLeDiff, ar_lit, ar_in, ar_cl, hl.2 j hjl]
      refine ⟨by omega, ?_⟩
      refine s_M_lines (by omega) hu h hw b1 b2 ?_
      simp only [am_z, Nat.reduceAdd, Nat.zero_le, Nat.reduceLeDiff]
      refine rn_M_overfull 20 ?_
      simp (disch := omega) only [am_z, cq_M_overfull, Nat.reduceAdd, Nat.zero_le, Nat.reduceLeDiff, ar_lit, hu.1, hu.2.1, ar_in, ar_cl, h.1.2.2.2.1, ar_le, nI_add, Nat.reduceLT, am_tt]
      by_cases q : tlines p (pgA (tpg p (tP p)) j).1 (pgA (tpg p (tP p)) j).2.1 ≤ tP p
      · rw [if_pos q]
        have e : (pgA (tpg p (tP p)) j).2.2 = false := by
          cases e : (pgA (tpg p (tP p)) j).2.2
          · rfl
          · have := b3.mp e; omega
        rw [e] at hi
        exact hi
      · rw [if_neg q]
        rw [b3.mpr (by omega)] at hi
        exact hi
  refine en_M_overfull 20 (Nat.le_of_ble_eq_true rfl) ?_
  simp (disch := omega) only [am_z, cq_M_overfull, Nat.reduceAdd, Nat.zero_le, Nat.reduceLeDiff, ar_lit]
  exact @loop _ 0 (Nat.zero_add _)
theorem s_M_pageOf {h r : Nat} (hD : 1 ≤ D) (hw : tW p) (hl : rQ I (tpg p h)) (hr : r < tn p) (c : P (.inl (some (vI (nI (tpo (tpg p h) r))))) am_G0 I J) : am_T l D y_M_pageOf [vR (9, 0), vI (nI r)] am_G0 I J P := by
  obtain ⟨d, rfl⟩ : ∃ d, D = d + 1 := ⟨D - 1, by omega⟩
  have hn := tpg_len (p := p) (h := h)
  have h24 := hw.2.2.2.2.1
  have hlt := tpg_row (h := h) hw hr
  obtain ⟨c1, c2⟩ := tpo_spec _ r hlt
  have loop : ∀ m j, j + m = tpo (tpg p h) r → am_X l (0, fun _ => 0) (d + 1) y_M_pageOf P 2 [some (vR (9, 0)), some (vI (nI r)), some (vI (nI j))] [] 0 0 am_G0 I J := by
    intro m
    induction m with
    | zero =>
      intro j hj
      have : j = tpo (tpg p h) r := by omega
      subst this
      have hb := (tpg_at (p := p) (h := h) _ hlt).2.1
      refine rn_M_pageOf 20 ?_
      simp (disch := omega) only [am_z, cq_M_pageOf, Nat.reduceAdd, Nat.zero_le, Nat.reduceLeDiff, ar_lit, ar_in, ar_cl, ar_le, hl.2 _ hlt]
      rw [if_pos (by omega)]
      exact ⟨by omega, c⟩
    | succ m ih =>
      intro j hj
      have hb := (tpg_at (p := p) (h := h) j (by omega)).2.1
      have hc := c1 j (by omega)
      refine rn_M_pageOf 20 ?_
      simp (disch := omega) only [am_z, cq_M_pageOf, Nat.reduceAdd, Nat.zero_le, Nat.reduceLeDiff, ar_lit, ar_in, ar_cl, ar_le, hl.2 j (by omega), nI_add]
      rw [if_neg (by omega)]
      exact ⟨by omega, @ih (j + 1) (by omega)⟩
  refine en_M_pageOf 20 (Nat.le_of_ble_eq_true rfl) ?_
  simp (disch := omega) only [am_z, cq_M_pageOf, Nat.reduceAdd, Nat.zero_le, Nat.reduceLeDiff, ar_lit]
  exact @loop (tpo (tpg p h) r) 0 (by omega)
theorem s_M_pagesOf {h s : Nat} (hD : 2 ≤ D) (hu : isU u) (hr : rF (I (u, 0)) p) (hw : tW p) (hl : rQ I (tpg p h)) (hs : s < tm p) (c : P (.inl (some (vI (nI (tps (tpg p h) p s))))) am_G0 I J) : am_T l D y_M_pagesOf [vR (9, 0), vR (u, 0), vI (nI s)] am_G0 I J P := by
  obtain ⟨d, rfl⟩ : ∃ d, D = d + 1 := ⟨D - 1, by omega⟩
  obtain ⟨w1, w2, _⟩ := hw.span hs
  have hF : tF p s < tn p := by unfold tF; omega
  have hL : tL p s < tn p := w2
  have hm := tpo_mono (tpg p h) (tF p s) (tL p s) (Nat.le_of_lt w1)
  refine en_M_pagesOf 20 (Nat.le_of_ble_eq_true rfl) ?_
  simp (disch := omega) only [am_z, cq_M_pagesOf, Nat.reduceAdd, Nat.zero_le, Nat.reduceLeDiff, ar_lit]
  refine s_M_last (by omega) hu hr hw hs ?_
  simp only [am_z, Nat.reduceAdd, Nat.zero_le, Nat.reduceLeDiff]
  refine rn_M_pagesOf 20 ?_
  simp (disch := omega) only [am_z, cq_M_pagesOf, Nat.reduceAdd, Nat.zero_le, Nat.reduceLeDiff, ar_lit]
  refine s_M_pageOf (by omega) hw hl hL ?_
  simp only [am_z, Nat.reduceAdd, Nat.zero_le, Nat.reduceLeDiff]
  refine rn_M_pagesOf 20 ?_
  simp (disch := omega) only [am_z, cq_M_pagesOf, Nat.reduceAdd, Nat.zero_le, Nat.reduceLeDiff, ar_lit]
  refine s_M_first (by omega) hu hr hw hs ?_
  simp only [am_z, Nat.reduceAdd, Nat.zero_le, Nat.reduceLeDiff]
  refine rn_M_pagesOf 20 ?_
  simp (disch := omega) only [am_z, cq_M_pagesOf, Nat.reduceAdd, Nat.zero_le, Nat.reduceLeDiff, ar_lit]
  refine s_M_pageOf (by omega) hw hl hF ?_
  simp only [am_z, Nat.reduceAdd, Nat.zero_le, Nat.reduceLeDiff]
  refine rn_M_pagesOf 20 ?_
  simp (disch := omega) only [am_z, cq_M_pagesOf, Nat.reduceAdd, Nat.zero_le, Nat.reduceLeDiff, ar_lit, ar_sub, nI_add]
  exact c
theorem s_M_cutSpans {h : Nat} (hD : 3 ≤ D) (hr : rF (I (27, 0)) p) (hw : tW p) (hl : rQ I (tpg p h)) (c : P (.inl (some (vI (nI (tcs (tpg p h) p (tm p)))))) am_G0 I J) : am_T l D y_M_cutSpans [vR (9, 0)] am_G0 I J P := by
  obtain ⟨d, rfl⟩ : ∃ d, D = d + 1 := ⟨D - 1, by omega⟩
  have h6 := hw.2.2.2.2.2.1
  have hn := tpg_len (p := p) (h := h)
  have loop : ∀ m j, j + m = tm p → am_X l (0, fun _ => 0) (d + 1) y_M_cutSpans P 4 [some (vR (9, 0)), some (vI (nI (tcs (tpg p h) p j))), some (vI (nI j))] [] 0 0 am_G0 I J := by
    intro m
    induction m with
    | zero =>
      intro j hj
      refine rn_M_cutSpans 20 ?_
      simp (disch := omega) only [am_z, cq_M_cutSpans, Nat.reduceAdd, Nat.zero_le, Nat.reduceLeDiff, ar_lit, ar_in, ar_cl, hr.1.2.2.1, ar_le, Nat.reduceLT, am_tt]
      rw [if_pos (by omega)]
      have : j = tm p := by omega
      subst this
      exact c
    | succ m ih =>
      intro j hj
      have hb : tps (tpg p h) p j < 100 := by
        have := tpo_len (tpg p h) (tL p j)
        unfold tps
        omega
      have e : tcs (tpg p h) p (j + 1) = tcs (tpg p h) p j + b01 (decide (1 < tps (tpg p h) p j)) := rfl
      have hi := @ih (j + 1) (by omega)
      rw [e] at hi
      refine rn_M_cutSpans 20 ?_
      simp (disch := omega) only [am_z, cq_M_cutSpans, Nat.reduceAdd, Nat.zero_le, Nat.reduceLeDiff, ar_lit, ar_in, ar_cl, hr.1.2.2.1, ar_le, Nat.reduceLT, am_tt]
      rw [if_neg (by omega)]
      refine s_M_pagesOf (by omega) isU_27 hr hw hl (by omega) ?_
      simp only [am_z, Nat.reduceAdd, Nat.zero_le, Nat.reduceLeDiff]
      refine rn_M_cutSpans 20 ?_
      simp (disch := omega) only [am_z, cq_M_cutSpans, Nat.reduceAdd, Nat.zero_le, Nat.reduceLeDiff, ar_lit, ar_le, nI_add]
      by_cases q : tps (tpg p h) p j ≤ 1
      · rw [if_pos q]
        rw [decide_eq_false (by omega)] at hi
        exact hi
      · rw [if_neg q]
        rw [decide_eq_true (by omega)] at hi
        exact hi
  refine en_M_cutSpans 20 (Nat.le_of_ble_eq_true rfl) ?_
  simp (disch := omega) only [am_z, cq_M_cutSpans, Nat.reduceAdd, Nat.zero_le, Nat.reduceLeDiff, ar_lit]
  exact @loop (tm p) 0 (by omega)
end RF
