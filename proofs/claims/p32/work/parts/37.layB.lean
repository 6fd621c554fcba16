/-! ===== the class Layout: what is asked of the pages ===== -/
/-- on how many pages the span s lies -/
def tps (L : List pt_P) (p : pt_T) (s : Nat) : Nat := tpo L (tL p s) - tpo L (tF p s) + 1
def tcs (L : List pt_P) (p : pt_T) : Nat → Nat := sumN (fun s => b01 (decide (1 < tps L p s)))
theorem tpo_mono : ∀ (L : List pt_P) (r r' : Nat), r ≤ r' → tpo L r ≤ tpo L r'
  | [], _, _, _ => Nat.le_refl _
  | x :: L, r, r', h => by
    have := tpo_mono L r r' h
    unfold tpo
    split
    · rw [if_pos (by omega)]; omega
    · exact Nat.zero_le _
theorem tpo_len : ∀ (L : List pt_P) (r : Nat), tpo L r ≤ L.length
  | [], _ => Nat.le_refl _
  | x :: L, r => by
    have := tpo_len L r
    unfold tpo
    split
    · simp; omega
    · exact Nat.zero_le _
section LAY
variable {l : Launch} {D t : Nat} {I : am_I} {J : am_J} {P : am_P} {p : pt_T} {h : Nat}
theorem tpg_len : (tpg p h).length ≤ 24 := (tpl_len 24 0).1
theorem tpg_first (k : Nat) (hk : k < (tpg p h).length) : (pgA (tpg p h) k).1 = if k = 0 then 0 else (pgA (tpg p h) (k - 1)).2.1 + 1 := by
  obtain ⟨h1, h2, _⟩ := tpl_at (p := p) (h := h) 24 0 k hk
  split
  · rename_i q; exact h1 q
  · rename_i q; exact h2 (k - 1) (by omega)
theorem tpg_at (k : Nat) (hk : k < (tpg p h).length) : (pgA (tpg p h) k).1 ≤ (pgA (tpg p h) k).2.1 ∧ (pgA (tpg p h) k).2.1 < tn p ∧ ((pgA (tpg p h) k).2.2 = true ↔ h < tlines p (pgA (tpg p h) k).1 (pgA (tpg p h) k).2.1) := (tpl_at 24 0 k hk).2.2
theorem tpg_row (hw : tW p) {r : Nat} (hr : r < tn p) : tpo (tpg p h) r < (tpg p h).length := tpo_lt 24 0 r (by have := hw.2.2.2.2.1; omega) (Nat.zero_le _) hr
theorem s_hasPage {L : List pt_P} {r : Int32} (hD : 1 ≤ D) (hl : rL I L) (hn : L.length ≤ 24) (k0 : (∀ j, j < L.length → ¬ r = nI j) → P (.inl (some (vI (nI 0)))) am_G0 I J) (k1 : ∀ j, j < L.length → r = nI j → P (.inl (some (vI (nI 1)))) am_G0 I J) : am_T l D y_Layout_hasPage [vR (4, 0), vI r] am_G0 I J P := by
  obtain ⟨d, rfl⟩ : ∃ d, D = d + 1 := ⟨D - 1, by omega⟩
  refine en_Layout_hasPage 20 (Nat.le_of_ble_eq_true rfl) ?_
  simp only [am_z, cq_Layout_hasPage, Nat.reduceAdd, hl.1, ar_lit]
  rcases ar_cases r with hr | ⟨j, hj, rfl⟩
  · rw [if_pos hr]
    exact k0 fun j hj q => by rw [q, ar_lt (by omega) (by omega)] at hr; omega
  · simp (disch := omega) only [ar_lt, ar_le]
    rw [if_neg (by omega)]
    split
    · exact k0 fun i hi q => by rw [ar_eq (by omega) (by omega)] at q; omega
    · exact k1 j (by omega) rfl
theorem s_lastOf {L : List pt_P} {k : Nat} (hD : 1 ≤ D) (hl : rL I L) (hn : L.length ≤ 24) (hk : k < L.length) (c : P (.inl (some (vI (nI (pgA L k).2.1)))) am_G0 I J) : am_T l D y_Layout_lastOf [vR (4, 0), vI (nI k)] am_G0 I J P := by
  obtain ⟨d, rfl⟩ : ∃ d, D = d + 1 := ⟨D - 1, by omega⟩
  refine en_Layout_lastOf 20 (Nat.le_of_ble_eq_true rfl) ?_
  simp (disch := omega) only [am_z, cq_Layout_lastOf, Nat.reduceAdd, ar_in, ar_cl, hl.2.2 k hk]
  exact ⟨by omega, c⟩
theorem s_firstOf {k : Nat} (hD : 1 ≤ D) (hl : rL I (tpg p h)) (hk : k < (tpg p h).length) (c : P (.inl (some (vI (nI (pgA (tpg p h) k).1)))) am_G0 I J) : am_T l D y_Layout_firstOf [vR (4, 0), vI (nI k)] am_G0 I J P := by
  obtain ⟨d, rfl⟩ : ∃ d, D = d + 1 := ⟨D - 1, by omega⟩
  have hn := tpg_len (p := p) (h := h)
  rw [tpg_first k hk] at c
  refine en_Layout_firstOf 20 (Nat.le_of_ble_eq_true rfl) ?_
  simp (disch := omega) only [am_z, cq_Layout_firstOf, Nat.reduceAdd, ar_lit, ar_eq]
  split
  · rename_i q
    rw [if_pos q] at c
    exact c
  · rename_i q
    rw [if_neg q] at c
    rw [ar_sub (by omega)]
    simp (disch := omega) only [ar_in, ar_cl, hl.2.2 (k - 1) (by omega), nI_add]
    exact ⟨by omega, c⟩
theorem s_pageOf {r : Nat} (hD : 1 ≤ D) (hw : tW p) (hl : rL I (tpg p h)) (hr : r < tn p) (c : P (.inl (some (vI (nI (tpo (tpg p h) r))))) am_G0 I J) : am_T l D y_Layout_pageOf [vR (4, 0), vI (nI r)] am_G0 I J P := by
  obtain ⟨d, rfl⟩ : ∃ d, D = d + 1 := ⟨D - 1, by omega⟩
  have hn := tpg_len (p := p) (h := h)
  have h24 := hw.2.2.2.2.1
  have hlt := tpg_row (h := h) hw hr
  obtain ⟨c1, c2⟩ := tpo_spec _ r hlt
  have loop : ∀ m j, j + m = tpo (tpg p h) r → am_X l (0, fun _ => 0) (d + 1) y_Layout_pageOf P 2 [some (vR (4, 0)), some (vI (nI r)), some (vI (nI j))] [] 0 0 am_G0 I J := by
    intro m
    induction m with
    | zero =>
      intro j hj
      have : j = tpo (tpg p h) r := by omega
      subst this
      have hb := (tpg_at (p := p) (h := h) _ hlt).2.1
      refine rn_Layout_pageOf 20 ?_
      simp (disch := omega) only [am_z, cq_Layout_pageOf, Nat.reduceAdd, hl.1, ar_lit, ar_sub, ar_le, ar_in, ar_cl, hl.2.2 _ hlt]
      split
      · exact c
      · exact ⟨by omega, c⟩
    | succ m ih =>
      intro j hj
      have hb := (tpg_at (p := p) (h := h) j (by omega)).2.1
      have hc := c1 j (by omega)
      refine rn_Layout_pageOf 20 ?_
      simp (disch := omega) only [am_z, cq_Layout_pageOf, Nat.reduceAdd, hl.1, ar_lit, ar_sub, ar_le, ar_in, ar_cl, hl.2.2 j (by omega), nI_add]
      rw [if_neg (by omega), if_neg (by omega)]
      exact ⟨by omega, @ih (j + 1) (by omega)⟩
  refine en_Layout_pageOf 20 (Nat.le_of_ble_eq_true rfl) ?_
  simp only [am_z, cq_Layout_pageOf, Nat.reduceAdd, ar_lit]
  exact @loop (tpo (tpg p h) r) 0 (by omega)
theorem s_pagesOfSpan {s : Nat} (hD : 2 ≤ D) (hr : rC I t p) (hw : tW p) (hl : rL I (tpg p h)) (hs : s < tm p) (c : P (.inl (some (vI (nI (tps (tpg p h) p s))))) am_G0 I J) : am_T l D y_Layout_pagesOfSpan [vR (4, 0), vR (7, t), vI (nI s)] am_G0 I J P := by
  obtain ⟨d, rfl⟩ : ∃ d, D = d + 1 := ⟨D - 1, by omega⟩
  obtain ⟨g1, g2, _⟩ := hr.2.2.1 s hs
  obtain ⟨w1, w2, _⟩ := hw.span hs
  have h6 := hw.2.2.2.2.2.1
  have hs6 : s < 6 := by omega
  have hF : tF p s < tn p := by unfold tF; omega
  have hL : tL p s < tn p := w2
  have hm := tpo_mono (tpg p h) (tF p s) (tL p s) (Nat.le_of_lt w1)
  refine en_Layout_pagesOfSpan 20 (Nat.le_of_ble_eq_true rfl) ?_
  simp (disch := omega) only [am_z, cq_Layout_pagesOfSpan, Nat.reduceAdd, ar_in, ar_cl, g2, hs6]
  refine s_pageOf (by omega) hw hl hL ?_
  simp only [am_z, Nat.reduceAdd]
  refine rn_Layout_pagesOfSpan 20 ?_
  simp (disch := omega) only [am_z, cq_Layout_pagesOfSpan, Nat.reduceAdd, ar_in, ar_cl, g1, hs6]
  refine s_pageOf (by omega) hw hl hF ?_
  simp only [am_z, Nat.reduceAdd]
  refine rn_Layout_pagesOfSpan 20 ?_
  simp (disch := omega) only [am_z, cq_Layout_pagesOfSpan, Nat.reduceAdd, ar_lit, ar_sub, nI_add]
  exact c
theorem s_countCutSpans (hD : 3 ≤ D) (hr : rC I t p) (hw : tW p) (hl : rL I (tpg p h)) (c : P (.inl (some (vI (nI (tcs (tpg p h) p (tm p)))))) am_G0 I J) : am_T l D y_Layout_countCutSpans [vR (4, 0), vR (7, t)] am_G0 I J P := by
  obtain ⟨d, rfl⟩ : ∃ d, D = d + 1 := ⟨D - 1, by omega⟩
  have h6 := hw.2.2.2.2.2.1
  have hn := tpg_len (p := p) (h := h)
  have loop : ∀ m j, j + m = tm p → am_X l (0, fun _ => 0) (d + 1) y_Layout_countCutSpans P 4 [some (vR (4, 0)), some (vR (7, t)), some (vI (nI (tcs (tpg p h) p j))), some (vI (nI j))] [] 0 0 am_G0 I J := by
    intro m
    induction m with
    | zero =>
      intro j hj
      refine rn_Layout_countCutSpans 20 ?_
      simp (disch := omega) only [am_z, cq_Layout_countCutSpans, Nat.reduceAdd, hr.1.2.2.1, ar_le]
      rw [if_pos (by omega)]
      have : j = tm p := by omega
      subst this
      exact c
    | succ m ih =>
      intro j hj
      have hb : tps (tpg p h) p j < 100 := by
        have := tpo_len (tpg p h) (tL p j)
        unfold tps
        omega
      refine rn_Layout_countCutSpans 20 ?_
      simp (disch := omega) only [am_z, cq_Layout_countCutSpans, Nat.reduceAdd, hr.1.2.2.1, ar_le]
      rw [if_neg (by omega)]
      refine s_pagesOfSpan (by omega) hr hw hl (by omega) ?_
      simp only [am_z, Nat.reduceAdd]
      refine rn_Layout_countCutSpans 20 ?_
      simp (disch := omega) only [am_z, cq_Layout_countCutSpans, Nat.reduceAdd, ar_lit, ar_le, nI_add]
      have e : tcs (tpg p h) p (j + 1) = tcs (tpg p h) p j + b01 (decide (1 < tps (tpg p h) p j)) := rfl
      split
      · rename_i q
        have := @ih (j + 1) (by omega)
        rw [e, decide_eq_false (by omega)] at this
        exact this
      · rename_i q
        have := @ih (j + 1) (by omega)
        rw [e, decide_eq_true (by omega)] at this
        exact this
  refine en_Layout_countCutSpans 20 (Nat.le_of_ble_eq_true rfl) ?_
  simp only [am_z, cq_Layout_countCutSpans, Nat.reduceAdd, ar_lit]
  exact @loop (tm p) 0 (by omega)
theorem s_fill {a b : Nat} (hD : 3 ≤ D) (hr : rC I t p) (hw : tW p) (hab : a ≤ b) (hb : b < tn p) (c : ∀ I', am_fr (isS 0) I I' → rS I' 0 p a (b + 1 - a) → P (.inl none) am_G0 I' J) : am_T l D y_Layout_fill [vR (4, 0), vR (7, t), vI (nI a), vI (nI b)] am_G0 I J P := by
  obtain ⟨d, rfl⟩ : ∃ d, D = d + 1 := ⟨D - 1, by omega⟩
  have hn := hw.2.2.2.2.1
  have loop : ∀ m j I', j + m = b + 1 - a → am_fr (isS 0) I I' → rS I' 0 p a j → am_X l (0, fun _ => 0) (d + 1) y_Layout_fill P 12 [some (vR (4, 0)), some (vR (7, t)), some (vI (nI a)), some (vI (nI b)), some (vI (nI (a + j)))] [] 0 0 am_G0 I' J := by
    intro m
    induction m with
    | zero =>
      intro j I' hj hf hs
      refine rn_Layout_fill 20 ?_
      simp (disch := omega) only [am_z, cq_Layout_fill, Nat.reduceAdd, ar_lt]
      rw [if_pos (by omega)]
      have : j = b + 1 - a := by omega
      subst this
      exact c I' hf hs
    | succ m ih =>
      intro j I' hj hf hs
      have hr' : rC I' t p := hr.fr hf (fun c => isS_t)
      refine rn_Layout_fill 20 ?_
      simp (disch := omega) only [am_z, cq_Layout_fill, Nat.reduceAdd, ar_lt]
      rw [if_neg (by omega)]
      refine s_take (by omega) hr' hw hs rfl (by omega) (fun I'' hf'' hs'' => ?_)
      simp only [am_z, Nat.reduceAdd]
      refine rn_Layout_fill 20 ?_
      simp only [am_z, cq_Layout_fill, Nat.reduceAdd, ar_lit, nI_add]
      exact @ih (j + 1) I'' (by omega) (hf.tr hf'') hs''
  refine en_Layout_fill 20 (Nat.le_of_ble_eq_true rfl) ?_
  simp only [am_z, cq_Layout_fill, Nat.reduceAdd]
  refine s_begin (by omega) hr hw (by omega) (fun I' hf hs => ?_)
  simp only [am_z, Nat.reduceAdd]
  refine rn_Layout_fill 20 ?_
  simp only [am_z, cq_Layout_fill, Nat.reduceAdd]
  exact @loop (b + 1 - a) 0 I' (by omega) hf hs
theorem s_sheetOf {k : Nat} (hD : 4 ≤ D) (hr : rC I t p) (hw : tW p) (hl : rL I (tpg p h)) (hk : k < (tpg p h).length) (c : ∀ I', am_fr (isS 0) I I' → rS I' 0 p (pgA (tpg p h) k).1 ((pgA (tpg p h) k).2.1 + 1 - (pgA (tpg p h) k).1) → P (.inl (some (vR (5, 0)))) am_G0 I' J) : am_T l D y_Layout_sheetOf [vR (4, 0), vR (7, t), vI (nI k)] am_G0 I J P := by
  obtain ⟨d, rfl⟩ : ∃ d, D = d + 1 := ⟨D - 1, by omega⟩
  obtain ⟨g1, g2, _⟩ := tpg_at k hk
  refine en_Layout_sheetOf 20 (Nat.le_of_ble_eq_true rfl) ?_
  simp only [am_z, cq_Layout_sheetOf, Nat.reduceAdd]
  refine s_firstOf (by omega) hl hk ?_
  simp only [am_z, Nat.reduceAdd]
  refine rn_Layout_sheetOf 20 ?_
  simp only [am_z, cq_Layout_sheetOf, Nat.reduceAdd]
  refine s_lastOf (by omega) hl tpg_len hk ?_
  simp only [am_z, Nat.reduceAdd]
  refine rn_Layout_sheetOf 20 ?_
  simp only [am_z, cq_Layout_sheetOf, Nat.reduceAdd]
  refine s_fill (by omega) hr hw g1 g2 (fun I' hf hs => ?_)
  simp only [am_z, Nat.reduceAdd]
  refine rn_Layout_sheetOf 20 ?_
  simp only [am_z, cq_Layout_sheetOf, Nat.reduceAdd]
  exact c I' hf hs
/-- the lines left empty below the rows from a on -/
def tem (p : pt_T) (a : Nat) : Int32 := match tlast p (tP p) a with
  | some b => nI (tP p - tlines p a b)
  | none => -999999
theorem s_emptyFromRow {a : Nat} (hD : 4 ≤ D) (hr : rC I t p) (hw : tW p) (ha : a < tn p) (c : ∀ I', am_fr (isS 0) I I' → P (.inl (some (vI (tem p a)))) am_G0 I' J) : am_T l D y_Layout_emptyFromRow [vR (4, 0), vR (7, t), vI (nI a)] am_G0 I J P := by
  obtain ⟨d, rfl⟩ : ∃ d, D = d + 1 := ⟨D - 1, by omega⟩
  have hP := hw.2.1.2
  refine en_Layout_emptyFromRow 20 (Nat.le_of_ble_eq_true rfl) ?_
  simp only [am_z, cq_Layout_emptyFromRow, Nat.reduceAdd]
  refine s_endRows (by omega) hr hw (fun x hx => ?_)
  simp only [am_z, Nat.reduceAdd]
  refine rn_Layout_emptyFromRow 20 ?_
  simp only [am_z, cq_Layout_emptyFromRow, Nat.reduceAdd, hr.1.2.2.2.1]
  refine s_lastThatFits (by omega) hr hw hx ha (by omega) (fun I' hf => ?_)
  have hr' : rC I' t p := hr.fr hf (fun c => isS_t)
  simp only [am_z, Nat.reduceAdd]
  refine rn_Layout_emptyFromRow 20 ?_
  simp (disch := omega) only [am_z, cq_Layout_emptyFromRow, Nat.reduceAdd, lv_none (fun b e => tlast_lt hw ha e)]
  have c' := c
  unfold tem at c'
  cases hl2 : tlast p (tP p) a with
  | none =>
    rw [hl2] at c'
    simp only [Option.isNone_none, ↓reduceIte]
    exact c' I' hf
  | some b =>
    rw [hl2] at c'
    obtain ⟨f1, f2, _, f3⟩ := tlf_some _ hl2
    simp only [Option.isNone_some, Bool.false_eq_true, ↓reduceIte, lv]
    refine s_fill (by omega) hr' hw f1 (by omega) (fun I'' hf'' hs'' => ?_)
    have hr'' : rC I'' t p := hr'.fr hf'' (fun c => isS_t)
    simp only [am_z, Nat.reduceAdd]
    refine rn_Layout_emptyFromRow 20 ?_
    simp only [am_z, cq_Layout_emptyFromRow, Nat.reduceAdd, hr''.1.2.2.2.1]
    refine s_needed (by omega) hs'' f1 ?_
    simp only [am_z, Nat.reduceAdd]
    refine rn_Layout_emptyFromRow 20 ?_
    simp (disch := omega) only [am_z, cq_Layout_emptyFromRow, Nat.reduceAdd, ar_sub]
    exact c' I'' (hf.tr hf'')
end LAY
