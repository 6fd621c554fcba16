/-! ===== the reference: spans and rows that go ===== -/
section RF
variable {l : Launch} {D u : Nat} {I : am_I} {J : am_J} {P : am_P} {p : pt_T}
theorem s_M_first0 {s : Nat} (hD : 1 ≤ D) (hu : isU u) (hs : s < 6) (k : P (.inl (some (vI (I (u, 0) (179 + 3 * s))))) am_G0 I J) : am_T l D y_M_first [vR (u, 0), vI (nI s)] am_G0 I J P := by
  obtain ⟨d, rfl⟩ : ∃ d, D = d + 1 := ⟨D - 1, by omega⟩
  refine en_M_first 20 (Nat.le_of_ble_eq_true rfl) ?_
  simp (disch := omega) only [am_z, cq_M_first, Nat.reduceAdd, Nat.zero_le, Nat.reduceLeDiff, ar_lit, pk_mul, nI_add, hu.1, hu.2.1, ar_in, ar_cl]
  exact ⟨by omega, k⟩
theorem s_M_last0 {s : Nat} (hD : 1 ≤ D) (hu : isU u) (hs : s < 6) (k : P (.inl (some (vI (I (u, 0) (179 + 3 * s + 1))))) am_G0 I J) : am_T l D y_M_last [vR (u, 0), vI (nI s)] am_G0 I J P := by
  obtain ⟨d, rfl⟩ : ∃ d, D = d + 1 := ⟨D - 1, by omega⟩
  refine en_M_last 20 (Nat.le_of_ble_eq_true rfl) ?_
  simp (disch := omega) only [am_z, cq_M_last, Nat.reduceAdd, Nat.zero_le, Nat.reduceLeDiff, ar_lit, pk_mul, nI_add, hu.1, hu.2.1, ar_in, ar_cl]
  exact ⟨by omega, k⟩
theorem rF.dropS {f : Nat → Int32} {s : Nat} (hr : rF f p) (hn : tn p ≤ 24) (hm : tm p ≤ 6) (hs : s < tm p) {g : Nat → Int32} (e : ∀ k, g k = if k = 2 then nI (tm p - 1) else shf f (179 + 3 * s) 194 3 k) : rF g (tdropS p s) := by
  have lo : ∀ k, ¬ k = 2 → k < 179 + 3 * s → g k = f k := fun k h1 h2 => by rw [e, if_neg h1, shf_at, if_neg (by omega)]
  have hi : ∀ k, 179 + 3 * s ≤ k → k < 194 → g k = f (k + 3) := fun k h1 h2 => by rw [e, if_neg (by omega), shf_at, if_pos (by omega)]
  obtain ⟨⟨h0, h1, h2, h3, h4⟩, hV, hR, hS⟩ := hr
  refine ⟨⟨?_, ?_, ?_, ?_, ?_⟩, fun m q => ?_, fun r q => ?_, fun i q => ?_⟩
  · rw [lo _ (by omega) (by omega)]; exact h0
  · rw [lo _ (by omega) (by omega)]; exact h1
  · rw [e, if_pos rfl, tm_dropS hs]
  · rw [lo _ (by omega) (by omega)]; exact h3
  · rw [lo _ (by omega) (by omega)]; exact h4
  · rw [lo _ (by omega) (by omega)]; exact hV m q
  · have q' : r < tn p := q
    obtain ⟨g1, g2, g3, g4⟩ := hR r q
    refine ⟨?_, ?_, ?_, fun c hc => ?_⟩
    · rw [lo _ (by omega) (by omega)]; exact g1
    · rw [lo _ (by omega) (by omega)]; exact g2
    · rw [lo _ (by omega) (by omega)]; exact g3
    · rw [lo _ (by omega) (by omega)]; exact g4 c hc
  · rw [tm_dropS hs] at q
    unfold tF tL tM
    rw [tS_dropS]
    by_cases hq : i < s
    · rw [if_pos hq, lo _ (by omega) (by omega), lo _ (by omega) (by omega), lo _ (by omega) (by omega)]
      exact hS i (by omega)
    · rw [if_neg hq, hi _ (by omega) (by omega), hi _ (by omega) (by omega), hi _ (by omega) (by omega)]
      obtain ⟨g1, g2, g3⟩ := hS (i + 1) (by omega)
      exact ⟨g1, g2, g3⟩
theorem s_M_dropSpan {s : Nat} (hD : 1 ≤ D) (hu : isU u) (hr : rF (I (u, 0)) p) (hn : tn p ≤ 24) (hm : tm p ≤ 6) (hs : s < tm p) (k : ∀ I', fM [u] [] I I' → rF (I' (u, 0)) (tdropS p s) → P (.inl none) am_G0 I' J) : am_T l D y_M_dropSpan [vR (u, 0), vI (nI s)] am_G0 I J P := by
  obtain ⟨d, rfl⟩ : ∃ d, D = d + 1 := ⟨D - 1, by omega⟩
  have loop : ∀ m j I', j + m = 194 → 179 + 3 * s ≤ j → fM [u] [] I I' → I' (u, 0) = shf (I (u, 0)) (179 + 3 * s) j 3 → am_X l (0, fun _ => 0) (d + 1) y_M_dropSpan P 8 [some (vR (u, 0)), some (vI (nI s)), some (vI (nI j))] [] 0 0 am_G0 I' J := by
    intro m
    induction m with
    | zero =>
      intro j I' hj hjs hf he
      have : j = 194 := by omega
      subst this
      have e2 : I' (u, 0) 2 = nI (tm p) := by rw [he, shf_at, if_neg (by omega)]; exact hr.1.2.2.1
      refine rn_M_dropSpan 40 ?_
      simp (disch := omega) only [am_z, cq_M_dropSpan, Nat.reduceAdd, Nat.zero_le, Nat.reduceLeDiff, ar_lit, ar_le, Nat.le_refl, ↓reduceIte, ar_in, ar_cl, hu.1, hu.2.1, e2, ar_sub, Nat.reduceLT, am_tt]
      refine k _ (hf.up (Or.inl (by simp))) (hr.dropS hn hm hs (fun k => ?_))
      rw [am_uE, upd_at, he]
    | succ m ih =>
      intro j I' hj hjs hf he
      refine rn_M_dropSpan 40 ?_
      simp (disch := omega) only [am_z, cq_M_dropSpan, Nat.reduceAdd, Nat.zero_le, Nat.reduceLeDiff, ar_lit, ar_le, ar_in, ar_cl, hu.1, hu.2.1, nI_add]
      rw [if_neg (by omega)]
      refine ⟨by omega, by omega, ?_⟩
      refine @ih (j + 1) _ (by omega) (by omega) (hf.up (Or.inl (by simp))) ?_
      rw [am_uE, he, shf_at, if_neg (by omega), shf_s _ _ hjs]
  refine en_M_dropSpan 20 (Nat.le_of_ble_eq_true rfl) ?_
  simp (disch := omega) only [am_z, cq_M_dropSpan, Nat.reduceAdd, Nat.zero_le, Nat.reduceLeDiff, ar_lit, pk_mul, nI_add]
  exact @loop (194 - (179 + 3 * s)) (179 + 3 * s) I (by omega) (Nat.le_refl _) fM.rf (by rw [shf_z])
def tsetS (q : pt_T) (s : Nat) (x : pt_S) : pt_T := (q.1, q.2.1, q.2.2.set s x)
theorem rF.setS {f : Nat → Int32} {s : Nat} {x : pt_S} (hr : rF f p) (hn : tn p ≤ 24) (hs : s < tm p) (hx : x.2.2 = tM p s) {g : Nat → Int32} (e : ∀ k, g k = if k = 179 + 3 * s + 1 then nI x.2.1 else if k = 179 + 3 * s then nI x.1 else f k) : rF g (tsetS p s x) := by
  have lo : ∀ k, ¬ k = 179 + 3 * s + 1 → ¬ k = 179 + 3 * s → g k = f k := fun k h1 h2 => by rw [e, if_neg h1, if_neg h2]
  have hm' : tm (tsetS p s x) = tm p := List.length_set
  obtain ⟨⟨h0, h1, h2, h3, h4⟩, hV, hR, hS⟩ := hr
  refine ⟨⟨?_, ?_, ?_, ?_, ?_⟩, fun m q => ?_, fun r q => ?_, fun i q => ?_⟩
  · rw [lo _ (by omega) (by omega)]; exact h0
  · rw [lo _ (by omega) (by omega)]; exact h1
  · rw [lo _ (by omega) (by omega), hm']; exact h2
  · rw [lo _ (by omega) (by omega)]; exact h3
  · rw [lo _ (by omega) (by omega)]; exact h4
  · rw [lo _ (by omega) (by omega)]; exact hV m q
  · have q' : r < tn p := q
    obtain ⟨g1, g2, g3, g4⟩ := hR r q
    refine ⟨?_, ?_, ?_, fun c hc => ?_⟩
    · rw [lo _ (by omega) (by omega)]; exact g1
    · rw [lo _ (by omega) (by omega)]; exact g2
    · rw [lo _ (by omega) (by omega)]; exact g3
    · rw [lo _ (by omega) (by omega)]; exact g4 c hc
  · rw [hm'] at q
    have es : tS (tsetS p s x) i = if i = s ∧ i < tm p then x else tS p i := gd_set p.2.2 x (0, 0, 0) s i
    obtain ⟨g1, g2, g3⟩ := hS i q
    unfold tF tL tM
    rw [es]
    by_cases hq : i = s
    · subst hq
      rw [if_pos ⟨rfl, q⟩]
      refine ⟨?_, ?_, ?_⟩
      · rw [e, if_neg (by omega), if_pos rfl]
      · rw [e, if_pos rfl]
      · rw [lo _ (by omega) (by omega), hx]; exact g3
    · rw [if_neg (fun z => hq z.1), lo _ (by omega) (by omega), lo _ (by omega) (by omega), lo _ (by omega) (by omega)]
      exact ⟨g1, g2, g3⟩
/-- the rows go down, the spans stay -/
theorem rF.dropRows {f : Nat → Int32} {r : Nat} (hr : rF f p) (hw : tW p) (hrn : r < tn p) {g : Nat → Int32} (e : ∀ k, g k = if k = 1 then nI (tn p - 1) else shf f (11 + 7 * r) 172 7 k) : rF g (tspw (tdropR p r) p.2.2) := by
  have hn := hw.2.2.2.2.1
  have lo : ∀ k, ¬ k = 1 → k < 11 + 7 * r → g k = f k := fun k h1 h2 => by rw [e, if_neg h1, shf_at, if_neg (by omega)]
  have up : ∀ k, 172 ≤ k → g k = f k := fun k h2 => by rw [e, if_neg (by omega), shf_at, if_neg (by omega)]
  have hi : ∀ k, 11 + 7 * r ≤ k → k < 172 → g k = f (k + 7) := fun k h1 h2 => by rw [e, if_neg (by omega), shf_at, if_pos (by omega)]
  have hn' : tn (tspw (tdropR p r) p.2.2) = tn p - 1 := tn_dropR hrn
  obtain ⟨⟨h0, h1, h2, h3, h4⟩, hV, hR, hS⟩ := hr
  refine ⟨⟨?_, ?_, ?_, ?_, ?_⟩, fun m q => ?_, fun i q => ?_, fun s q => ?_⟩
  · rw [lo _ (by omega) (by omega)]; exact h0
  · rw [e, if_pos rfl, hn']
  · rw [lo _ (by omega) (by omega)]; exact h2
  · rw [lo _ (by omega) (by omega)]; exact h3
  · rw [lo _ (by omega) (by omega)]; exact h4
  · rw [lo _ (by omega) (by omega)]; exact hV m q
  · rw [hn'] at q
    have es : tR (tspw (tdropR p r) p.2.2) i = if i < r then tR p i else tR p (i + 1) := tR_dropR r i
    unfold tH tN tK tA
    rw [es]
    by_cases hq : i < r
    · rw [if_pos hq]
      obtain ⟨g1, g2, g3, g4⟩ := hR i (by omega)
      refine ⟨?_, ?_, ?_, fun c hc => ?_⟩
      · rw [lo _ (by omega) (by omega)]; exact g1
      · rw [lo _ (by omega) (by omega)]; exact g2
      · rw [lo _ (by omega) (by omega)]; exact g3
      · rw [lo _ (by omega) (by omega)]; exact g4 c hc
    · rw [if_neg hq]
      obtain ⟨g1, g2, g3, g4⟩ := hR (i + 1) (by omega)
      refine ⟨?_, ?_, ?_, fun c hc => ?_⟩
      · rw [hi _ (by omega) (by omega), show 11 + 7 * i + 0 + 7 = 11 + 7 * (i + 1) + 0 by omega]; exact g1
      · rw [hi _ (by omega) (by omega), show 11 + 7 * i + 1 + 7 = 11 + 7 * (i + 1) + 1 by omega]; exact g2
      · rw [hi _ (by omega) (by omega), show 11 + 7 * i + 2 + 7 = 11 + 7 * (i + 1) + 2 by omega]; exact g3
      · rw [hi _ (by omega) (by omega), show 11 + 7 * i + (3 + c) + 7 = 11 + 7 * (i + 1) + (3 + c) by omega]; exact g4 c hc
  · rw [up _ (by omega), up _ (by omega), up _ (by omega)]
    exact hS s q
theorem sp_step (S T : List pt_S) {m : Nat} (hm : m < S.length) : S.take (m + 1) ++ T = S.take m ++ (S.getD m (0, 0, 0) :: T) := by
  rw [List.getD_eq_getElem?_getD, List.getElem?_eq_getElem hm, ← List.take_append_getElem hm, List.append_assoc]
  rfl
theorem sp_drop (S : List pt_S) {m : Nat} (hm : m < S.length) : S.drop m = S.getD m (0, 0, 0) :: S.drop (m + 1) := by
  rw [List.drop_eq_getElem_cons hm, List.getD_eq_getElem?_getD, List.getElem?_eq_getElem hm]
  rfl
theorem sp_set (A T : List pt_S) (x y : pt_S) {m : Nat} (h : A.length = m) : (A ++ x :: T).set m y = A ++ y :: T := by
  subst h
  simp
theorem sp_era (A T : List pt_S) (x : pt_S) {m : Nat} (h : A.length = m) : (A ++ x :: T).eraseIdx m = A ++ T := by
  subst h
  rw [List.eraseIdx_append_of_length_le (Nat.le_refl _), Nat.sub_self]
  rfl
theorem sp_get (A T : List pt_S) (x d : pt_S) {m : Nat} (h : A.length = m) : (A ++ x :: T).getD m d = x := by
  subst h
  rw [List.getD_eq_getElem?_getD, List.getElem?_append_right (Nat.le_refl _), Nat.sub_self]
  rfl
theorem s_M_dropRow {r : Nat} (hD : 2 ≤ D) (hu : isU u) (hr : rF (I (u, 0)) p) (hw : tW p) (hrn : r < tn p) (k : ∀ I', fM [u] [] I I' → rF (I' (u, 0)) (tdropR p r) → P (.inl (some (vI (nI (tm p - tm (tdropR p r)))))) am_G0 I' J) : am_T l D y_M_dropRow [vR (u, 0), vI (nI r)] am_G0 I J P := by
  obtain ⟨d, rfl⟩ : ∃ d, D = d + 1 := ⟨D - 1, by omega⟩
  have hn := hw.2.2.2.2.1
  have hm6 := hw.2.2.2.2.2.1
  have hnn : ∀ L, tn (tspw (tdropR p r) L) ≤ 24 := fun L => by
    have : tn (tspw (tdropR p r) L) = tn p - 1 := tn_dropR hrn
    omega
  have loop2 : ∀ m g I', m ≤ p.2.2.length → fM [u] [] I I' → rF (I' (u, 0)) (tspw (tdropR p r) (p.2.2.take m ++ (p.2.2.drop m).filterMap (tgo r))) → ((p.2.2.drop m).filterMap (tgo r)).length ≤ p.2.2.length - m → g = p.2.2.length - m - ((p.2.2.drop m).filterMap (tgo r)).length → am_X l (0, fun _ => 0) (d + 1) y_M_dropRow P 43 [some (vR (u, 0)), some (vI (nI r)), some (vI (nI g)), some (vI (nI m - nI 1))] [] 0 0 am_G0 I' J := by
    intro m
    induction m with
    | zero =>
      intro g I' _ hf h' _ hg
      refine rn_M_dropRow 20 ?_
      simp (disch := omega) only [am_z, cq_M_dropRow, Nat.reduceAdd, Nat.zero_le, Nat.reduceLeDiff, ar_lit, ar_m1, Nat.le_refl, ↓reduceIte]
      rw [hg]
      have := k I' hf h'
      exact this
    | succ m ih =>
      intro g I' hm hf h' hle hg
      have hml : m < p.2.2.length := by omega
      have hm6' : m < 6 := by have : tm p = p.2.2.length := rfl; omega
      have eC := sp_step p.2.2 ((p.2.2.drop (m + 1)).filterMap (tgo r)) hml
      have eD := sp_drop p.2.2 hml
      have hA : (p.2.2.take m).length = m := by rw [List.length_take]; omega
      have hsp := hw.span (s := m) hml
      have ex : tS p m = p.2.2.getD m (0, 0, 0) := rfl
      rw [eC] at h'
      generalize hT : (p.2.2.drop (m + 1)).filterMap (tgo r) = T at *
      rw [← ex] at h' eD
      generalize tS p m = x at *
      obtain ⟨x1, x2, x3⟩ := x
      obtain ⟨w1, w2, w3⟩ := hsp
      simp only at w1 w2 w3
      have hS := h'.2.2.2 m (by show m < (p.2.2.take m ++ (x1, x2, x3) :: T).length; rw [List.length_append, hA, List.length_cons]; omega)
      have eS : tS (tspw (tdropR p r) (p.2.2.take m ++ (x1, x2, x3) :: T)) m = (x1, x2, x3) := sp_get _ _ _ _ hA
      unfold tF tL tM at hS
      rw [eS] at hS
      obtain ⟨s1, s2, s3⟩ := hS
      simp only at s1 s2 s3
      have hml2 : m < tm (tspw (tdropR p r) (p.2.2.take m ++ (x1, x2, x3) :: T)) := by show m < (p.2.2.take m ++ (x1, x2, x3) :: T).length; rw [List.length_append, hA, List.length_cons]; omega
      have hm62 : tm (tspw (tdropR p r) (p.2.2.take m ++ (x1, x2, x3) :: T)) ≤ 6 := by show (p.2.2.take m ++ (x1, x2, x3) :: T).length ≤ 6; rw [List.length_append, hA, List.length_cons]; have : tm p = p.2.2.length := rfl; omega
      rw [show nI (m + 1) - nI 1 = nI m by rw [ar_sub (by omega)]; rfl]
      -- behind the two writes
      have fin : ∀ a b I2, a = (tgone r (x1, x2, x3)).1 → b = (tgone r (x1, x2, x3)).2.1 → fM [u] [] I I2 → (∀ k, I2 (u, 0) k = if k = 179 + 3 * m + 1 then nI b else if k = 179 + 3 * m then nI a else I' (u, 0) k) → am_X l (0, fun _ => 0) (d + 1) y_M_dropRow P 101 [some (vR (u, 0)), some (vI (nI r)), some (vI (nI g)), some (vI (nI m))] [] 0 0 am_G0 I2 J := by
        intro a b I2 ha hb hf2 he2
        have ab : a ≤ b ∧ b < 25 := by
          rw [ha, hb]
          show (if r < x1 then x1 - 1 else x1) ≤ (if r ≤ x2 then x2 - 1 else x2) ∧ (if r ≤ x2 then x2 - 1 else x2) < 25
          split <;> split <;> omega
        have h2 := h'.setS (x := (a, b, x3)) (hnn _) hml2 (by unfold tM; rw [eS]) he2
        have e2 : tsetS (tspw (tdropR p r) (p.2.2.take m ++ (x1, x2, x3) :: T)) m (a, b, x3) = tspw (tdropR p r) (p.2.2.take m ++ (a, b, x3) :: T) := by
          unfold tsetS tspw
          simp only
          rw [sp_set _ _ _ _ hA]
        rw [e2] at h2
        have v1 : I2 (u, 0) (179 + 3 * m) = nI a := by rw [he2, if_neg (by omega), if_pos rfl]
        have v2 : I2 (u, 0) (179 + 3 * m + 1) = nI b := by rw [he2, if_pos rfl]
        refine rn_M_dropRow 20 ?_
        simp only [am_z, cq_M_dropRow, Nat.reduceAdd]
        refine s_M_first0 (by omega) hu hm6' ?_
        simp only [am_z, Nat.reduceAdd, Nat.zero_le, Nat.reduceLeDiff]
        refine rn_M_dropRow 20 ?_
        simp (disch := omega) only [am_z, cq_M_dropRow, Nat.reduceAdd, Nat.zero_le, Nat.reduceLeDiff, ar_lit]
        refine s_M_last0 (by omega) hu hm6' ?_
        simp only [am_z, Nat.reduceAdd, Nat.zero_le, Nat.reduceLeDiff]
        refine rn_M_dropRow 20 ?_
        simp (disch := omega) only [am_z, cq_M_dropRow, Nat.reduceAdd, Nat.zero_le, Nat.reduceLeDiff, ar_lit, v1, v2, ar_eq]
        have eg : tgo r (x1, x2, x3) = if a < b then some (a, b, x3) else none := by
          unfold tgo
          rw [← ha, ← hb]
          have : tgone r (x1, x2, x3) = (a, b, x3) := by rw [ha, hb]; rfl
          rw [this]
        have hTl : T.length ≤ p.2.2.length - (m + 1) := hle
        by_cases q : a = b
        · rw [if_pos q]
          rw [if_neg (by omega)] at eg
          have eT : (p.2.2.drop m).filterMap (tgo r) = T := by rw [eD, List.filterMap_cons, eg, hT]
          refine s_M_dropSpan (by omega) hu h2 (hnn _) (by show (p.2.2.take m ++ (a, b, x3) :: T).length ≤ 6; rw [List.length_append, hA, List.length_cons]; have : tm p = p.2.2.length := rfl; omega) (by show m < (p.2.2.take m ++ (a, b, x3) :: T).length; rw [List.length_append, hA, List.length_cons]; omega) (fun I3 hf3 h3 => ?_)
          have e3 : tdropS (tspw (tdropR p r) (p.2.2.take m ++ (a, b, x3) :: T)) m = tspw (tdropR p r) (p.2.2.take m ++ T) := by
            unfold tdropS tspw
            simp only
            rw [sp_era _ _ _ hA]
          rw [e3] at h3
          simp only [am_z, Nat.reduceAdd, Nat.zero_le, Nat.reduceLeDiff]
          refine rn_M_dropRow 20 ?_
          simp (disch := omega) only [am_z, cq_M_dropRow, Nat.reduceAdd, Nat.zero_le, Nat.reduceLeDiff, ar_lit, nI_add, ar_addneg]
          refine @ih (g + 1) I3 (by omega) (hf2.tr hf3) ?_ ?_ ?_
          · rw [eT]; exact h3
          · rw [eT]; omega
          · rw [eT]; omega
        · rw [if_neg q]
          rw [if_pos (by omega)] at eg
          have eT : (p.2.2.drop m).filterMap (tgo r) = (a, b, x3) :: T := by rw [eD, List.filterMap_cons, eg, hT]
          simp only [ar_addneg]
          refine @ih g I2 (by omega) hf2 ?_ ?_ ?_
          · rw [eT]; exact h2
          · rw [eT, List.length_cons]; omega
          · rw [eT, List.length_cons]; omega
      have g1 : ∀ a I2, a = (tgone r (x1, x2, x3)).1 → I2 = am_upI I' (u, 0) (179 + 3 * m) (nI a) → am_T l d y_M_last [vR (u, 0), vI (nI m)] am_G0 I2 J (am_k (am_X l (0, fun _ => 0) (d + 1) y_M_dropRow P) P 90 [some (vR (u, 0)), some (vI (nI r)), some (vI (nI g)), some (vI (nI m))] [vI (nI x2), vI (nI (179 + 3 * m + 1)), vR (u, 0)] 0 0) := by
        intro a I2 ha h2
        subst h2
        have v2 : am_upI I' (u, 0) (179 + 3 * m) (nI a) (u, 0) (179 + 3 * m + 1) = nI x2 := by
          rw [am_uE, upd_n _ _ (by omega)]; exact s2
        have fin2 : ∀ b, b = (tgone r (x1, x2, x3)).2.1 → am_X l (0, fun _ => 0) (d + 1) y_M_dropRow P 101 [some (vR (u, 0)), some (vI (nI r)), some (vI (nI g)), some (vI (nI m))] [] 0 0 am_G0 (am_upI (am_upI I' (u, 0) (179 + 3 * m) (nI a)) (u, 0) (179 + 3 * m + 1) (nI b)) J := fun b hb =>
          fin a b _ ha hb ((hf.up (Or.inl (by simp))).up (Or.inl (by simp))) (fun k => by rw [am_uE, upd_at, am_uE, upd_at])
        refine s_M_last0 (by omega) hu hm6' ?_
        rw [v2]
        by_cases q : x2 < r
        · simp only [am_z, Nat.reduceAdd, Nat.zero_le, Nat.reduceLeDiff]
          refine rn_M_dropRow 5 ?_
          simp (disch := omega) only [am_z, cq_M_dropRow, Nat.reduceAdd, Nat.zero_le, Nat.reduceLeDiff, ar_lit, ar_lt, ar_in, ar_cl, hu.1, hu.2.1, ar_sub, if_pos q]
          exact ⟨by omega, fin2 (x2 - 0) (by show _ = if r ≤ x2 then x2 - 1 else x2; rw [if_neg (by omega)]; rfl)⟩
        · simp only [am_z, Nat.reduceAdd, Nat.zero_le, Nat.reduceLeDiff]
          refine rn_M_dropRow 6 ?_
          simp (disch := omega) only [am_z, cq_M_dropRow, Nat.reduceAdd, Nat.zero_le, Nat.reduceLeDiff, ar_lit, ar_lt, ar_in, ar_cl, hu.1, hu.2.1, ar_sub, if_neg q]
          exact ⟨by omega, fin2 (x2 - 1) (by show _ = if r ≤ x2 then x2 - 1 else x2; rw [if_pos (by omega)])⟩
      refine rn_M_dropRow 60 ?_
      simp (disch := omega) only [am_z, cq_M_dropRow, Nat.reduceAdd, Nat.zero_le, Nat.reduceLeDiff, ar_lit, ar_lt, ar_in, ar_cl, hu.1, hu.2.1, pk_mul, nI_add]
      rw [if_neg (by omega)]
      refine ⟨by omega, ?_⟩
      refine s_M_first0 (by omega) hu hm6' ?_
      rw [s1]
      by_cases q : x1 ≤ r
      · simp only [am_z, Nat.reduceAdd, Nat.zero_le, Nat.reduceLeDiff]
        refine rn_M_dropRow 60 ?_
        simp (disch := omega) only [am_z, cq_M_dropRow, Nat.reduceAdd, Nat.zero_le, Nat.reduceLeDiff, ar_lit, ar_le, ar_in, ar_cl, hu.1, hu.2.1, ar_sub, pk_mul, nI_add, am_uE, am_uS, upd_n, upd_e, s2, if_pos q]
        exact ⟨by omega, by omega, g1 (x1 - 0) _ (by show _ = if r < x1 then x1 - 1 else x1; rw [if_neg (by omega)]; rfl) rfl⟩
      · simp only [am_z, Nat.reduceAdd, Nat.zero_le, Nat.reduceLeDiff]
        refine rn_M_dropRow 60 ?_
        simp (disch := omega) only [am_z, cq_M_dropRow, Nat.reduceAdd, Nat.zero_le, Nat.reduceLeDiff, ar_lit, ar_le, ar_in, ar_cl, hu.1, hu.2.1, ar_sub, pk_mul, nI_add, am_uE, am_uS, upd_n, upd_e, s2, if_neg q]
        exact ⟨by omega, by omega, g1 (x1 - 1) _ (by show _ = if r < x1 then x1 - 1 else x1; rw [if_pos (by omega)]) rfl⟩
  have loop1 : ∀ m j I', j + m = 172 → 11 + 7 * r ≤ j → fM [u] [] I I' → I' (u, 0) = shf (I (u, 0)) (11 + 7 * r) j 7 → am_X l (0, fun _ => 0) (d + 1) y_M_dropRow P 6 [some (vR (u, 0)), some (vI (nI r)), some (vI (nI j)), none] [] 0 0 am_G0 I' J := by
    intro m
    induction m with
    | zero =>
      intro j I' hj hjs hf he
      have : j = 172 := by omega
      subst this
      have e1 : I' (u, 0) 1 = nI (tn p) := by rw [he, shf_at, if_neg (by omega)]; exact hr.1.2.1
      have e2 : I' (u, 0) 2 = nI (tm p) := by rw [he, shf_at, if_neg (by omega)]; exact hr.1.2.2.1
      refine rn_M_dropRow 40 ?_
      simp (disch := omega) only [am_z, cq_M_dropRow, Nat.reduceAdd, Nat.zero_le, Nat.reduceLeDiff, ar_lit, ar_le, Nat.le_refl, ↓reduceIte, ar_in, ar_cl, hu.1, hu.2.1, e1, e2, ar_sub, am_uE, am_uS, upd_n, upd_e, Nat.reduceLT, am_tt]
      have h1 := hr.dropRows hw hrn (g := am_upI I' (u, 0) 1 (nI (tn p - 1)) (u, 0)) (fun k => by rw [am_uE, upd_at, he])
      have := @loop2 p.2.2.length 0 (am_upI I' (u, 0) 1 (nI (tn p - 1))) (Nat.le_refl _) (hf.up (Or.inl (by simp)))
      rw [List.take_length, List.drop_length, List.filterMap_nil, List.append_nil] at this
      exact this h1 (Nat.zero_le _) (by simp)
    | succ m ih =>
      intro j I' hj hjs hf he
      refine rn_M_dropRow 40 ?_
      simp (disch := omega) only [am_z, cq_M_dropRow, Nat.reduceAdd, Nat.zero_le, Nat.reduceLeDiff, ar_lit, ar_le, ar_in, ar_cl, hu.1, hu.2.1, nI_add]
      rw [if_neg (by omega)]
      refine ⟨by omega, by omega, ?_⟩
      refine @ih (j + 1) _ (by omega) (by omega) (hf.up (Or.inl (by simp))) ?_
      rw [am_uE, he, shf_at, if_neg (by omega), shf_s _ _ hjs]
  refine en_M_dropRow 20 (Nat.le_of_ble_eq_true rfl) ?_
  simp (disch := omega) only [am_z, cq_M_dropRow, Nat.reduceAdd, Nat.zero_le, Nat.reduceLeDiff, ar_lit]
  refine s_M_cell (by omega) ?_
  simp only [am_z, Nat.reduceAdd, Nat.zero_le, Nat.reduceLeDiff]
  refine rn_M_dropRow 20 ?_
  simp (disch := omega) only [am_z, cq_M_dropRow, Nat.reduceAdd, Nat.zero_le, Nat.reduceLeDiff, ar_lit]
  exact @loop1 (172 - (11 + 7 * r)) (11 + 7 * r) I (by omega) (Nat.le_refl _) fM.rf (by rw [shf_z])
end RF
