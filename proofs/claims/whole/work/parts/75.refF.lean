/-! ===== the reference: copies; a new table; rows and spans more ===== -/
section RF
variable {l : Launch} {D u : Nat} {G : am_G} {I : am_I} {J : am_J} {P : am_P} {p : pt_T}
/-- n numbers copied -/
def am_cq (I : am_I) (a b : am_A) (fa tb n : Nat) : am_I := fun c k => if c = b ∧ tb ≤ k ∧ k < tb + n then I a (fa + (k - tb)) else I c k
theorem am_cq_ne {a b c : am_A} {fa tb n : Nat} (h : ¬ c = b) : am_cq I a b fa tb n c = I c := by
  funext k
  exact if_neg (fun q => h q.1)
theorem am_cqS (I : am_I) {s s' t t' : Nat} (a : am_A) (fa tb n : Nat) (h : ¬ s = s') : am_cq I a (s', t') fa tb n (s, t) = I (s, t) := am_cq_ne fun q => h (congrArg Prod.fst q)
theorem am_cq_at {a b : am_A} {fa tb n k : Nat} : am_cq I a b fa tb n b k = if tb ≤ k ∧ k < tb + n then I a (fa + (k - tb)) else I b k := by
  unfold am_cq
  by_cases q : tb ≤ k ∧ k < tb + n
  · rw [if_pos ⟨rfl, q⟩, if_pos q]
  · rw [if_neg (fun z => q z.2), if_neg q]
theorem am_cq_s {a b : am_A} {fa tb n : Nat} : am_upI (am_cq I a b fa tb n) b (tb + n) (I a (fa + n)) = am_cq I a b fa tb (n + 1) := by
  funext c k
  rw [am_upI_at]
  unfold am_cq
  by_cases h : c = b
  · subst h
    by_cases h2 : k = tb + n
    · subst h2
      rw [if_pos ⟨rfl, rfl⟩, if_pos ⟨rfl, by omega, by omega⟩]
      congr 1
      omega
    · rw [if_neg (fun q => h2 q.2)]
      by_cases h3 : tb ≤ k ∧ k < tb + n
      · rw [if_pos ⟨rfl, h3⟩, if_pos ⟨rfl, by omega, by omega⟩]
      · rw [if_neg (fun q => h3 q.2), if_neg (fun q => h3 (by omega))]
  · rw [if_neg (fun q => h q.1), if_neg (fun q => h q.1), if_neg (fun q => h q.1)]
theorem am_cq_z {a b : am_A} {fa tb : Nat} : am_cq I a b fa tb 0 = I := by
  funext c k
  unfold am_cq
  rw [if_neg (by omega)]
theorem fM.cq {A F : List Nat} {I' : am_I} (h : fM A F I I') {a : am_A} {s t fa tb n : Nat} (hs : s ∈ A) : fM A F I (am_cq I' a (s, t) fa tb n) := fun c j h1 h2 => by
  have : ¬ c = (s, t) := fun q => h1 (by rw [q]; exact hs)
  rw [am_cq_ne this]
  exact h c j h1 h2
theorem s_M_copy {a b : am_A} {fa tb n : Nat} (hD : 1 ≤ D) (ha : am_at a.1 = 0 ∧ fa + n ≤ am_an a.1) (hb : am_at b.1 = 0 ∧ tb + n ≤ am_an b.1) (hn : am_an a.1 < 100000 ∧ am_an b.1 < 100000) (ho : ¬ a = b ∨ tb ≤ fa) (k : P (.inl none) G (am_cq I a b fa tb n) J) : am_T l D y_M_copy [vR a, vI (nI fa), vR b, vI (nI tb), vI (nI n)] G I J P := by
  obtain ⟨d, rfl⟩ : ∃ d, D = d + 1 := ⟨D - 1, by omega⟩
  have loop : ∀ m j, j + m = n → am_X l (0, fun _ => 0) (d + 1) y_M_copy P 3 [some (vR a), some (vI (nI fa)), some (vR b), some (vI (nI tb)), some (vI (nI n)), some (vI (nI j))] [] 0 0 G (am_cq I a b fa tb j) J := by
    intro m
    induction m with
    | zero =>
      intro j hj
      have : j = n := by omega
      subst this
      refine rn_M_copy 20 ?_
      simp (disch := omega) only [am_z, cq_M_copy, Nat.reduceAdd, Nat.zero_le, Nat.reduceLeDiff, ar_lit, ar_le, Nat.le_refl, ↓reduceIte]
      exact k
    | succ m ih =>
      intro j hj
      have hi := @ih (j + 1) (by omega)
      have ev : am_cq I a b fa tb j a (fa + j) = I a (fa + j) := by
        by_cases q : a = b
        · subst q
          have := ho.resolve_left (fun z => z rfl)
          rw [am_cq_at, if_neg (by omega)]
        · rw [am_cq_ne q]
      have b1 : fa + j < am_an a.1 := by omega
      have b2 : tb + j < am_an b.1 := by omega
      refine rn_M_copy 20 ?_
      simp (disch := omega) only [am_z, cq_M_copy, Nat.reduceAdd, Nat.zero_le, Nat.reduceLeDiff, ar_lit, ar_le, nI_add, ar_in, ar_cl, ha.1, hb.1, ev, am_cq_s]
      rw [if_neg (by omega)]
      exact ⟨b1, b2, hi⟩
  refine en_M_copy 20 (Nat.le_of_ble_eq_true rfl) ?_
  simp (disch := omega) only [am_z, cq_M_copy, Nat.reduceAdd, Nat.zero_le, Nat.reduceLeDiff, ar_lit]
  have := @loop n 0 (by omega)
  rw [am_cq_z] at this
  exact this
/-- a row that is clean -/
def am_cu (I : am_I) (u : Nat) : am_I := am_fil (am_upI (am_upI (am_fil I (u, 0) 0 197 (nI 0)) (u, 0) 3 (nI 20)) (u, 0) 4 (nI 1)) (u, 0) 5 6 (nI 1)
theorem fM.fil {A F : List Nat} {I' : am_I} (h : fM A F I I') {s t k m : Nat} {x : Int32} (hs : s ∈ A) : fM A F I (am_fil I' (s, t) k m x) := fun c j h1 h2 => by
  rw [am_fil_at, if_neg]
  · exact h c j h1 h2
  · rintro ⟨rfl, _⟩
    exact h1 hs
theorem fM.cu : fM [u] [] I (am_cu I u) := fM.fil ((fM.fil fM.rf (by simp)).up (Or.inl (by simp)) |>.up (Or.inl (by simp))) (by simp)
theorem s_M_clean (hD : 1 ≤ D) (hu : isU u) (k : P (.inl none) G (am_cu I u) J) : am_T l D y_M_clean [vR (u, 0)] G I J P := by
  obtain ⟨d, rfl⟩ : ∃ d, D = d + 1 := ⟨D - 1, by omega⟩
  have loop2 : ∀ m j, j + m = 6 → am_X l (0, fun _ => 0) (d + 1) y_M_clean P 30 [some (vR (u, 0)), some (vI (nI j))] [] 0 0 G (am_fil (am_upI (am_upI (am_fil I (u, 0) 0 197 (nI 0)) (u, 0) 3 (nI 20)) (u, 0) 4 (nI 1)) (u, 0) 5 j (nI 1)) J := by
    intro m
    induction m with
    | zero =>
      intro j hj
      have : j = 6 := by omega
      subst this
      refine rn_M_clean 20 ?_
      simp (disch := omega) only [am_z, cq_M_clean, Nat.reduceAdd, Nat.zero_le, Nat.reduceLeDiff, ar_lit, ar_le, Nat.le_refl, ↓reduceIte]
      exact k
    | succ m ih =>
      intro j hj
      refine rn_M_clean 20 ?_
      simp (disch := omega) only [am_z, cq_M_clean, Nat.reduceAdd, Nat.zero_le, Nat.reduceLeDiff, ar_lit, ar_le, nI_add, ar_in, ar_cl, hu.1, hu.2.1, am_fil_s]
      rw [if_neg (by omega)]
      exact ⟨by omega, @ih (j + 1) (by omega)⟩
  have loop1 : ∀ m j, j + m = 197 → am_X l (0, fun _ => 0) (d + 1) y_M_clean P 2 [some (vR (u, 0)), some (vI (nI j))] [] 0 0 G (am_fil I (u, 0) 0 j (nI 0)) J := by
    intro m
    induction m with
    | zero =>
      intro j hj
      have : j = 197 := by omega
      subst this
      refine rn_M_clean 40 ?_
      simp (disch := omega) only [am_z, cq_M_clean, Nat.reduceAdd, Nat.zero_le, Nat.reduceLeDiff, ar_lit, ar_le, Nat.le_refl, ↓reduceIte, ar_in, ar_cl, hu.1, hu.2.1, Nat.reduceLT, am_tt]
      have := @loop2 6 0 rfl
      rw [am_fil_z] at this
      exact this
    | succ m ih =>
      intro j hj
      have hi := @ih (j + 1) (by omega)
      have e := am_fil_s I (u, 0) 0 j (nI 0)
      rw [Nat.zero_add] at e
      refine rn_M_clean 20 ?_
      simp (disch := omega) only [am_z, cq_M_clean, Nat.reduceAdd, Nat.zero_le, Nat.reduceLeDiff, ar_lit, ar_le, nI_add, ar_in, ar_cl, hu.1, hu.2.1, e]
      rw [if_neg (by omega)]
      exact ⟨by omega, hi⟩
  refine en_M_clean 20 (Nat.le_of_ble_eq_true rfl) ?_
  simp (disch := omega) only [am_z, cq_M_clean, Nat.reduceAdd, Nat.zero_le, Nat.reduceLeDiff, ar_lit]
  have := @loop1 197 0 rfl
  rw [am_fil_z] at this
  exact this
/-- a new table, but for its columns -/
theorem rF.new : rF (upd (am_cu I u (u, 0)) 0 (nI 1)) tnew := by
  have v : ∀ k, am_cu I u (u, 0) k = if 5 ≤ k ∧ k < 11 then nI 1 else if k = 4 then nI 1 else if k = 3 then nI 20 else if k < 197 then nI 0 else I (u, 0) k := fun k => by
    unfold am_cu
    rw [am_fil_at, am_upI_at, am_upI_at, am_fil_at]
    simp
  refine ⟨⟨?_, ?_, ?_, ?_, ?_⟩, fun n q => ?_, fun r q => absurd q (Nat.not_lt_zero _), fun s q => absurd q (Nat.not_lt_zero _)⟩
  · rw [upd_e]; rfl
  · rw [upd_n _ _ (by omega), v]; rfl
  · rw [upd_n _ _ (by omega), v]; rfl
  · rw [upd_n _ _ (by omega), v]; rfl
  · rw [upd_n _ _ (by omega), v]; rfl
  · rw [upd_n _ _ (by omega), v, if_pos (by omega)]
    show nI 1 = nI (if n + 1 = 0 then 0 else 1)
    rw [if_neg (by omega)]
/-- one number of the row changes -/
theorem rF.putR {f : Nat → Int32} {h n : Nat} (hr : rF f p) (hn : tn p < 24) {g : Nat → Int32} (e : ∀ k, g k = if k = 1 then nI (tn p + 1) else if k = 11 + 7 * tn p + 1 then nI n else if k = 11 + 7 * tn p + 0 then nI h else if 11 + 7 * tn p ≤ k ∧ k < 11 + 7 * tn p + 7 then nI 0 else f k) : rF g (tputR p h n) := by
  obtain ⟨⟨h0, h1, h2, h3, h4⟩, hV, hR, hS⟩ := hr
  refine ⟨⟨?_, ?_, ?_, ?_, ?_⟩, fun m q => ?_, fun r q => ?_, fun s q => ?_⟩
  · rw [e, if_neg (by omega), if_neg (by omega), if_neg (by omega), if_neg (by omega)]; exact h0
  · rw [e, if_pos rfl, tn_put]
  · rw [e, if_neg (by omega), if_neg (by omega), if_neg (by omega), if_neg (by omega)]; exact h2
  · rw [e, if_neg (by omega), if_neg (by omega), if_neg (by omega), if_neg (by omega)]; exact h3
  · rw [e, if_neg (by omega), if_neg (by omega), if_neg (by omega), if_neg (by omega)]; exact h4
  · rw [e, if_neg (by omega), if_neg (by omega), if_neg (by omega), if_neg (by omega)]; exact hV m q
  · rw [tn_put] at q
    unfold tH tN tK tA
    rw [tR_put h n r q]
    by_cases hq : r < tn p
    · rw [if_pos hq]
      obtain ⟨g1, g2, g3, g4⟩ := hR r hq
      refine ⟨?_, ?_, ?_, fun c hc => ?_⟩
      · rw [e, if_neg (by omega), if_neg (by omega), if_neg (by omega), if_neg (by omega)]; exact g1
      · rw [e, if_neg (by omega), if_neg (by omega), if_neg (by omega), if_neg (by omega)]; exact g2
      · rw [e, if_neg (by omega), if_neg (by omega), if_neg (by omega), if_neg (by omega)]; exact g3
      · rw [e, if_neg (by omega), if_neg (by omega), if_neg (by omega), if_neg (by omega)]; exact g4 c hc
    · rw [if_neg hq]
      have : r = tn p := by omega
      subst this
      refine ⟨?_, ?_, ?_, fun c hc => ?_⟩
      · rw [e, if_neg (by omega), if_neg (by omega), if_pos rfl]
      · rw [e, if_neg (by omega), if_pos rfl]
      · rw [e, if_neg (by omega), if_neg (by omega), if_neg (by omega), if_pos (by omega)]
      · rw [e, if_neg (by omega), if_neg (by omega), if_neg (by omega), if_pos (by omega)]; rfl
  · rw [e, if_neg (by omega), if_neg (by omega), if_neg (by omega), if_neg (by omega)]
    rw [e, if_neg (by omega), if_neg (by omega), if_neg (by omega), if_neg (by omega)]
    rw [e, if_neg (by omega), if_neg (by omega), if_neg (by omega), if_neg (by omega)]
    exact hS s q
theorem s_M_addTo {h n : Nat} (hD : 2 ≤ D) (hu : isU u) (hr : rF (I (u, 0)) p) (hn : tn p < 24) (k : ∀ I', fM [u] [] I I' → rF (I' (u, 0)) (tputR p h n) → P (.inl none) am_G0 I' J) : am_T l D y_M_addTo [vR (u, 0), vI (nI h), vI (nI n)] am_G0 I J P := by
  obtain ⟨d, rfl⟩ : ∃ d, D = d + 1 := ⟨D - 1, by omega⟩
  have loop : ∀ m j, j + m = 7 → am_X l (0, fun _ => 0) (d + 1) y_M_addTo P 7 [some (vR (u, 0)), some (vI (nI h)), some (vI (nI n)), some (vI (nI (tn p))), some (vI (nI j))] [] 0 0 am_G0 (am_fil I (u, 0) (11 + 7 * tn p) j (nI 0)) J := by
    intro m
    induction m with
    | zero =>
      intro j hj
      have : j = 7 := by omega
      subst this
      refine rn_M_addTo 20 ?_
      simp (disch := omega) only [am_z, cq_M_addTo, Nat.reduceAdd, Nat.zero_le, Nat.reduceLeDiff, ar_lit, ar_le, Nat.le_refl, ↓reduceIte]
      refine s_M_cell (by omega) ?_
      simp only [am_z, Nat.reduceAdd, Nat.zero_le, Nat.reduceLeDiff]
      refine rn_M_addTo 40 ?_
      simp (disch := omega) only [am_z, cq_M_addTo, Nat.reduceAdd, Nat.zero_le, Nat.reduceLeDiff, ar_lit, ar_in, ar_cl, hu.1, hu.2.1]
      refine ⟨by omega, ?_⟩
      refine s_M_cell (by omega) ?_
      have e1 : am_upI (am_upI (am_fil I (u, 0) (11 + 7 * tn p) 7 (nI 0)) (u, 0) (11 + 7 * tn p + 0) (nI h)) (u, 0) (11 + 7 * tn p + 1) (nI n) (u, 0) 1 = nI (tn p) := by
        rw [am_uE, upd_n _ _ (by omega), am_uE, upd_n _ _ (by omega), am_fil_at, if_neg (by omega)]
        exact hr.1.2.1
      simp only [am_z, Nat.reduceAdd, Nat.zero_le, Nat.reduceLeDiff]
      refine rn_M_addTo 40 ?_
      simp (disch := omega) only [am_z, cq_M_addTo, Nat.reduceAdd, Nat.zero_le, Nat.reduceLeDiff, ar_lit, ar_in, ar_cl, hu.1, hu.2.1, e1, nI_add, Nat.reduceLT, am_tt]
      refine ⟨by omega, ?_⟩
      refine k _ ?_ ?_
      · exact (((fM.fil fM.rf (by simp)).up (Or.inl (by simp))).up (Or.inl (by simp))).up (Or.inl (by simp))
      · refine hr.putR hn (fun k => ?_)
        rw [am_upI_at, am_upI_at, am_upI_at, am_fil_at]
        simp
    | succ m ih =>
      intro j hj
      have hi := @ih (j + 1) (by omega)
      refine rn_M_addTo 20 ?_
      simp (disch := omega) only [am_z, cq_M_addTo, Nat.reduceAdd, Nat.zero_le, Nat.reduceLeDiff, ar_lit, ar_le]
      rw [if_neg (by omega)]
      refine s_M_cell (by omega) ?_
      simp only [am_z, Nat.reduceAdd, Nat.zero_le, Nat.reduceLeDiff]
      refine rn_M_addTo 20 ?_
      simp (disch := omega) only [am_z, cq_M_addTo, Nat.reduceAdd, Nat.zero_le, Nat.reduceLeDiff, ar_lit, ar_in, ar_cl, hu.1, hu.2.1, nI_add, am_fil_s]
      exact ⟨by omega, hi⟩
  refine en_M_addTo 20 (Nat.le_of_ble_eq_true rfl) ?_
  simp (disch := omega) only [am_z, cq_M_addTo, Nat.reduceAdd, Nat.zero_le, Nat.reduceLeDiff, ar_lit, ar_in, ar_cl, hu.1, hu.2.1, hr.1.2.1, Nat.reduceLT, am_tt]
  have := @loop 7 0 rfl
  rw [am_fil_z] at this
  exact this
theorem rF.putS {f : Nat → Int32} {x : pt_S} (hr : rF f p) (hw : tW p) (hm : tm p < 6) {g : Nat → Int32} (e : ∀ k, g k = if k = 2 then nI (tm p + 1) else if k = 179 + 3 * tm p + 2 then nI x.2.2 else if k = 179 + 3 * tm p + 1 then nI x.2.1 else if k = 179 + 3 * tm p then nI x.1 else f k) : rF g (tputS p x) := by
  obtain ⟨⟨h0, h1, h2, h3, h4⟩, hV, hR, hS⟩ := hr
  have hn := hw.2.2.2.2.1
  refine ⟨⟨?_, ?_, ?_, ?_, ?_⟩, fun m q => ?_, fun r q => ?_, fun s q => ?_⟩
  · rw [e, if_neg (by omega), if_neg (by omega), if_neg (by omega), if_neg (by omega)]; exact h0
  · rw [e, if_neg (by omega), if_neg (by omega), if_neg (by omega), if_neg (by omega)]; exact h1
  · rw [e, if_pos rfl, tm_put]
  · rw [e, if_neg (by omega), if_neg (by omega), if_neg (by omega), if_neg (by omega)]; exact h3
  · rw [e, if_neg (by omega), if_neg (by omega), if_neg (by omega), if_neg (by omega)]; exact h4
  · rw [e, if_neg (by omega), if_neg (by omega), if_neg (by omega), if_neg (by omega)]; exact hV m q
  · have q' : r < tn p := q
    obtain ⟨g1, g2, g3, g4⟩ := hR r q
    refine ⟨?_, ?_, ?_, fun c hc => ?_⟩
    · rw [e, if_neg (by omega), if_neg (by omega), if_neg (by omega), if_neg (by omega)]; exact g1
    · rw [e, if_neg (by omega), if_neg (by omega), if_neg (by omega), if_neg (by omega)]; exact g2
    · rw [e, if_neg (by omega), if_neg (by omega), if_neg (by omega), if_neg (by omega)]; exact g3
    · rw [e, if_neg (by omega), if_neg (by omega), if_neg (by omega), if_neg (by omega)]; exact g4 c hc
  · rw [tm_put] at q
    unfold tF tL tM
    rw [tS_put x s q]
    by_cases hq : s < tm p
    · rw [if_pos hq]
      obtain ⟨g1, g2, g3⟩ := hS s hq
      refine ⟨?_, ?_, ?_⟩
      · rw [e, if_neg (by omega), if_neg (by omega), if_neg (by omega), if_neg (by omega)]; exact g1
      · rw [e, if_neg (by omega), if_neg (by omega), if_neg (by omega), if_neg (by omega)]; exact g2
      · rw [e, if_neg (by omega), if_neg (by omega), if_neg (by omega), if_neg (by omega)]; exact g3
    · rw [if_neg hq]
      have : s = tm p := by omega
      subst this
      refine ⟨?_, ?_, ?_⟩
      · rw [e, if_neg (by omega), if_neg (by omega), if_neg (by omega), if_pos rfl]
      · rw [e, if_neg (by omega), if_neg (by omega), if_pos rfl]
      · rw [e, if_neg (by omega), if_pos rfl]
theorem s_M_putSpan {a b c : Nat} (hD : 1 ≤ D) (hu : isU u) (hr : rF (I (u, 0)) p) (hw : tW p) (hm : tm p < 6) (k : ∀ I', fM [u] [] I I' → rF (I' (u, 0)) (tputS p (a, b, c)) → P (.inl none) am_G0 I' J) : am_T l D y_M_putSpan [vR (u, 0), vI (nI a), vI (nI b), vI (nI c)] am_G0 I J P := by
  obtain ⟨d, rfl⟩ : ∃ d, D = d + 1 := ⟨D - 1, by omega⟩
  refine en_M_putSpan 60 (Nat.le_of_ble_eq_true rfl) ?_
  simp (disch := omega) only [am_z, cq_M_putSpan, Nat.reduceAdd, Nat.zero_le, Nat.reduceLeDiff, ar_lit, ar_in, ar_cl, hu.1, hu.2.1, hr.1.2.2.1, pk_mul, nI_add, am_uE, am_uS, upd_n, upd_e, Nat.reduceLT, am_tt]
  refine ⟨by omega, by omega, by omega, ?_⟩
  refine k _ ?_ ?_
  · exact (((fM.rf.up (Or.inl (by simp))).up (Or.inl (by simp))).up (Or.inl (by simp))).up (Or.inl (by simp))
  · refine hr.putS hw hm (fun k => ?_)
    rw [am_upI_at, am_upI_at, am_upI_at, am_upI_at]
    simp
end RF
