/-! ===== the law: its cases (written by wip/whole/gen_loop.py) ===== -/
def lwP : am_P := fun o _ _ _ => o = .inl (some (vI (nI 1)))
/-- behind a case -/
def lwK (l : Launch) (n : Nat) (xs : Nat → Int32) (d i kc ks : Nat) : Prop := ∀ (I' : am_I) (J' : am_J) (s' : pt_G) (a5' a6' : Option am_V) (kc' ks' : Nat), both I' s' → kc' ≤ kc + 3 → ks' ≤ ks + 18 → am_X l (n, xs) (d + 1) y_L_law lwP 23 [some (vR (36, 0)), some (vR (0, 0)), some (vR (9, 0)), some (vR (35, 0)), some (vI (nI (i + 4))), a5', a6'] [] kc' ks' am_G0 I' J'
section LW
variable {l : Launch} {d n i kc ks : Nat} {xs : Nat → Int32} {I : am_I} {J : am_J} {s : pt_G} {a5 a6 : Option am_V}
theorem w_append (hD : 10 ≤ d) (hb : both I s) (hi : i + 4 ≤ n ∧ n ≤ 2048) (hk : kc + 3 ≤ 601024 ∧ ks + 18 ≤ 7293034) (k : lwK l n xs d i kc ks) : am_X l (n, xs) (d + 1) y_L_law lwP 168 [some (vR (36, 0)), some (vR (0, 0)), some (vR (9, 0)), some (vR (35, 0)), some (vI (nI i)), a5, a6] [] kc ks am_G0 I J := by
  refine rn_L_law 60 ?_
  simp (disch := omega) only [am_z, cq_L_law_0, cq_L_law_1, cq_L_law_28, Nat.reduceAdd, Nat.zero_le, Nat.reduceLeDiff, ar_lit, nI_add, ar_in, ar_cl]
  refine ⟨by omega, ⟨by omega, by omega⟩, ?_⟩
  refine s_L_append (by omega) hb.1 (fun I1 J1 f1 h1 e1 => ?_)
  have m1 := f1.tosm hb.2
  simp only [am_z, Nat.reduceAdd, Nat.zero_le, Nat.reduceLeDiff]
  refine rn_L_law 60 ?_
  simp (disch := omega) only [am_z, cq_L_law_0, cq_L_law_1, cq_L_law_28, Nat.reduceAdd, Nat.zero_le, Nat.reduceLeDiff, ar_lit, nI_add, ar_in, ar_cl]
  refine ⟨by omega, ⟨by omega, by omega⟩, ?_⟩
  refine s_M_append (by omega) m1 (fun I2 f2 m2 e2 => ?_)
  have h2 := f2.tost h1
  simp only [am_z, Nat.reduceAdd, Nat.zero_le, Nat.reduceLeDiff]
  refine rn_L_law 60 ?_
  simp (disch := omega) only [am_z, cq_L_law_0, cq_L_law_1, cq_L_law_28, Nat.reduceAdd, Nat.zero_le, Nat.reduceLeDiff, ar_lit, nI_add, ar_in, ar_cl]
  refine ⟨⟨by omega, by omega⟩, ?_⟩
  refine s_M_thrown (by omega) ?_
  rw [e2]
  have hb9 : ∀ r : (Nat × Int32) × pt_G, st I2 r.2 → sm I2 r.2 → r.1.1 ≤ 3 → (r.1.1 = 0 → J1 (35, 0) 0 = r.1.2.toInt64) → am_k (am_X l (n, xs) (d + 1) y_L_law lwP) lwP 197 [some (vR (36, 0)), some (vR (0, 0)), some (vR (9, 0)), some (vR (35, 0)), some (vI (nI i)), some (vI (nI r.1.1)), some (vI r.1.2)] [] (kc + 1 + 0 + 0) (ks + 6 + 0 + 0) (.inl (some (vI (nI r.1.1)))) am_G0 I2 J1 := by
    rintro ⟨⟨u, v⟩, s'⟩ hs2 hm2 hu hv
    simp only at hu hv
    simp only [am_z, Nat.reduceAdd, Nat.zero_le, Nat.reduceLeDiff]
    refine rn_L_law 60 ?_
    by_cases hu0 : u = 0
    · have hv := hv hu0
      subst hu0
      simp (disch := omega) only [am_z, cq_L_law_0, cq_L_law_1, cq_L_law_28, Nat.reduceAdd, Nat.zero_le, Nat.reduceLeDiff, ar_lit, nI_add, ar_in, ar_cl, ↓reduceIte, hv, lc_r, Nat.reduceLT]
      exact k I2 J1 _ _ _ _ _ ⟨hs2, hm2⟩ (by omega) (by omega)
    · simp (disch := omega) only [am_z, cq_L_law_0, cq_L_law_1, cq_L_law_28, Nat.reduceAdd, Nat.zero_le, Nat.reduceLeDiff, ar_lit, nI_add, ar_eq, ↓reduceIte, if_neg hu0]
      exact k I2 J1 _ _ _ _ _ ⟨hs2, hm2⟩ (by omega) (by omega)
  exact hb9 _ h2 m2 (Nat.le_trans b_append (by decide)) e1
theorem w_clearText (hD : 10 ≤ d) (hb : both I s) (hi : i + 4 ≤ n ∧ n ≤ 2048) (hk : kc + 3 ≤ 601024 ∧ ks + 18 ≤ 7293034) (k : lwK l n xs d i kc ks) : am_X l (n, xs) (d + 1) y_L_law lwP 224 [some (vR (36, 0)), some (vR (0, 0)), some (vR (9, 0)), some (vR (35, 0)), some (vI (nI i)), a5, a6] [] kc ks am_G0 I J := by
  refine rn_L_law 30 ?_
  simp (disch := omega) only [am_z, cq_L_law_1, cq_L_law_28, Nat.reduceAdd, Nat.zero_le, Nat.reduceLeDiff, ar_lit, nI_add, ar_in, ar_cl]
  refine ⟨⟨by omega, by omega⟩, ?_⟩
  refine s_P_clearText (by omega) hb.1 (fun I1 f1 h1 => ?_)
  have m1 := f1.tosm hb.2
  rw [show ox [] (q_clear s).1 = .inl (some (vI (q_clear s).1.2)) from rfl]
  simp only [am_z, Nat.reduceAdd, Nat.zero_le, Nat.reduceLeDiff]
  refine rn_L_law 30 ?_
  simp (disch := omega) only [am_z, cq_L_law_1, cq_L_law_28, Nat.reduceAdd, Nat.zero_le, Nat.reduceLeDiff, ar_lit, nI_add, ar_in, ar_cl]
  refine ⟨⟨by omega, by omega⟩, ?_⟩
  refine s_M_clearText (by omega) m1 (fun I2 f2 m2 e2 => ?_)
  have h2 := f2.tost h1
  simp only [am_z, Nat.reduceAdd, Nat.zero_le, Nat.reduceLeDiff]
  refine rn_L_law 30 ?_
  simp (disch := omega) only [am_z, cq_L_law_1, cq_L_law_28, Nat.reduceAdd, Nat.zero_le, Nat.reduceLeDiff, ar_lit, nI_add, ar_in, ar_cl, ↓reduceIte]
  exact k I2 J _ _ _ _ _ ⟨h2, m2⟩ (by omega) (by omega)
theorem w_errorPosition (hD : 10 ≤ d) (hb : both I s) (hi : i + 4 ≤ n ∧ n ≤ 2048) (hk : kc + 3 ≤ 601024 ∧ ks + 18 ≤ 7293034) (k : lwK l n xs d i kc ks) : am_X l (n, xs) (d + 1) y_L_law lwP 237 [some (vR (36, 0)), some (vR (0, 0)), some (vR (9, 0)), some (vR (35, 0)), some (vI (nI i)), a5, a6] [] kc ks am_G0 I J := by
  refine rn_L_law 30 ?_
  simp (disch := omega) only [am_z, cq_L_law_1, cq_L_law_28, Nat.reduceAdd, Nat.zero_le, Nat.reduceLeDiff, ar_lit, nI_add, ar_in, ar_cl]
  refine ⟨⟨by omega, by omega⟩, ?_⟩
  refine s_P_errorPosition (by omega) hb.1 (fun I1 f1 h1 => ?_)
  have m1 := f1.tosm hb.2
  rw [show ox [] (q_error s).1 = .inl (some (vI (q_error s).1.2)) from rfl]
  simp only [am_z, Nat.reduceAdd, Nat.zero_le, Nat.reduceLeDiff]
  refine rn_L_law 30 ?_
  simp (disch := omega) only [am_z, cq_L_law_1, cq_L_law_28, Nat.reduceAdd, Nat.zero_le, Nat.reduceLeDiff, ar_lit, nI_add, ar_in, ar_cl]
  refine ⟨⟨by omega, by omega⟩, ?_⟩
  refine s_M_errorPosition (by omega) m1 (fun I2 f2 m2 e2 => ?_)
  have h2 := f2.tost h1
  simp only [am_z, Nat.reduceAdd, Nat.zero_le, Nat.reduceLeDiff]
  refine rn_L_law 30 ?_
  simp (disch := omega) only [am_z, cq_L_law_1, cq_L_law_28, Nat.reduceAdd, Nat.zero_le, Nat.reduceLeDiff, ar_lit, nI_add, ar_in, ar_cl, ↓reduceIte]
  exact k I2 J _ _ _ _ _ ⟨h2, m2⟩ (by omega) (by omega)
theorem w_load (hD : 10 ≤ d) (hb : both I s) (hi : i + 4 ≤ n ∧ n ≤ 2048) (hk : kc + 3 ≤ 601024 ∧ ks + 18 ≤ 7293034) (k : lwK l n xs d i kc ks) : am_X l (n, xs) (d + 1) y_L_law lwP 250 [some (vR (36, 0)), some (vR (0, 0)), some (vR (9, 0)), some (vR (35, 0)), some (vI (nI i)), a5, a6] [] kc ks am_G0 I J := by
  refine rn_L_law 60 ?_
  simp (disch := omega) only [am_z, cq_L_law_1, cq_L_law_2, cq_L_law_28, Nat.reduceAdd, Nat.zero_le, Nat.reduceLeDiff, ar_lit, nI_add, ar_in, ar_cl]
  refine ⟨⟨by omega, by omega⟩, ?_⟩
  refine s_L_load (by omega) hb.1 (fun I1 J1 f1 h1 e1 => ?_)
  have m1 := f1.tosm hb.2
  simp only [am_z, Nat.reduceAdd, Nat.zero_le, Nat.reduceLeDiff]
  refine rn_L_law 60 ?_
  simp (disch := omega) only [am_z, cq_L_law_1, cq_L_law_2, cq_L_law_28, Nat.reduceAdd, Nat.zero_le, Nat.reduceLeDiff, ar_lit, nI_add, ar_in, ar_cl]
  refine ⟨⟨by omega, by omega⟩, ?_⟩
  refine s_M_load (by omega) m1 (fun I2 f2 m2 e2 => ?_)
  have h2 := f2.tost h1
  simp only [am_z, Nat.reduceAdd, Nat.zero_le, Nat.reduceLeDiff]
  refine rn_L_law 60 ?_
  simp (disch := omega) only [am_z, cq_L_law_1, cq_L_law_2, cq_L_law_28, Nat.reduceAdd, Nat.zero_le, Nat.reduceLeDiff, ar_lit, nI_add, ar_in, ar_cl]
  refine ⟨⟨by omega, by omega⟩, ?_⟩
  refine s_M_thrown (by omega) ?_
  rw [e2]
  have hb9 : ∀ r : (Nat × Int32) × pt_G, st I2 r.2 → sm I2 r.2 → r.1.1 ≤ 3 → (r.1.1 = 0 → J1 (35, 0) 0 = r.1.2.toInt64) → am_k (am_X l (n, xs) (d + 1) y_L_law lwP) lwP 267 [some (vR (36, 0)), some (vR (0, 0)), some (vR (9, 0)), some (vR (35, 0)), some (vI (nI i)), some (vI (nI r.1.1)), some (vI r.1.2)] [] (kc + 1 + 0 + 0) (ks + 6 + 0 + 0) (.inl (some (vI (nI r.1.1)))) am_G0 I2 J1 := by
    rintro ⟨⟨u, v⟩, s'⟩ hs2 hm2 hu hv
    simp only at hu hv
    simp only [am_z, Nat.reduceAdd, Nat.zero_le, Nat.reduceLeDiff]
    refine rn_L_law 60 ?_
    by_cases hu0 : u = 0
    · have hv := hv hu0
      subst hu0
      simp (disch := omega) only [am_z, cq_L_law_1, cq_L_law_2, cq_L_law_28, Nat.reduceAdd, Nat.zero_le, Nat.reduceLeDiff, ar_lit, nI_add, ar_in, ar_cl, ↓reduceIte, hv, lc_r, Nat.reduceLT]
      exact k I2 J1 _ _ _ _ _ ⟨hs2, hm2⟩ (by omega) (by omega)
    · simp (disch := omega) only [am_z, cq_L_law_1, cq_L_law_2, cq_L_law_28, Nat.reduceAdd, Nat.zero_le, Nat.reduceLeDiff, ar_lit, nI_add, ar_eq, ↓reduceIte, if_neg hu0]
      exact k I2 J1 _ _ _ _ _ ⟨hs2, hm2⟩ (by omega) (by omega)
  exact hb9 _ h2 m2 (Nat.le_trans b_load (by decide)) e1
theorem w_about (hD : 10 ≤ d) (hb : both I s) (hi : i + 4 ≤ n ∧ n ≤ 2048) (hk : kc + 3 ≤ 601024 ∧ ks + 18 ≤ 7293034) (k : lwK l n xs d i kc ks) : am_X l (n, xs) (d + 1) y_L_law lwP 294 [some (vR (36, 0)), some (vR (0, 0)), some (vR (9, 0)), some (vR (35, 0)), some (vI (nI i)), a5, a6] [] kc ks am_G0 I J := by
  refine rn_L_law 60 ?_
  simp (disch := omega) only [am_z, cq_L_law_2, cq_L_law_3, cq_L_law_28, Nat.reduceAdd, Nat.zero_le, Nat.reduceLeDiff, ar_lit, nI_add, ar_in, ar_cl]
  refine ⟨by omega, ⟨by omega, by omega⟩, ?_⟩
  refine s_L_about (by omega) hb.1 (fun I1 J1 f1 h1 e1 => ?_)
  have m1 := f1.tosm hb.2
  simp only [am_z, Nat.reduceAdd, Nat.zero_le, Nat.reduceLeDiff]
  refine rn_L_law 60 ?_
  simp (disch := omega) only [am_z, cq_L_law_2, cq_L_law_3, cq_L_law_28, Nat.reduceAdd, Nat.zero_le, Nat.reduceLeDiff, ar_lit, nI_add, ar_in, ar_cl]
  refine ⟨by omega, ⟨by omega, by omega⟩, ?_⟩
  refine s_M_about (by omega) m1 (fun I2 f2 m2 e2 => ?_)
  have h2 := f2.tost h1
  simp only [am_z, Nat.reduceAdd, Nat.zero_le, Nat.reduceLeDiff]
  refine rn_L_law 60 ?_
  simp (disch := omega) only [am_z, cq_L_law_2, cq_L_law_3, cq_L_law_28, Nat.reduceAdd, Nat.zero_le, Nat.reduceLeDiff, ar_lit, nI_add, ar_in, ar_cl]
  refine ⟨⟨by omega, by omega⟩, ?_⟩
  refine s_M_thrown (by omega) ?_
  rw [e2]
  have hb9 : ∀ r : Nat × Int32, r.1 ≤ 3 → (r.1 = 0 → J1 (35, 0) 0 = r.2.toInt64) → am_k (am_X l (n, xs) (d + 1) y_L_law lwP) lwP 323 [some (vR (36, 0)), some (vR (0, 0)), some (vR (9, 0)), some (vR (35, 0)), some (vI (nI i)), some (vI (nI r.1)), some (vI r.2)] [] (kc + 1 + 0 + 0) (ks + 6 + 0 + 0) (.inl (some (vI (nI r.1)))) am_G0 I2 J1 := by
    rintro ⟨u, v⟩ hu hv
    simp only at hu hv
    simp only [am_z, Nat.reduceAdd, Nat.zero_le, Nat.reduceLeDiff]
    refine rn_L_law 60 ?_
    by_cases hu0 : u = 0
    · have hv := hv hu0
      subst hu0
      simp (disch := omega) only [am_z, cq_L_law_2, cq_L_law_3, cq_L_law_28, Nat.reduceAdd, Nat.zero_le, Nat.reduceLeDiff, ar_lit, nI_add, ar_in, ar_cl, ↓reduceIte, hv, lc_r, Nat.reduceLT]
      exact k I2 J1 _ _ _ _ _ ⟨h2, m2⟩ (by omega) (by omega)
    · simp (disch := omega) only [am_z, cq_L_law_2, cq_L_law_3, cq_L_law_28, Nat.reduceAdd, Nat.zero_le, Nat.reduceLeDiff, ar_lit, nI_add, ar_eq, ↓reduceIte, if_neg hu0]
      exact k I2 J1 _ _ _ _ _ ⟨h2, m2⟩ (by omega) (by omega)
  exact hb9 _ (Nat.le_trans b_about (by decide)) e1
theorem w_row (hD : 10 ≤ d) (hb : both I s) (hi : i + 4 ≤ n ∧ n ≤ 2048) (hk : kc + 3 ≤ 601024 ∧ ks + 18 ≤ 7293034) (k : lwK l n xs d i kc ks) : am_X l (n, xs) (d + 1) y_L_law lwP 350 [some (vR (36, 0)), some (vR (0, 0)), some (vR (9, 0)), some (vR (35, 0)), some (vI (nI i)), a5, a6] [] kc ks am_G0 I J := by
  refine rn_L_law 60 ?_
  simp (disch := omega) only [am_z, cq_L_law_3, cq_L_law_4, cq_L_law_28, Nat.reduceAdd, Nat.zero_le, Nat.reduceLeDiff, ar_lit, nI_add, ar_in, ar_cl]
  refine ⟨by omega, by omega, ⟨by omega, by omega⟩, ?_⟩
  refine s_L_row (by omega) hb.1 (fun I1 J1 f1 h1 e1 => ?_)
  have m1 := f1.tosm hb.2
  simp only [am_z, Nat.reduceAdd, Nat.zero_le, Nat.reduceLeDiff]
  refine rn_L_law 60 ?_
  simp (disch := omega) only [am_z, cq_L_law_3, cq_L_law_4, cq_L_law_28, Nat.reduceAdd, Nat.zero_le, Nat.reduceLeDiff, ar_lit, nI_add, ar_in, ar_cl]
  refine ⟨by omega, by omega, ⟨by omega, by omega⟩, ?_⟩
  refine s_M_row (by omega) m1 (fun I2 f2 m2 e2 => ?_)
  have h2 := f2.tost h1
  simp only [am_z, Nat.reduceAdd, Nat.zero_le, Nat.reduceLeDiff]
  refine rn_L_law 60 ?_
  simp (disch := omega) only [am_z, cq_L_law_3, cq_L_law_4, cq_L_law_28, Nat.reduceAdd, Nat.zero_le, Nat.reduceLeDiff, ar_lit, nI_add, ar_in, ar_cl]
  refine ⟨⟨by omega, by omega⟩, ?_⟩
  refine s_M_thrown (by omega) ?_
  rw [e2]
  have hb9 : ∀ r : Nat × Int32, r.1 ≤ 3 → (r.1 = 0 → J1 (35, 0) 0 = r.2.toInt64) → am_k (am_X l (n, xs) (d + 1) y_L_law lwP) lwP 391 [some (vR (36, 0)), some (vR (0, 0)), some (vR (9, 0)), some (vR (35, 0)), some (vI (nI i)), some (vI (nI r.1)), some (vI r.2)] [] (kc + 2 + 0 + 0) (ks + 12 + 0 + 0) (.inl (some (vI (nI r.1)))) am_G0 I2 J1 := by
    rintro ⟨u, v⟩ hu hv
    simp only at hu hv
    simp only [am_z, Nat.reduceAdd, Nat.zero_le, Nat.reduceLeDiff]
    refine rn_L_law 60 ?_
    by_cases hu0 : u = 0
    · have hv := hv hu0
      subst hu0
      simp (disch := omega) only [am_z, cq_L_law_3, cq_L_law_4, cq_L_law_28, Nat.reduceAdd, Nat.zero_le, Nat.reduceLeDiff, ar_lit, nI_add, ar_in, ar_cl, ↓reduceIte, hv, lc_r, Nat.reduceLT]
      exact k I2 J1 _ _ _ _ _ ⟨h2, m2⟩ (by omega) (by omega)
    · simp (disch := omega) only [am_z, cq_L_law_3, cq_L_law_4, cq_L_law_28, Nat.reduceAdd, Nat.zero_le, Nat.reduceLeDiff, ar_lit, nI_add, ar_eq, ↓reduceIte, if_neg hu0]
      exact k I2 J1 _ _ _ _ _ ⟨h2, m2⟩ (by omega) (by omega)
  exact hb9 _ (Nat.le_trans b_row (by decide)) e1
theorem w_amount (hD : 10 ≤ d) (hb : both I s) (hi : i + 4 ≤ n ∧ n ≤ 2048) (hk : kc + 3 ≤ 601024 ∧ ks + 18 ≤ 7293034) (k : lwK l n xs d i kc ks) : am_X l (n, xs) (d + 1) y_L_law lwP 418 [some (vR (36, 0)), some (vR (0, 0)), some (vR (9, 0)), some (vR (35, 0)), some (vI (nI i)), a5, a6] [] kc ks am_G0 I J := by
  refine rn_L_law 60 ?_
  simp (disch := omega) only [am_z, cq_L_law_4, cq_L_law_5, cq_L_law_28, Nat.reduceAdd, Nat.zero_le, Nat.reduceLeDiff, ar_lit, nI_add, ar_in, ar_cl]
  refine ⟨by omega, by omega, ⟨by omega, by omega⟩, ?_⟩
  refine s_L_amount (by omega) hb.1 (fun I1 J1 f1 h1 e1 => ?_)
  have m1 := f1.tosm hb.2
  simp only [am_z, Nat.reduceAdd, Nat.zero_le, Nat.reduceLeDiff]
  refine rn_L_law 60 ?_
  simp (disch := omega) only [am_z, cq_L_law_4, cq_L_law_5, cq_L_law_28, Nat.reduceAdd, Nat.zero_le, Nat.reduceLeDiff, ar_lit, nI_add, ar_in, ar_cl]
  refine ⟨by omega, by omega, ⟨by omega, by omega⟩, ?_⟩
  refine s_M_amount (by omega) m1 (fun I2 f2 m2 e2 => ?_)
  have h2 := f2.tost h1
  simp only [am_z, Nat.reduceAdd, Nat.zero_le, Nat.reduceLeDiff]
  refine rn_L_law 60 ?_
  simp (disch := omega) only [am_z, cq_L_law_4, cq_L_law_5, cq_L_law_28, Nat.reduceAdd, Nat.zero_le, Nat.reduceLeDiff, ar_lit, nI_add, ar_in, ar_cl]
  refine ⟨⟨by omega, by omega⟩, ?_⟩
  refine s_M_thrown (by omega) ?_
  rw [e2]
  have hb9 : ∀ r : Nat × Int32, r.1 ≤ 3 → (r.1 = 0 → J1 (35, 0) 0 = r.2.toInt64) → am_k (am_X l (n, xs) (d + 1) y_L_law lwP) lwP 459 [some (vR (36, 0)), some (vR (0, 0)), some (vR (9, 0)), some (vR (35, 0)), some (vI (nI i)), some (vI (nI r.1)), some (vI r.2)] [] (kc + 2 + 0 + 0) (ks + 12 + 0 + 0) (.inl (some (vI (nI r.1)))) am_G0 I2 J1 := by
    rintro ⟨u, v⟩ hu hv
    simp only at hu hv
    simp only [am_z, Nat.reduceAdd, Nat.zero_le, Nat.reduceLeDiff]
    refine rn_L_law 60 ?_
    by_cases hu0 : u = 0
    · have hv := hv hu0
      subst hu0
      simp (disch := omega) only [am_z, cq_L_law_4, cq_L_law_5, cq_L_law_28, Nat.reduceAdd, Nat.zero_le, Nat.reduceLeDiff, ar_lit, nI_add, ar_in, ar_cl, ↓reduceIte, hv, lc_r, Nat.reduceLT]
      exact k I2 J1 _ _ _ _ _ ⟨h2, m2⟩ (by omega) (by omega)
    · simp (disch := omega) only [am_z, cq_L_law_4, cq_L_law_5, cq_L_law_28, Nat.reduceAdd, Nat.zero_le, Nat.reduceLeDiff, ar_lit, nI_add, ar_eq, ↓reduceIte, if_neg hu0]
      exact k I2 J1 _ _ _ _ _ ⟨h2, m2⟩ (by omega) (by omega)
  exact hb9 _ (Nat.le_trans b_amount (by decide)) e1
theorem w_span (hD : 10 ≤ d) (hb : both I s) (hi : i + 4 ≤ n ∧ n ≤ 2048) (hk : kc + 3 ≤ 601024 ∧ ks + 18 ≤ 7293034) (k : lwK l n xs d i kc ks) : am_X l (n, xs) (d + 1) y_L_law lwP 486 [some (vR (36, 0)), some (vR (0, 0)), some (vR (9, 0)), some (vR (35, 0)), some (vI (nI i)), a5, a6] [] kc ks am_G0 I J := by
  refine rn_L_law 60 ?_
  simp (disch := omega) only [am_z, cq_L_law_5, cq_L_law_6, cq_L_law_28, Nat.reduceAdd, Nat.zero_le, Nat.reduceLeDiff, ar_lit, nI_add, ar_in, ar_cl]
  refine ⟨by omega, by omega, ⟨by omega, by omega⟩, ?_⟩
  refine s_L_span (by omega) hb.1 (fun I1 J1 f1 h1 e1 => ?_)
  have m1 := f1.tosm hb.2
  simp only [am_z, Nat.reduceAdd, Nat.zero_le, Nat.reduceLeDiff]
  refine rn_L_law 60 ?_
  simp (disch := omega) only [am_z, cq_L_law_5, cq_L_law_6, cq_L_law_28, Nat.reduceAdd, Nat.zero_le, Nat.reduceLeDiff, ar_lit, nI_add, ar_in, ar_cl]
  refine ⟨by omega, by omega, ⟨by omega, by omega⟩, ?_⟩
  refine s_M_span (by omega) m1 (fun I2 f2 m2 e2 => ?_)
  have h2 := f2.tost h1
  simp only [am_z, Nat.reduceAdd, Nat.zero_le, Nat.reduceLeDiff]
  refine rn_L_law 60 ?_
  simp (disch := omega) only [am_z, cq_L_law_5, cq_L_law_6, cq_L_law_28, Nat.reduceAdd, Nat.zero_le, Nat.reduceLeDiff, ar_lit, nI_add, ar_in, ar_cl]
  refine ⟨⟨by omega, by omega⟩, ?_⟩
  refine s_M_thrown (by omega) ?_
  rw [e2]
  have hb9 : ∀ r : Nat × Int32, r.1 ≤ 3 → (r.1 = 0 → J1 (35, 0) 0 = r.2.toInt64) → am_k (am_X l (n, xs) (d + 1) y_L_law lwP) lwP 527 [some (vR (36, 0)), some (vR (0, 0)), some (vR (9, 0)), some (vR (35, 0)), some (vI (nI i)), some (vI (nI r.1)), some (vI r.2)] [] (kc + 2 + 0 + 0) (ks + 12 + 0 + 0) (.inl (some (vI (nI r.1)))) am_G0 I2 J1 := by
    rintro ⟨u, v⟩ hu hv
    simp only at hu hv
    simp only [am_z, Nat.reduceAdd, Nat.zero_le, Nat.reduceLeDiff]
    refine rn_L_law 60 ?_
    by_cases hu0 : u = 0
    · have hv := hv hu0
      subst hu0
      simp (disch := omega) only [am_z, cq_L_law_5, cq_L_law_6, cq_L_law_28, Nat.reduceAdd, Nat.zero_le, Nat.reduceLeDiff, ar_lit, nI_add, ar_in, ar_cl, ↓reduceIte, hv, lc_r, Nat.reduceLT]
      exact k I2 J1 _ _ _ _ _ ⟨h2, m2⟩ (by omega) (by omega)
    · simp (disch := omega) only [am_z, cq_L_law_5, cq_L_law_6, cq_L_law_28, Nat.reduceAdd, Nat.zero_le, Nat.reduceLeDiff, ar_lit, nI_add, ar_eq, ↓reduceIte, if_neg hu0]
      exact k I2 J1 _ _ _ _ _ ⟨h2, m2⟩ (by omega) (by omega)
  exact hb9 _ (Nat.le_trans b_span (by decide)) e1
theorem w_note (hD : 10 ≤ d) (hb : both I s) (hi : i + 4 ≤ n ∧ n ≤ 2048) (hk : kc + 3 ≤ 601024 ∧ ks + 18 ≤ 7293034) (k : lwK l n xs d i kc ks) : am_X l (n, xs) (d + 1) y_L_law lwP 554 [some (vR (36, 0)), some (vR (0, 0)), some (vR (9, 0)), some (vR (35, 0)), some (vI (nI i)), a5, a6] [] kc ks am_G0 I J := by
  refine rn_L_law 60 ?_
  simp (disch := omega) only [am_z, cq_L_law_6, cq_L_law_7, cq_L_law_28, Nat.reduceAdd, Nat.zero_le, Nat.reduceLeDiff, ar_lit, nI_add, ar_in, ar_cl]
  refine ⟨by omega, ⟨by omega, by omega⟩, ?_⟩
  refine s_L_note (by omega) hb.1 (fun I1 J1 f1 h1 e1 => ?_)
  have m1 := f1.tosm hb.2
  simp only [am_z, Nat.reduceAdd, Nat.zero_le, Nat.reduceLeDiff]
  refine rn_L_law 60 ?_
  simp (disch := omega) only [am_z, cq_L_law_6, cq_L_law_7, cq_L_law_28, Nat.reduceAdd, Nat.zero_le, Nat.reduceLeDiff, ar_lit, nI_add, ar_in, ar_cl]
  refine ⟨by omega, ⟨by omega, by omega⟩, ?_⟩
  refine s_M_note (by omega) m1 (fun I2 f2 m2 e2 => ?_)
  have h2 := f2.tost h1
  simp only [am_z, Nat.reduceAdd, Nat.zero_le, Nat.reduceLeDiff]
  refine rn_L_law 60 ?_
  simp (disch := omega) only [am_z, cq_L_law_6, cq_L_law_7, cq_L_law_28, Nat.reduceAdd, Nat.zero_le, Nat.reduceLeDiff, ar_lit, nI_add, ar_in, ar_cl]
  refine ⟨⟨by omega, by omega⟩, ?_⟩
  refine s_M_thrown (by omega) ?_
  rw [e2]
  have hb9 : ∀ r : Nat × Int32, r.1 ≤ 3 → (r.1 = 0 → J1 (35, 0) 0 = r.2.toInt64) → am_k (am_X l (n, xs) (d + 1) y_L_law lwP) lwP 583 [some (vR (36, 0)), some (vR (0, 0)), some (vR (9, 0)), some (vR (35, 0)), some (vI (nI i)), some (vI (nI r.1)), some (vI r.2)] [] (kc + 1 + 0 + 0) (ks + 6 + 0 + 0) (.inl (some (vI (nI r.1)))) am_G0 I2 J1 := by
    rintro ⟨u, v⟩ hu hv
    simp only at hu hv
    simp only [am_z, Nat.reduceAdd, Nat.zero_le, Nat.reduceLeDiff]
    refine rn_L_law 60 ?_
    by_cases hu0 : u = 0
    · have hv := hv hu0
      subst hu0
      simp (disch := omega) only [am_z, cq_L_law_6, cq_L_law_7, cq_L_law_28, Nat.reduceAdd, Nat.zero_le, Nat.reduceLeDiff, ar_lit, nI_add, ar_in, ar_cl, ↓reduceIte, hv, lc_r, Nat.reduceLT]
      exact k I2 J1 _ _ _ _ _ ⟨h2, m2⟩ (by omega) (by omega)
    · simp (disch := omega) only [am_z, cq_L_law_6, cq_L_law_7, cq_L_law_28, Nat.reduceAdd, Nat.zero_le, Nat.reduceLeDiff, ar_lit, nI_add, ar_eq, ↓reduceIte, if_neg hu0]
      exact k I2 J1 _ _ _ _ _ ⟨h2, m2⟩ (by omega) (by omega)
  exact hb9 _ (Nat.le_trans b_note (by decide)) e1
theorem w_page (hD : 10 ≤ d) (hb : both I s) (hi : i + 4 ≤ n ∧ n ≤ 2048) (hk : kc + 3 ≤ 601024 ∧ ks + 18 ≤ 7293034) (k : lwK l n xs d i kc ks) : am_X l (n, xs) (d + 1) y_L_law lwP 610 [some (vR (36, 0)), some (vR (0, 0)), some (vR (9, 0)), some (vR (35, 0)), some (vI (nI i)), a5, a6] [] kc ks am_G0 I J := by
  refine rn_L_law 60 ?_
  simp (disch := omega) only [am_z, cq_L_law_7, cq_L_law_8, cq_L_law_28, Nat.reduceAdd, Nat.zero_le, Nat.reduceLeDiff, ar_lit, nI_add, ar_in, ar_cl]
  refine ⟨by omega, by omega, ⟨by omega, by omega⟩, ?_⟩
  refine s_L_page (by omega) hb.1 (fun I1 J1 f1 h1 e1 => ?_)
  have m1 := f1.tosm hb.2
  simp only [am_z, Nat.reduceAdd, Nat.zero_le, Nat.reduceLeDiff]
  refine rn_L_law 60 ?_
  simp (disch := omega) only [am_z, cq_L_law_7, cq_L_law_8, cq_L_law_28, Nat.reduceAdd, Nat.zero_le, Nat.reduceLeDiff, ar_lit, nI_add, ar_in, ar_cl]
  refine ⟨by omega, by omega, ⟨by omega, by omega⟩, ?_⟩
  refine s_M_page (by omega) m1 (fun I2 f2 m2 e2 => ?_)
  have h2 := f2.tost h1
  simp only [am_z, Nat.reduceAdd, Nat.zero_le, Nat.reduceLeDiff]
  refine rn_L_law 60 ?_
  simp (disch := omega) only [am_z, cq_L_law_7, cq_L_law_8, cq_L_law_28, Nat.reduceAdd, Nat.zero_le, Nat.reduceLeDiff, ar_lit, nI_add, ar_in, ar_cl]
  refine ⟨⟨by omega, by omega⟩, ?_⟩
  refine s_M_thrown (by omega) ?_
  rw [e2]
  have hb9 : ∀ r : Nat × Int32, r.1 ≤ 3 → (r.1 = 0 → J1 (35, 0) 0 = r.2.toInt64) → am_k (am_X l (n, xs) (d + 1) y_L_law lwP) lwP 651 [some (vR (36, 0)), some (vR (0, 0)), some (vR (9, 0)), some (vR (35, 0)), some (vI (nI i)), some (vI (nI r.1)), some (vI r.2)] [] (kc + 2 + 0 + 0) (ks + 12 + 0 + 0) (.inl (some (vI (nI r.1)))) am_G0 I2 J1 := by
    rintro ⟨u, v⟩ hu hv
    simp only at hu hv
    simp only [am_z, Nat.reduceAdd, Nat.zero_le, Nat.reduceLeDiff]
    refine rn_L_law 60 ?_
    by_cases hu0 : u = 0
    · have hv := hv hu0
      subst hu0
      simp (disch := omega) only [am_z, cq_L_law_7, cq_L_law_8, cq_L_law_28, Nat.reduceAdd, Nat.zero_le, Nat.reduceLeDiff, ar_lit, nI_add, ar_in, ar_cl, ↓reduceIte, hv, lc_r, Nat.reduceLT]
      exact k I2 J1 _ _ _ _ _ ⟨h2, m2⟩ (by omega) (by omega)
    · simp (disch := omega) only [am_z, cq_L_law_7, cq_L_law_8, cq_L_law_28, Nat.reduceAdd, Nat.zero_le, Nat.reduceLeDiff, ar_lit, nI_add, ar_eq, ↓reduceIte, if_neg hu0]
      exact k I2 J1 _ _ _ _ _ ⟨h2, m2⟩ (by omega) (by omega)
  exact hb9 _ (Nat.le_trans b_page (by decide)) e1
theorem w_brought (hD : 10 ≤ d) (hb : both I s) (hi : i + 4 ≤ n ∧ n ≤ 2048) (hk : kc + 3 ≤ 601024 ∧ ks + 18 ≤ 7293034) (k : lwK l n xs d i kc ks) : am_X l (n, xs) (d + 1) y_L_law lwP 678 [some (vR (36, 0)), some (vR (0, 0)), some (vR (9, 0)), some (vR (35, 0)), some (vI (nI i)), a5, a6] [] kc ks am_G0 I J := by
  refine rn_L_law 60 ?_
  simp (disch := omega) only [am_z, cq_L_law_8, cq_L_law_9, cq_L_law_28, Nat.reduceAdd, Nat.zero_le, Nat.reduceLeDiff, ar_lit, nI_add, ar_in, ar_cl]
  refine ⟨by omega, by omega, ⟨by omega, by omega⟩, ?_⟩
  refine s_L_brought (by omega) hb.1 (fun I1 J1 f1 h1 e1 => ?_)
  have m1 := f1.tosm hb.2
  simp only [am_z, Nat.reduceAdd, Nat.zero_le, Nat.reduceLeDiff]
  refine rn_L_law 60 ?_
  simp (disch := omega) only [am_z, cq_L_law_8, cq_L_law_9, cq_L_law_28, Nat.reduceAdd, Nat.zero_le, Nat.reduceLeDiff, ar_lit, nI_add, ar_in, ar_cl]
  refine ⟨by omega, by omega, ⟨by omega, by omega⟩, ?_⟩
  refine s_M_brought (by omega) m1 (fun I2 f2 m2 e2 => ?_)
  have h2 := f2.tost h1
  simp only [am_z, Nat.reduceAdd, Nat.zero_le, Nat.reduceLeDiff]
  refine rn_L_law 60 ?_
  simp (disch := omega) only [am_z, cq_L_law_8, cq_L_law_9, cq_L_law_28, Nat.reduceAdd, Nat.zero_le, Nat.reduceLeDiff, ar_lit, nI_add, ar_in, ar_cl]
  refine ⟨⟨by omega, by omega⟩, ?_⟩
  refine s_M_thrown (by omega) ?_
  rw [e2]
  have hb9 : ∀ r : Nat × Int32, r.1 ≤ 3 → (r.1 = 0 → J1 (35, 0) 0 = r.2.toInt64) → am_k (am_X l (n, xs) (d + 1) y_L_law lwP) lwP 719 [some (vR (36, 0)), some (vR (0, 0)), some (vR (9, 0)), some (vR (35, 0)), some (vI (nI i)), some (vI (nI r.1)), some (vI r.2)] [] (kc + 2 + 0 + 0) (ks + 12 + 0 + 0) (.inl (some (vI (nI r.1)))) am_G0 I2 J1 := by
    rintro ⟨u, v⟩ hu hv
    simp only at hu hv
    simp only [am_z, Nat.reduceAdd, Nat.zero_le, Nat.reduceLeDiff]
    refine rn_L_law 60 ?_
    by_cases hu0 : u = 0
    · have hv := hv hu0
      subst hu0
      simp (disch := omega) only [am_z, cq_L_law_8, cq_L_law_9, cq_L_law_28, Nat.reduceAdd, Nat.zero_le, Nat.reduceLeDiff, ar_lit, nI_add, ar_in, ar_cl, ↓reduceIte, hv, lc_r, Nat.reduceLT]
      exact k I2 J1 _ _ _ _ _ ⟨h2, m2⟩ (by omega) (by omega)
    · simp (disch := omega) only [am_z, cq_L_law_8, cq_L_law_9, cq_L_law_28, Nat.reduceAdd, Nat.zero_le, Nat.reduceLeDiff, ar_lit, nI_add, ar_eq, ↓reduceIte, if_neg hu0]
      exact k I2 J1 _ _ _ _ _ ⟨h2, m2⟩ (by omega) (by omega)
  exact hb9 _ (Nat.le_trans b_brought (by decide)) e1
theorem w_carried (hD : 10 ≤ d) (hb : both I s) (hi : i + 4 ≤ n ∧ n ≤ 2048) (hk : kc + 3 ≤ 601024 ∧ ks + 18 ≤ 7293034) (k : lwK l n xs d i kc ks) : am_X l (n, xs) (d + 1) y_L_law lwP 746 [some (vR (36, 0)), some (vR (0, 0)), some (vR (9, 0)), some (vR (35, 0)), some (vI (nI i)), a5, a6] [] kc ks am_G0 I J := by
  refine rn_L_law 60 ?_
  simp (disch := omega) only [am_z, cq_L_law_9, cq_L_law_10, cq_L_law_28, Nat.reduceAdd, Nat.zero_le, Nat.reduceLeDiff, ar_lit, nI_add, ar_in, ar_cl]
  refine ⟨by omega, by omega, ⟨by omega, by omega⟩, ?_⟩
  refine s_L_carried (by omega) hb.1 (fun I1 J1 f1 h1 e1 => ?_)
  have m1 := f1.tosm hb.2
  simp only [am_z, Nat.reduceAdd, Nat.zero_le, Nat.reduceLeDiff]
  refine rn_L_law 60 ?_
  simp (disch := omega) only [am_z, cq_L_law_9, cq_L_law_10, cq_L_law_28, Nat.reduceAdd, Nat.zero_le, Nat.reduceLeDiff, ar_lit, nI_add, ar_in, ar_cl]
  refine ⟨by omega, by omega, ⟨by omega, by omega⟩, ?_⟩
  refine s_M_carried (by omega) m1 (fun I2 f2 m2 e2 => ?_)
  have h2 := f2.tost h1
  simp only [am_z, Nat.reduceAdd, Nat.zero_le, Nat.reduceLeDiff]
  refine rn_L_law 60 ?_
  simp (disch := omega) only [am_z, cq_L_law_9, cq_L_law_10, cq_L_law_28, Nat.reduceAdd, Nat.zero_le, Nat.reduceLeDiff, ar_lit, nI_add, ar_in, ar_cl]
  refine ⟨⟨by omega, by omega⟩, ?_⟩
  refine s_M_thrown (by omega) ?_
  rw [e2]
  have hb9 : ∀ r : Nat × Int32, r.1 ≤ 3 → (r.1 = 0 → J1 (35, 0) 0 = r.2.toInt64) → am_k (am_X l (n, xs) (d + 1) y_L_law lwP) lwP 787 [some (vR (36, 0)), some (vR (0, 0)), some (vR (9, 0)), some (vR (35, 0)), some (vI (nI i)), some (vI (nI r.1)), some (vI r.2)] [] (kc + 2 + 0 + 0) (ks + 12 + 0 + 0) (.inl (some (vI (nI r.1)))) am_G0 I2 J1 := by
    rintro ⟨u, v⟩ hu hv
    simp only at hu hv
    simp only [am_z, Nat.reduceAdd, Nat.zero_le, Nat.reduceLeDiff]
    refine rn_L_law 60 ?_
    by_cases hu0 : u = 0
    · have hv := hv hu0
      subst hu0
      simp (disch := omega) only [am_z, cq_L_law_9, cq_L_law_10, cq_L_law_28, Nat.reduceAdd, Nat.zero_le, Nat.reduceLeDiff, ar_lit, nI_add, ar_in, ar_cl, ↓reduceIte, hv, lc_r, Nat.reduceLT]
      exact k I2 J1 _ _ _ _ _ ⟨h2, m2⟩ (by omega) (by omega)
    · simp (disch := omega) only [am_z, cq_L_law_9, cq_L_law_10, cq_L_law_28, Nat.reduceAdd, Nat.zero_le, Nat.reduceLeDiff, ar_lit, nI_add, ar_eq, ↓reduceIte, if_neg hu0]
      exact k I2 J1 _ _ _ _ _ ⟨h2, m2⟩ (by omega) (by omega)
  exact hb9 _ (Nat.le_trans b_carried (by decide)) e1
theorem w_richest (hD : 10 ≤ d) (hb : both I s) (hi : i + 4 ≤ n ∧ n ≤ 2048) (hk : kc + 3 ≤ 601024 ∧ ks + 18 ≤ 7293034) (k : lwK l n xs d i kc ks) : am_X l (n, xs) (d + 1) y_L_law lwP 814 [some (vR (36, 0)), some (vR (0, 0)), some (vR (9, 0)), some (vR (35, 0)), some (vI (nI i)), a5, a6] [] kc ks am_G0 I J := by
  refine rn_L_law 60 ?_
  simp (disch := omega) only [am_z, cq_L_law_10, cq_L_law_11, cq_L_law_28, Nat.reduceAdd, Nat.zero_le, Nat.reduceLeDiff, ar_lit, nI_add, ar_in, ar_cl]
  refine ⟨by omega, ⟨by omega, by omega⟩, ?_⟩
  refine s_L_richest (by omega) hb.1 (fun I1 J1 f1 h1 e1 => ?_)
  have m1 := f1.tosm hb.2
  simp only [am_z, Nat.reduceAdd, Nat.zero_le, Nat.reduceLeDiff]
  refine rn_L_law 60 ?_
  simp (disch := omega) only [am_z, cq_L_law_10, cq_L_law_11, cq_L_law_28, Nat.reduceAdd, Nat.zero_le, Nat.reduceLeDiff, ar_lit, nI_add, ar_in, ar_cl]
  refine ⟨by omega, ⟨by omega, by omega⟩, ?_⟩
  refine s_M_richest (by omega) m1 (fun I2 f2 m2 e2 => ?_)
  have h2 := f2.tost h1
  simp only [am_z, Nat.reduceAdd, Nat.zero_le, Nat.reduceLeDiff]
  refine rn_L_law 60 ?_
  simp (disch := omega) only [am_z, cq_L_law_10, cq_L_law_11, cq_L_law_28, Nat.reduceAdd, Nat.zero_le, Nat.reduceLeDiff, ar_lit, nI_add, ar_in, ar_cl]
  refine ⟨⟨by omega, by omega⟩, ?_⟩
  refine s_M_thrown (by omega) ?_
  rw [e2]
  have hb9 : ∀ r : Nat × Int32, r.1 ≤ 3 → (r.1 = 0 → J1 (35, 0) 0 = r.2.toInt64) → am_k (am_X l (n, xs) (d + 1) y_L_law lwP) lwP 843 [some (vR (36, 0)), some (vR (0, 0)), some (vR (9, 0)), some (vR (35, 0)), some (vI (nI i)), some (vI (nI r.1)), some (vI r.2)] [] (kc + 1 + 0 + 0) (ks + 6 + 0 + 0) (.inl (some (vI (nI r.1)))) am_G0 I2 J1 := by
    rintro ⟨u, v⟩ hu hv
    simp only at hu hv
    simp only [am_z, Nat.reduceAdd, Nat.zero_le, Nat.reduceLeDiff]
    refine rn_L_law 60 ?_
    by_cases hu0 : u = 0
    · have hv := hv hu0
      subst hu0
      simp (disch := omega) only [am_z, cq_L_law_10, cq_L_law_11, cq_L_law_28, Nat.reduceAdd, Nat.zero_le, Nat.reduceLeDiff, ar_lit, nI_add, ar_in, ar_cl, ↓reduceIte, hv, lc_r, Nat.reduceLT]
      exact k I2 J1 _ _ _ _ _ ⟨h2, m2⟩ (by omega) (by omega)
    · simp (disch := omega) only [am_z, cq_L_law_10, cq_L_law_11, cq_L_law_28, Nat.reduceAdd, Nat.zero_le, Nat.reduceLeDiff, ar_lit, nI_add, ar_eq, ↓reduceIte, if_neg hu0]
      exact k I2 J1 _ _ _ _ _ ⟨h2, m2⟩ (by omega) (by omega)
  exact hb9 _ (Nat.le_trans b_richest (by decide)) e1
theorem w_addRow (hD : 10 ≤ d) (hb : both I s) (hi : i + 4 ≤ n ∧ n ≤ 2048) (hk : kc + 3 ≤ 601024 ∧ ks + 18 ≤ 7293034) (k : lwK l n xs d i kc ks) : am_X l (n, xs) (d + 1) y_L_law lwP 870 [some (vR (36, 0)), some (vR (0, 0)), some (vR (9, 0)), some (vR (35, 0)), some (vI (nI i)), a5, a6] [] kc ks am_G0 I J := by
  refine rn_L_law 60 ?_
  simp (disch := omega) only [am_z, cq_L_law_11, cq_L_law_12, cq_L_law_28, Nat.reduceAdd, Nat.zero_le, Nat.reduceLeDiff, ar_lit, nI_add, ar_in, ar_cl]
  refine ⟨by omega, by omega, ⟨by omega, by omega⟩, ?_⟩
  refine s_L_addRow (by omega) hb.1 (fun I1 J1 f1 h1 e1 => ?_)
  have m1 := f1.tosm hb.2
  simp only [am_z, Nat.reduceAdd, Nat.zero_le, Nat.reduceLeDiff]
  refine rn_L_law 60 ?_
  simp (disch := omega) only [am_z, cq_L_law_11, cq_L_law_12, cq_L_law_28, Nat.reduceAdd, Nat.zero_le, Nat.reduceLeDiff, ar_lit, nI_add, ar_in, ar_cl]
  refine ⟨by omega, by omega, ⟨by omega, by omega⟩, ?_⟩
  refine s_M_addRow (by omega) m1 (fun I2 f2 m2 e2 => ?_)
  have h2 := f2.tost h1
  simp only [am_z, Nat.reduceAdd, Nat.zero_le, Nat.reduceLeDiff]
  refine rn_L_law 60 ?_
  simp (disch := omega) only [am_z, cq_L_law_11, cq_L_law_12, cq_L_law_28, Nat.reduceAdd, Nat.zero_le, Nat.reduceLeDiff, ar_lit, nI_add, ar_in, ar_cl]
  refine ⟨⟨by omega, by omega⟩, ?_⟩
  refine s_M_thrown (by omega) ?_
  rw [e2]
  have hb9 : ∀ r : (Nat × Int32) × pt_G, st I2 r.2 → sm I2 r.2 → r.1.1 ≤ 3 → (r.1.1 = 0 → J1 (35, 0) 0 = r.1.2.toInt64) → am_k (am_X l (n, xs) (d + 1) y_L_law lwP) lwP 911 [some (vR (36, 0)), some (vR (0, 0)), some (vR (9, 0)), some (vR (35, 0)), some (vI (nI i)), some (vI (nI r.1.1)), some (vI r.1.2)] [] (kc + 1 + 0 + 0) (ks + 6 + 0 + 0) (.inl (some (vI (nI r.1.1)))) am_G0 I2 J1 := by
    rintro ⟨⟨u, v⟩, s'⟩ hs2 hm2 hu hv
    simp only at hu hv
    simp only [am_z, Nat.reduceAdd, Nat.zero_le, Nat.reduceLeDiff]
    refine rn_L_law 60 ?_
    by_cases hu0 : u = 0
    · have hv := hv hu0
      subst hu0
      simp (disch := omega) only [am_z, cq_L_law_11, cq_L_law_12, cq_L_law_28, Nat.reduceAdd, Nat.zero_le, Nat.reduceLeDiff, ar_lit, nI_add, ar_in, ar_cl, ↓reduceIte, hv, lc_r, Nat.reduceLT]
      exact k I2 J1 _ _ _ _ _ ⟨hs2, hm2⟩ (by omega) (by omega)
    · simp (disch := omega) only [am_z, cq_L_law_11, cq_L_law_12, cq_L_law_28, Nat.reduceAdd, Nat.zero_le, Nat.reduceLeDiff, ar_lit, nI_add, ar_eq, ↓reduceIte, if_neg hu0]
      exact k I2 J1 _ _ _ _ _ ⟨hs2, hm2⟩ (by omega) (by omega)
  exact hb9 _ h2 m2 (Nat.le_trans b_addRow (by decide)) e1
theorem w_setAmount (hD : 10 ≤ d) (hb : both I s) (hi : i + 4 ≤ n ∧ n ≤ 2048) (hk : kc + 3 ≤ 601024 ∧ ks + 18 ≤ 7293034) (k : lwK l n xs d i kc ks) : am_X l (n, xs) (d + 1) y_L_law lwP 938 [some (vR (36, 0)), some (vR (0, 0)), some (vR (9, 0)), some (vR (35, 0)), some (vI (nI i)), a5, a6] [] kc ks am_G0 I J := by
  refine rn_L_law 60 ?_
  simp (disch := omega) only [am_z, cq_L_law_12, cq_L_law_13, cq_L_law_14, cq_L_law_28, Nat.reduceAdd, Nat.zero_le, Nat.reduceLeDiff, ar_lit, nI_add, ar_in, ar_cl]
  refine ⟨by omega, by omega, by omega, ⟨by omega, by omega⟩, ?_⟩
  refine s_L_setAmount (by omega) hb.1 (fun I1 J1 f1 h1 e1 => ?_)
  have m1 := f1.tosm hb.2
  simp only [am_z, Nat.reduceAdd, Nat.zero_le, Nat.reduceLeDiff]
  refine rn_L_law 60 ?_
  simp (disch := omega) only [am_z, cq_L_law_12, cq_L_law_13, cq_L_law_14, cq_L_law_28, Nat.reduceAdd, Nat.zero_le, Nat.reduceLeDiff, ar_lit, nI_add, ar_in, ar_cl]
  refine ⟨by omega, by omega, by omega, ⟨by omega, by omega⟩, ?_⟩
  refine s_M_setAmount (by omega) m1 (fun I2 f2 m2 e2 => ?_)
  have h2 := f2.tost h1
  simp only [am_z, Nat.reduceAdd, Nat.zero_le, Nat.reduceLeDiff]
  refine rn_L_law 60 ?_
  simp (disch := omega) only [am_z, cq_L_law_12, cq_L_law_13, cq_L_law_14, cq_L_law_28, Nat.reduceAdd, Nat.zero_le, Nat.reduceLeDiff, ar_lit, nI_add, ar_in, ar_cl]
  refine ⟨⟨by omega, by omega⟩, ?_⟩
  refine s_M_thrown (by omega) ?_
  rw [e2]
  have hb9 : ∀ r : (Nat × Int32) × pt_G, st I2 r.2 → sm I2 r.2 → r.1.1 ≤ 3 → (r.1.1 = 0 → J1 (35, 0) 0 = r.1.2.toInt64) → am_k (am_X l (n, xs) (d + 1) y_L_law lwP) lwP 991 [some (vR (36, 0)), some (vR (0, 0)), some (vR (9, 0)), some (vR (35, 0)), some (vI (nI i)), some (vI (nI r.1.1)), some (vI r.1.2)] [] (kc + 3 + 0 + 0) (ks + 18 + 0 + 0) (.inl (some (vI (nI r.1.1)))) am_G0 I2 J1 := by
    rintro ⟨⟨u, v⟩, s'⟩ hs2 hm2 hu hv
    simp only at hu hv
    simp only [am_z, Nat.reduceAdd, Nat.zero_le, Nat.reduceLeDiff]
    refine rn_L_law 60 ?_
    by_cases hu0 : u = 0
    · have hv := hv hu0
      subst hu0
      simp (disch := omega) only [am_z, cq_L_law_12, cq_L_law_13, cq_L_law_14, cq_L_law_28, Nat.reduceAdd, Nat.zero_le, Nat.reduceLeDiff, ar_lit, nI_add, ar_in, ar_cl, ↓reduceIte, hv, lc_r, Nat.reduceLT]
      exact k I2 J1 _ _ _ _ _ ⟨hs2, hm2⟩ (by omega) (by omega)
    · simp (disch := omega) only [am_z, cq_L_law_12, cq_L_law_13, cq_L_law_14, cq_L_law_28, Nat.reduceAdd, Nat.zero_le, Nat.reduceLeDiff, ar_lit, nI_add, ar_eq, ↓reduceIte, if_neg hu0]
      exact k I2 J1 _ _ _ _ _ ⟨hs2, hm2⟩ (by omega) (by omega)
  exact hb9 _ h2 m2 (Nat.le_trans b_setAmount (by decide)) e1
theorem w_keep (hD : 10 ≤ d) (hb : both I s) (hi : i + 4 ≤ n ∧ n ≤ 2048) (hk : kc + 3 ≤ 601024 ∧ ks + 18 ≤ 7293034) (k : lwK l n xs d i kc ks) : am_X l (n, xs) (d + 1) y_L_law lwP 1018 [some (vR (36, 0)), some (vR (0, 0)), some (vR (9, 0)), some (vR (35, 0)), some (vI (nI i)), a5, a6] [] kc ks am_G0 I J := by
  by_cases hz : xs (i + 2) = nI 0
  · skip
    refine rn_L_law 60 ?_
    simp (disch := omega) only [am_z, cq_L_law_14, cq_L_law_15, cq_L_law_28, Nat.reduceAdd, Nat.zero_le, Nat.reduceLeDiff, ar_lit, nI_add, ar_in, ar_cl, if_pos hz]
    refine ⟨by omega, by omega, ⟨by omega, by omega⟩, ?_⟩
    refine s_L_keep (by omega) (by omega) hb.1 (fun I1 J1 f1 h1 e1 => ?_)
    have m1 := f1.tosm hb.2
    simp only [am_z, Nat.reduceAdd, Nat.zero_le, Nat.reduceLeDiff]
    refine rn_L_law 60 ?_
    simp (disch := omega) only [am_z, cq_L_law_14, cq_L_law_15, cq_L_law_28, Nat.reduceAdd, Nat.zero_le, Nat.reduceLeDiff, ar_lit, nI_add, ar_in, ar_cl, if_pos hz]
    refine ⟨by omega, by omega, ⟨by omega, by omega⟩, ?_⟩
    refine s_M_keep (by omega) (by omega) m1 (fun I2 f2 m2 e2 => ?_)
    have h2 := f2.tost h1
    simp only [am_z, Nat.reduceAdd, Nat.zero_le, Nat.reduceLeDiff]
    refine rn_L_law 60 ?_
    simp (disch := omega) only [am_z, cq_L_law_14, cq_L_law_15, cq_L_law_28, Nat.reduceAdd, Nat.zero_le, Nat.reduceLeDiff, ar_lit, nI_add, ar_in, ar_cl]
    refine ⟨⟨by omega, by omega⟩, ?_⟩
    refine s_M_thrown (by omega) ?_
    rw [e2]
    have hb9 : ∀ r : (Nat × Int32) × pt_G, st I2 r.2 → sm I2 r.2 → r.1.1 ≤ 3 → (r.1.1 = 0 → J1 (35, 0) 0 = r.1.2.toInt64) → am_k (am_X l (n, xs) (d + 1) y_L_law lwP) lwP 1075 [some (vR (36, 0)), some (vR (0, 0)), some (vR (9, 0)), some (vR (35, 0)), some (vI (nI i)), some (vI (nI r.1.1)), some (vI r.1.2)] [] (kc + 1 + 0 + 0) (ks + 6 + 0 + 0) (.inl (some (vI (nI r.1.1)))) am_G0 I2 J1 := by
      rintro ⟨⟨u, v⟩, s'⟩ hs2 hm2 hu hv
      simp only at hu hv
      simp only [am_z, Nat.reduceAdd, Nat.zero_le, Nat.reduceLeDiff]
      refine rn_L_law 60 ?_
      by_cases hu0 : u = 0
      · have hv := hv hu0
        subst hu0
        simp (disch := omega) only [am_z, cq_L_law_14, cq_L_law_15, cq_L_law_28, Nat.reduceAdd, Nat.zero_le, Nat.reduceLeDiff, ar_lit, nI_add, ar_in, ar_cl, ↓reduceIte, hv, lc_r, Nat.reduceLT]
        exact k I2 J1 _ _ _ _ _ ⟨hs2, hm2⟩ (by omega) (by omega)
      · simp (disch := omega) only [am_z, cq_L_law_14, cq_L_law_15, cq_L_law_28, Nat.reduceAdd, Nat.zero_le, Nat.reduceLeDiff, ar_lit, nI_add, ar_eq, ↓reduceIte, if_neg hu0]
        exact k I2 J1 _ _ _ _ _ ⟨hs2, hm2⟩ (by omega) (by omega)
    exact hb9 _ h2 m2 (Nat.le_trans b_keep (by decide)) e1
  · skip
    refine rn_L_law 60 ?_
    simp (disch := omega) only [am_z, cq_L_law_14, cq_L_law_15, cq_L_law_28, Nat.reduceAdd, Nat.zero_le, Nat.reduceLeDiff, ar_lit, nI_add, ar_in, ar_cl, if_neg hz]
    refine ⟨by omega, by omega, ⟨by omega, by omega⟩, ?_⟩
    refine s_L_keep (by omega) (by omega) hb.1 (fun I1 J1 f1 h1 e1 => ?_)
    have m1 := f1.tosm hb.2
    simp only [am_z, Nat.reduceAdd, Nat.zero_le, Nat.reduceLeDiff]
    refine rn_L_law 60 ?_
    simp (disch := omega) only [am_z, cq_L_law_14, cq_L_law_15, cq_L_law_28, Nat.reduceAdd, Nat.zero_le, Nat.reduceLeDiff, ar_lit, nI_add, ar_in, ar_cl, if_neg hz]
    refine ⟨by omega, by omega, ⟨by omega, by omega⟩, ?_⟩
    refine s_M_keep (by omega) (by omega) m1 (fun I2 f2 m2 e2 => ?_)
    have h2 := f2.tost h1
    simp only [am_z, Nat.reduceAdd, Nat.zero_le, Nat.reduceLeDiff]
    refine rn_L_law 60 ?_
    simp (disch := omega) only [am_z, cq_L_law_14, cq_L_law_15, cq_L_law_28, Nat.reduceAdd, Nat.zero_le, Nat.reduceLeDiff, ar_lit, nI_add, ar_in, ar_cl]
    refine ⟨⟨by omega, by omega⟩, ?_⟩
    refine s_M_thrown (by omega) ?_
    rw [e2]
    have hb9 : ∀ r : (Nat × Int32) × pt_G, st I2 r.2 → sm I2 r.2 → r.1.1 ≤ 3 → (r.1.1 = 0 → J1 (35, 0) 0 = r.1.2.toInt64) → am_k (am_X l (n, xs) (d + 1) y_L_law lwP) lwP 1075 [some (vR (36, 0)), some (vR (0, 0)), some (vR (9, 0)), some (vR (35, 0)), some (vI (nI i)), some (vI (nI r.1.1)), some (vI r.1.2)] [] (kc + 1 + 0 + 0) (ks + 6 + 0 + 0) (.inl (some (vI (nI r.1.1)))) am_G0 I2 J1 := by
      rintro ⟨⟨u, v⟩, s'⟩ hs2 hm2 hu hv
      simp only at hu hv
      simp only [am_z, Nat.reduceAdd, Nat.zero_le, Nat.reduceLeDiff]
      refine rn_L_law 60 ?_
      by_cases hu0 : u = 0
      · have hv := hv hu0
        subst hu0
        simp (disch := omega) only [am_z, cq_L_law_14, cq_L_law_15, cq_L_law_28, Nat.reduceAdd, Nat.zero_le, Nat.reduceLeDiff, ar_lit, nI_add, ar_in, ar_cl, ↓reduceIte, hv, lc_r, Nat.reduceLT]
        exact k I2 J1 _ _ _ _ _ ⟨hs2, hm2⟩ (by omega) (by omega)
      · simp (disch := omega) only [am_z, cq_L_law_14, cq_L_law_15, cq_L_law_28, Nat.reduceAdd, Nat.zero_le, Nat.reduceLeDiff, ar_lit, nI_add, ar_eq, ↓reduceIte, if_neg hu0]
        exact k I2 J1 _ _ _ _ _ ⟨hs2, hm2⟩ (by omega) (by omega)
    exact hb9 _ h2 m2 (Nat.le_trans b_keep (by decide)) e1
theorem w_removeRow (hD : 10 ≤ d) (hb : both I s) (hi : i + 4 ≤ n ∧ n ≤ 2048) (hk : kc + 3 ≤ 601024 ∧ ks + 18 ≤ 7293034) (k : lwK l n xs d i kc ks) : am_X l (n, xs) (d + 1) y_L_law lwP 1102 [some (vR (36, 0)), some (vR (0, 0)), some (vR (9, 0)), some (vR (35, 0)), some (vI (nI i)), a5, a6] [] kc ks am_G0 I J := by
  refine rn_L_law 60 ?_
  simp (disch := omega) only [am_z, cq_L_law_15, cq_L_law_16, cq_L_law_28, Nat.reduceAdd, Nat.zero_le, Nat.reduceLeDiff, ar_lit, nI_add, ar_in, ar_cl]
  refine ⟨by omega, ⟨by omega, by omega⟩, ?_⟩
  refine s_L_removeRow (by omega) hb.1 (fun I1 J1 f1 h1 e1 => ?_)
  have m1 := f1.tosm hb.2
  simp only [am_z, Nat.reduceAdd, Nat.zero_le, Nat.reduceLeDiff]
  refine rn_L_law 60 ?_
  simp (disch := omega) only [am_z, cq_L_law_15, cq_L_law_16, cq_L_law_28, Nat.reduceAdd, Nat.zero_le, Nat.reduceLeDiff, ar_lit, nI_add, ar_in, ar_cl]
  refine ⟨by omega, ⟨by omega, by omega⟩, ?_⟩
  refine s_M_removeRow (by omega) m1 (fun I2 f2 m2 e2 => ?_)
  have h2 := f2.tost h1
  simp only [am_z, Nat.reduceAdd, Nat.zero_le, Nat.reduceLeDiff]
  refine rn_L_law 60 ?_
  simp (disch := omega) only [am_z, cq_L_law_15, cq_L_law_16, cq_L_law_28, Nat.reduceAdd, Nat.zero_le, Nat.reduceLeDiff, ar_lit, nI_add, ar_in, ar_cl]
  refine ⟨⟨by omega, by omega⟩, ?_⟩
  refine s_M_thrown (by omega) ?_
  rw [e2]
  have hb9 : ∀ r : (Nat × Int32) × pt_G, st I2 r.2 → sm I2 r.2 → r.1.1 ≤ 3 → (r.1.1 = 0 → J1 (35, 0) 0 = r.1.2.toInt64) → am_k (am_X l (n, xs) (d + 1) y_L_law lwP) lwP 1131 [some (vR (36, 0)), some (vR (0, 0)), some (vR (9, 0)), some (vR (35, 0)), some (vI (nI i)), some (vI (nI r.1.1)), some (vI r.1.2)] [] (kc + 1 + 0 + 0) (ks + 6 + 0 + 0) (.inl (some (vI (nI r.1.1)))) am_G0 I2 J1 := by
    rintro ⟨⟨u, v⟩, s'⟩ hs2 hm2 hu hv
    simp only at hu hv
    simp only [am_z, Nat.reduceAdd, Nat.zero_le, Nat.reduceLeDiff]
    refine rn_L_law 60 ?_
    by_cases hu0 : u = 0
    · have hv := hv hu0
      subst hu0
      simp (disch := omega) only [am_z, cq_L_law_15, cq_L_law_16, cq_L_law_28, Nat.reduceAdd, Nat.zero_le, Nat.reduceLeDiff, ar_lit, nI_add, ar_in, ar_cl, ↓reduceIte, hv, lc_r, Nat.reduceLT]
      exact k I2 J1 _ _ _ _ _ ⟨hs2, hm2⟩ (by omega) (by omega)
    · simp (disch := omega) only [am_z, cq_L_law_15, cq_L_law_16, cq_L_law_28, Nat.reduceAdd, Nat.zero_le, Nat.reduceLeDiff, ar_lit, nI_add, ar_eq, ↓reduceIte, if_neg hu0]
      exact k I2 J1 _ _ _ _ _ ⟨hs2, hm2⟩ (by omega) (by omega)
  exact hb9 _ h2 m2 (Nat.le_trans b_removeRow (by decide)) e1
theorem w_addSpan (hD : 10 ≤ d) (hb : both I s) (hi : i + 4 ≤ n ∧ n ≤ 2048) (hk : kc + 3 ≤ 601024 ∧ ks + 18 ≤ 7293034) (k : lwK l n xs d i kc ks) : am_X l (n, xs) (d + 1) y_L_law lwP 1158 [some (vR (36, 0)), some (vR (0, 0)), some (vR (9, 0)), some (vR (35, 0)), some (vI (nI i)), a5, a6] [] kc ks am_G0 I J := by
  by_cases hz : xs (i + 3) = nI 0
  · skip
    refine rn_L_law 60 ?_
    simp (disch := omega) only [am_z, cq_L_law_16, cq_L_law_17, cq_L_law_18, cq_L_law_28, Nat.reduceAdd, Nat.zero_le, Nat.reduceLeDiff, ar_lit, nI_add, ar_in, ar_cl, if_pos hz]
    refine ⟨by omega, by omega, by omega, ⟨by omega, by omega⟩, ?_⟩
    refine s_L_addSpan (by omega) (by omega) hb.1 (fun I1 J1 f1 h1 e1 => ?_)
    have m1 := f1.tosm hb.2
    simp only [am_z, Nat.reduceAdd, Nat.zero_le, Nat.reduceLeDiff]
    refine rn_L_law 60 ?_
    simp (disch := omega) only [am_z, cq_L_law_16, cq_L_law_17, cq_L_law_18, cq_L_law_28, Nat.reduceAdd, Nat.zero_le, Nat.reduceLeDiff, ar_lit, nI_add, ar_in, ar_cl, if_pos hz]
    refine ⟨by omega, by omega, by omega, ⟨by omega, by omega⟩, ?_⟩
    refine s_M_addSpan (by omega) (by omega) m1 (fun I2 f2 m2 e2 => ?_)
    have h2 := f2.tost h1
    simp only [am_z, Nat.reduceAdd, Nat.zero_le, Nat.reduceLeDiff]
    refine rn_L_law 60 ?_
    simp (disch := omega) only [am_z, cq_L_law_16, cq_L_law_17, cq_L_law_18, cq_L_law_28, Nat.reduceAdd, Nat.zero_le, Nat.reduceLeDiff, ar_lit, nI_add, ar_in, ar_cl]
    refine ⟨⟨by omega, by omega⟩, ?_⟩
    refine s_M_thrown (by omega) ?_
    rw [e2]
    have hb9 : ∀ r : (Nat × Int32) × pt_G, st I2 r.2 → sm I2 r.2 → r.1.1 ≤ 3 → (r.1.1 = 0 → J1 (35, 0) 0 = r.1.2.toInt64) → am_k (am_X l (n, xs) (d + 1) y_L_law lwP) lwP 1227 [some (vR (36, 0)), some (vR (0, 0)), some (vR (9, 0)), some (vR (35, 0)), some (vI (nI i)), some (vI (nI r.1.1)), some (vI r.1.2)] [] (kc + 3 + 0 + 0) (ks + 18 + 0 + 0) (.inl (some (vI (nI r.1.1)))) am_G0 I2 J1 := by
      rintro ⟨⟨u, v⟩, s'⟩ hs2 hm2 hu hv
      simp only at hu hv
      simp only [am_z, Nat.reduceAdd, Nat.zero_le, Nat.reduceLeDiff]
      refine rn_L_law 60 ?_
      by_cases hu0 : u = 0
      · have hv := hv hu0
        subst hu0
        simp (disch := omega) only [am_z, cq_L_law_16, cq_L_law_17, cq_L_law_18, cq_L_law_28, Nat.reduceAdd, Nat.zero_le, Nat.reduceLeDiff, ar_lit, nI_add, ar_in, ar_cl, ↓reduceIte, hv, lc_r, Nat.reduceLT]
        exact k I2 J1 _ _ _ _ _ ⟨hs2, hm2⟩ (by omega) (by omega)
      · simp (disch := omega) only [am_z, cq_L_law_16, cq_L_law_17, cq_L_law_18, cq_L_law_28, Nat.reduceAdd, Nat.zero_le, Nat.reduceLeDiff, ar_lit, nI_add, ar_eq, ↓reduceIte, if_neg hu0]
        exact k I2 J1 _ _ _ _ _ ⟨hs2, hm2⟩ (by omega) (by omega)
    exact hb9 _ h2 m2 (Nat.le_trans b_addSpan (by decide)) e1
  · skip
    refine rn_L_law 60 ?_
    simp (disch := omega) only [am_z, cq_L_law_16, cq_L_law_17, cq_L_law_18, cq_L_law_28, Nat.reduceAdd, Nat.zero_le, Nat.reduceLeDiff, ar_lit, nI_add, ar_in, ar_cl, if_neg hz]
    refine ⟨by omega, by omega, by omega, ⟨by omega, by omega⟩, ?_⟩
    refine s_L_addSpan (by omega) (by omega) hb.1 (fun I1 J1 f1 h1 e1 => ?_)
    have m1 := f1.tosm hb.2
    simp only [am_z, Nat.reduceAdd, Nat.zero_le, Nat.reduceLeDiff]
    refine rn_L_law 60 ?_
    simp (disch := omega) only [am_z, cq_L_law_16, cq_L_law_17, cq_L_law_18, cq_L_law_28, Nat.reduceAdd, Nat.zero_le, Nat.reduceLeDiff, ar_lit, nI_add, ar_in, ar_cl, if_neg hz]
    refine ⟨by omega, by omega, by omega, ⟨by omega, by omega⟩, ?_⟩
    refine s_M_addSpan (by omega) (by omega) m1 (fun I2 f2 m2 e2 => ?_)
    have h2 := f2.tost h1
    simp only [am_z, Nat.reduceAdd, Nat.zero_le, Nat.reduceLeDiff]
    refine rn_L_law 60 ?_
    simp (disch := omega) only [am_z, cq_L_law_16, cq_L_law_17, cq_L_law_18, cq_L_law_28, Nat.reduceAdd, Nat.zero_le, Nat.reduceLeDiff, ar_lit, nI_add, ar_in, ar_cl]
    refine ⟨⟨by omega, by omega⟩, ?_⟩
    refine s_M_thrown (by omega) ?_
    rw [e2]
    have hb9 : ∀ r : (Nat × Int32) × pt_G, st I2 r.2 → sm I2 r.2 → r.1.1 ≤ 3 → (r.1.1 = 0 → J1 (35, 0) 0 = r.1.2.toInt64) → am_k (am_X l (n, xs) (d + 1) y_L_law lwP) lwP 1227 [some (vR (36, 0)), some (vR (0, 0)), some (vR (9, 0)), some (vR (35, 0)), some (vI (nI i)), some (vI (nI r.1.1)), some (vI r.1.2)] [] (kc + 3 + 0 + 0) (ks + 18 + 0 + 0) (.inl (some (vI (nI r.1.1)))) am_G0 I2 J1 := by
      rintro ⟨⟨u, v⟩, s'⟩ hs2 hm2 hu hv
      simp only at hu hv
      simp only [am_z, Nat.reduceAdd, Nat.zero_le, Nat.reduceLeDiff]
      refine rn_L_law 60 ?_
      by_cases hu0 : u = 0
      · have hv := hv hu0
        subst hu0
        simp (disch := omega) only [am_z, cq_L_law_16, cq_L_law_17, cq_L_law_18, cq_L_law_28, Nat.reduceAdd, Nat.zero_le, Nat.reduceLeDiff, ar_lit, nI_add, ar_in, ar_cl, ↓reduceIte, hv, lc_r, Nat.reduceLT]
        exact k I2 J1 _ _ _ _ _ ⟨hs2, hm2⟩ (by omega) (by omega)
      · simp (disch := omega) only [am_z, cq_L_law_16, cq_L_law_17, cq_L_law_18, cq_L_law_28, Nat.reduceAdd, Nat.zero_le, Nat.reduceLeDiff, ar_lit, nI_add, ar_eq, ↓reduceIte, if_neg hu0]
        exact k I2 J1 _ _ _ _ _ ⟨hs2, hm2⟩ (by omega) (by omega)
    exact hb9 _ h2 m2 (Nat.le_trans b_addSpan (by decide)) e1
theorem w_removeSpan (hD : 10 ≤ d) (hb : both I s) (hi : i + 4 ≤ n ∧ n ≤ 2048) (hk : kc + 3 ≤ 601024 ∧ ks + 18 ≤ 7293034) (k : lwK l n xs d i kc ks) : am_X l (n, xs) (d + 1) y_L_law lwP 1254 [some (vR (36, 0)), some (vR (0, 0)), some (vR (9, 0)), some (vR (35, 0)), some (vI (nI i)), a5, a6] [] kc ks am_G0 I J := by
  refine rn_L_law 60 ?_
  simp (disch := omega) only [am_z, cq_L_law_18, cq_L_law_28, Nat.reduceAdd, Nat.zero_le, Nat.reduceLeDiff, ar_lit, nI_add, ar_in, ar_cl]
  refine ⟨by omega, ⟨by omega, by omega⟩, ?_⟩
  refine s_L_removeSpan (by omega) hb.1 (fun I1 J1 f1 h1 e1 => ?_)
  have m1 := f1.tosm hb.2
  simp only [am_z, Nat.reduceAdd, Nat.zero_le, Nat.reduceLeDiff]
  refine rn_L_law 60 ?_
  simp (disch := omega) only [am_z, cq_L_law_18, cq_L_law_28, Nat.reduceAdd, Nat.zero_le, Nat.reduceLeDiff, ar_lit, nI_add, ar_in, ar_cl]
  refine ⟨by omega, ⟨by omega, by omega⟩, ?_⟩
  refine s_M_removeSpan (by omega) m1 (fun I2 f2 m2 e2 => ?_)
  have h2 := f2.tost h1
  simp only [am_z, Nat.reduceAdd, Nat.zero_le, Nat.reduceLeDiff]
  refine rn_L_law 60 ?_
  simp (disch := omega) only [am_z, cq_L_law_18, cq_L_law_28, Nat.reduceAdd, Nat.zero_le, Nat.reduceLeDiff, ar_lit, nI_add, ar_in, ar_cl]
  refine ⟨⟨by omega, by omega⟩, ?_⟩
  refine s_M_thrown (by omega) ?_
  rw [e2]
  have hb9 : ∀ r : (Nat × Int32) × pt_G, st I2 r.2 → sm I2 r.2 → r.1.1 ≤ 3 → (r.1.1 = 0 → J1 (35, 0) 0 = r.1.2.toInt64) → am_k (am_X l (n, xs) (d + 1) y_L_law lwP) lwP 1283 [some (vR (36, 0)), some (vR (0, 0)), some (vR (9, 0)), some (vR (35, 0)), some (vI (nI i)), some (vI (nI r.1.1)), some (vI r.1.2)] [] (kc + 1 + 0 + 0) (ks + 6 + 0 + 0) (.inl (some (vI (nI r.1.1)))) am_G0 I2 J1 := by
    rintro ⟨⟨u, v⟩, s'⟩ hs2 hm2 hu hv
    simp only at hu hv
    simp only [am_z, Nat.reduceAdd, Nat.zero_le, Nat.reduceLeDiff]
    refine rn_L_law 60 ?_
    by_cases hu0 : u = 0
    · have hv := hv hu0
      subst hu0
      simp (disch := omega) only [am_z, cq_L_law_18, cq_L_law_28, Nat.reduceAdd, Nat.zero_le, Nat.reduceLeDiff, ar_lit, nI_add, ar_in, ar_cl, ↓reduceIte, hv, lc_r, Nat.reduceLT]
      exact k I2 J1 _ _ _ _ _ ⟨hs2, hm2⟩ (by omega) (by omega)
    · simp (disch := omega) only [am_z, cq_L_law_18, cq_L_law_28, Nat.reduceAdd, Nat.zero_le, Nat.reduceLeDiff, ar_lit, nI_add, ar_eq, ↓reduceIte, if_neg hu0]
      exact k I2 J1 _ _ _ _ _ ⟨hs2, hm2⟩ (by omega) (by omega)
  exact hb9 _ h2 m2 (Nat.le_trans b_removeSpan (by decide)) e1
theorem w_setHeight (hD : 10 ≤ d) (hb : both I s) (hi : i + 4 ≤ n ∧ n ≤ 2048) (hk : kc + 3 ≤ 601024 ∧ ks + 18 ≤ 7293034) (k : lwK l n xs d i kc ks) : am_X l (n, xs) (d + 1) y_L_law lwP 1310 [some (vR (36, 0)), some (vR (0, 0)), some (vR (9, 0)), some (vR (35, 0)), some (vI (nI i)), a5, a6] [] kc ks am_G0 I J := by
  refine rn_L_law 60 ?_
  simp (disch := omega) only [am_z, cq_L_law_19, cq_L_law_20, cq_L_law_28, Nat.reduceAdd, Nat.zero_le, Nat.reduceLeDiff, ar_lit, nI_add, ar_in, ar_cl]
  refine ⟨by omega, by omega, ⟨by omega, by omega⟩, ?_⟩
  refine s_L_setHeight (by omega) hb.1 (fun I1 J1 f1 h1 e1 => ?_)
  have m1 := f1.tosm hb.2
  simp only [am_z, Nat.reduceAdd, Nat.zero_le, Nat.reduceLeDiff]
  refine rn_L_law 60 ?_
  simp (disch := omega) only [am_z, cq_L_law_19, cq_L_law_20, cq_L_law_28, Nat.reduceAdd, Nat.zero_le, Nat.reduceLeDiff, ar_lit, nI_add, ar_in, ar_cl]
  refine ⟨by omega, by omega, ⟨by omega, by omega⟩, ?_⟩
  refine s_M_setHeight (by omega) m1 (fun I2 f2 m2 e2 => ?_)
  have h2 := f2.tost h1
  simp only [am_z, Nat.reduceAdd, Nat.zero_le, Nat.reduceLeDiff]
  refine rn_L_law 60 ?_
  simp (disch := omega) only [am_z, cq_L_law_19, cq_L_law_20, cq_L_law_28, Nat.reduceAdd, Nat.zero_le, Nat.reduceLeDiff, ar_lit, nI_add, ar_in, ar_cl]
  refine ⟨⟨by omega, by omega⟩, ?_⟩
  refine s_M_thrown (by omega) ?_
  rw [e2]
  have hb9 : ∀ r : (Nat × Int32) × pt_G, st I2 r.2 → sm I2 r.2 → r.1.1 ≤ 3 → (r.1.1 = 0 → J1 (35, 0) 0 = r.1.2.toInt64) → am_k (am_X l (n, xs) (d + 1) y_L_law lwP) lwP 1351 [some (vR (36, 0)), some (vR (0, 0)), some (vR (9, 0)), some (vR (35, 0)), some (vI (nI i)), some (vI (nI r.1.1)), some (vI r.1.2)] [] (kc + 1 + 0 + 0) (ks + 6 + 0 + 0) (.inl (some (vI (nI r.1.1)))) am_G0 I2 J1 := by
    rintro ⟨⟨u, v⟩, s'⟩ hs2 hm2 hu hv
    simp only at hu hv
    simp only [am_z, Nat.reduceAdd, Nat.zero_le, Nat.reduceLeDiff]
    refine rn_L_law 60 ?_
    by_cases hu0 : u = 0
    · have hv := hv hu0
      subst hu0
      simp (disch := omega) only [am_z, cq_L_law_19, cq_L_law_20, cq_L_law_28, Nat.reduceAdd, Nat.zero_le, Nat.reduceLeDiff, ar_lit, nI_add, ar_in, ar_cl, ↓reduceIte, hv, lc_r, Nat.reduceLT]
      exact k I2 J1 _ _ _ _ _ ⟨hs2, hm2⟩ (by omega) (by omega)
    · simp (disch := omega) only [am_z, cq_L_law_19, cq_L_law_20, cq_L_law_28, Nat.reduceAdd, Nat.zero_le, Nat.reduceLeDiff, ar_lit, nI_add, ar_eq, ↓reduceIte, if_neg hu0]
      exact k I2 J1 _ _ _ _ _ ⟨hs2, hm2⟩ (by omega) (by omega)
  exact hb9 _ h2 m2 (Nat.le_trans b_setHeight (by decide)) e1
theorem w_undo (hD : 10 ≤ d) (hb : both I s) (hi : i + 4 ≤ n ∧ n ≤ 2048) (hk : kc + 3 ≤ 601024 ∧ ks + 18 ≤ 7293034) (k : lwK l n xs d i kc ks) : am_X l (n, xs) (d + 1) y_L_law lwP 1378 [some (vR (36, 0)), some (vR (0, 0)), some (vR (9, 0)), some (vR (35, 0)), some (vI (nI i)), a5, a6] [] kc ks am_G0 I J := by
  refine rn_L_law 60 ?_
  simp (disch := omega) only [am_z, cq_L_law_20, cq_L_law_28, Nat.reduceAdd, Nat.zero_le, Nat.reduceLeDiff, ar_lit, nI_add, ar_in, ar_cl]
  refine ⟨⟨by omega, by omega⟩, ?_⟩
  refine s_L_undo (by omega) hb.1 (fun I1 J1 f1 h1 e1 => ?_)
  have m1 := f1.tosm hb.2
  simp only [am_z, Nat.reduceAdd, Nat.zero_le, Nat.reduceLeDiff]
  refine rn_L_law 60 ?_
  simp (disch := omega) only [am_z, cq_L_law_20, cq_L_law_28, Nat.reduceAdd, Nat.zero_le, Nat.reduceLeDiff, ar_lit, nI_add, ar_in, ar_cl]
  refine ⟨⟨by omega, by omega⟩, ?_⟩
  refine s_M_undo (by omega) m1 (fun I2 f2 m2 e2 => ?_)
  have h2 := f2.tost h1
  simp only [am_z, Nat.reduceAdd, Nat.zero_le, Nat.reduceLeDiff]
  refine rn_L_law 60 ?_
  simp (disch := omega) only [am_z, cq_L_law_20, cq_L_law_28, Nat.reduceAdd, Nat.zero_le, Nat.reduceLeDiff, ar_lit, nI_add, ar_in, ar_cl]
  refine ⟨⟨by omega, by omega⟩, ?_⟩
  refine s_M_thrown (by omega) ?_
  rw [e2]
  have hb9 : ∀ r : (Nat × Int32) × pt_G, st I2 r.2 → sm I2 r.2 → r.1.1 ≤ 3 → (r.1.1 = 0 → J1 (35, 0) 0 = r.1.2.toInt64) → am_k (am_X l (n, xs) (d + 1) y_L_law lwP) lwP 1395 [some (vR (36, 0)), some (vR (0, 0)), some (vR (9, 0)), some (vR (35, 0)), some (vI (nI i)), some (vI (nI r.1.1)), some (vI r.1.2)] [] (kc + 1 + 0 + 0) (ks + 6 + 0 + 0) (.inl (some (vI (nI r.1.1)))) am_G0 I2 J1 := by
    rintro ⟨⟨u, v⟩, s'⟩ hs2 hm2 hu hv
    simp only at hu hv
    simp only [am_z, Nat.reduceAdd, Nat.zero_le, Nat.reduceLeDiff]
    refine rn_L_law 60 ?_
    by_cases hu0 : u = 0
    · have hv := hv hu0
      subst hu0
      simp (disch := omega) only [am_z, cq_L_law_20, cq_L_law_28, Nat.reduceAdd, Nat.zero_le, Nat.reduceLeDiff, ar_lit, nI_add, ar_in, ar_cl, ↓reduceIte, hv, lc_r, Nat.reduceLT]
      exact k I2 J1 _ _ _ _ _ ⟨hs2, hm2⟩ (by omega) (by omega)
    · simp (disch := omega) only [am_z, cq_L_law_20, cq_L_law_28, Nat.reduceAdd, Nat.zero_le, Nat.reduceLeDiff, ar_lit, nI_add, ar_eq, ↓reduceIte, if_neg hu0]
      exact k I2 J1 _ _ _ _ _ ⟨hs2, hm2⟩ (by omega) (by omega)
  exact hb9 _ h2 m2 (Nat.le_trans b_undo (by decide)) e1
theorem w_heightFor (hD : 10 ≤ d) (hb : both I s) (hi : i + 4 ≤ n ∧ n ≤ 2048) (hk : kc + 3 ≤ 601024 ∧ ks + 18 ≤ 7293034) (k : lwK l n xs d i kc ks) : am_X l (n, xs) (d + 1) y_L_law lwP 1422 [some (vR (36, 0)), some (vR (0, 0)), some (vR (9, 0)), some (vR (35, 0)), some (vI (nI i)), a5, a6] [] kc ks am_G0 I J := by
  refine rn_L_law 60 ?_
  simp (disch := omega) only [am_z, cq_L_law_20, cq_L_law_21, cq_L_law_28, Nat.reduceAdd, Nat.zero_le, Nat.reduceLeDiff, ar_lit, nI_add, ar_in, ar_cl]
  refine ⟨by omega, ⟨by omega, by omega⟩, ?_⟩
  refine s_L_heightFor (by omega) hb.1 (fun I1 J1 f1 h1 e1 => ?_)
  have m1 := f1.tosm hb.2
  simp only [am_z, Nat.reduceAdd, Nat.zero_le, Nat.reduceLeDiff]
  refine rn_L_law 60 ?_
  simp (disch := omega) only [am_z, cq_L_law_20, cq_L_law_21, cq_L_law_28, Nat.reduceAdd, Nat.zero_le, Nat.reduceLeDiff, ar_lit, nI_add, ar_in, ar_cl]
  refine ⟨by omega, ⟨by omega, by omega⟩, ?_⟩
  refine s_M_heightFor (by omega) m1 (fun I2 f2 m2 e2 => ?_)
  have h2 := f2.tost h1
  simp only [am_z, Nat.reduceAdd, Nat.zero_le, Nat.reduceLeDiff]
  refine rn_L_law 60 ?_
  simp (disch := omega) only [am_z, cq_L_law_20, cq_L_law_21, cq_L_law_28, Nat.reduceAdd, Nat.zero_le, Nat.reduceLeDiff, ar_lit, nI_add, ar_in, ar_cl]
  refine ⟨⟨by omega, by omega⟩, ?_⟩
  refine s_M_thrown (by omega) ?_
  rw [e2]
  have hb9 : ∀ r : Nat × Int32, r.1 ≤ 3 → (r.1 = 0 → J1 (35, 0) 0 = r.2.toInt64) → am_k (am_X l (n, xs) (d + 1) y_L_law lwP) lwP 1451 [some (vR (36, 0)), some (vR (0, 0)), some (vR (9, 0)), some (vR (35, 0)), some (vI (nI i)), some (vI (nI r.1)), some (vI r.2)] [] (kc + 1 + 0 + 0) (ks + 6 + 0 + 0) (.inl (some (vI (nI r.1)))) am_G0 I2 J1 := by
    rintro ⟨u, v⟩ hu hv
    simp only at hu hv
    simp only [am_z, Nat.reduceAdd, Nat.zero_le, Nat.reduceLeDiff]
    refine rn_L_law 60 ?_
    by_cases hu0 : u = 0
    · have hv := hv hu0
      subst hu0
      simp (disch := omega) only [am_z, cq_L_law_20, cq_L_law_21, cq_L_law_28, Nat.reduceAdd, Nat.zero_le, Nat.reduceLeDiff, ar_lit, nI_add, ar_in, ar_cl, ↓reduceIte, hv, lc_r, Nat.reduceLT]
      exact k I2 J1 _ _ _ _ _ ⟨h2, m2⟩ (by omega) (by omega)
    · simp (disch := omega) only [am_z, cq_L_law_20, cq_L_law_21, cq_L_law_28, Nat.reduceAdd, Nat.zero_le, Nat.reduceLeDiff, ar_lit, nI_add, ar_eq, ↓reduceIte, if_neg hu0]
      exact k I2 J1 _ _ _ _ _ ⟨h2, m2⟩ (by omega) (by omega)
  exact hb9 _ (Nat.le_trans b_heightFor (by decide)) e1
theorem w_evenest (hD : 10 ≤ d) (hb : both I s) (hi : i + 4 ≤ n ∧ n ≤ 2048) (hk : kc + 3 ≤ 601024 ∧ ks + 18 ≤ 7293034) (k : lwK l n xs d i kc ks) : am_X l (n, xs) (d + 1) y_L_law lwP 1478 [some (vR (36, 0)), some (vR (0, 0)), some (vR (9, 0)), some (vR (35, 0)), some (vI (nI i)), a5, a6] [] kc ks am_G0 I J := by
  refine rn_L_law 30 ?_
  simp (disch := omega) only [am_z, cq_L_law_21, cq_L_law_28, Nat.reduceAdd, Nat.zero_le, Nat.reduceLeDiff, ar_lit, nI_add, ar_in, ar_cl]
  refine ⟨⟨by omega, by omega⟩, ?_⟩
  refine s_P_evenest (by omega) hb.1 (fun I1 f1 h1 => ?_)
  have m1 := f1.tosm hb.2
  rw [show ox [] (q_evenest s.2.1) = .inl (some (vI (q_evenest s.2.1).2)) from rfl]
  simp only [am_z, Nat.reduceAdd, Nat.zero_le, Nat.reduceLeDiff]
  refine rn_L_law 30 ?_
  simp (disch := omega) only [am_z, cq_L_law_21, cq_L_law_28, Nat.reduceAdd, Nat.zero_le, Nat.reduceLeDiff, ar_lit, nI_add, ar_in, ar_cl]
  refine ⟨⟨by omega, by omega⟩, ?_⟩
  refine s_M_evenest (by omega) m1 (fun I2 f2 m2 e2 => ?_)
  have h2 := f2.tost h1
  simp only [am_z, Nat.reduceAdd, Nat.zero_le, Nat.reduceLeDiff]
  refine rn_L_law 30 ?_
  simp (disch := omega) only [am_z, cq_L_law_21, cq_L_law_28, Nat.reduceAdd, Nat.zero_le, Nat.reduceLeDiff, ar_lit, nI_add, ar_in, ar_cl, ↓reduceIte]
  exact k I2 J _ _ _ _ _ ⟨h2, m2⟩ (by omega) (by omega)
theorem w_evenCut (hD : 10 ≤ d) (hb : both I s) (hi : i + 4 ≤ n ∧ n ≤ 2048) (hk : kc + 3 ≤ 601024 ∧ ks + 18 ≤ 7293034) (k : lwK l n xs d i kc ks) : am_X l (n, xs) (d + 1) y_L_law lwP 1491 [some (vR (36, 0)), some (vR (0, 0)), some (vR (9, 0)), some (vR (35, 0)), some (vI (nI i)), a5, a6] [] kc ks am_G0 I J := by
  refine rn_L_law 60 ?_
  simp (disch := omega) only [am_z, cq_L_law_21, cq_L_law_22, cq_L_law_28, Nat.reduceAdd, Nat.zero_le, Nat.reduceLeDiff, ar_lit, nI_add, ar_in, ar_cl]
  refine ⟨by omega, ⟨by omega, by omega⟩, ?_⟩
  refine s_L_evenCut (by omega) hb.1 (fun I1 J1 f1 h1 e1 => ?_)
  have m1 := f1.tosm hb.2
  simp only [am_z, Nat.reduceAdd, Nat.zero_le, Nat.reduceLeDiff]
  refine rn_L_law 60 ?_
  simp (disch := omega) only [am_z, cq_L_law_21, cq_L_law_22, cq_L_law_28, Nat.reduceAdd, Nat.zero_le, Nat.reduceLeDiff, ar_lit, nI_add, ar_in, ar_cl]
  refine ⟨by omega, ⟨by omega, by omega⟩, ?_⟩
  refine s_M_evenCut (by omega) m1 (fun I2 f2 m2 e2 => ?_)
  have h2 := f2.tost h1
  simp only [am_z, Nat.reduceAdd, Nat.zero_le, Nat.reduceLeDiff]
  refine rn_L_law 60 ?_
  simp (disch := omega) only [am_z, cq_L_law_21, cq_L_law_22, cq_L_law_28, Nat.reduceAdd, Nat.zero_le, Nat.reduceLeDiff, ar_lit, nI_add, ar_in, ar_cl]
  refine ⟨⟨by omega, by omega⟩, ?_⟩
  refine s_M_thrown (by omega) ?_
  rw [e2]
  have hb9 : ∀ r : Nat × Int32, r.1 ≤ 3 → (r.1 = 0 → J1 (35, 0) 0 = r.2.toInt64) → am_k (am_X l (n, xs) (d + 1) y_L_law lwP) lwP 1520 [some (vR (36, 0)), some (vR (0, 0)), some (vR (9, 0)), some (vR (35, 0)), some (vI (nI i)), some (vI (nI r.1)), some (vI r.2)] [] (kc + 1 + 0 + 0) (ks + 6 + 0 + 0) (.inl (some (vI (nI r.1)))) am_G0 I2 J1 := by
    rintro ⟨u, v⟩ hu hv
    simp only at hu hv
    simp only [am_z, Nat.reduceAdd, Nat.zero_le, Nat.reduceLeDiff]
    refine rn_L_law 60 ?_
    by_cases hu0 : u = 0
    · have hv := hv hu0
      subst hu0
      simp (disch := omega) only [am_z, cq_L_law_21, cq_L_law_22, cq_L_law_28, Nat.reduceAdd, Nat.zero_le, Nat.reduceLeDiff, ar_lit, nI_add, ar_in, ar_cl, ↓reduceIte, hv, lc_r, Nat.reduceLT]
      exact k I2 J1 _ _ _ _ _ ⟨h2, m2⟩ (by omega) (by omega)
    · simp (disch := omega) only [am_z, cq_L_law_21, cq_L_law_22, cq_L_law_28, Nat.reduceAdd, Nat.zero_le, Nat.reduceLeDiff, ar_lit, nI_add, ar_eq, ↓reduceIte, if_neg hu0]
      exact k I2 J1 _ _ _ _ _ ⟨h2, m2⟩ (by omega) (by omega)
  exact hb9 _ (Nat.le_trans b_evenCut (by decide)) e1
theorem w_emptyFrom (hD : 10 ≤ d) (hb : both I s) (hi : i + 4 ≤ n ∧ n ≤ 2048) (hk : kc + 3 ≤ 601024 ∧ ks + 18 ≤ 7293034) (k : lwK l n xs d i kc ks) : am_X l (n, xs) (d + 1) y_L_law lwP 1547 [some (vR (36, 0)), some (vR (0, 0)), some (vR (9, 0)), some (vR (35, 0)), some (vI (nI i)), a5, a6] [] kc ks am_G0 I J := by
  refine rn_L_law 60 ?_
  simp (disch := omega) only [am_z, cq_L_law_22, cq_L_law_23, cq_L_law_28, Nat.reduceAdd, Nat.zero_le, Nat.reduceLeDiff, ar_lit, nI_add, ar_in, ar_cl]
  refine ⟨by omega, ⟨by omega, by omega⟩, ?_⟩
  refine s_L_emptyFrom (by omega) hb.1 (fun I1 J1 f1 h1 e1 => ?_)
  have m1 := f1.tosm hb.2
  simp only [am_z, Nat.reduceAdd, Nat.zero_le, Nat.reduceLeDiff]
  refine rn_L_law 60 ?_
  simp (disch := omega) only [am_z, cq_L_law_22, cq_L_law_23, cq_L_law_28, Nat.reduceAdd, Nat.zero_le, Nat.reduceLeDiff, ar_lit, nI_add, ar_in, ar_cl]
  refine ⟨by omega, ⟨by omega, by omega⟩, ?_⟩
  refine s_M_emptyFrom (by omega) m1 (fun I2 f2 m2 e2 => ?_)
  have h2 := f2.tost h1
  simp only [am_z, Nat.reduceAdd, Nat.zero_le, Nat.reduceLeDiff]
  refine rn_L_law 60 ?_
  simp (disch := omega) only [am_z, cq_L_law_22, cq_L_law_23, cq_L_law_28, Nat.reduceAdd, Nat.zero_le, Nat.reduceLeDiff, ar_lit, nI_add, ar_in, ar_cl]
  refine ⟨⟨by omega, by omega⟩, ?_⟩
  refine s_M_thrown (by omega) ?_
  rw [e2]
  have hb9 : ∀ r : Nat × Int32, r.1 ≤ 3 → (r.1 = 0 → J1 (35, 0) 0 = r.2.toInt64) → am_k (am_X l (n, xs) (d + 1) y_L_law lwP) lwP 1576 [some (vR (36, 0)), some (vR (0, 0)), some (vR (9, 0)), some (vR (35, 0)), some (vI (nI i)), some (vI (nI r.1)), some (vI r.2)] [] (kc + 1 + 0 + 0) (ks + 6 + 0 + 0) (.inl (some (vI (nI r.1)))) am_G0 I2 J1 := by
    rintro ⟨u, v⟩ hu hv
    simp only at hu hv
    simp only [am_z, Nat.reduceAdd, Nat.zero_le, Nat.reduceLeDiff]
    refine rn_L_law 60 ?_
    by_cases hu0 : u = 0
    · have hv := hv hu0
      subst hu0
      simp (disch := omega) only [am_z, cq_L_law_22, cq_L_law_23, cq_L_law_28, Nat.reduceAdd, Nat.zero_le, Nat.reduceLeDiff, ar_lit, nI_add, ar_in, ar_cl, ↓reduceIte, hv, lc_r, Nat.reduceLT]
      exact k I2 J1 _ _ _ _ _ ⟨h2, m2⟩ (by omega) (by omega)
    · simp (disch := omega) only [am_z, cq_L_law_22, cq_L_law_23, cq_L_law_28, Nat.reduceAdd, Nat.zero_le, Nat.reduceLeDiff, ar_lit, nI_add, ar_eq, ↓reduceIte, if_neg hu0]
      exact k I2 J1 _ _ _ _ _ ⟨h2, m2⟩ (by omega) (by omega)
  exact hb9 _ (Nat.le_trans b_emptyFrom (by decide)) e1
theorem w_runScript (hD : 10 ≤ d) (hb : both I s) (hi : i + 4 ≤ n ∧ n ≤ 2048) (hk : kc + 3 ≤ 601024 ∧ ks + 18 ≤ 7293034) (k : lwK l n xs d i kc ks) : am_X l (n, xs) (d + 1) y_L_law lwP 1603 [some (vR (36, 0)), some (vR (0, 0)), some (vR (9, 0)), some (vR (35, 0)), some (vI (nI i)), a5, a6] [] kc ks am_G0 I J := by
  refine rn_L_law 60 ?_
  simp (disch := omega) only [am_z, cq_L_law_23, cq_L_law_24, cq_L_law_25, cq_L_law_28, Nat.reduceAdd, Nat.zero_le, Nat.reduceLeDiff, ar_lit, nI_add, ar_in, ar_cl]
  refine ⟨by omega, by omega, by omega, ⟨by omega, by omega⟩, ?_⟩
  refine s_L_runScript (by omega) hb.1 (fun I1 J1 f1 h1 e1 => ?_)
  have m1 := f1.tosm hb.2
  simp only [am_z, Nat.reduceAdd, Nat.zero_le, Nat.reduceLeDiff]
  refine rn_L_law 60 ?_
  simp (disch := omega) only [am_z, cq_L_law_23, cq_L_law_24, cq_L_law_25, cq_L_law_28, Nat.reduceAdd, Nat.zero_le, Nat.reduceLeDiff, ar_lit, nI_add, ar_in, ar_cl]
  refine ⟨by omega, by omega, by omega, ⟨by omega, by omega⟩, ?_⟩
  refine s_M_runScript (by omega) m1 (fun I2 f2 m2 e2 => ?_)
  have h2 := f2.tost h1
  simp only [am_z, Nat.reduceAdd, Nat.zero_le, Nat.reduceLeDiff]
  refine rn_L_law 60 ?_
  simp (disch := omega) only [am_z, cq_L_law_23, cq_L_law_24, cq_L_law_25, cq_L_law_28, Nat.reduceAdd, Nat.zero_le, Nat.reduceLeDiff, ar_lit, nI_add, ar_in, ar_cl]
  refine ⟨⟨by omega, by omega⟩, ?_⟩
  refine s_M_thrown (by omega) ?_
  rw [e2]
  have hb9 : ∀ r : Nat × Int32, r.1 ≤ 3 → (r.1 = 0 → J1 (35, 0) 0 = r.2.toInt64) → am_k (am_X l (n, xs) (d + 1) y_L_law lwP) lwP 1676 [some (vR (36, 0)), some (vR (0, 0)), some (vR (9, 0)), some (vR (35, 0)), some (vI (nI i)), some (vI (nI r.1)), some (vI r.2)] [] (kc + 1 + 0 + 0) (ks + 6 + 0 + 0) (.inl (some (vI (nI r.1)))) am_G0 I2 J1 := by
    rintro ⟨u, v⟩ hu hv
    simp only at hu hv
    simp only [am_z, Nat.reduceAdd, Nat.zero_le, Nat.reduceLeDiff]
    refine rn_L_law 60 ?_
    by_cases hu0 : u = 0
    · have hv := hv hu0
      subst hu0
      simp (disch := omega) only [am_z, cq_L_law_23, cq_L_law_24, cq_L_law_25, cq_L_law_28, Nat.reduceAdd, Nat.zero_le, Nat.reduceLeDiff, ar_lit, nI_add, ar_in, ar_cl, ↓reduceIte, hv, lc_r, Nat.reduceLT]
      exact k I2 J1 _ _ _ _ _ ⟨h2, m2⟩ (by omega) (by omega)
    · simp (disch := omega) only [am_z, cq_L_law_23, cq_L_law_24, cq_L_law_25, cq_L_law_28, Nat.reduceAdd, Nat.zero_le, Nat.reduceLeDiff, ar_lit, nI_add, ar_eq, ↓reduceIte, if_neg hu0]
      exact k I2 J1 _ _ _ _ _ ⟨h2, m2⟩ (by omega) (by omega)
  exact hb9 _ (Nat.le_trans b_runScript (by decide)) e1
theorem w_simulate (hD : 10 ≤ d) (hb : both I s) (hi : i + 4 ≤ n ∧ n ≤ 2048) (hk : kc + 3 ≤ 601024 ∧ ks + 18 ≤ 7293034) (k : lwK l n xs d i kc ks) : am_X l (n, xs) (d + 1) y_L_law lwP 1703 [some (vR (36, 0)), some (vR (0, 0)), some (vR (9, 0)), some (vR (35, 0)), some (vI (nI i)), a5, a6] [] kc ks am_G0 I J := by
  refine rn_L_law 60 ?_
  simp (disch := omega) only [am_z, cq_L_law_25, cq_L_law_26, cq_L_law_28, Nat.reduceAdd, Nat.zero_le, Nat.reduceLeDiff, ar_lit, nI_add, ar_in, ar_cl]
  refine ⟨by omega, by omega, by omega, ⟨by omega, by omega⟩, ?_⟩
  refine s_L_simulate (by omega) hb.1 (fun I1 J1 f1 h1 e1 => ?_)
  have m1 := f1.tosm hb.2
  simp only [am_z, Nat.reduceAdd, Nat.zero_le, Nat.reduceLeDiff]
  refine rn_L_law 60 ?_
  simp (disch := omega) only [am_z, cq_L_law_25, cq_L_law_26, cq_L_law_28, Nat.reduceAdd, Nat.zero_le, Nat.reduceLeDiff, ar_lit, nI_add, ar_in, ar_cl]
  refine ⟨by omega, by omega, by omega, ⟨by omega, by omega⟩, ?_⟩
  refine s_M_simulate (by omega) m1 (fun I2 f2 m2 e2 => ?_)
  have h2 := f2.tost h1
  simp only [am_z, Nat.reduceAdd, Nat.zero_le, Nat.reduceLeDiff]
  refine rn_L_law 60 ?_
  simp (disch := omega) only [am_z, cq_L_law_25, cq_L_law_26, cq_L_law_28, Nat.reduceAdd, Nat.zero_le, Nat.reduceLeDiff, ar_lit, nI_add, ar_in, ar_cl]
  refine ⟨⟨by omega, by omega⟩, ?_⟩
  refine s_M_thrown (by omega) ?_
  rw [e2]
  have hb9 : ∀ r : Nat × Int32, r.1 ≤ 3 → (r.1 = 0 → J1 (35, 0) 0 = r.2.toInt64) → am_k (am_X l (n, xs) (d + 1) y_L_law lwP) lwP 1776 [some (vR (36, 0)), some (vR (0, 0)), some (vR (9, 0)), some (vR (35, 0)), some (vI (nI i)), some (vI (nI r.1)), some (vI r.2)] [] (kc + 1 + 0 + 0) (ks + 6 + 0 + 0) (.inl (some (vI (nI r.1)))) am_G0 I2 J1 := by
    rintro ⟨u, v⟩ hu hv
    simp only at hu hv
    simp only [am_z, Nat.reduceAdd, Nat.zero_le, Nat.reduceLeDiff]
    refine rn_L_law 60 ?_
    by_cases hu0 : u = 0
    · have hv := hv hu0
      subst hu0
      simp (disch := omega) only [am_z, cq_L_law_25, cq_L_law_26, cq_L_law_28, Nat.reduceAdd, Nat.zero_le, Nat.reduceLeDiff, ar_lit, nI_add, ar_in, ar_cl, ↓reduceIte, hv, lc_r, Nat.reduceLT]
      exact k I2 J1 _ _ _ _ _ ⟨h2, m2⟩ (by omega) (by omega)
    · simp (disch := omega) only [am_z, cq_L_law_25, cq_L_law_26, cq_L_law_28, Nat.reduceAdd, Nat.zero_le, Nat.reduceLeDiff, ar_lit, nI_add, ar_eq, ↓reduceIte, if_neg hu0]
      exact k I2 J1 _ _ _ _ _ ⟨h2, m2⟩ (by omega) (by omega)
  exact hb9 _ (Nat.le_trans b_simulate (by decide)) e1
theorem w_save (hD : 10 ≤ d) (hb : both I s) (hi : i + 4 ≤ n ∧ n ≤ 2048) (hk : kc + 3 ≤ 601024 ∧ ks + 18 ≤ 7293034) (k : lwK l n xs d i kc ks) : am_X l (n, xs) (d + 1) y_L_law lwP 1803 [some (vR (36, 0)), some (vR (0, 0)), some (vR (9, 0)), some (vR (35, 0)), some (vI (nI i)), a5, a6] [] kc ks am_G0 I J := by
  refine rn_L_law 60 ?_
  simp (disch := omega) only [am_z, cq_L_law_27, cq_L_law_28, Nat.reduceAdd, Nat.zero_le, Nat.reduceLeDiff, ar_lit, nI_add, ar_in, ar_cl]
  refine ⟨by omega, ⟨by omega, by omega⟩, ?_⟩
  refine s_L_save (by omega) hb.1 (fun I1 J1 f1 h1 e1 => ?_)
  have m1 := f1.tosm hb.2
  simp only [am_z, Nat.reduceAdd, Nat.zero_le, Nat.reduceLeDiff]
  refine rn_L_law 60 ?_
  simp (disch := omega) only [am_z, cq_L_law_27, cq_L_law_28, Nat.reduceAdd, Nat.zero_le, Nat.reduceLeDiff, ar_lit, nI_add, ar_in, ar_cl]
  refine ⟨by omega, ⟨by omega, by omega⟩, ?_⟩
  refine s_M_save (by omega) m1 (fun I2 f2 m2 e2 => ?_)
  have h2 := f2.tost h1
  simp only [am_z, Nat.reduceAdd, Nat.zero_le, Nat.reduceLeDiff]
  refine rn_L_law 60 ?_
  simp (disch := omega) only [am_z, cq_L_law_27, cq_L_law_28, Nat.reduceAdd, Nat.zero_le, Nat.reduceLeDiff, ar_lit, nI_add, ar_in, ar_cl]
  refine ⟨⟨by omega, by omega⟩, ?_⟩
  refine s_M_thrown (by omega) ?_
  rw [e2]
  have hb9 : ∀ r : (Nat × Int32) × pt_G, st I2 r.2 → sm I2 r.2 → r.1.1 ≤ 3 → (r.1.1 = 0 → J1 (35, 0) 0 = r.1.2.toInt64) → am_k (am_X l (n, xs) (d + 1) y_L_law lwP) lwP 1832 [some (vR (36, 0)), some (vR (0, 0)), some (vR (9, 0)), some (vR (35, 0)), some (vI (nI i)), some (vI (nI r.1.1)), some (vI r.1.2)] [] (kc + 1 + 0 + 0) (ks + 6 + 0 + 0) (.inl (some (vI (nI r.1.1)))) am_G0 I2 J1 := by
    rintro ⟨⟨u, v⟩, s'⟩ hs2 hm2 hu hv
    simp only at hu hv
    simp only [am_z, Nat.reduceAdd, Nat.zero_le, Nat.reduceLeDiff]
    refine rn_L_law 60 ?_
    by_cases hu0 : u = 0
    · have hv := hv hu0
      subst hu0
      simp (disch := omega) only [am_z, cq_L_law_27, cq_L_law_28, Nat.reduceAdd, Nat.zero_le, Nat.reduceLeDiff, ar_lit, nI_add, ar_in, ar_cl, ↓reduceIte, hv, lc_r, Nat.reduceLT]
      exact k I2 J1 _ _ _ _ _ ⟨hs2, hm2⟩ (by omega) (by omega)
    · simp (disch := omega) only [am_z, cq_L_law_27, cq_L_law_28, Nat.reduceAdd, Nat.zero_le, Nat.reduceLeDiff, ar_lit, nI_add, ar_eq, ↓reduceIte, if_neg hu0]
      exact k I2 J1 _ _ _ _ _ ⟨hs2, hm2⟩ (by omega) (by omega)
  exact hb9 _ h2 m2 (Nat.le_trans b_save (by decide)) e1
theorem w_restore (hD : 10 ≤ d) (hb : both I s) (hi : i + 4 ≤ n ∧ n ≤ 2048) (hk : kc + 3 ≤ 601024 ∧ ks + 18 ≤ 7293034) (k : lwK l n xs d i kc ks) : am_X l (n, xs) (d + 1) y_L_law lwP 1859 [some (vR (36, 0)), some (vR (0, 0)), some (vR (9, 0)), some (vR (35, 0)), some (vI (nI i)), a5, a6] [] kc ks am_G0 I J := by
  refine rn_L_law 60 ?_
  simp (disch := omega) only [am_z, cq_L_law_27, cq_L_law_28, Nat.reduceAdd, Nat.zero_le, Nat.reduceLeDiff, ar_lit, nI_add, ar_in, ar_cl]
  refine ⟨by omega, ⟨by omega, by omega⟩, ?_⟩
  refine s_L_restore (by omega) hb.1 (fun I1 J1 f1 h1 e1 => ?_)
  have m1 := f1.tosm hb.2
  simp only [am_z, Nat.reduceAdd, Nat.zero_le, Nat.reduceLeDiff]
  refine rn_L_law 60 ?_
  simp (disch := omega) only [am_z, cq_L_law_27, cq_L_law_28, Nat.reduceAdd, Nat.zero_le, Nat.reduceLeDiff, ar_lit, nI_add, ar_in, ar_cl]
  refine ⟨by omega, ⟨by omega, by omega⟩, ?_⟩
  refine s_M_restore (by omega) m1 (fun I2 f2 m2 e2 => ?_)
  have h2 := f2.tost h1
  simp only [am_z, Nat.reduceAdd, Nat.zero_le, Nat.reduceLeDiff]
  refine rn_L_law 60 ?_
  simp (disch := omega) only [am_z, cq_L_law_27, cq_L_law_28, Nat.reduceAdd, Nat.zero_le, Nat.reduceLeDiff, ar_lit, nI_add, ar_in, ar_cl]
  refine ⟨⟨by omega, by omega⟩, ?_⟩
  refine s_M_thrown (by omega) ?_
  rw [e2]
  have hb9 : ∀ r : (Nat × Int32) × pt_G, st I2 r.2 → sm I2 r.2 → r.1.1 ≤ 3 → (r.1.1 = 0 → J1 (35, 0) 0 = r.1.2.toInt64) → am_k (am_X l (n, xs) (d + 1) y_L_law lwP) lwP 1888 [some (vR (36, 0)), some (vR (0, 0)), some (vR (9, 0)), some (vR (35, 0)), some (vI (nI i)), some (vI (nI r.1.1)), some (vI r.1.2)] [] (kc + 2 + 0 + 0) (ks + 12 + 0 + 0) (.inl (some (vI (nI r.1.1)))) am_G0 I2 J1 := by
    rintro ⟨⟨u, v⟩, s'⟩ hs2 hm2 hu hv
    simp only at hu hv
    simp only [am_z, Nat.reduceAdd, Nat.zero_le, Nat.reduceLeDiff]
    refine rn_L_law 60 ?_
    by_cases hu0 : u = 0
    · have hv := hv hu0
      subst hu0
      simp (disch := omega) only [am_z, cq_L_law_27, cq_L_law_28, Nat.reduceAdd, Nat.zero_le, Nat.reduceLeDiff, ar_lit, nI_add, ar_in, ar_cl, ↓reduceIte, hv, lc_r, Nat.reduceLT]
      exact k I2 J1 _ _ _ _ _ ⟨hs2, hm2⟩ (by omega) (by omega)
    · simp (disch := omega) only [am_z, cq_L_law_27, cq_L_law_28, Nat.reduceAdd, Nat.zero_le, Nat.reduceLeDiff, ar_lit, nI_add, ar_eq, ↓reduceIte, if_neg hu0]
      exact k I2 J1 _ _ _ _ _ ⟨hs2, hm2⟩ (by omega) (by omega)
  exact hb9 _ h2 m2 (Nat.le_trans b_restore (by decide)) e1
theorem w_none (hb : both I s) (k : lwK l n xs d i kc ks) : am_X l (n, xs) (d + 1) y_L_law lwP 1915 [some (vR (36, 0)), some (vR (0, 0)), some (vR (9, 0)), some (vR (35, 0)), some (vI (nI i)), a5, a6] [] kc ks am_G0 I J := by
  refine rn_L_law 30 ?_
  simp (disch := omega) only [am_z, cq_L_law_28, Nat.reduceAdd, Nat.zero_le, Nat.reduceLeDiff, ar_lit, nI_add, ar_in, ar_cl]
  exact k I J _ _ _ _ _ hb (by omega) (by omega)
end LW
