/-! ===== the reference: signs of the text ===== -/
/-- the text is ss, the place a, and it is good so far or not -/
def rP (I : am_I) (ss : List Nat) (a : Nat) (g : Bool) : Prop := I (9, 0) 3 = nI a ∧ I (9, 0) 4 = nI (b01 g) ∧ rN I ss ∧ a ≤ ss.length
section RG
variable {l : Launch} {D : Nat} {I : am_I} {J : am_J} {P : am_P} {p : pt_T} {ss : List Nat} {a : Nat} {g : Bool}
theorem rP.fr {I' : am_I} {A F : List Nat} (h : rP I ss a g) (hf : fM A F I I') (hA : ¬ 25 ∈ A ∧ ¬ 9 ∈ A) (hF : ¬ 2 ∈ F ∧ ¬ 3 ∈ F ∧ ¬ 4 ∈ F) : rP I' ss a g := by
  unfold rP
  rw [hf.f9 hA.2 hF.2.1, hf.f9 hA.2 hF.2.2]
  exact ⟨h.1, h.2.1, h.2.2.1.fM hf hA hF.1, h.2.2.2⟩
theorem rP.set {a' : Nat} {g' : Bool} (h : rP I ss a g) (ha : a' ≤ ss.length) : rP (am_upI (am_upI I (9, 0) 4 (nI (b01 g'))) (9, 0) 3 (nI a')) ss a' g' := by
  have ff : fM [] [4, 3] I (am_upI (am_upI I (9, 0) 4 (nI (b01 g'))) (9, 0) 3 (nI a')) := (fM.rf.up (Or.inr ⟨rfl, by simp⟩)).up (Or.inr ⟨rfl, by simp⟩)
  refine ⟨?_, ?_, h.2.2.1.fM ff (by simp) (by simp), ha⟩
  · rw [am_uE, upd_e]
  · rw [am_uE, upd_n _ _ (by omega), am_uE, upd_e]
theorem fM.set {a' g' : Nat} : fM [] [3, 4] I (am_upI (am_upI I (9, 0) 4 (nI g')) (9, 0) 3 (nI a')) := (fM.rf.up (Or.inr ⟨rfl, by simp⟩)).up (Or.inr ⟨rfl, by simp⟩)
theorem s_M_isNext {c : Nat} (hD : 1 ≤ D) (h : rP I ss a g) (hc : c < 2 ^ 31) (k : P (.inl (some (vI (nI (b01 (decide (ss[a]? = some c))))))) am_G0 I J) : am_T l D y_M_isNext [vR (9, 0), vI (nI c)] am_G0 I J P := by
  obtain ⟨d, rfl⟩ : ∃ d, D = d + 1 := ⟨D - 1, by omega⟩
  obtain ⟨h3, h4, ⟨n1, n2, n3, n4⟩, ha⟩ := h
  by_cases q : ss.length ≤ a
  · rw [List.getElem?_eq_none q, decide_eq_false (by simp)] at k
    refine en_M_isNext 40 (Nat.le_of_ble_eq_true rfl) ?_
    simp (disch := omega) only [am_z, cq_M_isNext, Nat.reduceAdd, Nat.zero_le, Nat.reduceLeDiff, ar_lit, h3, n1, ar_le, if_pos q]
    exact k
  · have hl : a < ss.length := by omega
    have hg := get_of hl
    have hx : ss.getD a 0 < 256 := by
      rw [List.getElem?_eq_getElem hl] at hg
      rw [← Option.some.inj hg]
      exact n4 _ (List.getElem_mem hl)
    rw [hg] at k
    have b160 : a < 160 := by omega
    by_cases q2 : ss.getD a 0 = c
    · rw [decide_eq_true (by rw [q2])] at k
      refine en_M_isNext 40 (Nat.le_of_ble_eq_true rfl) ?_
      simp (disch := omega) only [am_z, cq_M_isNext, Nat.reduceAdd, Nat.zero_le, Nat.reduceLeDiff, ar_lit, h3, n1, ar_le, if_neg q, ar_in, ar_cl, n2 a hl, ar_eq, if_pos q2]
      exact ⟨b160, k⟩
    · rw [decide_eq_false (by simpa using q2)] at k
      refine en_M_isNext 40 (Nat.le_of_ble_eq_true rfl) ?_
      simp (disch := omega) only [am_z, cq_M_isNext, Nat.reduceAdd, Nat.zero_le, Nat.reduceLeDiff, ar_lit, h3, n1, ar_le, if_neg q, ar_in, ar_cl, n2 a hl, ar_eq, if_neg q2]
      exact ⟨b160, k⟩
theorem s_M_accept {b : Bool} (hD : 1 ≤ D) (h : rP I ss a g) (hb : g = true → b = true → a < ss.length) (k : ∀ I', fM [] [3, 4] I I' → rP I' ss (if (g && b) = true then a + 1 else a) (g && b) → P (.inl none) am_G0 I' J) : am_T l D y_M_accept [vR (9, 0), vI (nI (b01 b))] am_G0 I J P := by
  obtain ⟨d, rfl⟩ : ∃ d, D = d + 1 := ⟨D - 1, by omega⟩
  have h' := h
  obtain ⟨h3, h4, ⟨n1, n2, n3, n4⟩, ha⟩ := h
  have fin : ∀ x y, x = b01 (g && b) → y = (if (g && b) = true then a + 1 else a) → P (.inl none) am_G0 (am_upI (am_upI I (9, 0) 4 (nI x)) (9, 0) 3 (nI y)) J := fun x y hx hy => by
    subst hx
    subst hy
    refine k _ fM.set (h'.set ?_)
    split
    · rename_i q
      rw [Bool.and_eq_true] at q
      exact hb q.1 q.2
    · exact ha
  cases g
  · refine en_M_accept 40 (Nat.le_of_ble_eq_true rfl) ?_
    simp (disch := omega) only [am_z, cq_M_accept, Nat.reduceAdd, Nat.zero_le, Nat.reduceLeDiff, ar_lit, h3, h4, am_uE, am_uS, upd_n, upd_e, b01, Bool.false_eq_true, ↓reduceIte, nI_add, Nat.add_zero]
    exact fin 0 a rfl rfl
  · cases b
    · refine en_M_accept 40 (Nat.le_of_ble_eq_true rfl) ?_
      simp (disch := omega) only [am_z, cq_M_accept, Nat.reduceAdd, Nat.zero_le, Nat.reduceLeDiff, ar_lit, h3, h4, am_uE, am_uS, upd_n, upd_e, b01, Bool.false_eq_true, ↓reduceIte, ar_eq, Nat.reduceEqDiff, nI_add, Nat.add_zero]
      exact fin 0 a rfl rfl
    · refine en_M_accept 40 (Nat.le_of_ble_eq_true rfl) ?_
      simp (disch := omega) only [am_z, cq_M_accept, Nat.reduceAdd, Nat.zero_le, Nat.reduceLeDiff, ar_lit, h3, h4, am_uE, am_uS, upd_n, upd_e, b01, Bool.false_eq_true, ↓reduceIte, ar_eq, Nat.reduceEqDiff, nI_add]
      exact fin 1 (a + 1) rfl rfl
/-- a digit, or a number of two, if it is good so far -/
def pd (ss : List Nat) (g : Bool) (a lo hi : Nat) : Nat × Option Nat := if g = true then pdig ss a lo hi else (a, none)
def pw (ss : List Nat) (g : Bool) (a lo hi : Nat) : Nat × Option Nat := if g = true then ppair ss a lo hi else (a, none)
theorem pd_f {lo hi : Nat} : pd ss false a lo hi = (a, none) := rfl
theorem pd_t {lo hi : Nat} : pd ss true a lo hi = pdig ss a lo hi := rfl
theorem s_M_digit {lo hi : Nat} (hD : 2 ≤ D) (h : rP I ss a g) (h9 : hi ≤ 9) (hlo : lo ≤ 200) (k : ∀ I', fM [] [3, 4] I I' → rP I' ss (pd ss g a lo hi).1 (pd ss g a lo hi).2.isSome → P (.inl (some (vI (nI ((pd ss g a lo hi).2.getD lo))))) am_G0 I' J) : am_T l D y_M_digit [vR (9, 0), vI (nI lo), vI (nI hi)] am_G0 I J P := by
  obtain ⟨d, rfl⟩ : ∃ d, D = d + 1 := ⟨D - 1, by omega⟩
  have h' := h
  obtain ⟨h3, h4, ⟨n1, n2, n3, n4⟩, ha⟩ := h
  have acc0 : ∀ a3, pd ss g a lo hi = (a, none) → am_T l d y_M_accept [vR (9, 0), vI (nI 0)] am_G0 I J (am_k (am_X l (0, fun _ => 0) (d + 1) y_M_digit P) P 62 [some (vR (9, 0)), some (vI (nI lo)), some (vI (nI hi)), some (vI a3)] [] 0 0) := by
    intro a3 e
    rw [e] at k
    refine s_M_accept (b := false) (by omega) h' (fun _ q => by cases q) (fun I1 f1 p1 => ?_)
    rw [Bool.and_false, if_neg (by simp)] at p1
    simp only [am_z, Nat.reduceAdd, Nat.zero_le, Nat.reduceLeDiff]
    refine rn_M_digit 20 ?_
    simp (disch := omega) only [am_z, cq_M_digit, Nat.reduceAdd, Nat.zero_le, Nat.reduceLeDiff, ar_lit, p1.2.1, b01, Bool.false_eq_true, ↓reduceIte]
    exact k I1 f1 p1
  by_cases q : ss.length ≤ a
  · have e : pd ss g a lo hi = (a, none) := by
      unfold pd pdig
      rw [List.getElem?_eq_none q]
      cases g <;> rfl
    refine en_M_digit 40 (Nat.le_of_ble_eq_true rfl) ?_
    simp (disch := omega) only [am_z, cq_M_digit, Nat.reduceAdd, Nat.zero_le, Nat.reduceLeDiff, ar_lit, h3, n1, ar_le, if_pos q, lc_z.1]
    refine s_M_inL (lo := 0) (hi := 9) (x := -999999) (by omega) ((i64_i _).trans (by decide +kernel)) (by decide +kernel) (by decide +kernel) ?_
    rw [decide_eq_false (by omega)]
    simp only [am_z, Nat.reduceAdd, Nat.zero_le, Nat.reduceLeDiff]
    refine rn_M_digit 20 ?_
    simp (disch := omega) only [am_z, cq_M_digit, Nat.reduceAdd, Nat.zero_le, Nat.reduceLeDiff, ar_lit, b01, Bool.false_eq_true, ↓reduceIte]
    exact acc0 _ e
  · have hl : a < ss.length := by omega
    have hg := get_of hl
    have hx : ss.getD a 0 < 256 := by
      rw [List.getElem?_eq_getElem hl] at hg
      rw [← Option.some.inj hg]
      exact n4 _ (List.getElem_mem hl)
    have b160 : a < 160 := by omega
    have ev : (nI (ss.getD a 0) - nI 48).toInt = ((ss.getD a 0 : Nat) : Int) - 48 := by
      rw [iI_nI, iI_nI, iI_sub, iI_toInt (by omega) (by omega)]
      rfl
    refine en_M_digit 40 (Nat.le_of_ble_eq_true rfl) ?_
    simp (disch := omega) only [am_z, cq_M_digit, Nat.reduceAdd, Nat.zero_le, Nat.reduceLeDiff, ar_lit, h3, n1, ar_le, if_neg q, ar_in, ar_cl, n2 a hl, lc_z.1]
    refine ⟨b160, ?_⟩
    refine s_M_inL (lo := 0) (hi := 9) (by omega) ((i64_i _).trans ev) (by decide +kernel) (by decide +kernel) ?_
    by_cases qd : 48 + lo ≤ ss.getD a 0 ∧ ss.getD a 0 ≤ 48 + hi
    · rw [decide_eq_true (by omega)]
      simp only [am_z, Nat.reduceAdd, Nat.zero_le, Nat.reduceLeDiff]
      refine rn_M_digit 40 ?_
      simp (disch := omega) only [am_z, cq_M_digit, Nat.reduceAdd, Nat.zero_le, Nat.reduceLeDiff, ar_lit, b01, Bool.false_eq_true, ↓reduceIte, ar_eq, Nat.reduceEqDiff]
      refine s_M_inL (by omega) ((i64_i _).trans ev) ((i64_i _).trans (nI_toInt (by omega))) ((i64_i _).trans (nI_toInt (by omega))) ?_
      rw [decide_eq_true (by omega)]
      simp only [am_z, Nat.reduceAdd, Nat.zero_le, Nat.reduceLeDiff]
      refine rn_M_digit 40 ?_
      simp (disch := omega) only [am_z, cq_M_digit, Nat.reduceAdd, Nat.zero_le, Nat.reduceLeDiff, ar_lit, b01, Bool.false_eq_true, ↓reduceIte, ar_eq, Nat.reduceEqDiff]
      have e : pdig ss a lo hi = (a + 1, some (ss.getD a 0 - 48)) := by
        unfold pdig
        rw [hg]
        simp only
        rw [if_pos qd]
      cases g
      · have e2 : pd ss false a lo hi = (a, none) := rfl
        rw [e2] at k
        refine s_M_accept (b := true) (by omega) h' (fun q => by cases q) (fun I1 f1 p1 => ?_)
        rw [Bool.false_and, if_neg (by simp)] at p1
        simp only [am_z, Nat.reduceAdd, Nat.zero_le, Nat.reduceLeDiff]
        refine rn_M_digit 20 ?_
        simp (disch := omega) only [am_z, cq_M_digit, Nat.reduceAdd, Nat.zero_le, Nat.reduceLeDiff, ar_lit, p1.2.1, b01, Bool.false_eq_true, ↓reduceIte]
        exact k I1 f1 p1
      · rw [pd_t, e] at k
        refine s_M_accept (b := true) (by omega) h' (fun _ _ => hl) (fun I1 f1 p1 => ?_)
        rw [Bool.and_self, if_pos rfl] at p1
        simp only [am_z, Nat.reduceAdd, Nat.zero_le, Nat.reduceLeDiff]
        refine rn_M_digit 20 ?_
        simp (disch := omega) only [am_z, cq_M_digit, Nat.reduceAdd, Nat.zero_le, Nat.reduceLeDiff, ar_lit, p1.2.1, b01, Bool.false_eq_true, ↓reduceIte, ar_eq, Nat.reduceEqDiff]
        rw [ar_sub (by omega)]
        exact k I1 f1 p1
    · have e : pd ss g a lo hi = (a, none) := by
        unfold pd pdig
        rw [hg]
        simp only
        rw [if_neg qd]
        cases g <;> rfl
      by_cases q9 : (0 : Int) ≤ ((ss.getD a 0 : Nat) : Int) - 48 ∧ ((ss.getD a 0 : Nat) : Int) - 48 ≤ 9
      · rw [decide_eq_true q9]
        simp only [am_z, Nat.reduceAdd, Nat.zero_le, Nat.reduceLeDiff]
        refine rn_M_digit 40 ?_
        simp (disch := omega) only [am_z, cq_M_digit, Nat.reduceAdd, Nat.zero_le, Nat.reduceLeDiff, ar_lit, b01, Bool.false_eq_true, ↓reduceIte, ar_eq, Nat.reduceEqDiff]
        refine s_M_inL (by omega) ((i64_i _).trans ev) ((i64_i _).trans (nI_toInt (by omega))) ((i64_i _).trans (nI_toInt (by omega))) ?_
        rw [decide_eq_false (by omega)]
        simp only [am_z, Nat.reduceAdd, Nat.zero_le, Nat.reduceLeDiff]
        refine rn_M_digit 40 ?_
        simp (disch := omega) only [am_z, cq_M_digit, Nat.reduceAdd, Nat.zero_le, Nat.reduceLeDiff, ar_lit, b01, Bool.false_eq_true, ↓reduceIte]
        exact acc0 _ e
      · rw [decide_eq_false q9]
        simp only [am_z, Nat.reduceAdd, Nat.zero_le, Nat.reduceLeDiff]
        refine rn_M_digit 40 ?_
        simp (disch := omega) only [am_z, cq_M_digit, Nat.reduceAdd, Nat.zero_le, Nat.reduceLeDiff, ar_lit, b01, Bool.false_eq_true, ↓reduceIte]
        exact acc0 _ e
theorem pd_le {lo hi : Nat} (h : hi ≤ 9) : (pd ss g a lo hi).2.getD lo ≤ lo + hi := by
  unfold pd
  cases g
  · simp
  · simp only [↓reduceIte]
    cases e : (pdig ss a lo hi).2 with
    | none => simp
    | some v =>
      obtain ⟨_, _, _, _⟩ := pdig_some e
      simp
      omega
theorem s_M_two {lo hi : Nat} (hD : 3 ≤ D) (h : rP I ss a g) (hlh : lo ≤ hi) (h9 : hi ≤ 99) (k : ∀ I' x, fM [] [3, 4] I I' → rP I' ss (pw ss g a lo hi).1 (pw ss g a lo hi).2.isSome → (∀ v, (pw ss g a lo hi).2 = some v → x = nI v) → P (.inl (some (vI x))) am_G0 I' J) : am_T l D y_M_two [vR (9, 0), vI (nI lo), vI (nI hi)] am_G0 I J P := by
  obtain ⟨d, rfl⟩ : ∃ d, D = d + 1 := ⟨D - 1, by omega⟩
  have d1 : nI lo / nI 10 = nI (lo / 10) := pk_div (by omega) (by omega) (by omega)
  have d2 : nI hi / nI 10 = nI (hi / 10) := pk_div (by omega) (by omega) (by omega)
  -- the second digit
  have second : ∀ t I1 a1 g1, t ≤ hi / 10 → rP I1 ss a1 g1 → (∀ I' x, fM [] [3, 4] I1 I' → rP I' ss (pd ss g1 a1 (lo - 10 * t) (min (hi - 10 * t) 9)).1 (pd ss g1 a1 (lo - 10 * t) (min (hi - 10 * t) 9)).2.isSome → x = nI (10 * t + (pd ss g1 a1 (lo - 10 * t) (min (hi - 10 * t) 9)).2.getD (lo - 10 * t)) → P (.inl (some (vI x))) am_G0 I' J) → am_X l (0, fun _ => 0) (d + 1) y_M_two P 12 [some (vR (9, 0)), some (vI (nI lo)), some (vI (nI hi)), none, none, none] [vI (nI t)] 0 0 am_G0 I1 J := by
    intro t I1 a1 g1 ht h1 kk
    have es : nI hi - nI (10 * t) = nI (hi - 10 * t) := ar_sub (by omega)
    have fin : ∀ lo' hi', lo' = lo - 10 * t → hi' = min (hi - 10 * t) 9 → ∀ ls, am_T l d y_M_digit [vR (9, 0), vI (nI lo'), vI (nI hi')] am_G0 I1 J (am_k (am_X l (0, fun _ => 0) (d + 1) y_M_two P) P 62 ls [vI (nI (10 * t))] 0 0) := by
      intro lo' hi' e1 e2 ls
      subst e1
      subst e2
      refine s_M_digit (by omega) h1 (by omega) (by omega) (fun I2 f2 p2 => ?_)
      simp only [am_z, Nat.reduceAdd, Nat.zero_le, Nat.reduceLeDiff]
      refine rn_M_two 20 ?_
      simp (disch := omega) only [am_z, cq_M_two, Nat.reduceAdd, Nat.zero_le, Nat.reduceLeDiff, ar_lit, nI_add]
      exact kk I2 _ f2 p2 rfl
    by_cases q1 : lo < 10 * t
    · have e0 : (nI 0 ≤ nI lo - nI (10 * t)) = False := by
        rw [ar_neg q1, ar_neglt (by omega) (by omega)]
      by_cases q2 : hi - 10 * t ≤ 9
      · refine rn_M_two 60 ?_
        simp (disch := omega) only [am_z, cq_M_two, Nat.reduceAdd, Nat.zero_le, Nat.reduceLeDiff, ar_lit, pk_mul, es, e0, ar_le, if_pos q2, ↓reduceIte]
        exact fin 0 _ (by omega) (by omega) _
      · refine rn_M_two 60 ?_
        simp (disch := omega) only [am_z, cq_M_two, Nat.reduceAdd, Nat.zero_le, Nat.reduceLeDiff, ar_lit, pk_mul, es, e0, ar_le, if_neg q2, ↓reduceIte]
        exact fin 0 9 (by omega) (by omega) _
    · have el : nI lo - nI (10 * t) = nI (lo - 10 * t) := ar_sub (by omega)
      by_cases q2 : hi - 10 * t ≤ 9
      · refine rn_M_two 60 ?_
        simp (disch := omega) only [am_z, cq_M_two, Nat.reduceAdd, Nat.zero_le, Nat.reduceLeDiff, ar_lit, pk_mul, es, el, ar_le, Nat.zero_le, if_pos q2, ↓reduceIte]
        exact fin _ _ rfl (by omega) _
      · refine rn_M_two 60 ?_
        simp (disch := omega) only [am_z, cq_M_two, Nat.reduceAdd, Nat.zero_le, Nat.reduceLeDiff, ar_lit, pk_mul, es, el, ar_le, Nat.zero_le, if_neg q2, ↓reduceIte]
        exact fin _ 9 rfl (by omega) _
  refine en_M_two 20 (Nat.le_of_ble_eq_true rfl) ?_
  simp (disch := omega) only [am_z, cq_M_two, Nat.reduceAdd, Nat.zero_le, Nat.reduceLeDiff, ar_lit, d1, d2, ar_eq, Nat.reduceEqDiff, not_false_eq_true]
  refine s_M_digit (by omega) h (by omega) (by omega) (fun I1 f1 p1 => ?_)
  simp only [am_z, Nat.reduceAdd, Nat.zero_le, Nat.reduceLeDiff]
  cases g
  · rw [pd_f] at p1 ⊢
    refine @second (lo / 10) I1 a false (by omega) p1 (fun I2 x f2 p2 _ => ?_)
    exact k I2 x (f1.tr f2) p2 (fun v hv => by cases hv)
  · rw [pd_t] at p1 ⊢
    have ew : pw ss true a lo hi = ppair ss a lo hi := rfl
    rw [ew] at k
    unfold ppair at k
    cases e : (pdig ss a (lo / 10) (hi / 10)).2 with
    | none =>
      rw [e] at k p1
      rw [pdig_none e] at p1
      refine @second (lo / 10) I1 a false (by omega) p1 (fun I2 x f2 p2 _ => ?_)
      exact k I2 x (f1.tr f2) p2 (fun v hv => by cases hv)
    | some t =>
      rw [e] at k p1
      obtain ⟨g1, g2, g3, _⟩ := pdig_some e
      rw [g1] at p1
      refine @second t I1 (a + 1) true (by omega) p1 (fun I2 x f2 p2 hx => ?_)
      rw [pd_t] at p2 hx
      refine k I2 x (f1.tr f2) ?_ (fun v hv => ?_)
      · simp only [Option.isSome_map]
        exact p2
      · obtain ⟨o, ho, rfl⟩ := Option.map_eq_some_iff.mp hv
        rw [hx, ho]
        rfl
end RG
