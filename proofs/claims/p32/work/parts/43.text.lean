/-! ===== the class Text ===== -/
def pv (o : Option Nat) : Int32 := match o with
  | some v => nI v
  | none => -1
theorem pv_none {o : Option Nat} (h : ∀ v, o = some v → v < 200) : (pv o = -nI 1) = (o = none) := by
  cases o with
  | none => simp [pv]; decide +kernel
  | some v =>
    have := h v rfl
    simp only [pv, reduceCtorEq, eq_iff_iff, iff_false]
    intro q
    have e : (nI v).toInt = -1 := by rw [q]; decide +kernel
    rw [nI_toInt (by omega)] at e
    omega
/-- the text is ss, and the place a -/
def rT (I : am_I) (ss : List Nat) (a : Nat) : Prop := I (8, 0) 1 = nI ss.length ∧ I (8, 0) 2 = nI a ∧ (∀ k, k < ss.length → I (24, 0) k = nI (ss.getD k 0)) ∧ ss.length ≤ 160 ∧ (∀ c ∈ ss, c < 256) ∧ a ≤ ss.length
/-- the text alone -/
def rX (I : am_I) (ss : List Nat) : Prop := I (8, 0) 1 = nI ss.length ∧ (∀ k, k < ss.length → I (24, 0) k = nI (ss.getD k 0)) ∧ ss.length ≤ 160 ∧ ∀ c ∈ ss, c < 256
theorem rT.x {I : am_I} {ss : List Nat} {a : Nat} (h : rT I ss a) : rX I ss := ⟨h.1, h.2.2.1, h.2.2.2.1, h.2.2.2.2.1⟩
theorem rX.kept {I I' : am_I} {ss : List Nat} (h : rX I ss) (h8 : I' (8, 0) = I (8, 0)) (h24 : I' (24, 0) = I (24, 0)) : rX I' ss := by
  unfold rX
  rw [h8, h24]
  exact h
def isX (c : am_A) : Prop := c = (8, 0)
theorem isX_i : isX (8, 0) := rfl
theorem isX_t {t : Nat} {c : am_A} (h : isT t c) : ¬ isX c := by
  intro q
  have := h.2
  unfold isX at q
  rw [q] at this
  simp at this
section TX
variable {l : Launch} {D t : Nat} {I : am_I} {J : am_J} {P : am_P} {p : pt_T} {ss : List Nat} {a : Nat}
theorem rT.kept {I' : am_I} (h : rT I ss a) (h8 : I' (8, 0) = I (8, 0)) (h24 : I' (24, 0) = I (24, 0)) : rT I' ss a := by
  unfold rT
  rw [h8, h24]
  exact h
theorem rT.fr {I' : am_I} {S : am_A → Prop} (h : rT I ss a) (hf : am_fr S I I') (h8 : ¬ S (8, 0)) (h24 : ¬ S (24, 0)) : rT I' ss a := h.kept (hf _ h8) (hf _ h24)
theorem rT.frT {I' : am_I} (h : rT I ss a) (hf : am_fr (isT t) I I') : rT I' ss a := h.fr hf (fun q => by have := q.2; simp at this) (fun q => by have := q.2; simp at this)
theorem rT.next (h : rT I ss a) (ha : a < ss.length) : rT (am_upI I (8, 0) 2 (nI (a + 1))) ss (a + 1) := by
  obtain ⟨h1, h2, h3, h4, h5, h6⟩ := h
  refine ⟨?_, ?_, ?_, h4, h5, ha⟩
  · rw [am_uE, upd_n _ _ (by omega)]; exact h1
  · rw [am_uE, upd_e]
  · rw [am_uS _ _ _ _ _ (by omega)]; exact h3
theorem get_of {k : Nat} (hk : k < ss.length) : ss[k]? = some (ss.getD k 0) := by
  rw [List.getD_eq_getElem?_getD, List.getElem?_eq_getElem hk]
  rfl
theorem rT.lt (h : rT I ss a) {k : Nat} : ss.getD k 0 < 256 := by
  by_cases hk : k < ss.length
  · have e := get_of hk
    rw [List.getElem?_eq_getElem hk] at e
    rw [← Option.some.inj e]
    exact h.2.2.2.2.1 _ (List.getElem_mem hk)
  · rw [List.getD_eq_getElem?_getD, List.getElem?_eq_none (by omega)]
    show 0 < 256
    omega
theorem s_takeSign {c : Nat} (hD : 1 ≤ D) (h : rT I ss a) (hc : c < 256) (k1 : ∀ I', ss[a]? = some c → am_fr isX I I' → rT I' ss (a + 1) → P (.inl (some (vI (nI 1)))) am_G0 I' J) (k0 : ¬ ss[a]? = some c → P (.inl (some (vI (nI 0)))) am_G0 I J) : am_T l D y_Text_takeSign [vR (8, 0), vI (nI c)] am_G0 I J P := by
  obtain ⟨d, rfl⟩ : ∃ d, D = d + 1 := ⟨D - 1, by omega⟩
  have h' := h
  obtain ⟨h1, h2, h3, h4, h5, h6⟩ := h
  refine en_Text_takeSign 40 (Nat.le_of_ble_eq_true rfl) ?_
  simp (disch := omega) only [am_z, cq_Text_takeSign, Nat.reduceAdd, ar_lit, h1, h2, ar_le]
  by_cases q : ss.length ≤ a
  · rw [if_pos q]
    exact k0 (by rw [List.getElem?_eq_none q]; simp)
  · have hlt := h'.lt (k := a)
    rw [if_neg q]
    simp (disch := omega) only [ar_in, ar_cl, h3 a (by omega), ar_eq, nI_add]
    refine ⟨by omega, ?_⟩
    have hg := get_of (ss := ss) (k := a) (by omega)
    by_cases q2 : ss.getD a 0 = c
    · rw [if_pos q2]
      exact k1 _ (by rw [hg, q2]) (am_fr.up am_fr.rf isX_i) (h'.next (by omega))
    · rw [if_neg q2]
      exact k0 (by rw [hg]; simpa using q2)
theorem s_takeDigit {lo hi : Nat} (hD : 1 ≤ D) (h : rT I ss a) (h9 : hi ≤ 9) (hlo : lo ≤ 200) (k : ∀ I', am_fr isX I I' → rT I' ss (pdig ss a lo hi).1 → P (.inl (some (vI (pv (pdig ss a lo hi).2)))) am_G0 I' J) : am_T l D y_Text_takeDigit [vR (8, 0), vI (nI lo), vI (nI hi)] am_G0 I J P := by
  obtain ⟨d, rfl⟩ : ∃ d, D = d + 1 := ⟨D - 1, by omega⟩
  have h' := h
  obtain ⟨h1, h2, h3, h4, h5, h6⟩ := h
  refine en_Text_takeDigit 60 (Nat.le_of_ble_eq_true rfl) ?_
  simp (disch := omega) only [am_z, cq_Text_takeDigit, Nat.reduceAdd, ar_lit, h1, h2, ar_lt]
  by_cases q : ss.length ≤ a
  · have e : pdig ss a lo hi = (a, none) := by unfold pdig; rw [List.getElem?_eq_none q]
    rw [e] at k
    rw [if_neg (by omega)]
    exact k I am_fr.rf h'
  · have hlt := h'.lt (k := a)
    have hg := get_of (ss := ss) (k := a) (by omega)
    have n48 : (48 : Int32) = nI 48 := by decide +kernel
    rw [if_pos (by omega)]
    simp (disch := omega) only [ar_in, ar_cl, h3 a (by omega), n48, nI_add]
    have eD : nI (ss.getD a 0) - nI 48 = iI ((ss.getD a 0 : Int) - 48) := by rw [iI_nI, iI_nI, iI_sub]; rfl
    rw [eD]
    refine ⟨by omega, ?_⟩
    have c1 : (iI ((ss.getD a 0 : Int) - 48) < nI lo) = (ss.getD a 0 < 48 + lo) := by
      rw [iI_nI, iI_lt (by omega) (by omega)]
      apply propext; omega
    have c2 : (iI ((ss.getD a 0 : Int) - 48) ≤ nI hi) = (ss.getD a 0 ≤ 48 + hi) := by
      rw [iI_nI, iI_le (by omega) (by omega)]
      apply propext; omega
    simp only [c1, c2]
    by_cases q1 : ss.getD a 0 < 48 + lo
    · have e : pdig ss a lo hi = (a, none) := by unfold pdig; rw [hg]; simp only; rw [if_neg (by omega)]
      rw [e] at k
      rw [if_pos q1]
      exact k I am_fr.rf h'
    · rw [if_neg q1]
      by_cases q2 : ss.getD a 0 ≤ 48 + hi
      · have e : pdig ss a lo hi = (a + 1, some (ss.getD a 0 - 48)) := by unfold pdig; rw [hg]; simp only; rw [if_pos (by omega)]
        rw [e] at k
        rw [if_pos q2]
        have e2 : iI ((ss.getD a 0 : Int) - 48) = nI (ss.getD a 0 - 48) := by rw [iI_nI]; congr 1; omega
        rw [e2]
        exact k _ (am_fr.up am_fr.rf isX_i) (h'.next (by omega))
      · have e : pdig ss a lo hi = (a, none) := by unfold pdig; rw [hg]; simp only; rw [if_neg (by omega)]
        rw [e] at k
        rw [if_neg q2]
        exact k I am_fr.rf h'
theorem pdig_pv {a lo hi : Nat} (h : hi ≤ 9) : (pv (pdig ss a lo hi).2 = -nI 1) = ((pdig ss a lo hi).2 = none) := pv_none fun v hv => by
  have := (pdig_some hv).2.2.1
  omega
theorem ppair_pv {a lo hi : Nat} (h : hi ≤ 99) : (pv (ppair ss a lo hi).2 = -nI 1) = ((ppair ss a lo hi).2 = none) := pv_none fun v hv => by
  have := (ppair_some hv).2.2
  omega
theorem ar_mx {a b : Nat} (ha : a < 2 ^ 31) (hb : b < 2 ^ 31) : (if nI a - nI b < nI 0 then nI 0 else nI a - nI b) = nI (a - b) := by
  by_cases q : b ≤ a
  · rw [ar_sub q, if_neg (by rw [ar_lt (by omega) (by omega)]; omega)]
  · rw [if_pos, show a - b = 0 by omega]
    rw [iI_nI, iI_nI, iI_nI, iI_sub, iI_lt (by omega) (by omega)]
    omega
theorem ar_mn {a b c : Nat} (ha : a < 2 ^ 31) (hb : b ≤ a) (hc : c < 2 ^ 31) : (if nI c < nI a - nI b then nI c else nI a - nI b) = nI (min (a - b) c) := by
  rw [ar_sub hb]
  simp (disch := omega) only [ar_lt]
  split
  · rw [show min (a - b) c = c by omega]
  · rw [show min (a - b) c = a - b by omega]
theorem s_takePair {lo hi : Nat} (hD : 2 ≤ D) (h : rT I ss a) (h9 : hi ≤ 99) (hlo : lo ≤ 200) (k : ∀ I', am_fr isX I I' → rT I' ss (ppair ss a lo hi).1 → P (.inl (some (vI (pv (ppair ss a lo hi).2)))) am_G0 I' J) : am_T l D y_Text_takePair [vR (8, 0), vI (nI lo), vI (nI hi)] am_G0 I J P := by
  obtain ⟨d, rfl⟩ : ∃ d, D = d + 1 := ⟨D - 1, by omega⟩
  have e1 : nI lo / nI 10 = nI (lo / 10) := pk_div (by omega) (by omega) (by omega)
  have e2 : nI hi / nI 10 = nI (hi / 10) := pk_div (by omega) (by omega) (by omega)
  refine en_Text_takePair 60 (Nat.le_of_ble_eq_true rfl) ?_
  simp (disch := omega) only [am_z, cq_Text_takePair, Nat.reduceAdd, ar_lit, e1, e2, ar_eq, Nat.reduceEqDiff, not_false_eq_true]
  refine s_takeDigit (by omega) h (by omega) (by omega) (fun I' hf ht => ?_)
  unfold ppair at k
  simp only [am_z, Nat.reduceAdd]
  refine rn_Text_takePair 60 ?_
  have h10 : hi / 10 ≤ 9 := by omega
  simp only [am_z, cq_Text_takePair, Nat.reduceAdd, ar_lit, pdig_pv h10]
  cases e : (pdig ss a (lo / 10) (hi / 10)).2 with
  | none =>
    rw [pdig_none e] at ht
    simp only [↓reduceIte]
    rw [e] at k
    exact k I' hf ht
  | some v =>
    obtain ⟨g1, g2, g3, g4, _⟩ := pdig_some e
    rw [g1] at ht
    rw [e] at k
    simp only at k
    rw [if_neg (by simp)]
    simp (disch := omega) only [pv, pk_mul, ar_mx, ar_mn]
    refine ⟨by simp, by simp, s_takeDigit (by omega) ht (by omega) (by omega) (fun I'' hf' ht' => ?_)⟩
    simp only [am_z, Nat.reduceAdd]
    refine rn_Text_takePair 60 ?_
    simp (disch := omega) only [am_z, cq_Text_takePair, Nat.reduceAdd, ar_lit, pdig_pv]
    have k' := k I'' (hf.tr hf') ht'
    cases e2 : (pdig ss (a + 1) (lo - 10 * v) (min (hi - 10 * v) 9)).2 with
    | none =>
      rw [e2] at k'
      simp only [↓reduceIte]
      exact k'
    | some w =>
      rw [e2] at k'
      rw [if_neg (by simp)]
      simp (disch := omega) only [pv, pk_mul, nI_add]
      exact k'
end TX
