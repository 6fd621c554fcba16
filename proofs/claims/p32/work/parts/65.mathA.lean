/-! ===== pages as values: what follows from how they are laid ===== -/
section MA
variable {p : pt_T} {h : Nat}
theorem tend_cut {r : Nat} (hr : tend p r = true) (hn : ¬ r + 1 = tn p) : tcut p r = true := by
  unfold tend at hr
  rw [decide_eq_false hn, Bool.false_or] at hr
  exact hr
theorem tcut_tend {r : Nat} (h : tcut p r = true) : tend p r = true := by
  unfold tend
  rw [h, Bool.or_true]
theorem tcut_iff {r : Nat} : tcut p r = true ↔ tK p r = 0 ∧ ∀ s, s < tm p → tM p s = 1 ∨ r < tF p s ∨ tL p s ≤ r := by
  unfold tcut
  simp only [Bool.and_eq_true, List.all_eq_true, List.mem_range, Bool.or_eq_true, beq_iff_eq, decide_eq_true_eq, or_assoc]
theorem tpl_nx : ∀ (f a k : Nat), k < (tpl p h f a).length → (pgA (tpl p h f a) k).1 < tn p ∧ (pgA (tpl p h f a) k).2.1 = tnx p h (pgA (tpl p h f a) k).1 ∧ (pgA (tpl p h f a) k).2.2 = (tlast p h (pgA (tpl p h f a) k).1).isNone
  | 0, _, _, hk => absurd hk (Nat.not_lt_zero _)
  | f + 1, a, k, hk => by
    by_cases ha : a < tn p
    · rw [tpl_c ha] at hk ⊢
      cases k with
      | zero => exact ⟨ha, rfl, rfl⟩
      | succ k => exact tpl_nx f (tnx p h a + 1) k (by simpa using hk)
    · rw [tpl_n ha] at hk
      exact absurd hk (Nat.not_lt_zero _)
theorem tpl_end : ∀ f a, tn p ≤ f + a → a < tn p → ∃ m, (tpl p h f a).length = m + 1 ∧ (pgA (tpl p h f a) m).2.1 + 1 = tn p
  | 0, a, h1, h2 => by omega
  | f + 1, a, h1, h2 => by
    obtain ⟨g1, g2, _⟩ := tnx_spec (p := p) (h := h) h2
    rw [tpl_c h2]
    by_cases q : tnx p h a + 1 < tn p
    · obtain ⟨m, e1, e2⟩ := tpl_end f (tnx p h a + 1) (by omega) q
      exact ⟨m + 1, by rw [List.length_cons, e1], e2⟩
    · refine ⟨0, ?_, ?_⟩
      · rw [tpl_n q]; rfl
      · show tnx p h a + 1 = tn p
        omega
theorem pg_pos (hw : tW p) (hn : 0 < tn p) : ∃ m, (tpg p h).length = m + 1 ∧ (pgA (tpg p h) m).2.1 + 1 = tn p := tpl_end 24 0 (by have := hw.2.2.2.2.1; omega) hn
theorem pg_zero (hn : tn p = 0) : (tpg p h).length = 0 := by
  unfold tpg
  rw [tpl_n (by omega)]
  rfl
theorem pg_le : (tpg p h).length ≤ tn p := (tpl_len 24 0).2
theorem pg_iff (hw : tW p) : (tpg p h).length = 0 ↔ tn p = 0 := by
  constructor
  · intro q
    rcases Nat.eq_zero_or_pos (tn p) with z | z
    · exact z
    · obtain ⟨m, e, _⟩ := pg_pos (h := h) hw z
      omega
  · exact pg_zero
/-- where the page k begins; behind the last page, the number of rows -/
def pst (p : pt_T) (h k : Nat) : Nat := if k = 0 then 0 else (pgA (tpg p h) (k - 1)).2.1 + 1
theorem pst_0 : pst p h 0 = 0 := rfl
theorem pst_s (k : Nat) : pst p h (k + 1) = (pgA (tpg p h) k).2.1 + 1 := rfl
theorem pst_at {k : Nat} (hk : k < (tpg p h).length) : (pgA (tpg p h) k).1 = pst p h k := tpg_first k hk
theorem pst_in {k : Nat} (hk : k < (tpg p h).length) : pst p h k ≤ (pgA (tpg p h) k).2.1 ∧ (pgA (tpg p h) k).2.1 < tn p ∧ pst p h k < tn p := by
  obtain ⟨h1, h2, _⟩ := tpg_at (p := p) (h := h) k hk
  rw [pst_at hk] at h1
  exact ⟨h1, h2, Nat.lt_of_le_of_lt h1 h2⟩
theorem pst_len (hw : tW p) : pst p h (tpg p h).length = tn p := by
  rcases Nat.eq_zero_or_pos (tn p) with z | z
  · rw [pg_zero z, z]
    rfl
  · obtain ⟨m, e, e2⟩ := pg_pos (h := h) hw z
    rw [e, pst_s, e2]
theorem pst_mono : ∀ d j, j + d ≤ (tpg p h).length → pst p h j ≤ pst p h (j + d)
  | 0, _, _ => Nat.le_refl _
  | d + 1, j, hd => by
    have := pst_mono d j (by omega)
    have h2 := pst_in (p := p) (h := h) (k := j + d) (by omega)
    rw [← Nat.add_assoc, pst_s]
    omega
theorem pst_le {j k : Nat} (hjk : j ≤ k) (hk : k ≤ (tpg p h).length) : pst p h j ≤ pst p h k := by
  have := pst_mono (p := p) (h := h) (k - j) j (by omega)
  rwa [show j + (k - j) = k by omega] at this
/-- each page has a row at least -/
theorem pst_ge : ∀ k, k ≤ (tpg p h).length → k ≤ pst p h k
  | 0, _ => Nat.zero_le _
  | k + 1, hk => by
    have h1 := pst_ge k (by omega)
    have h2 := pst_in (p := p) (h := h) (k := k) (by omega)
    rw [pst_s]
    omega
theorem tpo_at (hw : tW p) {k r : Nat} (hk : k < (tpg p h).length) (h1 : pst p h k ≤ r) (h2 : r ≤ (pgA (tpg p h) k).2.1) : tpo (tpg p h) r = k := by
  have hk2 := pst_in (p := p) (h := h) hk
  have hlt := tpg_row (h := h) hw (r := r) (by omega)
  obtain ⟨g1, g2⟩ := tpo_spec _ r hlt
  rcases Nat.lt_trichotomy (tpo (tpg p h) r) k with q | q | q
  · have := pst_le (p := p) (h := h) (j := tpo (tpg p h) r + 1) (k := k) (by omega) (by omega)
    rw [pst_s] at this
    omega
  · exact q
  · have := g1 k q
    omega
theorem tpo_in (hw : tW p) {r : Nat} (hr : r < tn p) : tpo (tpg p h) r < (tpg p h).length ∧ pst p h (tpo (tpg p h) r) ≤ r ∧ r ≤ (pgA (tpg p h) (tpo (tpg p h) r)).2.1 := by
  have hlt := tpg_row (h := h) hw hr
  obtain ⟨g1, g2⟩ := tpo_spec _ r hlt
  refine ⟨hlt, ?_, g2⟩
  cases e : tpo (tpg p h) r with
  | zero => exact Nat.zero_le _
  | succ m =>
    rw [pst_s]
    have := g1 m (by omega)
    omega
theorem pg_tend {k : Nat} (hk : k < (tpg p h).length) : tend p (pgA (tpg p h) k).2.1 = true := by
  obtain ⟨h1, h2, _⟩ := tpl_nx (p := p) (h := h) 24 0 k hk
  have := (tnx_spec (p := p) (h := h) h1).2.2.1
  rw [← h2] at this
  exact this
/-- a span that may not be cut lies on one page -/
theorem tpo_one (hw : tW p) {s : Nat} (hs : s < tm p) (hM : tM p s = 0) : tpo (tpg p h) (tL p s) = tpo (tpg p h) (tF p s) := by
  obtain ⟨w1, w2, _⟩ := hw.span hs
  have w1 : tF p s < tL p s := w1
  have w2 : tL p s < tn p := w2
  obtain ⟨g1, g2, g3⟩ := tpo_in (h := h) hw (r := tF p s) (by omega)
  refine tpo_at hw g1 (by omega) (Nat.not_lt.mp fun q => ?_)
  have ht := tend_cut (pg_tend g1) (by omega)
  rcases (tcut_iff.mp ht).2 s hs with z | z | z <;> omega
theorem pg_over {k : Nat} (hk : k < (tpg p h).length) : (pgA (tpg p h) k).2.2 = decide (h < tlines p (pst p h k) (pgA (tpg p h) k).2.1) := by
  have := (tpg_at (p := p) (h := h) k hk).2.2
  rw [pst_at hk] at this
  cases e : (pgA (tpg p h) k).2.2 with
  | true => rw [decide_eq_true (this.mp e)]
  | false => rw [decide_eq_false (fun z => by rw [this.mpr z] at e; cases e)]
theorem pg_nocut {k i : Nat} (hk : k < (tpg p h).length) (hf : h < tlines p (pst p h k) (pgA (tpg p h) k).2.1) (h1 : pst p h k ≤ i) (h2 : i < (pgA (tpg p h) k).2.1) : ¬ tend p i = true := by
  obtain ⟨g1, g2, g3⟩ := tpl_nx (p := p) (h := h) 24 0 k hk
  have g1 : (pgA (tpg p h) k).1 < tn p := g1
  have g2 : (pgA (tpg p h) k).2.1 = tnx p h (pgA (tpg p h) k).1 := g2
  have g3 : (pgA (tpg p h) k).2.2 = (tlast p h (pgA (tpg p h) k).1).isNone := g3
  rw [pst_at hk] at g1 g2 g3
  rw [pg_over hk, decide_eq_true hf] at g3
  have e : tlast p h (pst p h k) = none := Option.isNone_iff_eq_none.mp g3.symm
  unfold tnx at g2
  rw [e] at g2
  have g2 : (pgA (tpg p h) k).2.1 = tfe p (tn p - pst p h k) (pst p h k) := g2
  obtain ⟨_, _, _, f4⟩ := tfe_spec (p := p) (tn p - pst p h k) (pst p h k) (by omega) (by omega)
  exact f4 i h1 (by omega)
theorem pg_tem {k : Nat} (hk : k < (tpg p (tP p)).length) : tem p (pst p (tP p) k) = if tP p < tlines p (pst p (tP p) k) (pgA (tpg p (tP p)) k).2.1 then -999999 else nI (tP p - tlines p (pst p (tP p) k) (pgA (tpg p (tP p)) k).2.1) := by
  obtain ⟨g1, g2, g3⟩ := tpl_nx (p := p) (h := tP p) 24 0 k hk
  have g2 : (pgA (tpg p (tP p)) k).2.1 = tnx p (tP p) (pgA (tpg p (tP p)) k).1 := g2
  have g3 : (pgA (tpg p (tP p)) k).2.2 = (tlast p (tP p) (pgA (tpg p (tP p)) k).1).isNone := g3
  rw [pst_at hk] at g2 g3
  rw [pg_over hk] at g3
  unfold tem
  unfold tnx at g2
  cases e : tlast p (tP p) (pst p (tP p) k) with
  | none =>
    rw [e] at g3
    rw [if_pos (of_decide_eq_true g3)]
  | some b =>
    rw [e] at g2 g3
    have g2 : (pgA (tpg p (tP p)) k).2.1 = b := g2
    rw [if_neg (of_decide_eq_false g3), g2]
theorem sumZ_add (f : Nat → Int) (m : Nat) : ∀ n, sumZ f (m + n) = sumZ f m + sumZ (fun i => f (m + i)) n
  | 0 => by simp [sumZ]
  | n + 1 => by
    show sumZ f (m + n) + f (m + n) = sumZ f m + (sumZ (fun i => f (m + i)) n + f (m + n))
    rw [sumZ_add f m n, Int.add_assoc]
theorem sumZ_eq {f g : Nat → Int} : ∀ n, (∀ k, k < n → f k = g k) → sumZ f n = sumZ g n
  | 0, _ => rfl
  | n + 1, h => by
    show sumZ f n + f n = sumZ g n + g n
    rw [sumZ_eq n (fun k hk => h k (by omega)), h n (by omega)]
theorem tsum_split {a b c : Nat} (hab : a ≤ b) : tsum p 0 b c = tsum p 0 a c + sumZ (fun i => tA p (a + i) c) (b - a) := by
  unfold tsum
  rw [show b - 0 = (a - 0) + (b - a) by omega, sumZ_add]
  refine congrArg _ (sumZ_eq _ fun k _ => ?_)
  rw [show 0 + (a - 0 + k) = a + k by omega]
theorem bit_half (M k v : Nat) : M / 2 / 2 ^ k % 2 * v = if M.testBit (k + 1) = true then v else 0 := by
  rw [Nat.testBit_succ, Nat.testBit_eq_decide_div_mod_eq]
  rcases Nat.mod_two_eq_zero_or_one (M / 2 / 2 ^ k) with e | e
  · rw [e]; simp
  · rw [e]; simp
theorem or_half (a b : Nat) : (a ||| b) / 2 = a / 2 ||| b / 2 := by
  refine Nat.eq_of_testBit_eq fun i => ?_
  rw [Nat.testBit_or, ← Nat.testBit_succ, ← Nat.testBit_succ, ← Nat.testBit_succ, Nat.testBit_or]
theorem tmsk_half (a j : Nat) : tmsk p a (j + 1) / 2 = tmsk p a j / 2 ||| 2 ^ tN p (a + j) / 2 := by
  show (tmsk p a j ||| 1 <<< tN p (a + j)) / 2 = _
  rw [or_half, Nat.one_shiftLeft]
theorem tmsk_l7 (hw : tW p) {a : Nat} : ∀ k, a + k ≤ tn p → tmsk p a k < 128
  | 0, _ => by show 0 < 128; omega
  | k + 1, hk => by
    have h1 := tmsk_l7 hw (a := a) k (by omega)
    have h2 : tN p (a + k) ≤ 6 := (hw.row (r := a + k) (by omega)).2.2.1
    show (tmsk p a k ||| 1 <<< tN p (a + k)) < 2 ^ 7
    refine Nat.or_lt_two_pow h1 ?_
    rw [Nat.one_shiftLeft]
    exact Nat.pow_lt_pow_right (by omega) (by omega)
/-- the lines, as they are added up -/
theorem tlines_eq (a b : Nat) (hab : a ≤ b) : tlines p a b = tE p + (if 0 < a then 1 else 0) + (if b + 1 = tn p then 0 else 1) + tnam p a + tnc p (tmsk p a (b + 1 - a)) + sumN (fun i => tH p (a + i)) (b + 1 - a) := by
  have e1 : (if a = 0 then 0 else 1) = (if 0 < a then 1 else 0) := by
    by_cases q : a = 0
    · rw [if_pos q, if_neg (by omega)]
    · rw [if_neg q, if_pos (by omega)]
  unfold tlines tln tcy
  rw [e1]
  omega
theorem lv_rich {c : Nat} (L : List pt_P) : ∀ k, (trch p L c k = none ↔ k = 0) ∧ ∀ x, trch p L c k = some x → x.1 < k
  | 0 => ⟨⟨fun _ => rfl, fun _ => rfl⟩, fun x e => by cases e⟩
  | k + 1 => by
    obtain ⟨h1, h2⟩ := lv_rich L k
    rw [trch_s]
    cases e : trch p L c k with
    | none =>
      refine ⟨⟨fun z => (by cases z), fun z => by omega⟩, fun x z => ?_⟩
      cases z
      exact Nat.lt_succ_self k
    | some y =>
      have := h2 y e
      simp only
      split
      · refine ⟨⟨fun z => (by cases z), fun z => by omega⟩, fun x z => ?_⟩
        cases z
        exact Nat.lt_succ_self k
      · refine ⟨⟨fun z => (by cases z), fun z => by omega⟩, fun x z => ?_⟩
        cases z
        omega
end MA
