/-! ===== the class Layout: how pages are laid ===== -/
/-- a row, or NONE -/
def lv (o : Option Nat) : Int32 := match o with
  | some b => nI b
  | none => -999999
/-- the cells that laying writes -/
def isY (c : am_A) : Prop := c = (4, 0) ∨ c = (21, 0) ∨ c = (5, 0)
theorem isY_4 : isY (4, 0) := Or.inl rfl
theorem isY_21 : isY (21, 0) := Or.inr (Or.inl rfl)
theorem isY_5 : isY (5, 0) := Or.inr (Or.inr rfl)
theorem isY_t {t : Nat} {c : am_A} (h : isT t c) : ¬ isY c := by
  intro q
  have := h.2
  rcases q with q | q | q <;> rw [q] at this <;> simp at this
theorem isS_t {t s : Nat} {c : am_A} (h : isT t c) : ¬ isS s c := by
  intro q
  have := h.2
  unfold isS at q
  rw [q] at this
  simp at this
/-- the Layout's pages are L -/
def rL (I : am_I) (L : List pt_P) : Prop := I (4, 0) 0 = nI L.length ∧ I (4, 0) 1 = nI (tov L) ∧ ∀ k, k < L.length → I (21, 0) k = nI (pgA L k).2.1
theorem rL.kept {I I' : am_I} {L : List pt_P} (h : rL I L) (h4 : I' (4, 0) = I (4, 0)) (h21 : I' (21, 0) = I (21, 0)) : rL I' L := by
  unfold rL
  rw [h4, h21]
  exact h
section LAY
variable {l : Launch} {D t : Nat} {I : am_I} {J : am_J} {P : am_P} {p : pt_T}
theorem tfe_s (k a : Nat) : tfe p (k + 1) a = if tend p a = true then a else tfe p k (a + 1) := rfl
theorem s_firstEnd {G : am_G} {x : Int32} {a : Nat} (hD : 2 ≤ D) (hw : tW p) (hx : ∀ r, r < tn p → xb x r = tend p r) (ha : a < tn p) (k : P (.inl (some (vI (nI (tfe p (tn p - a) a))))) G I J) : am_T l D y_Layout_firstEnd [vI x, vI (nI a)] G I J P := by
  obtain ⟨d, rfl⟩ : ∃ d, D = d + 1 := ⟨D - 1, by omega⟩
  have hn := hw.2.2.2.2.1
  have loop : ∀ m r, r + m = tn p → 0 < m → tfe p m r = tfe p (tn p - a) a → am_X l (0, fun _ => 0) (d + 1) y_Layout_firstEnd P 2 [some (vI x), some (vI (nI a)), some (vI (nI r))] [] 0 0 G I J := by
    intro m
    induction m with
    | zero => intro r _ h; omega
    | succ m ih =>
      intro r hr _ he
      have hend := hx r (by omega)
      refine rn_Layout_firstEnd 20 ?_
      simp (disch := omega) only [am_z, cq_Layout_firstEnd, Nat.reduceAdd, ar_lit, ar_le]
      by_cases h23 : 23 ≤ r
      · rw [if_pos h23]
        have : tend p r = true := tend_last (by omega)
        rw [tfe_s] at he
        rw [if_pos this] at he
        rw [he]
        exact k
      · rw [if_neg h23]
        refine s_isIn (by omega) (by omega) ?_
        rw [hend]
        simp only [am_z, Nat.reduceAdd]
        refine rn_Layout_firstEnd 20 ?_
        cases ht : tend p r
        · rw [tfe_s] at he
          rw [ht, if_neg (by simp)] at he
          have hm : 0 < m := by
            rcases Nat.eq_zero_or_pos m with h0 | h0
            · rw [tend_last (p := p) (r := r) (by omega)] at ht; cases ht
            · exact h0
          simp (disch := omega) only [am_z, cq_Layout_firstEnd, Nat.reduceAdd, ar_lit, b01, Bool.false_eq_true, ↓reduceIte, nI_add]
          exact @ih (r + 1) (by omega) hm he
        · rw [tfe_s] at he
          rw [ht, if_pos rfl] at he
          simp (disch := omega) only [am_z, cq_Layout_firstEnd, Nat.reduceAdd, ar_lit, b01, ↓reduceIte, ar_eq, Nat.reduceEqDiff]
          rw [he]
          exact k
  refine en_Layout_firstEnd 20 (Nat.le_of_ble_eq_true rfl) ?_
  simp only [am_z, cq_Layout_firstEnd, Nat.reduceAdd]
  exact @loop (tn p - a) a (by omega) (by omega) rfl
theorem s_lastThatFits {x : Int32} {a h : Nat} (hD : 3 ≤ D) (hr : rC I t p) (hw : tW p) (hx : ∀ r, r < tn p → xb x r = tend p r) (ha : a < tn p) (hh : h < 1000) (k : ∀ I', am_fr (isS 0) I I' → P (.inl (some (vI (lv (tlast p h a))))) am_G0 I' J) : am_T l D y_Layout_lastThatFits [vR (4, 0), vR (7, t), vI (nI a), vI x, vI (nI h)] am_G0 I J P := by
  obtain ⟨d, rfl⟩ : ∃ d, D = d + 1 := ⟨D - 1, by omega⟩
  have hn := hw.2.2.2.2.1
  have loop : ∀ m j I' v, a + j + m = tn p → am_fr (isS 0) I I' → rS I' 0 p a j → v = lv (tlf p h a j) → am_X l (0, fun _ => 0) (d + 1) y_Layout_lastThatFits P 16 [some (vR (4, 0)), some (vR (7, t)), some (vI (nI a)), some (vI x), some (vI (nI h)), some (vI v), some (vI (nI (a + j)))] [] 0 0 am_G0 I' J := by
    intro m
    induction m with
    | zero =>
      intro j I' v hj hf hs hv
      have hr' : rC I' t p := hr.fr hf (fun c => isS_t)
      refine rn_Layout_lastThatFits 20 ?_
      simp (disch := omega) only [am_z, cq_Layout_lastThatFits, Nat.reduceAdd, hr'.1.2.1, ar_lit, ar_le]
      rw [if_pos (by omega), hv]
      have : j = tn p - a := by omega
      subst this
      exact k I' hf
    | succ m ih =>
      intro j I' v hj hf hs hv
      have hr' : rC I' t p := hr.fr hf (fun c => isS_t)
      refine rn_Layout_lastThatFits 20 ?_
      simp (disch := omega) only [am_z, cq_Layout_lastThatFits, Nat.reduceAdd, hr'.1.2.1, ar_lit, ar_le]
      rw [if_neg (by omega)]
      refine s_take (by omega) hr' hw hs rfl (by omega) (fun I'' hf'' hs'' => ?_)
      simp only [am_z, Nat.reduceAdd]
      refine rn_Layout_lastThatFits 20 ?_
      simp only [am_z, cq_Layout_lastThatFits, Nat.reduceAdd]
      have hl : tlines p a (a + j) ≤ 300 := by
        have := tln_le hw (a := a) (k := a + j + 1 - a) (by omega)
        unfold tlines tcy
        split <;> omega
      refine s_needed (a := a) (b := a + j) (by omega) (by rw [show a + j + 1 - a = j + 1 by omega]; exact hs'') (by omega) ?_
      simp only [am_z, Nat.reduceAdd]
      refine rn_Layout_lastThatFits 20 ?_
      simp (disch := omega) only [am_z, cq_Layout_lastThatFits, Nat.reduceAdd, ar_le]
      by_cases hq : tlines p a (a + j) ≤ h
      · rw [if_pos hq]
        refine s_isIn (by omega) (by omega) ?_
        rw [hx _ (by omega)]
        simp only [am_z, Nat.reduceAdd]
        refine rn_Layout_lastThatFits 20 ?_
        cases ht : tend p (a + j)
        · simp (disch := omega) only [am_z, cq_Layout_lastThatFits, Nat.reduceAdd, ar_lit, b01, Bool.false_eq_true, ↓reduceIte, nI_add]
          refine @ih (j + 1) I'' v (by omega) (hf.tr hf'') hs'' ?_
          rw [hv]
          unfold tlf
          rw [ht, if_neg (by simp)]
          cases j <;> rfl
        · simp (disch := omega) only [am_z, cq_Layout_lastThatFits, Nat.reduceAdd, ar_lit, b01, ↓reduceIte, nI_add, ar_eq, Nat.reduceEqDiff]
          refine @ih (j + 1) I'' _ (by omega) (hf.tr hf'') hs'' ?_
          unfold tlf
          rw [ht, if_pos ⟨rfl, hq⟩]
          rfl
      · rw [if_neg hq, hv]
        have e : tlf p h a j = tlast p h a := by
          unfold tlast
          rw [show tn p - a = j + (m + 1) by omega]
          refine (tlf_stop (m + 1) (fun i h1 h2 => ?_)).symm
          have := tlines_mono hw (a := a) (b := a + j) (by omega) (i - j) (by omega)
          rw [show a + j + (i - j) = a + i by omega] at this
          omega
        rw [e]
        exact k I'' (hf.tr hf'')
  refine en_Layout_lastThatFits 20 (Nat.le_of_ble_eq_true rfl) ?_
  simp only [am_z, cq_Layout_lastThatFits, Nat.reduceAdd]
  refine s_begin (by omega) hr hw (by omega) (fun I' hf hs => ?_)
  simp only [am_z, Nat.reduceAdd]
  refine rn_Layout_lastThatFits 20 ?_
  simp only [am_z, cq_Layout_lastThatFits, Nat.reduceAdd]
  exact @loop (tn p - a) 0 I' _ (by omega) hf hs rfl
theorem lv_none {o : Option Nat} (ho : ∀ b, o = some b → b < 100) : (lv o = -999999) = (o.isNone = true) := by
  cases o with
  | none => simp [lv]
  | some b =>
    have := ho b rfl
    simp only [lv, Option.isNone_some, Bool.false_eq_true, eq_iff_iff, iff_false]
    intro q
    have e : (nI b).toInt = -999999 := by rw [q]; decide +kernel
    rw [nI_toInt (by omega)] at e
    omega
theorem tlast_lt {h a b : Nat} (hw : tW p) (ha : a < tn p) (e : tlast p h a = some b) : b < 100 := by
  have := tlf_some _ e
  have := hw.2.2.2.2.1
  omega
theorem s_lay {h : Nat} (hD : 4 ≤ D) (hr : rC I t p) (hw : tW p) (hh : h < 1000) (k : ∀ I', am_fr isY I I' → rL I' (tpg p h) → P (.inl none) am_G0 I' J) : am_T l D y_Layout_lay [vR (4, 0), vR (7, t), vI (nI h)] am_G0 I J P := by
  obtain ⟨d, rfl⟩ : ∃ d, D = d + 1 := ⟨D - 1, by omega⟩
  have hn := hw.2.2.2.2.1
  refine en_Layout_lay 20 (Nat.le_of_ble_eq_true rfl) ?_
  simp only [am_z, cq_Layout_lay, Nat.reduceAdd]
  refine s_endRows (by omega) hr hw (fun x hx => ?_)
  have loop : ∀ f a L I' a5, L.length + f = 24 → L.length ≤ a → a ≤ tn p → tpg p h = L ++ tpl p h f a → am_fr isY I I' → rL I' L → am_X l (0, fun _ => 0) (d + 1) y_Layout_lay P 18 [some (vR (4, 0)), some (vR (7, t)), some (vI (nI h)), some (vI x), some (vI (nI a)), a5] [] 0 0 am_G0 I' J := by
    intro f
    induction f with
    | zero =>
      intro a L I' a5 hf hL ha he hfr hl
      have hr' : rC I' t p := hr.fr hfr (fun c => isY_t)
      refine rn_Layout_lay 20 ?_
      simp (disch := omega) only [am_z, cq_Layout_lay, Nat.reduceAdd, hr'.1.2.1, hl.1, ar_lit, ar_le]
      rw [if_pos (by omega)]
      refine k I' hfr ?_
      rw [he, tpl_n (by omega), List.append_nil]
      exact hl
    | succ f ih =>
      intro a L I' a5 hf hL ha he hfr hl
      have hr' : rC I' t p := hr.fr hfr (fun c => isY_t)
      have hl24 : L.length < 24 := by omega
      refine rn_Layout_lay 20 ?_
      simp (disch := omega) only [am_z, cq_Layout_lay, Nat.reduceAdd, hr'.1.2.1, hl.1, ar_lit, ar_le]
      by_cases hq : tn p ≤ a
      · rw [if_pos hq]
        refine k I' hfr ?_
        rw [he, tpl_n (by omega), List.append_nil]
        exact hl
      · have hat : a < tn p := by omega
        rw [if_neg hq, if_neg (by omega)]
        refine s_lastThatFits (by omega) hr' hw hx hat hh (fun I'' hf'' => ?_)
        have e4 : I'' (4, 0) = I' (4, 0) := hf'' _ (fun q => by unfold isS at q; simp at q)
        have e21 : I'' (21, 0) = I' (21, 0) := hf'' _ (fun q => by unfold isS at q; simp at q)
        have hl'' : rL I'' L := hl.kept e4 e21
        have hfr'' : am_fr isY I I'' := hfr.tr (hf''.mono (fun c q => by unfold isS at q; rw [q]; exact isY_5))
        have fin : ∀ I3 b o v, b = tnx p h a → o = (tlast p h a).isNone → am_fr isY I I3 → I3 (4, 0) 0 = nI (L.length + 1) → I3 (4, 0) 1 = nI (tov L + b01 o) → I3 (21, 0) = upd (I' (21, 0)) L.length (nI b) → am_X l (0, fun _ => 0) (d + 1) y_Layout_lay P 18 [some (vR (4, 0)), some (vR (7, t)), some (vI (nI h)), some (vI x), some (vI (nI (b + 1))), v] [] 0 0 am_G0 I3 J := by
          intro I3 b o v hb ho hf3 f0 f1 f2
          obtain ⟨g1, g2, _⟩ := tnx_spec (p := p) (h := h) hat
          refine @ih (b + 1) (L ++ [(a, b, o)]) I3 v (by simp; omega) (by simp; omega) (by omega) ?_ hf3 ⟨?_, ?_, fun j hj => ?_⟩
          · rw [he, tpl_c hat, hb, ho]
            simp
          · rw [f0]; simp
          · rw [f1, tov_app]
          · rw [f2, upd_at]
            unfold pgA
            rw [gd_app]
            by_cases q : j = L.length
            · rw [if_pos q, if_neg (by omega), if_pos q]
            · have : j < L.length := by simp at hj; omega
              rw [if_neg q, if_pos this]
              exact hl.2.2 j this
        simp only [am_z, Nat.reduceAdd]
        refine rn_Layout_lay 40 ?_
        simp (disch := omega) only [am_z, cq_Layout_lay, Nat.reduceAdd, lv_none (fun b e => tlast_lt hw hat e)]
        cases hl2 : tlast p h a with
        | none =>
          simp only [Option.isNone_none, ↓reduceIte]
          refine s_firstEnd (p := p) (by omega) hw hx hat ?_
          simp only [am_z, Nat.reduceAdd]
          refine rn_Layout_lay 40 ?_
          simp (disch := omega) only [am_z, cq_Layout_lay, Nat.reduceAdd, am_uE, am_uS, upd_n, upd_e, hl''.1, hl''.2.1, ar_lit, nI_add, ar_in, ar_cl]
          refine ⟨hl24, fin _ _ true _ (by unfold tnx; rw [hl2]; rfl) (by rw [hl2]; rfl) ?_ ?_ ?_ ?_⟩
          · exact am_fr.up (am_fr.up (am_fr.up hfr'' isY_4) isY_21) isY_4
          · rw [am_uE, upd_e]
          · simp (disch := omega) only [am_uE, am_uS, upd_n, upd_e]; rfl
          · simp (disch := omega) only [am_uE, am_uS, e21]
        | some b =>
          simp only [Option.isNone_some, Bool.false_eq_true, ↓reduceIte, lv]
          simp (disch := omega) only [am_uE, am_uS, upd_n, upd_e, hl''.1, hl''.2.1, ar_lit, nI_add, ar_in, ar_cl]
          refine ⟨hl24, fin _ _ false _ (by unfold tnx; rw [hl2]; rfl) (by rw [hl2]; rfl) ?_ ?_ ?_ ?_⟩
          · exact am_fr.up (am_fr.up hfr'' isY_21) isY_4
          · rw [am_uE, upd_e]
          · simp (disch := omega) only [am_uE, am_uS, upd_n, upd_e, hl''.2.1]; rfl
          · simp (disch := omega) only [am_uE, am_uS, e21]
  simp only [am_z, Nat.reduceAdd]
  refine rn_Layout_lay 20 ?_
  simp only [am_z, cq_Layout_lay, Nat.reduceAdd, ar_lit]
  refine @loop 24 0 [] _ _ rfl (Nat.le_refl _) (Nat.zero_le _) rfl (am_fr.up (am_fr.up am_fr.rf isY_4) isY_4) ⟨?_, ?_, fun k hk => absurd hk (Nat.not_lt_zero _)⟩
  · simp (disch := omega) only [am_uE, upd_n, upd_e]; rfl
  · simp (disch := omega) only [am_uE, upd_n, upd_e]; rfl
end LAY
