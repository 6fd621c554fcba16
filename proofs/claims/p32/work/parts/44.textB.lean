/-! ===== the class Text: parts of a table ===== -/
def isXT (t : Nat) (c : am_A) : Prop := isX c ∨ isT t c
section TX
variable {l : Launch} {D t : Nat} {I : am_I} {J : am_J} {P : am_P} {p : pt_T} {ss : List Nat} {a : Nat}
theorem isT_7 : isT t (7, t) := ⟨rfl, Or.inl rfl⟩
theorem isXT_x {c : am_A} (h : isX c) : isXT t c := Or.inl h
theorem isXT_t {c : am_A} (h : isT t c) : isXT t c := Or.inr h
theorem rC.frX {I' : am_I} (h : rC I t p) (hf : am_fr isX I I') : rC I' t p := h.fr hf fun _ => isX_t
/-- how a reading step ends -/
def pk (P : am_P) (J : am_J) (t : Nat) (ss : List Nat) (I : am_I) (r : Nat × Option pt_T) : Prop := ∀ I' q', am_fr (isXT t) I I' → rT I' ss r.1 → rC I' t q' → tW q' → (∀ q, r.2 = some q → q' = q) → P (.inl (some (vI (nI (b01 r.2.isSome))))) am_G0 I' J
theorem rC.setC {c h e : Nat} (hr : rC I t p) : rC (am_upI (am_upI (am_upI I (7, t) 0 (nI c)) (7, t) 3 (nI h)) (7, t) 4 (nI e)) t (tsetC p c h e) := by
  obtain ⟨⟨h1, h2, h3, h4, h5⟩, hR, hS, hV⟩ := hr
  unfold rC
  simp (disch := omega) only [am_uS, am_uE, upd_n, upd_e]
  exact ⟨⟨rfl, h2, h3, rfl, rfl⟩, hR, hS, hV⟩
theorem s_readHead (hD : 3 ≤ D) (h : rT I ss 0) (hr : rC I t tnew) (k : pk P J t ss I (phead ss)) : am_T l D y_Text_readHead [vR (8, 0), vR (7, t)] am_G0 I J P := by
  obtain ⟨d, rfl⟩ : ∃ d, D = d + 1 := ⟨D - 1, by omega⟩
  unfold phead at k
  refine en_Text_readHead 40 (Nat.le_of_ble_eq_true rfl) ?_
  simp only [am_z, cq_Text_readHead, Nat.reduceAdd, ar_lit]
  refine s_takeSign (by omega) h (by omega) (fun I1 e1 f1 t1 => ?_) (fun e1 => ?_)
  · rw [if_pos e1] at k
    have r1 := hr.frX f1
    simp only [am_z, Nat.reduceAdd]
    refine rn_Text_readHead 40 ?_
    simp (disch := omega) only [am_z, cq_Text_readHead, Nat.reduceAdd, ar_lit, ar_eq, Nat.reduceEqDiff, ↓reduceIte]
    refine s_takeDigit (by omega) t1 (by omega) (by omega) (fun I2 f2 t2 => ?_)
    have r2 := r1.frX f2
    simp only [am_z, Nat.reduceAdd]
    refine rn_Text_readHead 40 ?_
    simp (disch := omega) only [am_z, cq_Text_readHead, Nat.reduceAdd, ar_lit, pdig_pv]
    cases e2 : (pdig ss (0 + 1) 1 4).2 with
    | none =>
      rw [pdig_none e2] at t2
      rw [e2] at k
      simp only [↓reduceIte]
      exact k I2 tnew ((f1.tr f2).mono fun c => isXT_x) t2 r2 tnew_w (fun q hq => by cases hq)
    | some c =>
      obtain ⟨c1, c2, c3, _⟩ := pdig_some e2
      rw [c1] at t2
      rw [e2] at k
      rw [if_neg (by simp)]
      refine s_takePair (by omega) t2 (by omega) (by omega) (fun I3 f3 t3 => ?_)
      have r3 := r2.frX f3
      simp only [am_z, Nat.reduceAdd]
      refine rn_Text_readHead 40 ?_
      simp (disch := omega) only [am_z, cq_Text_readHead, Nat.reduceAdd, ar_lit, ppair_pv]
      simp only at k
      cases e3 : (ppair ss (0 + 1 + 1) 6 40).2 with
      | none =>
        rw [e3] at k
        simp only [↓reduceIte]
        exact k I3 tnew (((f1.tr f2).tr f3).mono fun c => isXT_x) t3 r3 tnew_w (fun q hq => by cases hq)
      | some hh =>
        obtain ⟨d1, d2, d3⟩ := ppair_some e3
        rw [d1] at t3
        rw [e3] at k
        rw [if_neg (by simp)]
        simp only at k
        refine s_takeDigit (by omega) t3 (by omega) (by omega) (fun I4 f4 t4 => ?_)
        have r4 := r3.frX f4
        simp only [am_z, Nat.reduceAdd]
        refine rn_Text_readHead 40 ?_
        simp (disch := omega) only [am_z, cq_Text_readHead, Nat.reduceAdd, ar_lit, pdig_pv]
        cases e4 : (pdig ss (0 + 1 + 1 + 2) 0 4).2 with
        | none =>
          rw [pdig_none e4] at t4
          rw [e4] at k
          simp only [↓reduceIte]
          exact k I4 tnew ((((f1.tr f2).tr f3).tr f4).mono fun c => isXT_x) t4 r4 tnew_w (fun q hq => by cases hq)
        | some ee =>
          obtain ⟨g1, g2, g3, _⟩ := pdig_some e4
          rw [g1] at t4
          rw [e4] at k
          rw [if_neg (by simp)]
          simp only at k
          simp only [pv]
          refine k _ (tsetC tnew c hh ee) ?_ ?_ (rC.setC r4) (tsetC_w tnew_w ⟨c2, c3⟩ ⟨d2, d3⟩ g3) (fun q hq => Option.some.inj hq)
          · exact am_fr.up (am_fr.up (am_fr.up ((((f1.tr f2).tr f3).tr f4).mono fun c => isXT_x) (isXT_t isT_7)) (isXT_t isT_7)) (isXT_t isT_7)
          · refine t4.kept ?_ ?_ <;> simp (disch := omega) only [am_uS]
  · rw [if_neg e1] at k
    simp only [am_z, Nat.reduceAdd]
    refine rn_Text_readHead 40 ?_
    simp (disch := omega) only [am_z, cq_Text_readHead, Nat.reduceAdd, ar_lit, ↓reduceIte]
    exact k I tnew am_fr.rf h hr tnew_w (fun q hq => by cases hq)
theorem s_readNote (hD : 2 ≤ D) (h : rT I ss a) (hr : rC I t p) (hw : tW p) (hn : 1 ≤ tn p) (k : pk P J t ss I (pnote ss a p)) : am_T l D y_Text_readNote [vR (8, 0), vR (7, t)] am_G0 I J P := by
  obtain ⟨d, rfl⟩ : ∃ d, D = d + 1 := ⟨D - 1, by omega⟩
  have h24 := hw.2.2.2.2.1
  unfold pnote at k
  refine en_Text_readNote 40 (Nat.le_of_ble_eq_true rfl) ?_
  simp only [am_z, cq_Text_readNote, Nat.reduceAdd, ar_lit]
  refine s_takeDigit (by omega) h (by omega) (by omega) (fun I2 f2 t2 => ?_)
  have r2 := hr.frX f2
  simp only [am_z, Nat.reduceAdd]
  refine rn_Text_readNote 40 ?_
  simp (disch := omega) only [am_z, cq_Text_readNote, Nat.reduceAdd, ar_lit, pdig_pv]
  cases e2 : (pdig ss a 1 6).2 with
  | none =>
    rw [pdig_none e2] at t2
    rw [e2] at k
    simp only [↓reduceIte]
    exact k I2 p (f2.mono fun c => isXT_x) t2 r2 hw (fun q hq => by cases hq)
  | some c =>
    obtain ⟨c1, c2, c3, _⟩ := pdig_some e2
    rw [c1] at t2
    rw [e2] at k
    rw [if_neg (by simp)]
    simp (disch := omega) only [pv, r2.1.2.1, ar_sub, ar_in, ar_cl]
    refine ⟨by omega, k _ (tsetN p (tn p - 1) c) ?_ ?_ (rC.setN r2 (by omega)) (tsetN_w hw (by omega) c3) (fun q hq => Option.some.inj hq)⟩
    · exact am_fr.up (f2.mono fun c => isXT_x) (isXT_t ⟨rfl, by simp⟩)
    · refine t2.kept ?_ ?_ <;> simp (disch := omega) only [am_uS]
theorem rC.setV {n h : Nat} (hr : rC I t p) (h1 : 1 ≤ n) : rC (am_upI I (17, t) n (nI h)) t (tsetH p (n + 1) h) := by
  obtain ⟨⟨h1, h2, h3, h4, h5⟩, hR, hS, hV⟩ := hr
  unfold tsetH
  rw [if_neg (by omega), if_neg (by omega)]
  unfold rC
  simp (disch := omega) only [am_uS, am_uE]
  refine ⟨⟨h1, h2, h3, h4, h5⟩, hR, hS, fun m hm => ?_⟩
  rw [upd_at]
  show _ = nI (if m = n + 1 - 1 then h else tV p m)
  rw [Nat.add_sub_cancel]
  split
  · rfl
  · exact hV m hm
theorem s_readNoteHeight (hD : 2 ≤ D) (h : rT I ss a) (hr : rC I t p) (hw : tW p) (k : pk P J t ss I (pnoteH ss a p)) : am_T l D y_Text_readNoteHeight [vR (8, 0), vR (7, t)] am_G0 I J P := by
  obtain ⟨d, rfl⟩ : ∃ d, D = d + 1 := ⟨D - 1, by omega⟩
  unfold pnoteH at k
  refine en_Text_readNoteHeight 40 (Nat.le_of_ble_eq_true rfl) ?_
  simp only [am_z, cq_Text_readNoteHeight, Nat.reduceAdd, ar_lit]
  refine s_takeDigit (by omega) h (by omega) (by omega) (fun I2 f2 t2 => ?_)
  have r2 := hr.frX f2
  simp only [am_z, Nat.reduceAdd]
  refine rn_Text_readNoteHeight 40 ?_
  simp (disch := omega) only [am_z, cq_Text_readNoteHeight, Nat.reduceAdd, ar_lit, pdig_pv]
  cases e2 : (pdig ss a 1 6).2 with
  | none =>
    rw [pdig_none e2] at t2
    rw [e2] at k
    simp only [↓reduceIte]
    exact k I2 p (f2.mono fun c => isXT_x) t2 r2 hw (fun q hq => by cases hq)
  | some n =>
    obtain ⟨c1, c2, c3, _⟩ := pdig_some e2
    rw [c1] at t2
    rw [e2] at k
    rw [if_neg (by simp)]
    simp only at k
    refine s_takeDigit (by omega) t2 (by omega) (by omega) (fun I3 f3 t3 => ?_)
    have r3 := r2.frX f3
    simp only [am_z, Nat.reduceAdd]
    refine rn_Text_readNoteHeight 40 ?_
    simp (disch := omega) only [am_z, cq_Text_readNoteHeight, Nat.reduceAdd, ar_lit, pdig_pv]
    cases e3 : (pdig ss (a + 1) 1 3).2 with
    | none =>
      rw [pdig_none e3] at t3
      rw [e3] at k
      simp only [↓reduceIte]
      exact k I3 p ((f2.tr f3).mono fun c => isXT_x) t3 r3 hw (fun q hq => by cases hq)
    | some hh =>
      obtain ⟨d1, d2, d3, _⟩ := pdig_some e3
      rw [d1] at t3
      rw [e3] at k
      rw [if_neg (by simp)]
      simp (disch := omega) only [pv, ar_in, ar_cl]
      refine ⟨by omega, k _ (tsetH p (n + 1) hh) ?_ ?_ (rC.setV r3 c2) (tsetH_w hw ?_) (fun q hq => Option.some.inj hq)⟩
      · exact am_fr.up ((f2.tr f3).mono fun c => isXT_x) (isXT_t ⟨rfl, by simp⟩)
      · refine t3.kept ?_ ?_ <;> simp (disch := omega) only [am_uS]
      · rw [tokH_iff]; omega
end TX
