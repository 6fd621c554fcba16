/-! ===== the class Text: readInto ===== -/
section TX
variable {l : Launch} {D t : Nat} {I : am_I} {J : am_J} {P : am_P} {p : pt_T} {ss : List Nat} {a : Nat}
theorem pcols_ge {r : Nat} : ∀ (k c a : Nat) (p q : pt_T), (pcols ss r k c a p).2 = some q → a ≤ (pcols ss r k c a p).1
  | 0, _, _, _, _, _ => Nat.le_refl _
  | k + 1, c, a, p, q, h => by
    unfold pcols at h ⊢
    split at h
    · rename_i hs
      rw [if_pos hs]
      cases e : (ppair ss (a + 1) 0 99).2 with
      | none => rw [e] at h; cases h
      | some v =>
        rw [e] at h
        simp only at h ⊢
        have := pcols_ge k _ _ _ q h
        rw [(ppair_some e).1] at this ⊢
        omega
    · cases h
theorem ppart_gt {q : pt_T} (h : (ppart ss a p).2 = some q) : a < (ppart ss a p).1 := by
  unfold ppart at h ⊢
  split at h
  · rename_i c
    rw [if_pos c]
    unfold prow at h ⊢
    cases e : (pdig ss (a + 1) 1 6).2 with
    | none => rw [e] at h; cases h
    | some v =>
      rw [e] at h
      simp only at h ⊢
      have := pcols_ge _ _ _ _ q h
      omega
  · rename_i c
    rw [if_neg c]
    split at h
    · rename_i c
      rw [if_pos c]
      exact Nat.lt_succ_self a
    · rename_i c
      rw [if_neg c]
      split at h
      · rename_i c
        rw [if_pos c]
        unfold pnote at h ⊢
        cases e : (pdig ss (a + 1) 1 6).2 with
        | none => rw [e] at h; cases h
        | some v => simp only; omega
      · rename_i c
        rw [if_neg c]
        split at h
        · rename_i c
          rw [if_pos c]
          unfold pnoteH at h ⊢
          cases e : (pdig ss (a + 1) 1 6).2 with
          | none => rw [e] at h; cases h
          | some v =>
            rw [e] at h
            simp only at h ⊢
            cases e2 : (pdig ss (a + 1 + 1) 1 3).2 with
            | none => rw [e2] at h; cases h
            | some w => simp only; omega
        · rename_i c
          rw [if_neg c]
          split at h
          · rename_i c
            rw [if_pos c]
            unfold pspan at h ⊢
            cases e : (ppair ss (a + 1) 0 (tn p - 2)).2 with
            | none => rw [e] at h; cases h
            | some f =>
              rw [e] at h
              simp only at h ⊢
              have g1 := (ppair_some e).1
              cases e2 : (ppair ss (ppair ss (a + 1) 0 (tn p - 2)).1 (f + 1) (tn p - 1)).2 with
              | none => rw [e2] at h; cases h
              | some g =>
                rw [e2] at h
                simp only at h ⊢
                have g2 := (ppair_some e2).1
                cases e3 : (pdig ss (ppair ss (ppair ss (a + 1) 0 (tn p - 2)).1 (f + 1) (tn p - 1)).1 0 1).2 with
                | none => rw [e3] at h; cases h
                | some w => simp only; omega
          · cases h
/-- the answer of a reading -/
def pans (r : Nat × Option pt_T) : Int32 := match r.2 with
  | none => nI r.1
  | some _ => -999999
theorem s_readInto (hD : 5 ≤ D) (h : rX I ss) (h0 : I (17, t) 0 = nI 0) (k : ∀ I' q', am_fr (isXT t) I I' → rT I' ss (ptext ss).1 → rC I' t q' → tW q' → (∀ q, (ptext ss).2 = some q → q' = q) → P (.inl (some (vI (pans (ptext ss))))) am_G0 I' J) : am_T l D y_Text_readInto [vR (8, 0), vR (7, t)] am_G0 I J P := by
  obtain ⟨d, rfl⟩ : ∃ d, D = d + 1 := ⟨D - 1, by omega⟩
  have h160 := h.2.2.1
  have bad : ∀ I' q' j, am_fr (isXT t) I I' → rT I' ss (ptext ss).1 → rC I' t q' → tW q' → (ptext ss).2 = none → am_X l (0, fun _ => 0) (d + 1) y_Text_readInto P 17 [some (vR (8, 0)), some (vR (7, t)), some (vI (nI 0)), some (vI (nI j))] [] 0 0 am_G0 I' J := by
    intro I' q' j hf ht hr hw hn
    refine rn_Text_readInto 40 ?_
    simp (disch := omega) only [am_z, cq_Text_readInto, Nat.reduceAdd, ar_lit, ↓reduceIte, ht.2.1]
    have := k I' q' hf ht hr hw (fun q hq => by rw [hn] at hq; cases hq)
    unfold pans at this
    rw [hn] at this
    exact this
  have loop : ∀ f j a I' q, j + f = 160 → j ≤ a → am_fr (isXT t) I I' → rT I' ss a → rC I' t q → tW q → pall ss f a q = ptext ss → am_X l (0, fun _ => 0) (d + 1) y_Text_readInto P 17 [some (vR (8, 0)), some (vR (7, t)), some (vI (nI 1)), some (vI (nI j))] [] 0 0 am_G0 I' J := by
    intro f
    induction f with
    | zero =>
      intro j a I' q hj hja hf ht hr hw he
      have ha := ht.2.2.2.2.2
      refine rn_Text_readInto 40 ?_
      simp (disch := omega) only [am_z, cq_Text_readInto, Nat.reduceAdd, ar_lit, ar_eq, Nat.reduceEqDiff, ↓reduceIte, ht.1, ht.2.1, ar_le]
      rw [if_pos (by omega)]
      have := k I' q hf (by rw [← he]; exact ht) hr hw (fun q2 hq => by rw [← he] at hq; exact Option.some.inj hq)
      unfold pans at this
      rw [← he] at this
      exact this
    | succ f ih =>
      intro j a I' q hj hja hf ht hr hw he
      have ha := ht.2.2.2.2.2
      refine rn_Text_readInto 40 ?_
      simp (disch := omega) only [am_z, cq_Text_readInto, Nat.reduceAdd, ar_lit, ar_eq, Nat.reduceEqDiff, ↓reduceIte, ht.1, ht.2.1, ar_le]
      unfold pall at he
      by_cases hq : ss.length ≤ a
      · rw [if_pos hq]
        rw [if_neg (by omega)] at he
        have := k I' q hf (by rw [← he]; exact ht) hr hw (fun q2 hq => by rw [← he] at hq; exact Option.some.inj hq)
        unfold pans at this
        rw [← he] at this
        exact this
      · rw [if_neg hq, if_neg (by omega)]
        rw [if_pos (by omega)] at he
        refine s_readPart (by omega) ht hr hw (fun I2 q2 f2 t2 r2 w2 hq2 => ?_)
        simp only [am_z, Nat.reduceAdd]
        refine rn_Text_readInto 40 ?_
        simp only [am_z, cq_Text_readInto, Nat.reduceAdd, ar_lit, nI_add]
        cases e : (ppart ss a q).2 with
        | none =>
          rw [e] at he
          exact bad I2 q2 (j + 1) (hf.tr f2) (by rw [← he]; exact t2) r2 w2 (by rw [← he])
        | some q3 =>
          rw [e] at he
          have := hq2 q3 e
          subst this
          have hgt := ppart_gt e
          exact @ih (j + 1) _ I2 q2 (by omega) (by omega) (hf.tr f2) t2 r2 w2 he
  refine en_Text_readInto 40 (Nat.le_of_ble_eq_true rfl) ?_
  simp only [am_z, cq_Text_readInto, Nat.reduceAdd, ar_lit]
  refine s_makeNew (by omega) (by simp only [am_z]) ?_
  simp only [am_z, Nat.reduceAdd]
  refine rn_Text_readInto 40 ?_
  simp only [am_z, cq_Text_readInto, Nat.reduceAdd]
  have f1 : am_fr (isXT t) I (am_nw (am_upI I (8, 0) 2 (nI 0)) t) := (am_fr.up am_fr.rf (isXT_x isX_i)).tr (am_nw_fr.mono fun c => isXT_t)
  have t1 : rT (am_nw (am_upI I (8, 0) 2 (nI 0)) t) ss 0 := by
    refine rT.frT (I := am_upI I (8, 0) 2 (nI 0)) ?_ am_nw_fr
    obtain ⟨h1, h3, h4, h5⟩ := h
    refine ⟨?_, ?_, ?_, h4, h5, Nat.zero_le _⟩
    · rw [am_uE, upd_n _ _ (by omega)]; exact h1
    · rw [am_uE, upd_e]
    · rw [am_uS _ _ _ _ _ (by omega)]; exact h3
  have r1 : rC (am_nw (am_upI I (8, 0) 2 (nI 0)) t) t tnew := rC.new (by rw [am_uS _ _ _ _ _ (by omega)]; exact h0)
  refine s_readHead (by omega) t1 r1 (fun I2 q2 f2 t2 r2 w2 hq2 => ?_)
  simp only [am_z, Nat.reduceAdd]
  refine rn_Text_readInto 40 ?_
  simp only [am_z, cq_Text_readInto, Nat.reduceAdd, ar_lit]
  have eT : ptext ss = (match (phead ss).2 with
    | none => ((phead ss).1, none)
    | some q => pall ss 160 (phead ss).1 q) := rfl
  cases e : (phead ss).2 with
  | none =>
    rw [e] at eT
    exact bad I2 q2 0 (f1.tr f2) (by rw [eT]; exact t2) r2 w2 (by rw [eT])
  | some q3 =>
    rw [e] at eT
    have := hq2 q3 e
    subst this
    exact @loop 160 0 _ I2 q2 rfl (Nat.zero_le _) (f1.tr f2) t2 r2 w2 eT.symm
end TX
