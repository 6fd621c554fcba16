/-! ===== the law's draw: it reads the script ===== -/
def am_scB (sc : Nat × (Nat → Int32)) (sz : Nat) (D : va_G) (cT : Nat → ClassId) (ad : am_A → Nat) (G : am_G) (I : am_I) (J : am_J) : State → Prop := fun U => am_B sz D cT ad G I J U ∧ va_X (ad (36, 0)) sc.1 sc.2 U U.heap ∧ ad (36, 0) < sz ∧ ¬ va_A (am_ww ad cT G I J) sz (ad (36, 0))
theorem am_blindS {sc : Nat × (Nat → Int32)} {av : List Value} {sz : Nat} {D : va_G} {cT : Nat → ClassId} {ad : am_A → Nat} {G : am_G} {I : am_I} {J : am_J} : FrameBlind (va_Pc av (am_scB sc sz D cT ad G I J)) := by
  intro a U g mk q
  obtain ⟨q0, q1, q2, q3, q4⟩ := q
  have h := am_blind a U g mk (⟨q0, q1⟩ : va_Pc av (am_B sz D cT ad G I J) a U)
  exact ⟨h.1, h.2, va_X.moved (u := U) (U := U.calling g mk a) (Vm.Alike.refl U.vm) q2, q3, q4⟩
theorem am_TS_of {l : Launch} {sc : Nat × (Nat → Int32)} {d y : Nat} {as : List am_V} {G : am_G} {I : am_I} {J : am_J} {P : am_P} (hcf : am_cf y) (hmo0 : am_mo y = 0) (hH : am_mH y = []) (hlen : (as.map am_cat).sum ≤ am_mL y) (h : am_X l sc d y P 0 (am_el (am_mL y) as) [] 0 0 G I J) (hl : l.stackTraces = false) (hw : am_wf G) (hv : ∀ v ∈ as, am_vk G v) (D : va_G) (cT : Nat → ClassId) (ad : am_A → Nat) (sz : Nat) :
    vx_Met l (am_mY y) [am_cw y] (am_rm d y) (va_Pc (as.map (am_cv ad)) (am_scB sc sz D cT ad G I J)) (am_Qc D cT (va_A (am_ww ad cT G I J) sz) ad G P) (am_Xc D cT (va_A (am_ww ad cT G I J) sz) ad G P) (am_mc y) (am_ms y) (va_A (am_ww ad cT G I J) sz) := by
  have hmo : ¬ am_mo y = 2 := by omega
  have h1 : ¬ am_mo y = 1 := by omega
  have body : ∀ (p : Program) (e : Env) (s : State) (m : MethodId) (args : Array Value) (below : List Frame) (meth : Method) (c : Code) (s₁ : State), BodyLoose p l (am_mY y) (headSpec [am_cw y] (am_rm d y)) (am_mB y) (am_mL y) (am_mR y) e s m args below meth c s₁ → c.maxLocals = am_mL y → c.exceptionTable.toList = tableOf (am_mH y) → va_Pc (as.map (am_cv ad)) (am_scB sc sz D cT ad G I J) args s →
      W p l e (headSpec [am_cw y] (am_rm d y)).room s m args below meth c s.heap [] 0 0 (vx_MQ below (am_Qc D cT (va_A (am_ww ad cT G I J) sz) ad G P) (am_Xc D cT (va_A (am_ww ad cT G I J) sz) ad G P) args s (am_mc y) (am_ms y) (va_A (am_ww ad cT G I J) sz)) (entryFrame m args (am_mL y)) := by
    intro p e s m args below meth c s₁ B hml htab hP
    obtain ⟨rfl, ⟨hsz, hP, hK, hD0, hWd, hU, hN⟩, hX1, hX2, hX3⟩ := hP
    subst hsz
    rw [lg_entry_eq]
    have hD := hD0.self (sz := s.heap.size)
    have hloc := lv_entry (as.map (am_cv ad)) (n := am_mL y) (by rw [am_sl_len]; exact hlen)
    have hC : am_C l d y P p (am_rm d y) e s m (as.map (am_cv ad)).toArray below meth c D cT (va_A (am_ww ad cT G I J) s.heap.size) ad G (vx_MQ below (am_Qc D cT (va_A (am_ww ad cT G I J) s.heap.size) ad G P) (am_Xc D cT (va_A (am_ww ad cT G I J) s.heap.size) ad G P) (as.map (am_cv ad)).toArray s (am_mc y) (am_ms y) (va_A (am_ww ad cT G I J) s.heap.size)) :=
      ⟨⟨B.exec, B.bytes, B.returns, hml, findClass_of_methodNamed B.named, B.notSynchronized, (name_of_methodNamed B.named B.method).1⟩, ⟨hWd, hK, fun q hq => Or.inr hq, hU, hN⟩, ⟨hl, Nat.le_refl _, Nat.le_refl _, Nat.le_refl _, Nat.le_refl _⟩, fun _ => ⟨rfl, htab⟩, fun h2 => absurd h2 hmo⟩
    have hlv : lv_has ((lg_sl (as.map (am_cv ad)) ++ List.replicate (am_mL y - (lg_sl (as.map (am_cv ad))).length) Slot.unset).toArray) (am_mL y) (am_cl ad 0 (am_el (am_mL y) as)) := by
      refine ⟨hloc.1, hloc.2.1, fun q hq => hloc.2.2 q ?_⟩
      obtain ⟨j, v, e1, rfl⟩ := am_cl_at ad _ 0 q hq
      exact am_el_in ad _ as 0 j v e1
    have hM : am_M sc y ad G ad cT D (va_A (am_ww ad cT G I J) s.heap.size) s s.heap [] ((lg_sl (as.map (am_cv ad)) ++ List.replicate (am_mL y - (lg_sl (as.map (am_cv ad))).length) Slot.unset).toArray) (am_el (am_mL y) as) [] G I J :=
      ⟨hlv, hP, hD, va_S.rf, hw, (fun _ h => nomatch h), fun i v hi => am_el_vk _ as i v hv hi, fun _ => ⟨hX1, hX2, hX3⟩, fun a ha => ⟨ha, rfl⟩, fun a _ => rfl⟩
    exact h _ _ _ _ _ _ _ _ _ _ _ _ _ _ _ _ _ _ _ hC hM (Nat.zero_le _) (Nat.zero_le _)
  have hcw : [am_cw y] = Cond.code (am_mY y) (am_mB y) (am_mL y) (am_mR y) :: [] := by rw [show am_cw y = _ from if_neg h1]
  refine vx_ofW hcf.2.2.2.1 hcw ?_
  intro p e s m args below meth c s₁ B hml ht hP
  refine body p e s m args below meth c s₁ B hml ?_ hP
  rw [hH]
  exact List.eq_nil_iff_forall_not_mem.mpr fun x hx => ht x hx
/-- what is drawn -/
def drv (sc : Nat × (Nat → Int32)) (k : Int32) : Int32 := (if Int32.ofNat sc.1 ≤ k then 15593401 * k + 10429 else sc.2 k.toNatClampNeg) &&& 2147483647
theorem drv_nn (sc : Nat × (Nat → Int32)) (k : Int32) : ∃ m : Nat, m < 2147483648 ∧ drv sc k = nI m := by
  obtain ⟨j, h1, h2⟩ := pk_andE (if Int32.ofNat sc.1 ≤ k then 15593401 * k + 10429 else sc.2 k.toNatClampNeg) (m := 2147483647) 31 (by decide +kernel)
  exact ⟨j, h1, h2⟩
theorem draw_X {l : Launch} {sc : Nat × (Nat → Int32)} {d : Nat} {G : am_G} {I : am_I} {J : am_J} {P : am_P} {k : Int32} (hn : sc.1 ≤ 260) (hk : ¬ k < 0) (hp : P (.inl (some (vI (drv sc k)))) G I J) : am_X l sc (d + 1) y_L_draw P 0 [some (vR (36, 0)), some (vI k)] [] 0 0 G I J := by
  refine rn_L_draw 40 ?_
  simp only [am_z, cq_L_draw, Nat.reduceAdd, Nat.zero_le, Nat.reduceLeDiff]
  by_cases q : Int32.ofNat sc.1 ≤ k
  · rw [if_pos q]
    unfold drv at hp
    rw [if_pos q] at hp
    exact hp
  · rw [if_neg q]
    unfold drv at hp
    rw [if_neg q] at hp
    refine ⟨?_, hp⟩
    have hk' : ¬ k < 0 := hk
    obtain ⟨m, hm, rfl⟩ := nI_of hk'
    have q' : ¬ nI sc.1 ≤ nI m := q
    rw [ar_le (by omega) (by omega)] at q'
    rw [ar_in (by omega)]
    omega
def am_drw (sc : Nat × (Nat → Int32)) (nx : Nat) : am_S := fun _ X _ ls st kc ks G I J => match st with
  | (.inl k) :: (.inr (.inr a)) :: r => (a = (36, 0) ∧ sc.1 ≤ 260 ∧ ¬ k < 0 ∧ (r.map am_cat).sum ≤ 8) ∧ X nx ls ((.inl (drv sc k)) :: r) kc ks G I J
  | _ => False
theorem drw_e (sc : Nat × (Nat → Int32)) (nx : Nat) (k : Int32) (a : am_A) (r : List am_V) (K X : am_K) (P : am_P) (ls : am_L) (kc ks : Nat) (G : am_G) (I : am_I) (J : am_J) : am_drw sc nx K X P ls (.inl k :: .inr (.inr a) :: r) kc ks G I J = ((a = (36, 0) ∧ sc.1 ≤ 260 ∧ ¬ k < 0 ∧ am_sm r 8) ∧ X nx ls ((.inl (drv sc k)) :: r) kc ks G I J) := by
  rw [← am_sm_eq]
  rfl
theorem ok_drw {l : Launch} {sc : Nat × (Nat → Int32)} {d pc idx : Nat} (h : decode (am_mB y_L_law) pc = .ok (.invokestatic idx, 3)) (hlk : Cond.methodLink (am_mY y_L_law).cls idx (am_mY y_L_draw) ∈ am_tb) (hd : 1 ≤ d) : am_ok l sc (d + 1) y_L_law pc (am_drw sc (pc + 3)) := by
  intro K X P ls st kc ks G I J _ hX hs
  intro p R e s m args below meth c D cT A ad0 G0 Q ad H locs LS hC hM hc hn
  unfold am_drw at hs
  split at hs
  · rename_i k a r
    obtain ⟨⟨rfl, h1, h2, h3⟩, hs⟩ := hs
    have hva : ∀ v ∈ [vR (36, 0), vI k], am_vk G v := by
      intro v hv
      simp only [List.mem_cons, List.not_mem_nil, or_false] at hv
      rcases hv with rfl | rfl
      · exact Or.inr rfl
      · trivial
    have hvr : ∀ v ∈ r, am_vk G v := fun v hv => hM.sok v (List.mem_cons_of_mem _ (List.mem_cons_of_mem _ hv))
    obtain ⟨d0, rfl⟩ : ∃ d0, d = d0 + 1 := ⟨d - 1, by omega⟩
    have hmc : am_mc y_L_draw = 0 := by decide +kernel
    have hms : am_ms y_L_draw = 0 := by decide +kernel
    have hP1 : am_k X P (pc + 3) ls r (kc + am_mc y_L_draw) (ks + am_ms y_L_draw) (.inl (some (vI (drv sc k)))) G I J := by
      rw [hmc, hms]
      exact hs
    have hMet := am_TS_of (l := l) (sc := sc) (d := d0 + 1) (y := y_L_draw) (as := [vR (36, 0), vI k]) cf_L_draw (by decide +kernel) (by decide +kernel) (Nat.le_of_ble_eq_true rfl) (draw_X h1 h2 hP1) hC.2.2.1.1 hM.2.2.2.2.1 hva D cT ad H.size
    have hLS : (F0 m pc LS ((.inl k :: .inr (.inr (36, 0)) :: r).map (am_cv ad))).locals.size = am_mL y_L_law := hM.1.1
    have hW8 : 2 * (F0 m pc LS ((.inl k :: .inr (.inr (36, 0)) :: r).map (am_cv ad))).monitorRoom + ((r.map (am_cv ad)).map fun v => v.category).sum ≤ 8 := by rw [am_cat_sum]; show 2 * 0 + _ ≤ 8; omega
    have hAs : ([vR (36, 0), vI k].map (am_cv ad)).length = am_np y_L_draw := rfl
    have hfit : kc + am_mc y_L_draw ≤ R.cells ∧ ks + am_ms y_L_draw ≤ R.slots := by
      rw [hmc, hms]
      exact ⟨Nat.le_trans hc hC.2.2.1.2.2.2.1, Nat.le_trans hn hC.2.2.1.2.2.2.2⟩
    have hS : CallFix p m c (am_mB y_L_law) (am_mL y_L_law) s args ([] : List Jvm.Cond) (am_mY y_L_law).cls := ⟨hC.1.1, hC.1.2.1, hC.1.2.2.2.1, hC.1.2.2.2.2.1, fun _ h => nomatch h⟩
    obtain ⟨s1, s2, s3⟩ := hM.2.2.2.2.2.2.2.1 (show am_scy y_L_law = true by decide)
    have hpre : PreS s H (va_Pc ([vR (36, 0), vI k].map (am_cv ad)) (am_scB sc H.size D cT ad G I J)) ([vR (36, 0), vI k].map (am_cv ad)) := by
      refine ⟨am_blindS, fun U hU hW => ?_⟩
      obtain ⟨p1, p2⟩ := am_pre (av := [vR (36, 0), vI k].map (am_cv ad)) hC hM U hU hW
      refine ⟨p1, p2, ?_, Nat.lt_of_lt_of_le s2 hM.2.2.2.1.1, fun z => s3 (hM.sub hC.2.1.2.2.1 _ z)⟩
      rw [hU]
      exact va_X.moved hW.alike (s1.kept (hM.2.2.2.1.2.1 _ s2 s3))
    exact am_cont (K := K) (y' := y_L_draw) hX (by decide +kernel) (by decide +kernel) hC hM hvr (by rw [hmc]; exact hc) (by rw [hms]; exact hn) (vx_runS hS hMet ⟨am_callB cf_L_draw (by decide +kernel) hlk hC.2.1.1 hC.2.2.1.2.1 hC.2.2.1.2.2.1 (Or.inl (by decide +kernel)), hC.2.1.1.use cs_L_draw args⟩ hpre rfl hAs hLS rfl hW8 h hfit)
  · exact hs.elim
