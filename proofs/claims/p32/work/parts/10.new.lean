/-! ===== the abstract machine: handlers, new cells, a method's entry, runs ===== -/
section AMX
variable {l : Launch} {sc : Nat × (Nat → Int32)} {d y y' pc idx n : Nat}
def am_fnd : List (Nat × Int64) → Nat → Option Int64
  | [], _ => none
  | q :: r, e => if e = q.1 then some q.2 else am_fnd r e
/-- the handler's rows, as the law's own have them: the throw is put away, a number answered -/
def am_hd (y pc e : Nat) (k : Int64) : Prop := ∃ (pre : List (Nat × Nat × Nat × Nat)) (x : Nat × Nat × Nat × Nat) (suf : List (Nat × Nat × Nat × Nat)), am_mH y = pre ++ x :: suf ∧ (x.1 ≤ pc ∧ pc < x.2.1) ∧ x.2.2.2 ≠ 0 ∧ Cond.classLink (am_mY y).cls x.2.2.2 (am_en e) ∈ am_tb ∧ Cond.castable (am_en e) (am_en e) ∈ am_tb ∧
  (∀ z ∈ pre, z.2.2.2 ≠ 0 ∧ ∃ e' : Nat, Cond.classLink (am_mY y).cls z.2.2.2 (am_en e') ∈ am_tb ∧ (am_en e, am_en e') ∈ am_nc) ∧
  (∃ w : Nat, ((∃ i : Fin 4, decode (am_mB y) x.2.2.1 = .ok (.astore_n i, 1) ∧ w = 1 ∧ (i : Nat) < am_mL y) ∨ ∃ i : Nat, decode (am_mB y) x.2.2.1 = .ok (.astore i, 2) ∧ w = 2 ∧ i < am_mL y) ∧ (∃ v : Nat, decode (am_mB y) (x.2.2.1 + w) = .ok (.ldc2_w v, 3) ∧ Cond.constantLong (am_mY y).cls v k ∈ am_tb) ∧ decode (am_mB y) (x.2.2.1 + w + 3) = .ok (.lreturn, 1)) ∧ am_mR y = some .long
theorem am_hd_ok {P : am_P} {p : Program} {R : Room} {e : Env} {s : State} {m : MethodId} {args : Array Value} {below : List Frame} {meth : Method} {c : Code} {D : va_G} {cT : Nat → ClassId} {A : Nat → Prop} {ad0 ad : am_A → Nat} {G0 G : am_G} {Q : State → Prop} {H : Heap} {locs : List Loc} {LS : Array Slot} {ls : am_L} {st : List am_V} {I : am_I} {J : am_J} {kc ks : Nat} {q : Addr} {ce : Cell} {k : Int64} {rest : List Value} (hh : am_hd y pc n k) (hC : am_C l d y P p R e s m args below meth c D cT A ad0 G0 Q) (hmo : ¬ am_mo y = 2) (hM : am_M sc y ad0 G0 ad cT D A s H locs LS ls st G I J) (hc : kc ≤ am_mc y) (hn : ks ≤ am_ms y) (hp : P (.inl (some (.inr (.inl k)))) G I J) (hce : H[q]? = some ce) (hcv : ce.vm = .none) (hcl : s.vm.findClass (am_en n) = some ce.cls) :
    vx_W p l e R s m args below meth c H locs kc ks Q (F0 m pc LS rest) q := by
  obtain ⟨pre, x, suf, htb, hcov, hx0, hlk, hca, hpre, ⟨w, hst, ⟨v, hd1, hv⟩, hd2⟩, hr⟩ := hh
  obtain ⟨hQ, htab⟩ := hC.2.2.2.1 hmo
  have hsplit : c.exceptionTable.toList = tableOf pre ++ (⟨x.1, x.2.1, x.2.2.1, x.2.2.2⟩ : ExceptionTableEntry) :: tableOf suf := by
    rw [htab, htb]
    simp [tableOf]
  have hend : ∀ LS' : Array Slot, W p l e R s m args below meth c H locs kc ks Q (F0 m (x.2.2.1 + w) LS' []) := by
    intro LS'
    refine lv_ldc2 hC.1.1 hC.1.2.1 hC.1.2.2.2.2.1 (hC.2.1.1.use hv args) hd1 ?_
    rw [hQ]
    refine vx_ret (W.widen hc hn ?_)
    exact W.lret hC.1.1 hC.1.2.1 (hC.1.2.2.1.trans hr) (am_retQ (v := some (vL k)) hM hp (fun w hw => by cases hw; exact trivial)) hM.2.2.2.1.2.2 hd2 hC.1.2.2.2.2.2.1
  refine vx_catch (E := am_en n) (name := am_en n) hC.1.2.2.2.2.1 (tableOf pre) ⟨x.1, x.2.1, x.2.2.1, x.2.2.2⟩ (tableOf suf) hsplit ?_ ?_ hx0 (hC.2.1.1.use hlk args) (hC.2.1.1.use hca args) hce hcv hcl ?_
  · intro z hz
    obtain ⟨q, hq, rfl⟩ := List.mem_map.mp hz
    obtain ⟨hz0, e', hl1, hn1⟩ := hpre q hq
    exact Or.inr ⟨hz0, am_en e', hC.2.1.1.use hl1 args, hC.2.1.1.2.2.2 _ hn1⟩
  · simp [covers, hcov.1, hcov.2]
  · rcases hst with ⟨i, hd0, rfl, hi⟩ | ⟨i, hd0, rfl, hi⟩
    · exact lv_astore_n hC.1.1 hC.1.2.1 hd0 rfl hM.1 hi rfl (fun LS' _ => hend LS')
    · exact lv_astore hC.1.1 hC.1.2.1 hd0 hM.1 hi rfl (fun LS' _ => hend LS')
def am_kH (X : am_K) (P : am_P) (hs : List (Nat × Int64)) (nx : Nat) (ls : am_L) (r : List am_V) (kc ks : Nat) : am_P := fun o G I J => match o with
  | .inl none => X nx ls r kc ks G I J
  | .inl (some v) => X nx ls (v :: r) kc ks G I J
  | .inr n => match am_fnd hs n with
    | some k => P (.inl (some (.inr (.inl k)))) G I J
    | none => False
/-- a call within the reach of handlers -/
def am_callH (l : Launch) (d y y' : Nat) (rc : Option Nat) (n : Nat) (hs : List (Nat × Int64)) (nx : Nat) : am_S := fun _ X P ls st kc ks G I J =>
  (n ≤ st.length ∧ ((st.drop n).map am_cat).sum ≤ 8 ∧ am_rc rc (st.take n).reverse ∧ kc + am_mc y' ≤ am_mc y ∧ ks + am_ms y' ≤ am_ms y) ∧
  am_T l d y' (st.take n).reverse G I J (am_kH X P hs nx ls (st.drop n) (kc + am_mc y') (ks + am_ms y'))
theorem ok_callH {ci : Nat} {hs0 : List (Nat × Int64)} (h : decode (am_mB y) pc = .ok (.invokevirtual idx, 3)) (hcf : am_cf y') (hmo : ¬ am_mo y' = 1) (hlk : Cond.methodLink (am_mY y).cls idx (am_mY y') ∈ am_tb) (hin : Cond.instanceMethod (am_mY y') ∈ am_tb) (hse : Cond.selects (am_mY y').cls (am_mY y') (am_mY y') ∈ am_tb) (hci : ci < 10 ∧ (am_mY y').cls = am_cN ci) (hnp : n = am_np y' + 1) (hy : ¬ am_mo y = 2) (hml : am_mL y' ≤ 16 ∨ 9 ≤ d) (hh : ∀ (e : Nat) (k : Int64), am_fnd hs0 e = some k → am_hd y pc e k) : am_ok l sc (d + 1) y pc (am_callH l d y y' (some ci) n hs0 (pc + 3)) := by
  intro K X P ls st kc ks G I J _ hX hs
  intro p R e s m args below meth c D cT A ad0 G0 Q ad H locs LS hC hM hc hn
  obtain ⟨⟨h1, h2, h3, h4, h5⟩, hT⟩ := hs
  obtain ⟨hva, hvr⟩ := am_vsplit n hM.sok
  have hMet := hT hC.2.2.1.1 hM.2.2.2.2.1 hva D cT ad H.size
  have hlen : ((st.take n).reverse).length = n := by rw [List.length_reverse, List.length_take]; omega
  have hst := am_stk (ad := ad) (st := st) n
  generalize (st.take n).reverse = as at h3 hMet hva hst hlen
  match as, h3, hMet, hva, hst, hlen with
  | [], h3, _, _, _, _ => exact h3.elim
  | .inl _ :: _, h3, _, _, _, _ => exact h3.elim
  | .inr (.inl _) :: _, h3, _, _, _, _ => exact h3.elim
  | .inr (.inr a) :: As, h3, hMet, hva, hst, hlen =>
    have h3 : a.1 = ci := h3
    have haG : a ∈ G.1 := (List.forall_mem_cons.mp hva).1.resolve_right (by omega)
    have hrecv := am_recv hC.2.1.2.1 hM.2.1 haG h3 hci.1
    rw [← hci.2] at hrecv
    have hLS : (F0 m pc LS (st.map (am_cv ad))).locals.size = am_mL y := hM.1.1
    have hW8 : 2 * (F0 m pc LS (st.map (am_cv ad))).monitorRoom + (((st.drop n).map (am_cv ad)).map fun v => v.category).sum ≤ 8 := by rw [am_cat_sum]; show 2 * 0 + _ ≤ 8; omega
    have hAs : (As.map (am_cv ad)).length = am_np y' := by rw [List.length_map]; simp only [List.length_cons] at hlen; omega
    have hstk : st.map (am_cv ad) = (As.map (am_cv ad)).reverse ++ .ref (ad a) :: (st.drop n).map (am_cv ad) := by
      rw [hst]
      simp [am_cv]
    have hfit : kc + am_mc y' ≤ R.cells ∧ ks + am_ms y' ≤ R.slots := ⟨Nat.le_trans h4 hC.2.2.1.2.2.2.1, Nat.le_trans h5 hC.2.2.1.2.2.2.2⟩
    have hS : CallFix p m c (am_mB y) (am_mL y) s args ([] : List Jvm.Cond) (am_mY y).cls := ⟨hC.1.1, hC.1.2.1, hC.1.2.2.2.1, hC.1.2.2.2.2.1, fun _ h => nomatch h⟩
    have hpre : PreV s H (am_mY y').cls (ad a) (va_Pc ((vR a :: As).map (am_cv ad)) (am_B H.size D cT ad G I J)) (As.map (am_cv ad)) := ⟨am_blind, hrecv, am_pre hC hM⟩
    refine am_aft hC.2.1.2.2.1 hM (st.drop n) hvr (vx_runV hS hMet ⟨am_callB hcf hmo hlk hC.2.1.1 hC.2.2.1.2.1 hC.2.2.1.2.2.1 hml, hC.2.1.1.use hin args, hC.2.1.1.use hse args⟩ hpre rfl hAs hLS hstk hW8 h hfit) ?_ ?_
    · intro v G' I' J' ad' H' locs' hp hM'
      rcases v with _ | v
      · exact hX _ _ _ _ _ _ _ _ hp _ _ _ _ _ _ _ _ _ _ _ _ _ _ _ _ _ _ _ hC hM' h4 h5
      · exact hX _ _ _ _ _ _ _ _ hp _ _ _ _ _ _ _ _ _ _ _ _ _ _ _ _ _ _ _ hC hM' h4 h5
    · intro n' G' I' J' ad' H' locs' q ce g1 g3 hp hM' hce hcv hcl
      have hp : (match am_fnd hs0 n' with
        | some k => P (.inl (some (.inr (.inl k)))) G' I' J'
        | none => False) := hp
      split at hp
      · rename_i k hk
        exact am_hd_ok (hh n' k hk) hC hy hM' h4 h5 hp hce hcv hcl
      · exact hp.elim
/-! new cells: the prover names them -/
def am_nG (G : am_G) (a : am_A) : am_G := (G.1 ++ [a], fun b k => if b = a then none else G.2 b k)
def am_nI (I : am_I) (a : am_A) : am_I := fun b => if b = a then fun _ => 0 else I b
def am_nJ (J : am_J) (a : am_A) : am_J := fun b => if b = a then fun _ => 0 else J b
def am_nad (ad : am_A → Nat) (a : am_A) (q : Nat) : am_A → Nat := fun b => if b = a then q else ad b
theorem am_nwf {G : am_G} {a : am_A} (h : am_wf G) (ha : a.1 < 36) : am_wf (am_nG G a) := by
  refine ⟨fun b hb => ?_, fun b hb k c hc => ?_⟩
  · rcases List.mem_append.mp hb with hb | hb
    · exact h.1 b hb
    · rw [List.mem_singleton.mp hb]; exact ha
  · have hc : (if b = a then none else G.2 b k) = some c := hc
    split at hc
    · cases hc
    · rename_i hba
      rcases List.mem_append.mp hb with hb | hb
      · exact List.mem_append_left _ (h.2 b hb k c hc)
      · exact absurd (List.mem_singleton.mp hb) hba
theorem am_nxt {G : am_G} {a : am_A} {ad : am_A → Nat} {q : Nat} (ha : a ∉ G.1) (h36 : a.1 < 36) : am_xt ad G (am_nad ad a q) (am_nG G a) :=
  ⟨fun b hb => ⟨List.mem_append_left _ hb, if_neg (fun e : b = a => ha (e ▸ hb))⟩, fun b hb => if_neg (fun e : b = a => by rw [e] at hb; omega)⟩
theorem am_nww {G : am_G} {a : am_A} {ad : am_A → Nat} {q : Nat} {cT : Nat → ClassId} {I : am_I} {J : am_J} {x : va_E} (hw : am_wf G) (ha : a ∉ G.1) (hx : am_ce (am_nad ad a q) cT (am_nG G a) (am_nI I a) (am_nJ J a) a = x) :
    am_ww ad cT G I J ++ [(q, x)] = am_ww (am_nad ad a q) cT (am_nG G a) (am_nI I a) (am_nJ J a) := by
  have e1 : (G.1.map fun b => (ad b, am_ce ad cT G I J b)) = G.1.map fun b => (am_nad ad a q b, am_ce (am_nad ad a q) cT (am_nG G a) (am_nI I a) (am_nJ J a) b) := by
    refine List.map_congr_left fun b hb => ?_
    have hba : ¬ b = a := fun e => ha (e ▸ hb)
    have g1 : am_nad ad a q b = ad b := if_neg hba
    have g2 : am_nI I a b = I b := if_neg hba
    have g3 : am_nJ J a b = J b := if_neg hba
    have g4 : ∀ k, ((am_nG G a).2 b k).map (am_nad ad a q) = (G.2 b k).map ad := by
      intro k
      have e0 : (am_nG G a).2 b k = G.2 b k := if_neg hba
      rw [e0]
      cases hk : G.2 b k with
      | none => rfl
      | some z =>
        have hza : ¬ z = a := fun e => ha (e ▸ hw.2 b hb k z hk)
        show some (am_nad ad a q z) = some (ad z)
        rw [show am_nad ad a q z = ad z from if_neg hza]
    rw [g1]
    refine congrArg (Prod.mk (ad b)) ?_
    unfold am_ce
    simp only [g2, g3, g4]
  show (G.1.map fun b => (ad b, am_ce ad cT G I J b)) ++ [(q, x)] = (G.1 ++ [a]).map fun b => (am_nad ad a q b, am_ce (am_nad ad a q) cT (am_nG G a) (am_nI I a) (am_nJ J a) b)
  rw [List.map_append, List.map_singleton, e1, hx]
  rw [show am_nad ad a q a = q from if_pos rfl]
def am_new (y ci nx : Nat) : am_S := fun K _ _ ls st kc ks G I J => kc + 1 ≤ am_mc y ∧ ks + am_cn ci ≤ am_ms y ∧ ∃ n : Nat, (ci, n) ∉ G.1 ∧ K nx ls (vR (ci, n) :: st) (kc + 1) (ks + am_cn ci) (am_nG G (ci, n)) (am_nI I (ci, n)) (am_nJ J (ci, n))
theorem am_dflt : ∀ ci, ci < 10 → ∀ k, k < am_cn ci → defaultValue (am_ty ci k) = (if am_fk ci k = 2 then Value.null else .int 0) := by decide +kernel
theorem ok_new {ci : Nat} (h : decode (am_mB y) pc = .ok (.new idx, 3)) (hlk : Cond.classLink (am_mY y).cls idx (am_cN ci) ∈ am_tb) (hci : ci < 10) : am_ok l sc d y pc (am_new y ci (pc + 3)) := by
  intro K X P ls st kc ks G I J hK _ hs
  intro p R e s m args below meth c D cT A ad0 G0 Q ad H locs LS hC hM hc hn
  obtain ⟨h1, h2, k, hk, hs⟩ := hs
  have hc10 : ((ci, k) : am_A).1 < 10 := hci
  refine va_new (fs := (List.range (am_cn ci)).map fun k => if am_fk ci k = 2 then Value.null else .int 0) hC.1.1 hC.1.2.1 (fun w hw => hC.2.1.1.use hw args) (am_hin ci hci) (am_ty ci) (am_hty ci hci) hC.1.2.2.2.2.1 (hC.2.1.1.use hlk args) (hC.2.1.1.use (am_hic ci hci).1 args) (hC.2.1.1.use (am_hic ci hci).2 args) hC.2.1.2.1 hM.2.1 hM.2.2.1 hM.2.2.2.1 hC.2.1.2.2.1 (am_cls_at ci hci) ?_ (Nat.le_trans h1 hC.2.2.1.2.2.2.1) (Nat.le_trans h2 hC.2.2.1.2.2.2.2) h ?_
  · intro j hj
    rw [am_dflt ci hci j hj]
    unfold vp_V
    rw [List.getD_eq_getElem?_getD, am_fs_at hj]
    rfl
  · intro q H1 hP1 hD1 hS1
    rw [am_nww (a := (ci, k)) hM.2.2.2.2.1 hk (by
      rw [am_ce_o hc10]
      refine congrArg (fun f => Sum.inr (ci, (List.range (am_cn ci)).map f)) ?_
      funext j
      simp [am_nG, am_nI, va_rf])] at hP1 hD1
    have hx := am_nxt (ad := ad) (q := q) hk (show ((ci, k) : am_A).1 < 36 by show ci < 36; omega)
    have hv := hM.sok
    have hvs : ∀ v ∈ vR (ci, k) :: st, am_vk (am_nG G (ci, k)) v := List.forall_mem_cons.mpr ⟨Or.inl (List.mem_append_right _ (List.mem_singleton_self _)), fun v h => am_vk_xt hx (hv v h)⟩
    have hk := hK _ _ _ _ _ _ _ _ hs _ _ _ _ _ _ _ _ _ _ _ _ _ _ _ _ _ _ _ hC (hM.go hx hP1 hD1 (am_nwf hM.2.2.2.2.1 (show ((ci, k) : am_A).1 < 36 by show ci < 36; omega)) hS1 hvs) h1 h2
    rw [List.map_cons, am_map_xt hx hv, show am_cv (am_nad ad (ci, k) q) (vR (ci, k)) = .ref q from congrArg Value.ref (if_pos rfl)] at hk
    exact hk
theorem am_an_le : ∀ s : Nat, am_an s ≤ 4000 := by
  intro s
  by_cases q : s < 37
  · have : ∀ s : Nat, s < 37 → am_an s ≤ 4000 := by decide +kernel
    exact this s q
  · have e2 : am_anl[s]? = none := by
      rw [List.getElem?_eq_none_iff]
      have : am_anl.length = 37 := by decide +kernel
      omega
    unfold am_an
    rw [List.getD_eq_getElem?_getD, e2]
    exact Nat.zero_le _
def am_newa (y t nx : Nat) : am_S := fun K _ _ ls st kc ks G I J => match st with
  | (.inl x) :: r => ∃ a : am_A, (am_at a.1 = t ∧ ¬ x < 0 ∧ x.toNatClampNeg = am_an a.1) ∧ (kc + 1 ≤ am_mc y ∧ ks + am_an a.1 ≤ am_ms y) ∧ a ∉ G.1 ∧ K nx ls (vR a :: r) (kc + 1) (ks + am_an a.1) (am_nG G a) (am_nI I a) (am_nJ J a)
  | _ => False
theorem am_newa_go {K : am_K} {P : am_P} {p : Program} {R : Room} {e : Env} {s : State} {m : MethodId} {args : Array Value} {below : List Frame} {meth : Method} {c : Code} {D : va_G} {cT : Nat → ClassId} {A : Nat → Prop} {ad0 ad : am_A → Nat} {G0 G : am_G} {Q : State → Prop} {H : Heap} {locs : List Loc} {LS : Array Slot} {ls : am_L} {st r : List am_V} {I : am_I} {J : am_J} {kc ks nx : Nat} {a : am_A} {t : Nat} {a0 : vp_A}
    (hK : ∀ pc ls st kc ks G I J, K pc ls st kc ks G I J → am_X l sc d y P pc ls st kc ks G I J) (hC : am_C l d y P p R e s m args below meth c D cT A ad0 G0 Q) (hM : am_M sc y ad0 G0 ad cT D A s H locs LS ls st G I J) (hvr : ∀ v ∈ r, am_vk G v) (ht : t < 5) (hat : am_at a.1 = t) (ha : a ∉ G.1) (h1 : kc + 1 ≤ am_mc y) (h2 : ks + am_an a.1 ≤ am_ms y) (hs : K nx ls (vR a :: r) (kc + 1) (ks + am_an a.1) (am_nG G a) (am_nI I a) (am_nJ J a))
    (hce : ∀ q : Nat, am_ce (am_nad ad a q) cT (am_nG G a) (am_nI I a) (am_nJ J a) a = .inl (cT t, a0)) :
    ∀ (q : Nat) (cA : ClassId) (H1 : Heap), va_K D am_cls (am_tys cT ++ [(cA, am_aty t)]) s → va_P D am_cls (am_ww ad cT G I J ++ [(q, .inl (cA, a0))]) H1 → va_D A (am_ww ad cT G I J ++ [(q, .inl (cA, a0))]) → va_S A s.heap H1 locs →
      W p l e R s m args below meth c H1 locs (kc + 1) (ks + am_an a.1) Q (F0 m nx LS (.ref q :: r.map (am_cv ad))) := by
  intro q cA H1 hK1 hP1 hD1 hS1
  have h36 := am_at_small a.1 (by omega)
  have hcA : cA = cT t := by
    have g1 := (hK1.2 t (cT t, am_aty t) (by rw [List.getElem?_append_left (by show t < 5; exact ht)]; exact am_ty_at cT t ht)).2
    have g2 := (hK1.2 5 (cA, am_aty t) (by rw [List.getElem?_append_right (by show 5 ≤ 5; exact Nat.le_refl _)]; rfl)).2
    match t, ht with
    | 0, _ => exact Option.some.inj (g2.symm.trans g1)
    | 1, _ => exact Option.some.inj (g2.symm.trans g1)
    | 2, _ => exact Option.some.inj (g2.symm.trans g1)
    | 3, _ => exact Option.some.inj (g2.symm.trans g1)
    | 4, _ =>
      obtain ⟨_, _, _, _, _, f1⟩ := g1
      obtain ⟨_, _, _, _, _, f2⟩ := g2
      exact Option.some.inj (f2.symm.trans f1)
    | k + 5, h => exact absurd h (by omega)
  subst hcA
  rw [am_nww hM.2.2.2.2.1 ha (hce q)] at hP1 hD1
  have hx := am_nxt (ad := ad) (q := q) ha h36.2
  have hvs : ∀ v ∈ vR a :: r, am_vk (am_nG G a) v := List.forall_mem_cons.mpr ⟨Or.inl (List.mem_append_right _ (List.mem_singleton_self _)), fun v h => am_vk_xt hx (hvr v h)⟩
  have hk := hK _ _ _ _ _ _ _ _ hs _ _ _ _ _ _ _ _ _ _ _ _ _ _ _ _ _ _ _ hC (hM.go hx hP1 hD1 (am_nwf hM.2.2.2.2.1 h36.2) hS1 hvs) h1 h2
  rw [List.map_cons, am_map_xt hx hvr, show am_cv (am_nad ad a q) (vR a) = .ref q from congrArg Value.ref (if_pos rfl)] at hk
  exact hk
theorem ok_newa {atype : ArrayType} {t : Nat} (h : decode (am_mB y) pc = .ok (.newarray atype, 2)) (harr : Cond.arrayClass (newarray.typeOf atype) ∈ am_tb) (ht : t < 3 ∧ newarray.typeOf atype = am_aty t) : am_ok l sc d y pc (am_newa y t (pc + 2)) := by
  intro K X P ls st kc ks G I J hK _ hs
  unfold am_newa at hs
  split at hs
  · rename_i x r
    intro p R e s m args below meth c D cT A ad0 G0 Q ad H locs LS hC hM hc hn
    have hv := hM.sok
    simp only [List.forall_mem_cons] at hv
    obtain ⟨a, ⟨hat, hx0, hxn⟩, ⟨h1, h2⟩, ha, hs⟩ := hs
    have hce : ∀ q : Nat, am_ce (am_nad ad a q) cT (am_nG G a) (am_nI I a) (am_nJ J a) a = .inl (cT t, (am_an a.1, .inl (fun _ => 0))) := fun q => by
      rw [am_ce_i hat ht.1]
      simp [am_nI]
    have hdef : ∀ t, t < 3 → defaultValue (am_aty t) = .int 0 ∧ componentBytes (am_aty t) ≤ 4 := by decide +kernel
    have hle := am_an_le a.1
    refine va_newa (a0 := (am_an a.1, .inl (fun _ => 0))) hC.1.1 hC.1.2.1 (hC.2.1.1.use harr args) ht.2 hC.2.1.2.1 hM.2.1 hM.2.2.1 hM.2.2.2.1 hC.2.1.2.2.1 (fun cA => ?_) hx0 hxn ?_ (Nat.le_trans h1 hC.2.2.1.2.2.2.1) (Nat.le_trans h2 hC.2.2.1.2.2.2.2) h (am_newa_go hK hC hM hv.2 (by omega) hat ha h1 h2 hs hce)
    · rw [(hdef t ht.1).1]; rfl
    · have := (hdef t ht.1).2
      have h3 : am_an a.1 * componentBytes (am_aty t) ≤ 4000 * 4 := Nat.mul_le_mul hle this
      exact Nat.le_trans h3 (Nat.le_of_ble_eq_true rfl)
  · exact hs.elim
theorem ok_newq (h : decode (am_mB y) pc = .ok (.anewarray idx, 3)) (hlk : Cond.classLink (am_mY y).cls idx "TablePager$Table" ∈ am_tb) : am_ok l sc d y pc (am_newa y 4 (pc + 3)) := by
  intro K X P ls st kc ks G I J hK _ hs
  unfold am_newa at hs
  split at hs
  · rename_i x r
    intro p R e s m args below meth c D cT A ad0 G0 Q ad H locs LS hC hM hc hn
    have hv := hM.sok
    simp only [List.forall_mem_cons] at hv
    obtain ⟨a, ⟨hat, hx0, hxn⟩, ⟨h1, h2⟩, ha, hs⟩ := hs
    have hce : ∀ q : Nat, am_ce (am_nad ad a q) cT (am_nG G a) (am_nI I a) (am_nJ J a) a = .inl (cT 4, (am_an a.1, .inr (.inr (.inr (.inr (fun _ => none)))))) := fun q => by
      rw [am_ce_q hat]
      simp [am_nG]
    have hle := am_an_le a.1
    refine va_newq hC.1.1 hC.1.2.1 hC.1.2.2.2.2.1 (hC.2.1.1.use hlk args) hC.2.1.1.2.1 hC.2.1.2.1 hM.2.1 hM.2.2.1 hM.2.2.2.1 hC.2.1.2.2.1 hx0 hxn ?_ (Nat.le_trans h1 hC.2.2.1.2.2.2.1) (Nat.le_trans h2 hC.2.2.1.2.2.2.2) h (am_newa_go (t := 4) hK hC hM hv.2 (by omega) hat ha h1 h2 hs hce)
    exact Nat.le_trans (Nat.mul_le_mul hle (Nat.le_refl 4)) (Nat.le_of_ble_eq_true rfl)
  · exact hs.elim
/-! a method's entry -/
def am_el : Nat → List am_V → am_L
  | 0, _ => []
  | n + 1, [] => none :: am_el n []
  | n + 1, .inl x :: r => some (.inl x) :: am_el n r
  | n + 1, .inr (.inr a) :: r => some (.inr (.inr a)) :: am_el n r
  | n + 2, .inr (.inl x) :: r => some (.inr (.inl x)) :: none :: am_el n r
  | 1, .inr (.inl _) :: _ => [none]
theorem am_el_nil : ∀ (n j : Nat), am_lg (am_el n []) j = none
  | 0, _ => rfl
  | n + 1, 0 => rfl
  | n + 1, j + 1 => am_el_nil n j
theorem am_el_in (ad : am_A → Nat) : ∀ (n : Nat) (as : List am_V) (k j : Nat) (v : am_V), am_lg (am_el n as) j = some v → (k + j, am_cv ad v) ∈ lv_args k (as.map (am_cv ad))
  | 0, _, _, _, _, h => by simp [am_el, am_lg] at h
  | n + 1, [], _, j, _, h => by rw [am_el_nil] at h; cases h
  | n + 1, .inl x :: r, k, 0, v, h => by
    have e : vI x = v := Option.some.inj h
    rw [← e]
    exact List.mem_cons_self
  | n + 1, .inl x :: r, k, j + 1, v, h => by
    have := am_el_in ad n r (k + 1) j v h
    rw [show k + (j + 1) = k + 1 + j by omega]
    exact List.mem_cons_of_mem _ this
  | n + 1, .inr (.inr a) :: r, k, 0, v, h => by
    have e : vR a = v := Option.some.inj h
    rw [← e]
    exact List.mem_cons_self
  | n + 1, .inr (.inr a) :: r, k, j + 1, v, h => by
    have := am_el_in ad n r (k + 1) j v h
    rw [show k + (j + 1) = k + 1 + j by omega]
    exact List.mem_cons_of_mem _ this
  | n + 2, .inr (.inl x) :: r, k, 0, v, h => by
    have e : vL x = v := Option.some.inj h
    rw [← e]
    exact List.mem_cons_self
  | n + 2, .inr (.inl x) :: r, k, 1, v, h => by simp [am_el, am_lg] at h
  | n + 2, .inr (.inl x) :: r, k, j + 2, v, h => by
    have := am_el_in ad n r (k + 2) j v h
    rw [show k + (j + 2) = k + 2 + j by omega]
    exact List.mem_cons_of_mem _ this
  | 1, .inr (.inl x) :: r, k, 0, v, h => by simp [am_el, am_lg] at h
  | 1, .inr (.inl x) :: r, k, j + 1, v, h => by simp [am_el, am_lg] at h
theorem am_el_vk {G : am_G} : ∀ (n : Nat) (as : List am_V) (j : Nat) (v : am_V), (∀ v ∈ as, am_vk G v) → am_lg (am_el n as) j = some v → am_vk G v
  | 0, _, _, _, _, h => by simp [am_el, am_lg] at h
  | n + 1, [], j, _, _, h => by rw [am_el_nil] at h; cases h
  | n + 1, .inl x :: r, 0, v, _, h => by
    have e : vI x = v := Option.some.inj h
    rw [← e]; exact trivial
  | n + 1, .inl x :: r, j + 1, v, hv, h => am_el_vk n r j v (List.forall_mem_cons.mp hv).2 h
  | n + 1, .inr (.inr a) :: r, 0, v, hv, h => by
    have e : vR a = v := Option.some.inj h
    rw [← e]; exact (List.forall_mem_cons.mp hv).1
  | n + 1, .inr (.inr a) :: r, j + 1, v, hv, h => am_el_vk n r j v (List.forall_mem_cons.mp hv).2 h
  | n + 2, .inr (.inl x) :: r, 0, v, _, h => by
    have e : vL x = v := Option.some.inj h
    rw [← e]; exact trivial
  | n + 2, .inr (.inl x) :: r, 1, v, _, h => by simp [am_el, am_lg] at h
  | n + 2, .inr (.inl x) :: r, j + 2, v, hv, h => am_el_vk n r j v (List.forall_mem_cons.mp hv).2 h
  | 1, .inr (.inl x) :: r, 0, v, _, h => by simp [am_el, am_lg] at h
  | 1, .inr (.inl x) :: r, j + 1, v, _, h => by simp [am_el, am_lg] at h
theorem am_sl_len (ad : am_A → Nat) (as : List am_V) : (lg_sl (as.map (am_cv ad))).length = (as.map am_cat).sum := by
  induction as with
  | nil => rfl
  | cons v r ih =>
    have e : (lg_sl ((v :: r).map (am_cv ad))).length = (if (am_cv ad v).category = 2 then 2 else 1) + (lg_sl (r.map (am_cv ad))).length := by
      unfold lg_sl
      rw [List.map_cons, List.flatMap_cons, List.length_append]
      split <;> rfl
    rw [e, ih, List.map_cons, List.sum_cons, am_cat_eq]
    rcases v with x | x | a <;> rfl
/-- a contract out of the walk of a body -/
theorem am_T_of {as : List am_V} {G : am_G} {I : am_I} {J : am_J} {P : am_P} (hcf : am_cf y) (hmo : ¬ am_mo y = 2) (hlaw : ¬ am_scy y = true) (hH : am_mo y = 1 ∨ am_mH y = []) (hlen : (as.map am_cat).sum ≤ am_mL y) (h : am_X l sc d y P 0 (am_el (am_mL y) as) [] 0 0 G I J) : am_T l d y as G I J P := by
  intro hl hw hv D cT ad sz
  have body : ∀ (p : Program) (e : Env) (s : State) (m : MethodId) (args : Array Value) (below : List Frame) (meth : Method) (c : Code) (s₁ : State), BodyLoose p l (am_mY y) (headSpec [am_cw y] (am_rm d y)) (am_mB y) (am_mL y) (am_mR y) e s m args below meth c s₁ → c.maxLocals = am_mL y → c.exceptionTable.toList = tableOf (am_mH y) → va_Pc (as.map (am_cv ad)) (am_B sz D cT ad G I J) args s →
      W p l e (headSpec [am_cw y] (am_rm d y)).room s m args below meth c s.heap [] 0 0 (vx_MQ below (am_Qc D cT (va_A (am_ww ad cT G I J) sz) ad G P) (am_Xc D cT (va_A (am_ww ad cT G I J) sz) ad G P) args s (am_mc y) (am_ms y) (va_A (am_ww ad cT G I J) sz)) (entryFrame m args (am_mL y)) := by
    intro p e s m args below meth c s₁ B hml htab hP
    obtain ⟨rfl, hsz, hP, hK, hD0, hWd, hU, hN⟩ := hP
    subst hsz
    rw [lg_entry_eq]
    have hD := hD0.self (sz := s.heap.size)
    have hloc := lv_entry (as.map (am_cv ad)) (n := am_mL y) (by rw [am_sl_len]; exact hlen)
    have hC : am_C l d y P p (am_rm d y) e s m (as.map (am_cv ad)).toArray below meth c D cT (va_A (am_ww ad cT G I J) s.heap.size) ad G (vx_MQ below (am_Qc D cT (va_A (am_ww ad cT G I J) s.heap.size) ad G P) (am_Xc D cT (va_A (am_ww ad cT G I J) s.heap.size) ad G P) (as.map (am_cv ad)).toArray s (am_mc y) (am_ms y) (va_A (am_ww ad cT G I J) s.heap.size)) :=
      ⟨⟨B.exec, B.bytes, B.returns, hml, findClass_of_methodNamed B.named, B.notSynchronized, (name_of_methodNamed B.named B.method).1⟩, ⟨hWd, hK, fun q hq => Or.inr hq, hU, hN⟩, ⟨hl, Nat.le_refl _, Nat.le_refl _, Nat.le_refl _, Nat.le_refl _⟩, fun _ => ⟨rfl, htab⟩, fun h2 => absurd h2 hmo⟩
    have hlv : lv_has ((lg_sl (as.map (am_cv ad)) ++ List.replicate (am_mL y - (lg_sl (as.map (am_cv ad))).length) Slot.unset).toArray) (am_mL y) (am_cl ad 0 (am_el (am_mL y) as)) := by
      refine ⟨hloc.1, hloc.2.1, fun q hq => hloc.2.2 q ?_⟩
      obtain ⟨j, v, e1, rfl⟩ := am_cl_at ad _ 0 q hq
      exact am_el_in ad _ as 0 j v e1
    have hM : am_M sc y ad G ad cT D (va_A (am_ww ad cT G I J) s.heap.size) s s.heap [] ((lg_sl (as.map (am_cv ad)) ++ List.replicate (am_mL y - (lg_sl (as.map (am_cv ad))).length) Slot.unset).toArray) (am_el (am_mL y) as) [] G I J :=
      ⟨hlv, hP, hD, va_S.rf, hw, (fun _ h => nomatch h), fun i v hi => am_el_vk _ as i v hv hi, fun h2 => absurd h2 hlaw, fun a ha => ⟨ha, rfl⟩, fun a _ => rfl⟩
    exact h _ _ _ _ _ _ _ _ _ _ _ _ _ _ _ _ _ _ _ hC hM (Nat.zero_le _) (Nat.zero_le _)
  by_cases h1 : am_mo y = 1
  · have hcw : [am_cw y] = Cond.codeWith (am_mY y) (am_mB y) (am_mL y) (am_mR y) (am_mH y) :: [] := by rw [show am_cw y = _ from if_pos h1]
    refine vx_ofWH hcf.2.2.2.1 hcw ?_
    intro p e s m args below meth c s₁ B hml hP
    have hc1 : (Cond.codeWith (am_mY y) (am_mB y) (am_mL y) (am_mR y) (am_mH y)).before args s = true := by
      have h9 := hP.2.2.2.2.2.1.use hcf.1 args
      rw [show am_cw y = Cond.codeWith (am_mY y) (am_mB y) (am_mL y) (am_mR y) (am_mH y) from if_pos h1] at h9
      exact h9
    exact body p e s m args below meth c s₁ B hml (vx_table (x := am_mY y) B hc1) hP
  · have hcw : [am_cw y] = Cond.code (am_mY y) (am_mB y) (am_mL y) (am_mR y) :: [] := by rw [show am_cw y = _ from if_neg h1]
    refine vx_ofW hcf.2.2.2.1 hcw ?_
    intro p e s m args below meth c s₁ B hml ht hP
    refine body p e s m args below meth c s₁ B hml ?_ hP
    rw [hH.resolve_left h1]
    exact List.eq_nil_iff_forall_not_mem.mpr fun x hx => ht x hx
end AMX
