/-! ===== the abstract machine's calls: contracts, entry, ends, throws, new cells ===== -/
def am_cat : am_V → Nat
  | .inr (.inl _) => 2
  | _ => 1
theorem am_cat_eq (ad : am_A → Nat) (v : am_V) : (am_cv ad v).category = am_cat v := by rcases v with x | x | a <;> rfl
theorem am_cat_sum (ad : am_A → Nat) (st : List am_V) : ((st.map (am_cv ad)).map fun v => v.category).sum = (st.map am_cat).sum := by
  rw [List.map_map]
  congr 1
  exact List.map_congr_left fun v _ => am_cat_eq ad v
def am_rm (d y : Nat) : Room := { frames := d, cells := am_mc y, slots := am_ms y, locals := 35 * d + 15 * (d - 9) }
def am_B (sz : Nat) (D : va_G) (cT : Nat → ClassId) (ad : am_A → Nat) (G : am_G) (I : am_I) (J : am_J) : State → Prop := fun U =>
  U.heap.size = sz ∧ va_P D am_cls (am_ww ad cT G I J) U.heap ∧ va_K D am_cls (am_tys cT) U ∧ va_D (fun _ => True) (am_ww ad cT G I J) ∧ am_Wd U ∧ vx_Zq Bundle.tN "UNASSIGNED_STACK" Bundle.steD (va_A (am_ww ad cT G I J) sz) U U.heap ∧ vx_Zq Bundle.tN "SUPPRESSED_SENTINEL" Bundle.listD (va_A (am_ww ad cT G I J) sz) U U.heap
/-- a method's contract: called in a world it comes to an end with P -/
def am_T (l : Launch) (d y : Nat) (as : List am_V) (G : am_G) (I : am_I) (J : am_J) (P : am_P) : Prop :=
  l.stackTraces = false → am_wf G → (∀ v ∈ as, am_vk G v) → ∀ (D : va_G) (cT : Nat → ClassId) (ad : am_A → Nat) (sz : Nat),
    vx_Met l (am_mY y) [am_cw y] (am_rm d y) (va_Pc (as.map (am_cv ad)) (am_B sz D cT ad G I J)) (am_Qc D cT (va_A (am_ww ad cT G I J) sz) ad G P) (am_Xc D cT (va_A (am_ww ad cT G I J) sz) ad G P) (am_mc y) (am_ms y) (va_A (am_ww ad cT G I J) sz)
theorem am_blind {av : List Value} {sz : Nat} {D : va_G} {cT : Nat → ClassId} {ad : am_A → Nat} {G : am_G} {I : am_I} {J : am_J} : FrameBlind (va_Pc av (am_B sz D cT ad G I J)) := by
  intro a U g mk q
  obtain ⟨q0, q1, q2, q3, q4, q5, q6, q7⟩ := q
  exact ⟨q0, q1, q2, va_K.moved (u := U) (U := U.calling g mk a) (Vm.Alike.refl U.vm) q3, q4, am_Wd.warm (s := U) (U := U.calling g mk a) (State.WarmedH.refl U) q5, vx_Zq.moved (u := U) (U := U.calling g mk a) (Vm.Alike.refl U.vm) q6, vx_Zq.moved (u := U) (U := U.calling g mk a) (Vm.Alike.refl U.vm) q7⟩
section AMR
variable {ad ad' : am_A → Nat} {G G' : am_G}
theorem am_cv_xt (hx : am_xt ad G ad' G') {v : am_V} (hv : am_vk G v) : am_cv ad' v = am_cv ad v := by
  rcases v with x | x | a
  · rfl
  · rfl
  · rcases hv with hv | hv
    · exact congrArg Value.ref (hx.1 a hv).2
    · exact congrArg Value.ref (hx.2 a hv)
theorem am_vk_xt (hx : am_xt ad G ad' G') {v : am_V} (hv : am_vk G v) : am_vk G' v := by
  rcases v with x | x | a
  · exact trivial
  · exact trivial
  · rcases hv with hv | hv
    · exact Or.inl (hx.1 a hv).1
    · exact Or.inr hv
theorem am_map_xt (hx : am_xt ad G ad' G') {st : List am_V} (hv : ∀ v ∈ st, am_vk G v) : st.map (am_cv ad') = st.map (am_cv ad) := List.map_congr_left fun v h => am_cv_xt hx (hv v h)
end AMR
section AMQ
variable {sc : Nat × (Nat → Int32)} {y : Nat} {ad0 ad ad' : am_A → Nat} {G0 G G' : am_G} {cT : Nat → ClassId} {D : va_G} {A A' : Nat → Prop} {s t : State} {H H' : Heap} {locs locs' : List Loc} {LS : Array Slot} {ls : am_L} {st st' : List am_V} {I I' : am_I} {J J' : am_J}
theorem am_M.go (hM : am_M sc y ad0 G0 ad cT D A s H locs LS ls st G I J) (hx : am_xt ad G ad' G') (hP : va_P D am_cls (am_ww ad' cT G' I' J') H') (hD : va_D A (am_ww ad' cT G' I' J')) (hw : am_wf G') (hS : va_S A s.heap H' locs') (hst : ∀ v ∈ st', am_vk G' v) : am_M sc y ad0 G0 ad' cT D A s H' locs' LS ls st' G' I' J' := by
  obtain ⟨h1, h2, h3, h4, h5, h6, h7, h8, h9, h10⟩ := hM
  refine ⟨⟨h1.1, h1.2.1, fun q hq => ?_⟩, hP, hD, hS, hw, hst, fun i v hv => am_vk_xt hx (h7 i v hv), fun hy => ?_, fun a ha => ?_, fun a ha => ?_⟩
  · obtain ⟨j, v, e1, rfl⟩ := am_cl_at ad' ls 0 q hq
    rw [am_cv_xt hx (h7 j v e1)]
    exact h1.2.2 _ (am_cl_in ad ls 0 j v e1)
  · obtain ⟨g1, g2, g3⟩ := h8 hy
    have e : ad' (36, 0) = ad (36, 0) := hx.2 (36, 0) rfl
    unfold am_scr
    rw [e]
    exact ⟨g1, g2, g3⟩
  · obtain ⟨g1, g2⟩ := h9 a ha
    obtain ⟨g3, g4⟩ := hx.1 a g1
    exact ⟨g3, g4.trans g2⟩
  · exact (hx.2 a ha).trans (h10 a ha)
theorem am_M.sub (hM : am_M sc y ad0 G0 ad cT D A s H locs LS ls st G I J) (hA : ∀ q : Nat, s.heap.size ≤ q → A q) : ∀ q : Nat, va_A (am_ww ad cT G I J) H.size q → A q := by
  intro q h
  rcases h with ⟨k, e, h⟩ | h
  · exact hM.2.2.1.2 k _ h
  · exact hA q (Nat.le_trans hM.2.2.2.1.1 h)
end AMQ
section AMF
variable {l : Launch} {sc : Nat × (Nat → Int32)} {d y : Nat} {P : am_P} {p : Program} {R : Room} {e : Env} {s : State} {m : MethodId} {args : Array Value} {below : List Frame} {meth : Method} {c : Code} {D : va_G} {cT : Nat → ClassId} {A : Nat → Prop} {ad0 ad : am_A → Nat} {G0 G : am_G} {Q : State → Prop} {H : Heap} {locs : List Loc} {LS : Array Slot} {ls : am_L} {st : List am_V} {I : am_I} {J : am_J} {kc ks pc : Nat}
theorem am_aft {Pn : am_P} {mc' ms' : Nat} {st0 : List Value} {as' : Array Value} (hA : ∀ q : Nat, s.heap.size ≤ q → A q) (hM : am_M sc y ad0 G0 ad cT D A s H locs LS ls st G I J) (rest : List am_V) (hvr : ∀ v ∈ rest, am_vk G v)
    (hr : vx_Run p l e R s m args below meth c H locs kc ks mc' ms' (F0 m pc LS st0) (rest.map (am_cv ad)) (am_Qc D cT (va_A (am_ww ad cT G I J) H.size) ad G Pn as') (am_Xc D cT (va_A (am_ww ad cT G I J) H.size) ad G Pn) (va_A (am_ww ad cT G I J) H.size))
    (kk : ∀ (v : Option am_V) (G' : am_G) (I' : am_I) (J' : am_J) (ad' : am_A → Nat) (H' : Heap) (locs' : List Loc), Pn (.inl v) G' I' J' → am_M sc y ad0 G0 ad' cT D A s H' locs' LS ls (v.toList ++ rest) G' I' J' → W p l e R s m args below meth c H' locs' (kc + mc') (ks + ms') Q (F0 m (pc + 3) LS ((v.toList ++ rest).map (am_cv ad'))))
    (kx : ∀ (n : Nat) (G' : am_G) (I' : am_I) (J' : am_J) (ad' : am_A → Nat) (H' : Heap) (locs' : List Loc) (q : Addr) (ce : Cell), 1 ≤ n → n ≤ 3 → Pn (.inr n) G' I' J' → am_M sc y ad0 G0 ad' cT D A s H' locs' LS ls rest G' I' J' → H'[q]? = some ce → ce.vm = .none → s.vm.findClass (am_en n) = some ce.cls → vx_W p l e R s m args below meth c H' locs' (kc + mc') (ks + ms') Q (F0 m pc LS (rest.map (am_cv ad'))) q) :
    W p l e R s m args below meth c H locs kc ks Q (F0 m pc LS st0) := by
  have hsub := hM.sub hA
  intro T hT X
  rcases hr T hT X with ⟨v, st₀, t, T', L, h0, X', hL, e1, e2, ⟨⟨v', G', I', J', ad', ho, hp, hvk, hP', hD', hw', hx'⟩, hF⟩, hst⟩ | ⟨q, st₀, t, T', L, E, ce, h0, X', hL, e1, e2, ⟨⟨n, G', I', J', ad', hE, hn1, hn3, hp, hP', hD', hw', hx'⟩, hF⟩, hce, hcv, hcl, hst⟩
  · cases ho
    obtain ⟨-, -, k3⟩ := vx_keep h0 e1 hM.2.2.2.1 (fun q _ h => hsub q h) hsub hL hF
    have hvs : ∀ w ∈ v'.toList ++ rest, am_vk G' w := by
      intro w hw
      rcases List.mem_append.mp hw with h | h
      · exact hvk w (Option.mem_toList.mp h)
      · exact am_vk_xt hx' (hvr w h)
    obtain ⟨t2, a1, b1⟩ := kk v' G' I' J' ad' T'.heap (locs ++ L) hp (hM.go hx' (by rw [e1]; exact hP') (hD'.weaken fun k q _ h => hsub q.1 h) hw' k3 hvs) T' rfl X'
    refine ⟨t2, hst t2 ?_, b1⟩
    rw [List.map_append, am_map_xt hx' hvr] at a1
    have e3 : (v'.map (am_cv ad')).toList = v'.toList.map (am_cv ad') := by cases v' <;> rfl
    rw [e3]
    exact a1
  · subst hE
    obtain ⟨-, -, k3⟩ := vx_keep h0 e1 hM.2.2.2.1 (fun q _ h => hsub q h) hsub hL hF
    obtain ⟨t2, a1, b1⟩ := kx n G' I' J' ad' T'.heap (locs ++ L) q ce hn1 hn3 hp (hM.go hx' (by rw [e1]; exact hP') (hD'.weaken fun k q _ h => hsub q.1 h) hw' k3 (fun w h => am_vk_xt hx' (hvr w h))) (by rw [e1]; exact hce) hcv hcl T' rfl X'
    refine ⟨t2, hst.trans ?_, b1⟩
    rw [am_map_xt hx' hvr] at a1
    exact a1
/-- a throw that goes on to the caller -/
theorem am_outw {n : Nat} {q : Addr} {ce : Cell} (hC : am_C l d y P p R e s m args below meth c D cT A ad0 G0 Q) (hmo : ¬ am_mo y = 1) (hH : am_mH y = []) (h1 : 1 ≤ n) (h3 : n ≤ 3) (hp : P (.inr n) G I J) (hM : am_M sc y ad0 G0 ad cT D A s H locs LS ls st G I J) (hc : kc ≤ am_mc y) (hn : ks ≤ am_ms y) (hce : H[q]? = some ce) (hcv : ce.vm = .none) (hcl : s.vm.findClass (am_en n) = some ce.cls) :
    vx_W p l e R s m args below meth c H locs kc ks Q (F0 m pc LS (st.map (am_cv ad))) q := by
  by_cases h2 : am_mo y = 2
  · exact absurd hp ((hC.2.2.2.2 h2).1 n G I J)
  · obtain ⟨hQ, htb⟩ := hC.2.2.2.1 h2
    rw [hQ]
    refine vx_out (fun x hx => ?_) hC.1.2.2.2.2.2.1 hce hcv hcl (fun t ht _ => ⟨⟨n, G, I, J, ad, rfl, h1, h3, hp, by rw [ht]; exact hM.2.1, hM.2.2.1, hM.2.2.2.2.1, hM.2.2.2.2.2.2.2.2⟩, hM.2.2.2.1.F ht⟩) (fun z hz => hM.2.2.2.1.2.2 z hz) hc hn
    rw [htb, hH] at hx
    simp [tableOf] at hx
end AMF
def am_k (X : am_K) (P : am_P) (nx : Nat) (ls : am_L) (r : List am_V) (kc ks : Nat) : am_P := fun o G I J => match o with
  | .inl none => X nx ls r kc ks G I J
  | .inl (some v) => X nx ls (v :: r) kc ks G I J
  | .inr n => P (.inr n) G I J
def am_rc : Option Nat → List am_V → Prop
  | none, _ => True
  | some ci, .inr (.inr a) :: _ => a.1 = ci
  | _, _ => False
def am_call (l : Launch) (d y y' : Nat) (rc : Option Nat) (n nx : Nat) : am_S := fun _ X P ls st kc ks G I J =>
  (n ≤ st.length ∧ ((st.drop n).map am_cat).sum ≤ 8 ∧ am_rc rc (st.take n).reverse ∧ kc + am_mc y' ≤ am_mc y ∧ ks + am_ms y' ≤ am_ms y) ∧
  am_T l d y' (st.take n).reverse G I J (am_k X P nx ls (st.drop n) (kc + am_mc y') (ks + am_ms y'))
section AMC
variable {l : Launch} {sc : Nat × (Nat → Int32)} {d y y' pc idx n : Nat}
theorem am_hws {s : State} (hcf : am_cf y') (hWd : am_Wd s) : ∀ w ∈ [am_cw y'], ∀ (a' : Array Value) (U : State), s.WarmedH U.vm → w.before a' U = true := by
  intro w hw a' U hW
  rw [List.mem_singleton.mp hw]
  exact am_sv_warm (List.mem_filter.mp hcf.1).2 hW (hWd.1 _ hcf.1)
theorem am_len {sig : MethodDescriptor} (hcf : am_cf y') (h : parseMethodDescriptor (am_mY y').desc = some sig) : am_np y' = sig.parameters.length := by
  have h2 := hcf.2.2.1.2.2
  rw [h] at h2
  exact (Option.some.inj h2).symm
theorem am_cw0 (h : ¬ am_mo y' = 1) : am_cw y' = .code (am_mY y') (am_mB y') (am_mL y') (am_mR y') := if_neg h
theorem am_callB {R : Room} {s : State} {args : Array Value} {own : String} (hcf : am_cf y') (hmo : ¬ am_mo y' = 1) (hlk : Cond.methodLink own idx (am_mY y') ∈ am_tb) (hWd : am_Wd s) (hf : d + 1 ≤ R.frames) (hl : 35 * (d + 1) + 15 * (d + 1 - 9) ≤ R.locals) (hml : am_mL y' ≤ 16 ∨ 9 ≤ d) :
    CallB R s args own idx (am_mY y') (am_mB y') (am_mL y') (am_mR y') [am_cw y'] (am_rm d y') (am_mc y') (am_ms y') (am_np y') :=
  ⟨rfl, rfl, hf, by have := hcf.2.2.2.2; show 8 + (am_mL y' + 11) + (35 * d + 15 * (d - 9)) ≤ _; omega, am_hws hcf hWd, by rw [am_cw0 hmo]; exact List.mem_singleton_self _, by rw [← am_cw0 hmo]; exact hWd.use hcf.1 args, hWd.use hcf.2.1 args, ⟨hcf.2.2.1.1, hcf.2.2.1.2.1⟩, fun sig h => am_len hcf h, hWd.use hlk args⟩
theorem am_callN {R : Room} {s : State} {args : Array Value} {own host : String} (hcf : am_cf y') (hmo : ¬ am_mo y' = 1) (hlk : Cond.methodLinkNest own idx (am_mY y') host ∈ am_tb) (hWd : am_Wd s) (hf : d + 1 ≤ R.frames) (hl : 35 * (d + 1) + 15 * (d + 1 - 9) ≤ R.locals) (hml : am_mL y' ≤ 16 ∨ 9 ≤ d) :
    va_CN R s args own idx (am_mY y') host (am_mB y') (am_mL y') (am_mR y') [am_cw y'] (am_rm d y') (am_mc y') (am_ms y') (am_np y') :=
  ⟨⟨rfl, rfl, hf, by have := hcf.2.2.2.2; show 8 + (am_mL y' + 11) + (35 * d + 15 * (d - 9)) ≤ _; omega, am_hws hcf hWd, by rw [am_cw0 hmo]; exact List.mem_singleton_self _⟩, by rw [← am_cw0 hmo]; exact hWd.use hcf.1 args, hWd.use hcf.2.1 args, ⟨hcf.2.2.1.1, hcf.2.2.1.2.1⟩, fun sig h => am_len hcf h, hWd.use hlk args⟩
/-- what a caller has for its callee's start -/
theorem am_pre {P : am_P} {p : Program} {R : Room} {e : Env} {s : State} {m : MethodId} {args : Array Value} {below : List Frame} {meth : Method} {c : Code} {D : va_G} {cT : Nat → ClassId} {A : Nat → Prop} {ad0 ad : am_A → Nat} {G0 G : am_G} {Q : State → Prop} {H : Heap} {locs : List Loc} {LS : Array Slot} {ls : am_L} {st : List am_V} {I : am_I} {J : am_J} {av : List Value}
    (hC : am_C l d y P p R e s m args below meth c D cT A ad0 G0 Q) (hM : am_M sc y ad0 G0 ad cT D A s H locs LS ls st G I J) : ∀ U : State, U.heap = H → s.WarmedH U.vm → va_Pc av (am_B H.size D cT ad G I J) av.toArray U := by
  intro U hU hW
  have hsub := hM.sub hC.2.1.2.2.1
  refine ⟨rfl, by rw [hU], by rw [hU]; exact hM.2.1, va_K.moved hW.alike hC.2.1.2.1, hM.2.2.1.weaken fun _ _ _ _ => trivial, am_Wd.warm hW hC.2.1.1, ?_, ?_⟩
  · rw [hU]
    exact vx_Zq.narrow (vx_Zq.moved hW.alike (hC.2.1.2.2.2.1.kept hM.2.2.2.1.2.1)) hsub
  · rw [hU]
    exact vx_Zq.narrow (vx_Zq.moved hW.alike (hC.2.1.2.2.2.2.kept hM.2.2.2.1.2.1)) hsub
/-- behind any call that isn't within a handler's reach -/
theorem am_cont {K X : am_K} {P : am_P} {p : Program} {R : Room} {e : Env} {s : State} {m : MethodId} {args : Array Value} {below : List Frame} {meth : Method} {c : Code} {D : va_G} {cT : Nat → ClassId} {A : Nat → Prop} {ad0 ad : am_A → Nat} {G0 G : am_G} {Q : State → Prop} {H : Heap} {locs : List Loc} {LS : Array Slot} {ls : am_L} {st rest : List am_V} {I : am_I} {J : am_J} {kc ks : Nat} {st0 : List Value} {as' : Array Value}
    (hX : ∀ pc ls st kc ks G I J, X pc ls st kc ks G I J → am_X l sc d y P pc ls st kc ks G I J) (hmo : ¬ am_mo y = 1) (hH : am_mH y = []) (hC : am_C l d y P p R e s m args below meth c D cT A ad0 G0 Q) (hM : am_M sc y ad0 G0 ad cT D A s H locs LS ls st G I J) (hvr : ∀ v ∈ rest, am_vk G v) (hc : kc + am_mc y' ≤ am_mc y) (hn : ks + am_ms y' ≤ am_ms y)
    (hr : vx_Run p l e R s m args below meth c H locs kc ks (am_mc y') (am_ms y') (F0 m pc LS st0) (rest.map (am_cv ad)) (am_Qc D cT (va_A (am_ww ad cT G I J) H.size) ad G (am_k X P (pc + 3) ls rest (kc + am_mc y') (ks + am_ms y')) as') (am_Xc D cT (va_A (am_ww ad cT G I J) H.size) ad G (am_k X P (pc + 3) ls rest (kc + am_mc y') (ks + am_ms y'))) (va_A (am_ww ad cT G I J) H.size)) :
    W p l e R s m args below meth c H locs kc ks Q (F0 m pc LS st0) := by
  refine am_aft hC.2.1.2.2.1 hM rest hvr hr ?_ ?_
  · intro v G' I' J' ad' H' locs' hp hM'
    rcases v with _ | v
    · exact hX _ _ _ _ _ _ _ _ hp _ _ _ _ _ _ _ _ _ _ _ _ _ _ _ _ _ _ _ hC hM' hc hn
    · exact hX _ _ _ _ _ _ _ _ hp _ _ _ _ _ _ _ _ _ _ _ _ _ _ _ _ _ _ _ hC hM' hc hn
  · intro n G' I' J' ad' H' locs' q ce h1 h3 hp hM' hce hcv hcl
    exact am_outw hC hmo hH h1 h3 hp hM' hc hn hce hcv hcl
theorem am_split {st : List am_V} {n : Nat} : st = ((st.take n).reverse).reverse ++ st.drop n := by rw [List.reverse_reverse, List.take_append_drop]
theorem am_recv {ci : Nat} {ad : am_A → Nat} {G : am_G} {cT : Nat → ClassId} {D : va_G} {s : State} {H : Heap} {I : am_I} {J : am_J} {a : am_A} (hK : va_K D am_cls (am_tys cT) s) (hP : va_P D am_cls (am_ww ad cT G I J) H) (ha : a ∈ G.1) (h1 : a.1 = ci) (hci : ci < 10) : ∃ cell : Cell, H[ad a]? = some cell ∧ cell.vm.isStatics = false ∧ s.vm.findClass (am_cN ci) = some cell.cls := by
  obtain ⟨q0, he, -⟩ := am_ww_at (ad := ad) (cT := cT) (I := I) (J := J) ha
  rw [am_ce_o (by omega), h1] at he
  exact va_recv hK hP (am_cls_at ci hci) he
theorem am_vsplit {G : am_G} {st : List am_V} (n : Nat) (h : ∀ v ∈ st, am_vk G v) : (∀ v ∈ (st.take n).reverse, am_vk G v) ∧ ∀ v ∈ st.drop n, am_vk G v :=
  ⟨fun v hv => h v (List.mem_of_mem_take (List.mem_reverse.mp hv)), fun v hv => h v (List.mem_of_mem_drop hv)⟩
theorem am_stk {ad : am_A → Nat} {st : List am_V} (n : Nat) : st.map (am_cv ad) = (((st.take n).reverse).map (am_cv ad)).reverse ++ (st.drop n).map (am_cv ad) := by
  rw [List.map_reverse, List.reverse_reverse, ← List.map_append, List.take_append_drop]
/-- the call of an instance method -/
theorem ok_callV {ci : Nat} (h : decode (am_mB y) pc = .ok (.invokevirtual idx, 3)) (hcf : am_cf y') (hmo : ¬ am_mo y' = 1) (hlk : Cond.methodLink (am_mY y).cls idx (am_mY y') ∈ am_tb ∨ ∃ host : String, Cond.methodLinkNest (am_mY y).cls idx (am_mY y') host ∈ am_tb) (hin : Cond.instanceMethod (am_mY y') ∈ am_tb) (hse : Cond.selects (am_mY y').cls (am_mY y') (am_mY y') ∈ am_tb) (hci : ci < 10 ∧ (am_mY y').cls = am_cN ci) (hnp : n = am_np y' + 1) (hy : ¬ am_mo y = 1 ∧ am_mH y = []) (hml : am_mL y' ≤ 16 ∨ 9 ≤ d) : am_ok l sc (d + 1) y pc (am_call l d y y' (some ci) n (pc + 3)) := by
  intro K X P ls st kc ks G I J _ hX hs
  intro p R e s m args below meth c D cT A ad0 G0 Q ad H locs LS hC hM hc hn
  obtain ⟨⟨h1, h2, h3, h4, h5⟩, hT⟩ := hs
  obtain ⟨hva, hvr⟩ := am_vsplit n hM.sok
  have hMet := hT hC.2.2.1.1 hM.2.2.2.2.1 hva D cT ad H.size
  have hlen : ((st.take n).reverse).length = n := by rw [List.length_reverse, List.length_take]; omega
  have hst := am_stk (ad := ad) (st := st) n
  generalize (st.take n).reverse = as at h3 hMet hva hst hlen
  match as, h3, hMet, hva, hst, hlen with
  | [], h3, _, _, _, _ => exact h3.elim
  | .inl _ :: _, h3, _, _, _, _ => exact h3.elim
  | .inr (.inl _) :: _, h3, _, _, _, _ => exact h3.elim
  | .inr (.inr a) :: As, h3, hMet, hva, hst, hlen =>
    have h3 : a.1 = ci := h3
    have haG : a ∈ G.1 := (List.forall_mem_cons.mp hva).1.resolve_right (by omega)
    have hrecv := am_recv hC.2.1.2.1 hM.2.1 haG h3 hci.1
    rw [← hci.2] at hrecv
    have hLS : (F0 m pc LS (st.map (am_cv ad))).locals.size = am_mL y := hM.1.1
    have hW8 : 2 * (F0 m pc LS (st.map (am_cv ad))).monitorRoom + (((st.drop n).map (am_cv ad)).map fun v => v.category).sum ≤ 8 := by rw [am_cat_sum]; show 2 * 0 + _ ≤ 8; omega
    have hAs : (As.map (am_cv ad)).length = am_np y' := by rw [List.length_map]; simp only [List.length_cons] at hlen; omega
    have hstk : st.map (am_cv ad) = (As.map (am_cv ad)).reverse ++ .ref (ad a) :: (st.drop n).map (am_cv ad) := by
      rw [hst]
      simp [am_cv]
    have hfit : kc + am_mc y' ≤ R.cells ∧ ks + am_ms y' ≤ R.slots := ⟨Nat.le_trans h4 hC.2.2.1.2.2.2.1, Nat.le_trans h5 hC.2.2.1.2.2.2.2⟩
    have hS : CallFix p m c (am_mB y) (am_mL y) s args ([] : List Jvm.Cond) (am_mY y).cls := ⟨hC.1.1, hC.1.2.1, hC.1.2.2.2.1, hC.1.2.2.2.2.1, fun _ h => nomatch h⟩
    have hpre : PreV s H (am_mY y').cls (ad a) (va_Pc ((vR a :: As).map (am_cv ad)) (am_B H.size D cT ad G I J)) (As.map (am_cv ad)) := ⟨am_blind, hrecv, am_pre hC hM⟩
    rcases hlk with hlk | ⟨host, hlk⟩
    · exact am_cont (K := K) hX hy.1 hy.2 hC hM hvr h4 h5 (vx_runV hS hMet ⟨am_callB hcf hmo hlk hC.2.1.1 hC.2.2.1.2.1 hC.2.2.1.2.2.1 hml, hC.2.1.1.use hin args, hC.2.1.1.use hse args⟩ hpre rfl hAs hLS hstk hW8 h hfit)
    · exact am_cont (K := K) hX hy.1 hy.2 hC hM hvr h4 h5 (vx_runVN hS hMet ⟨am_callN hcf hmo hlk hC.2.1.1 hC.2.2.1.2.1 hC.2.2.1.2.2.1 hml, hC.2.1.1.use hin args, hC.2.1.1.use hse args⟩ hpre rfl hAs hLS hstk hW8 h hfit)
/-- the call of a static method -/
theorem ok_callS (h : decode (am_mB y) pc = .ok (.invokestatic idx, 3)) (hcf : am_cf y') (hmo : ¬ am_mo y' = 1) (hlk : Cond.methodLink (am_mY y).cls idx (am_mY y') ∈ am_tb ∨ ∃ host : String, Cond.methodLinkNest (am_mY y).cls idx (am_mY y') host ∈ am_tb) (hst : Cond.static (am_mY y') ∈ am_tb) (hnp : n = am_np y') (hy : ¬ am_mo y = 1 ∧ am_mH y = []) (hml : am_mL y' ≤ 16 ∨ 9 ≤ d) : am_ok l sc (d + 1) y pc (am_call l d y y' none n (pc + 3)) := by
  intro K X P ls st kc ks G I J _ hX hs
  intro p R e s m args below meth c D cT A ad0 G0 Q ad H locs LS hC hM hc hn
  obtain ⟨⟨h1, h2, h3, h4, h5⟩, hT⟩ := hs
  obtain ⟨hva, hvr⟩ := am_vsplit n hM.sok
  have hMet := hT hC.2.2.1.1 hM.2.2.2.2.1 hva D cT ad H.size
  have hlen : ((st.take n).reverse).length = n := by rw [List.length_reverse, List.length_take]; omega
  have hstk := am_stk (ad := ad) (st := st) n
  have hLS : (F0 m pc LS (st.map (am_cv ad))).locals.size = am_mL y := hM.1.1
  have hW8 : 2 * (F0 m pc LS (st.map (am_cv ad))).monitorRoom + (((st.drop n).map (am_cv ad)).map fun v => v.category).sum ≤ 8 := by rw [am_cat_sum]; show 2 * 0 + _ ≤ 8; omega
  have hAs : (((st.take n).reverse).map (am_cv ad)).length = am_np y' := by rw [List.length_map, hlen, hnp]
  have hfit : kc + am_mc y' ≤ R.cells ∧ ks + am_ms y' ≤ R.slots := ⟨Nat.le_trans h4 hC.2.2.1.2.2.2.1, Nat.le_trans h5 hC.2.2.1.2.2.2.2⟩
  have hS : CallFix p m c (am_mB y) (am_mL y) s args ([] : List Jvm.Cond) (am_mY y).cls := ⟨hC.1.1, hC.1.2.1, hC.1.2.2.2.1, hC.1.2.2.2.2.1, fun _ h => nomatch h⟩
  have hpre : PreS s H (va_Pc (((st.take n).reverse).map (am_cv ad)) (am_B H.size D cT ad G I J)) (((st.take n).reverse).map (am_cv ad)) := ⟨am_blind, am_pre hC hM⟩
  rcases hlk with hlk | ⟨host, hlk⟩
  · exact am_cont (K := K) hX hy.1 hy.2 hC hM hvr h4 h5 (vx_runS hS hMet ⟨am_callB hcf hmo hlk hC.2.1.1 hC.2.2.1.2.1 hC.2.2.1.2.2.1 hml, hC.2.1.1.use hst args⟩ hpre rfl hAs hLS hstk hW8 h hfit)
  · exact am_cont (K := K) hX hy.1 hy.2 hC hM hvr h4 h5 (vx_runSN hS hMet ⟨am_callN hcf hmo hlk hC.2.1.1 hC.2.2.1.2.1 hC.2.2.1.2.2.1 hml, hC.2.1.1.use hst args, trivial⟩ hpre rfl hAs hLS hstk hW8 h hfit)
/-- the law's call of a method with handlers -/
theorem ok_callSX (h : decode (am_mB y) pc = .ok (.invokestatic idx, 3)) (hcf : am_cf y') (hmo : am_mo y' = 1) (hlk : Cond.methodLink (am_mY y).cls idx (am_mY y') ∈ am_tb) (hst : Cond.static (am_mY y') ∈ am_tb) (hnp : n = am_np y') (hy : ¬ am_mo y = 1 ∧ am_mH y = []) (hml : am_mL y' ≤ 16 ∨ 9 ≤ d) : am_ok l sc (d + 1) y pc (am_call l d y y' none n (pc + 3)) := by
  intro K X P ls st kc ks G I J _ hX hs
  intro p R e s m args below meth c D cT A ad0 G0 Q ad H locs LS hC hM hc hn
  obtain ⟨⟨h1, h2, h3, h4, h5⟩, hT⟩ := hs
  obtain ⟨hva, hvr⟩ := am_vsplit n hM.sok
  have hMet := hT hC.2.2.1.1 hM.2.2.2.2.1 hva D cT ad H.size
  have hlen : ((st.take n).reverse).length = n := by rw [List.length_reverse, List.length_take]; omega
  have hstk := am_stk (ad := ad) (st := st) n
  have hLS : (F0 m pc LS (st.map (am_cv ad))).locals.size = am_mL y := hM.1.1
  have hW8 : 2 * (F0 m pc LS (st.map (am_cv ad))).monitorRoom + (((st.drop n).map (am_cv ad)).map fun v => v.category).sum ≤ 8 := by rw [am_cat_sum]; show 2 * 0 + _ ≤ 8; omega
  have hAs : (((st.take n).reverse).map (am_cv ad)).length = am_np y' := by rw [List.length_map, hlen, hnp]
  have hfit : kc + am_mc y' ≤ R.cells ∧ ks + am_ms y' ≤ R.slots := ⟨Nat.le_trans h4 hC.2.2.1.2.2.2.1, Nat.le_trans h5 hC.2.2.1.2.2.2.2⟩
  have hS : CallFix p m c (am_mB y) (am_mL y) s args ([] : List Jvm.Cond) (am_mY y).cls := ⟨hC.1.1, hC.1.2.1, hC.1.2.2.2.1, hC.1.2.2.2.2.1, fun _ h => nomatch h⟩
  have hpre : PreS s H (va_Pc (((st.take n).reverse).map (am_cv ad)) (am_B H.size D cT ad G I J)) (((st.take n).reverse).map (am_cv ad)) := ⟨am_blind, am_pre hC hM⟩
  have hcw : am_cw y' = .codeWith (am_mY y') (am_mB y') (am_mL y') (am_mR y') (am_mH y') := if_pos hmo
  have hloc : 8 + (am_mL y' + 11) + (am_rm d y').locals ≤ R.locals := by have := hcf.2.2.2.2; have := hC.2.2.1.2.2.1; show 8 + (am_mL y' + 11) + (35 * d + 15 * (d - 9)) ≤ _; omega
  exact am_cont (K := K) hX hy.1 hy.2 hC hM hvr h4 h5 (vx_runSX (hh := am_mH y') hS hMet ⟨⟨rfl, rfl, hC.2.2.1.2.1, hloc, am_hws hcf hC.2.1.1, by rw [hcw]; exact List.mem_singleton_self _⟩, by rw [← hcw]; exact hC.2.1.1.use hcf.1 args, hC.2.1.1.use hcf.2.1 args, ⟨hcf.2.2.1.1, hcf.2.2.1.2.1⟩, fun sig h => am_len hcf h, hC.2.1.1.use hlk args, hC.2.1.1.use hst args⟩ hpre rfl hAs hLS hstk hW8 h hfit)
end AMC
