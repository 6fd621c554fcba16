/-! ===== the abstract machine: constructors, ends, throws, handlers, new cells, library calls, a method's entry ===== -/
section AME
variable {l : Launch} {sc : Nat × (Nat → Int32)} {d y y' pc idx n : Nat}
/-- the call of a constructor -/
theorem ok_callI {ci : Nat} (h : decode (am_mB y) pc = .ok (.invokespecial idx, 3)) (hcf : am_cf y') (hmo : ¬ am_mo y' = 1) (hlk : Cond.methodLink (am_mY y).cls idx (am_mY y') ∈ am_tb ∨ ∃ host : String, Cond.methodLinkNest (am_mY y).cls idx (am_mY y') host ∈ am_tb) (hin : Cond.instanceMethod (am_mY y') ∈ am_tb) (hini : (am_mY y').name = "<init>" ∧ am_mR y' = none) (hci : ci < 10) (hnp : n = am_np y' + 1) (hy : ¬ am_mo y = 1 ∧ am_mH y = []) (hml : am_mL y' ≤ 16 ∨ 9 ≤ d) : am_ok l sc (d + 1) y pc (am_call l d y y' (some ci) n (pc + 3)) := by
  intro K X P ls st kc ks G I J _ hX hs
  intro p R e s m args below meth c D cT A ad0 G0 Q ad H locs LS hC hM hc hn
  obtain ⟨⟨h1, h2, h3, h4, h5⟩, hT⟩ := hs
  obtain ⟨hva, hvr⟩ := am_vsplit n hM.sok
  have hMet := hT hC.2.2.1.1 hM.2.2.2.2.1 hva D cT ad H.size
  have hlen : ((st.take n).reverse).length = n := by rw [List.length_reverse, List.length_take]; omega
  have hst := am_stk (ad := ad) (st := st) n
  generalize (st.take n).reverse = as at h3 hMet hva hst hlen
  match as, h3, hMet, hva, hst, hlen with
  | [], h3, _, _, _, _ => exact h3.elim
  | .inl _ :: _, h3, _, _, _, _ => exact h3.elim
  | .inr (.inl _) :: _, h3, _, _, _, _ => exact h3.elim
  | .inr (.inr a) :: As, h3, hMet, hva, hst, hlen =>
    have hLS : (F0 m pc LS (st.map (am_cv ad))).locals.size = am_mL y := hM.1.1
    have hW8 : 2 * (F0 m pc LS (st.map (am_cv ad))).monitorRoom + (((st.drop n).map (am_cv ad)).map fun v => v.category).sum ≤ 8 := by rw [am_cat_sum]; show 2 * 0 + _ ≤ 8; omega
    have hAs : (As.map (am_cv ad)).length = am_np y' := by rw [List.length_map]; simp only [List.length_cons] at hlen; omega
    have hstk : st.map (am_cv ad) = (As.map (am_cv ad)).reverse ++ .ref (ad a) :: (st.drop n).map (am_cv ad) := by
      rw [hst]
      simp [am_cv]
    have hfit : kc + am_mc y' ≤ R.cells ∧ ks + am_ms y' ≤ R.slots := ⟨Nat.le_trans h4 hC.2.2.1.2.2.2.1, Nat.le_trans h5 hC.2.2.1.2.2.2.2⟩
    have hS : CallFix p m c (am_mB y) (am_mL y) s args ([] : List Jvm.Cond) (am_mY y).cls := ⟨hC.1.1, hC.1.2.1, hC.1.2.2.2.1, hC.1.2.2.2.2.1, fun _ h => nomatch h⟩
    have hpre : PreS s H (va_Pc ((vR a :: As).map (am_cv ad)) (am_B H.size D cT ad G I J)) (.ref (ad a) :: As.map (am_cv ad)) := ⟨am_blind, am_pre hC hM⟩
    rcases hlk with hlk | ⟨host, hlk⟩
    · have cb := am_callB (args := args) (R := R) (own := (am_mY y).cls) hcf hmo hlk hC.2.1.1 hC.2.2.1.2.1 hC.2.2.1.2.2.1 hml
      rw [hini.2] at cb
      exact am_cont (K := K) hX hy.1 hy.2 hC hM hvr h4 h5 (vx_runI hS hMet ⟨cb, hini.1, hC.2.1.1.use hin args⟩ hpre rfl hAs hLS hstk hW8 h hfit)
    · have cb := am_callN (args := args) (R := R) (own := (am_mY y).cls) hcf hmo hlk hC.2.1.1 hC.2.2.1.2.1 hC.2.2.1.2.2.1 hml
      rw [hini.2] at cb
      exact am_cont (K := K) hX hy.1 hy.2 hC hM hvr h4 h5 (vx_runIN hS hMet ⟨cb, hini.1, hC.2.1.1.use hin args⟩ hpre rfl hAs hLS hstk hW8 h hfit)
/-! ends -/
theorem am_retQ {P : am_P} {D : va_G} {cT : Nat → ClassId} {A : Nat → Prop} {ad0 ad : am_A → Nat} {G0 G : am_G} {s : State} {H : Heap} {locs : List Loc} {LS : Array Slot} {ls : am_L} {st : List am_V} {I : am_I} {J : am_J} {as : Array Value} {v : Option am_V} (hM : am_M sc y ad0 G0 ad cT D A s H locs LS ls st G I J) (hp : P (.inl v) G I J) (hv : ∀ w, v = some w → am_vk G w) : ∀ t : State, t.heap = H → s.WarmedH t.vm → am_Qc D cT A ad0 G0 P as s (.returned (v.map (am_cv ad))) t :=
  fun t ht _ => ⟨⟨v, G, I, J, ad, rfl, hp, hv, by rw [ht]; exact hM.2.1, hM.2.2.1, hM.2.2.2.2.1, hM.2.2.2.2.2.2.2.2⟩, hM.2.2.2.1.F ht⟩
/-- ireturn; z: the answer is a truth value -/
def am_iret (z : Bool) : am_S := fun _ _ P _ st _ _ G I J => match st with
  | [.inl x] => (z = true → x = 0 ∨ x = 1) ∧ P (.inl (some (.inl x))) G I J
  | _ => False
theorem ok_iret {z : Bool} (h : decode (am_mB y) pc = .ok (.ireturn, 1)) (hr : am_mR y = (if z = true then some .boolean else some .int)) : am_ok l sc d y pc (am_iret z) := by
  intro K X P ls st kc ks G I J _ _ hs
  unfold am_iret at hs
  split at hs
  · rename_i x
    intro p R e s m args below meth c D cT A ad0 G0 Q ad H locs LS hC hM hc hn
    obtain ⟨hz, hs⟩ := hs
    by_cases h2 : am_mo y = 2
    · exact (hC.2.2.2.2 h2).2 pc H locs kc ks LS (.inl x) ad G I J h hM.2.2.2.1.2.2 hc hn hs
    · rw [(hC.2.2.2.1 h2).1]
      refine vx_ret (W.widen hc hn ?_)
      have hlocks := hC.1.2.2.2.2.2.1
      have hq : ∀ t : State, t.heap = H → s.WarmedH t.vm → am_Qc D cT A ad0 G0 P args s (.returned (some (.int x))) t := am_retQ (v := some (vI x)) hM hs (fun w hw => by cases hw; exact trivial)
      cases z with
      | true => exact W.zret hC.1.1 hC.1.2.1 (hC.1.2.2.1.trans hr) (am_nz (hz rfl)).1 hq hM.2.2.2.1.2.2 h hlocks
      | false => exact W.iret hC.1.1 hC.1.2.1 (hC.1.2.2.1.trans hr) hq hM.2.2.2.1.2.2 h hlocks
  · exact hs.elim
def am_vret : am_S := fun _ _ P _ st _ _ G I J => match st with
  | [] => P (.inl none) G I J
  | _ => False
theorem ok_vret (h : decode (am_mB y) pc = .ok (.return_, 1)) (hr : am_mR y = none) (hmo : ¬ am_mo y = 2) : am_ok l sc d y pc am_vret := by
  intro K X P ls st kc ks G I J _ _ hs
  unfold am_vret at hs
  split at hs
  · intro p R e s m args below meth c D cT A ad0 G0 Q ad H locs LS hC hM hc hn
    rw [(hC.2.2.2.1 hmo).1]
    exact vx_ret (W.widen hc hn (W.vret hC.1.1 hC.1.2.1 (hC.1.2.2.1.trans hr) (am_retQ (v := none) hM hs (fun w hw => by cases hw)) hM.2.2.2.1.2.2 h hC.1.2.2.2.2.2.1))
  · exact hs.elim
def am_lret : am_S := fun _ _ P _ st _ _ G I J => match st with
  | [.inr (.inl x)] => P (.inl (some (.inr (.inl x)))) G I J
  | _ => False
theorem ok_lret (h : decode (am_mB y) pc = .ok (.lreturn, 1)) (hr : am_mR y = some .long) (hmo : ¬ am_mo y = 2) : am_ok l sc d y pc am_lret := by
  intro K X P ls st kc ks G I J _ _ hs
  unfold am_lret at hs
  split at hs
  · rename_i x
    intro p R e s m args below meth c D cT A ad0 G0 Q ad H locs LS hC hM hc hn
    rw [(hC.2.2.2.1 hmo).1]
    exact vx_ret (W.widen hc hn (W.lret hC.1.1 hC.1.2.1 (hC.1.2.2.1.trans hr) (am_retQ (v := some (vL x)) hM hs (fun w hw => by cases hw; exact trivial)) hM.2.2.2.1.2.2 h hC.1.2.2.2.2.2.1))
  · exact hs.elim
def am_aret : am_S := fun _ _ P _ st _ _ G I J => match st with
  | [.inr (.inr a)] => P (.inl (some (.inr (.inr a)))) G I J
  | _ => False
theorem ok_aret {C : String} (h : decode (am_mB y) pc = .ok (.areturn, 1)) (hr : am_mR y = some (.object C)) (hmo : ¬ am_mo y = 2) : am_ok l sc d y pc am_aret := by
  intro K X P ls st kc ks G I J _ _ hs
  unfold am_aret at hs
  split at hs
  · rename_i a
    intro p R e s m args below meth c D cT A ad0 G0 Q ad H locs LS hC hM hc hn
    rw [(hC.2.2.2.1 hmo).1]
    exact vx_ret (W.widen hc hn (W.aret hC.1.1 hC.1.2.1 (hC.1.2.2.1.trans hr) (Or.inl ⟨C, rfl⟩) (Or.inr ⟨ad a, rfl⟩) (am_retQ (v := some (vR a)) hM hs (fun w hw => by cases hw; exact hM.sok _ List.mem_cons_self)) hM.2.2.2.1.2.2 h hC.1.2.2.2.2.2.1))
  · exact hs.elim
/-! 'throw new E("..")', five instructions at once -/
def am_names : List String := ["java/lang/RuntimeException", "java/lang/Exception"]
def am_throw (y n : Nat) : am_S := fun _ _ P _ st kc ks G I J => st = [] ∧ kc + 1 ≤ am_mc y ∧ ks + 6 ≤ am_ms y ∧ P (.inr n) G I J
/-- the words of a throw: of the class, of its constructor -/
def am_tw (y n ik ic : Nat) : Prop := (1 ≤ n ∧ n ≤ 3) ∧ Cond.classLink (am_mY y).cls ik (am_en n) ∈ am_tb ∧ Cond.initialized (am_en n) ∈ am_tb ∧ (∀ w ∈ vx_atS (am_mY y).cls ic (am_en n) am_names, w ∈ am_tb) ∧ (∀ w ∈ Cond.classLink (am_mY y).cls ik (am_en n) :: Cond.initialized (am_en n) :: vx_atS (am_mY y).cls ic (am_en n) am_names, vx_ot w = true) ∧ Bundle.fit (am_en n) = true ∧ ∀ n ∈ am_names, Bundle.fit n = true
theorem am_thrown {P : am_P} {s : State} {D : va_G} {cT : Nat → ClassId} {A : Nat → Prop} {ad0 ad : am_A → Nat} {G0 G : am_G} {H : Heap} {locs : List Loc} {LS : Array Slot} {ls : am_L} {st : List am_V} {I : am_I} {J : am_J} (hn13 : 1 ≤ n ∧ n ≤ 3) (hM : am_M sc y ad0 G0 ad cT D A s H locs LS ls st G I J) (hp : P (.inr n) G I J) :
    ∀ t : State, s.vm.Alike t.vm → H.size ≤ t.heap.size → (∀ q : Nat, q < H.size → t.heap[q]? = H[q]?) → am_Xc D cT A ad0 G0 P (am_en n) s t := by
  intro t _ hz hq
  refine ⟨⟨n, G, I, J, ad, rfl, hn13.1, hn13.2, hp, hM.2.1.kept fun k q h => hq q.1 (vx_lt hM.2.1 h), hM.2.2.1, hM.2.2.2.2.1, hM.2.2.2.2.2.2.2.2⟩, Nat.le_trans hM.2.2.2.1.1 hz, fun q h1 h2 => ?_⟩
  rw [hq q (Nat.lt_of_lt_of_le h1 hM.2.2.2.1.1)]
  exact hM.2.2.2.1.2.1 q h1 h2
theorem ok_throw {ik is ic : Nat} {text : String} (hw : am_tw y n ik ic) (hstr : ((am_mY y).cls, is, text) ∈ am_str) (d0 : decode (am_mB y) pc = .ok (.new ik, 3)) (d3 : decode (am_mB y) (pc + 3) = .ok (.dup, 1)) (d4 : decode (am_mB y) (pc + 4) = .ok (.ldc is, 2)) (d6 : decode (am_mB y) (pc + 6) = .ok (.invokespecial ic, 3)) (d9 : decode (am_mB y) (pc + 9) = .ok (.athrow, 1)) (hd : 6 ≤ d) (hmo : ¬ am_mo y = 2) (hH : am_mH y = []) : am_ok l sc d y pc (am_throw y n) := by
  intro K X P ls st kc ks G I J _ _ hs
  intro p R e s m args below meth c D cT A ad0 G0 Q ad H locs LS hC hM hc hn
  obtain ⟨rfl, h1, h2, hp⟩ := hs
  obtain ⟨hQ, htb⟩ := hC.2.2.2.1 hmo
  obtain ⟨sa, hsa⟩ := hC.2.1.1.2.2.1 _ hstr
  rw [hQ]
  have hRf := hC.2.2.1.2.1
  have hRl := hC.2.2.1.2.2.1
  exact vx_throwS (names := am_names) (mc := am_mc y) (ms := am_ms y) hC.1.1 hC.1.2.1 hC.2.2.1.1 hC.1.2.2.2.2.1 hw.2.2.2.2.2.1 hw.2.2.2.2.2.2 (hC.2.1.1.use hw.2.1 args) (hC.2.1.1.use hw.2.2.1 args) hsa (fun w h => hC.2.1.1.use (hw.2.2.2.1 w h) args) hw.2.2.2.2.1 hC.2.1.2.2.2.1 hC.2.1.2.2.2.2 hM.2.2.2.1 (hM.1.1.trans hC.1.2.2.2.1.symm) d0 d3 d4 d6 d9
    (fun x hx => by rw [htb, hH] at hx; simp [tableOf] at hx) (by show 2 + 3 < R.frames; omega) (by show 0 + (13 * (2 + 1) + 43) ≤ R.locals; omega) (Nat.le_trans h1 hC.2.2.1.2.2.2.1) (Nat.le_trans h2 hC.2.2.1.2.2.2.2) hC.1.2.2.2.2.2.1 (am_thrown hw.1 hM hp) hM.2.2.2.1.2.2 h1 h2
theorem ok_throwW {ik is ic : Nat} {text : String} (hw : am_tw y n ik ic) (hstr : ((am_mY y).cls, is, text) ∈ am_str) (d0 : decode (am_mB y) pc = .ok (.new ik, 3)) (d3 : decode (am_mB y) (pc + 3) = .ok (.dup, 1)) (d4 : decode (am_mB y) (pc + 4) = .ok (.ldc_w is, 3)) (d7 : decode (am_mB y) (pc + 7) = .ok (.invokespecial ic, 3)) (d10 : decode (am_mB y) (pc + 10) = .ok (.athrow, 1)) (hd : 6 ≤ d) (hmo : ¬ am_mo y = 2) (hH : am_mH y = []) : am_ok l sc d y pc (am_throw y n) := by
  intro K X P ls st kc ks G I J _ _ hs
  intro p R e s m args below meth c D cT A ad0 G0 Q ad H locs LS hC hM hc hn
  obtain ⟨rfl, h1, h2, hp⟩ := hs
  obtain ⟨hQ, htb⟩ := hC.2.2.2.1 hmo
  obtain ⟨sa, hsa⟩ := hC.2.1.1.2.2.1 _ hstr
  rw [hQ]
  have hRf := hC.2.2.1.2.1
  have hRl := hC.2.2.1.2.2.1
  exact vx_throwSW (names := am_names) (mc := am_mc y) (ms := am_ms y) hC.1.1 hC.1.2.1 hC.2.2.1.1 hC.1.2.2.2.2.1 hw.2.2.2.2.2.1 hw.2.2.2.2.2.2 (hC.2.1.1.use hw.2.1 args) (hC.2.1.1.use hw.2.2.1 args) hsa (fun w h => hC.2.1.1.use (hw.2.2.2.1 w h) args) hw.2.2.2.2.1 hC.2.1.2.2.2.1 hC.2.1.2.2.2.2 hM.2.2.2.1 (hM.1.1.trans hC.1.2.2.2.1.symm) d0 d3 d4 d7 d10
    (fun x hx => by rw [htb, hH] at hx; simp [tableOf] at hx) (by show 2 + 3 < R.frames; omega) (by show 0 + (13 * (2 + 1) + 43) ≤ R.locals; omega) (Nat.le_trans h1 hC.2.2.1.2.2.2.1) (Nat.le_trans h2 hC.2.2.1.2.2.2.2) hC.1.2.2.2.2.2.1 (am_thrown hw.1 hM hp) hM.2.2.2.1.2.2 h1 h2
/-! library calls -/
def am_mmax (nx : Nat) : am_S := fun K _ _ ls st kc ks G I J => match st with
  | (.inl b) :: (.inl a) :: r => r.length ≤ 8 ∧ K nx ls ((.inl (if a < b then b else a)) :: r) kc ks G I J
  | _ => False
def am_mmin (nx : Nat) : am_S := fun K _ _ ls st kc ks G I J => match st with
  | (.inl b) :: (.inl a) :: r => r.length ≤ 8 ∧ K nx ls ((.inl (if b < a then b else a)) :: r) kc ks G I J
  | _ => False
theorem am_cat_le (r : List am_V) : (r.map am_cat).sum ≤ 2 * r.length := by
  induction r with
  | nil => exact Nat.le_refl _
  | cons v r ih =>
    have : am_cat v ≤ 2 := by rcases v with x | x | x <;> simp [am_cat]
    simp only [List.map_cons, List.sum_cons, List.length_cons]
    omega
theorem ok_mmax (h : decode (am_mB y) pc = .ok (.invokestatic idx, 3)) (hl : Cond.methodLink (am_mY y).cls idx Lib.Math.max.name ∈ am_tb) (hs0 : Cond.static Lib.Math.max.name ∈ am_tb) (hi : Cond.initialized "java/lang/Math" ∈ am_tb) (hc0 : Cond.code Lib.Math.max.name Lib.Math.max.code 2 (some .int) ∈ am_tb) (hd : 1 ≤ d) : am_ok l sc d y pc (am_mmax (pc + 3)) := by
  intro K X P ls st kc ks G I J hK _ hs
  unfold am_mmax at hs
  split at hs
  · rename_i b a r
    intro p R e s m args below meth c D cT A ad0 G0 Q ad H locs LS hC hM hc hn
    have hv := hM.sok
    simp only [List.forall_mem_cons] at hv
    have hRf := hC.2.2.1.2.1
    have hRl := hC.2.2.1.2.2.1
    have := am_cat_le r
    refine va_mmax hC.1.1 hC.1.2.1 (hC.1.2.2.2.1.trans hM.1.1.symm) hC.1.2.2.2.2.1 (hC.2.1.1.use hl args) (hC.2.1.1.use hs0 args) (hC.2.1.1.use hi args) (hC.2.1.1.use hc0 args) (by omega) (by rw [am_cat_sum]; have := hs.1; omega) (Nat.le_trans hc hC.2.2.1.2.2.2.1) (Nat.le_trans hn hC.2.2.1.2.2.2.2) h ?_
    exact hK _ _ _ _ _ _ _ _ hs.2 _ _ _ _ _ _ _ _ _ _ _ _ _ _ _ _ _ _ _ hC (hM.stk (List.forall_mem_cons.mpr ⟨trivial, hv.2.2⟩)) hc hn
  · exact hs.elim
theorem ok_mmin (h : decode (am_mB y) pc = .ok (.invokestatic idx, 3)) (hl : Cond.methodLink (am_mY y).cls idx Lib.Math.min.name ∈ am_tb) (hs0 : Cond.static Lib.Math.min.name ∈ am_tb) (hi : Cond.initialized "java/lang/Math" ∈ am_tb) (hc0 : Cond.code Lib.Math.min.name Lib.Math.min.code 2 (some .int) ∈ am_tb) (hd : 1 ≤ d) : am_ok l sc d y pc (am_mmin (pc + 3)) := by
  intro K X P ls st kc ks G I J hK _ hs
  unfold am_mmin at hs
  split at hs
  · rename_i b a r
    intro p R e s m args below meth c D cT A ad0 G0 Q ad H locs LS hC hM hc hn
    have hv := hM.sok
    simp only [List.forall_mem_cons] at hv
    have hRf := hC.2.2.1.2.1
    have hRl := hC.2.2.1.2.2.1
    have := am_cat_le r
    refine va_mmin hC.1.1 hC.1.2.1 (hC.1.2.2.2.1.trans hM.1.1.symm) hC.1.2.2.2.2.1 (hC.2.1.1.use hl args) (hC.2.1.1.use hs0 args) (hC.2.1.1.use hi args) (hC.2.1.1.use hc0 args) (by omega) (by rw [am_cat_sum]; have := hs.1; omega) (Nat.le_trans hc hC.2.2.1.2.2.2.1) (Nat.le_trans hn hC.2.2.1.2.2.2.2) h ?_
    exact hK _ _ _ _ _ _ _ _ hs.2 _ _ _ _ _ _ _ _ _ _ _ _ _ _ _ _ _ _ _ hC (hM.stk (List.forall_mem_cons.mpr ⟨trivial, hv.2.2⟩)) hc hn
  · exact hs.elim
/-- System.arraycopy of ints -/
def am_acp (nx : Nat) : am_S := fun K _ _ ls st kc ks G I J => match st with
  | [.inl k, .inl dp, .inr (.inr a), .inl sp, .inr (.inr a0)] => (am_at a.1 = 0 ∧ am_at a0.1 = 0) ∧ (¬ sp < 0 ∧ ¬ dp < 0 ∧ ¬ k < 0 ∧ sp.toNatClampNeg + k.toNatClampNeg ≤ am_an a0.1 ∧ dp.toNatClampNeg + k.toNatClampNeg ≤ am_an a.1) ∧ K nx ls [] kc ks G (am_cpI I a0 a sp.toNatClampNeg dp.toNatClampNeg k.toNatClampNeg) J
  | _ => False
theorem ok_acp (h : decode (am_mB y) pc = .ok (.invokestatic idx, 3)) (hl : Cond.methodLink (am_mY y).cls idx arraycopyName ∈ am_tb) (hna : Cond.native arraycopyName ∈ am_tb) (hs0 : Cond.static arraycopyName ∈ am_tb) (hi : Cond.initialized "java/lang/System" ∈ am_tb) (hd : 1 ≤ d ∧ nativeFrameWords "java/lang/System" "arraycopy" 5 + 11 ≤ 35 * d) : am_ok l sc d y pc (am_acp (pc + 3)) := by
  intro K X P ls st kc ks G I J hK _ hs
  unfold am_acp at hs
  split at hs
  · rename_i k dp a sp a0
    intro p R e s m args below meth c D cT A ad0 G0 Q ad H locs LS hC hM hc hn
    have hv := hM.sok
    simp only [List.forall_mem_cons] at hv
    obtain ⟨⟨t1, t0⟩, ⟨g1, g2, g3, g4, g5⟩, hs⟩ := hs
    have h36 := am_at_small a.1 (by omega)
    have h36' := am_at_small a0.1 (by omega)
    have hRf := hC.2.2.1.2.1
    have hRl := hC.2.2.1.2.2.1
    obtain ⟨q1, he1, hq1⟩ := am_ww_at (ad := ad) (cT := cT) (I := I) (J := J) (hM.inG hv.2.2.1 (by omega))
    obtain ⟨q0, he0, -⟩ := am_ww_at (ad := ad) (cT := cT) (I := I) (J := J) (hM.inG hv.2.2.2.2.1 (by omega))
    rw [am_ce_i t1 (by decide)] at he1
    rw [am_ce_i t0 (by decide)] at he0
    refine va_copyi (rest := []) hC.1.1 hC.1.2.1 (hC.1.2.2.2.1.trans hM.1.1.symm) hC.1.2.2.2.2.1 (hC.2.1.1.use hl args) (hC.2.1.1.use hna args) (hC.2.1.1.use hs0 args) (hC.2.1.1.use hi args) hC.2.1.2.1 hM.2.1 hM.2.2.1 hM.2.2.2.1 q0 q1 0 0 he0 he1 (am_ty_at cT 0 (by decide)) (am_ty_at cT 0 (by decide)) rfl g1 g2 g3 g4 g5 (fun _ _ => rfl) (by omega) (by show 0 + (_ + 11) ≤ _; omega) h (fun H1 locs1 hP1 hD1 hS1 => ?_)
    rw [am_ww_set (G' := G) (I' := am_cpI I a0 a sp.toNatClampNeg dp.toNatClampNeg k.toNatClampNeg) (J' := J) hM.2.2.1 hq1 rfl (by rw [am_ce_i t1 (by decide)]; simp [am_cpI]) (fun b _ hb => am_ce_eq (fun _ => rfl) (by simp [am_cpI, hb]) rfl)] at hP1 hD1
    exact hK _ _ _ _ _ _ _ _ hs _ _ _ _ _ _ _ _ _ _ _ _ _ _ _ _ _ _ _ hC (hM.wld rfl hP1 hD1 hS1 hM.2.2.2.2.1 (fun _ h => nomatch h)) hc hn
  · exact hs.elim
/-- Object.<init> -/
def am_oinit (nx : Nat) : am_S := fun K _ _ ls st kc ks G I J => match st with
  | [.inr (.inr _)] => K nx ls [] kc ks G I J
  | _ => False
theorem ok_oinit (h : decode (am_mB y) pc = .ok (.invokespecial idx, 3)) (hl : Cond.methodLink (am_mY y).cls idx Lib.objectInit ∈ am_tb) (hi : Cond.instanceMethod Lib.objectInit ∈ am_tb) (hc0 : Cond.code Lib.objectInit ⟨#[0xb1]⟩ 1 none ∈ am_tb) (hd : 1 ≤ d) : am_ok l sc d y pc (am_oinit (pc + 3)) := by
  intro K X P ls st kc ks G I J hK _ hs
  unfold am_oinit at hs
  split at hs
  · rename_i a
    intro p R e s m args below meth c D cT A ad0 G0 Q ad H locs LS hC hM hc hn
    have hRf := hC.2.2.1.2.1
    have hRl := hC.2.2.1.2.2.1
    refine W.objInit (rest := []) hC.1.1 hC.1.2.1 hC.1.2.2.2.2.1 (hC.2.1.1.use hl args) (hC.2.1.1.use hi args) (hC.2.1.1.use hc0 args) rfl (hM.1.1.trans hC.1.2.2.2.1.symm) rfl h (by omega) (by show 2 * 0 + 0 + 12 ≤ _; omega) ?_
    exact hK _ _ _ _ _ _ _ _ hs _ _ _ _ _ _ _ _ _ _ _ _ _ _ _ _ _ _ _ hC (hM.stk (fun _ h => nomatch h)) hc hn
  · exact hs.elim
end AME
