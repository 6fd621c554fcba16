/-! ===== constructors: how the world grows ===== -/
def lkp : List (Nat × am_A) → Nat → Option am_A
  | [], _ => none
  | q :: r, k => if k = q.1 then some q.2 else lkp r k
/-- the cells C are there, as they stay -/
def gst (G0 : am_G) (I0 : am_I) (C : am_A → Prop) (G : am_G) (I : am_I) : Prop :=
  (∀ a, a ∈ G.1 ↔ a ∈ G0.1 ∨ C a) ∧ (∀ a, ¬ C a → G.2 a = G0.2 a) ∧ (∀ a, C a → G.2 a = am_R0 a) ∧ ∀ a, ¬ C a → I a = I0 a
/-- the same, while the object o still gets its fields -/
def gop (G0 : am_G) (I0 : am_I) (o : am_A) (C : am_A → Prop) (fl : List (Nat × am_A)) (G : am_G) (I : am_I) : Prop :=
  (∀ a, a ∈ G.1 ↔ a ∈ G0.1 ∨ C a) ∧ (∀ a, ¬ a = o → ¬ C a → G.2 a = G0.2 a) ∧ (∀ a, C a → G.2 a = am_R0 a) ∧ G.2 o = lkp fl ∧ ∀ a, ¬ C a → I a = I0 a
section GR
variable {G0 G G2 : am_G} {I0 I I2 : am_I} {o x : am_A} {C Cx : am_A → Prop} {fl : List (Nat × am_A)} {k : Nat}
theorem gop.start (h : G.2 o = fun _ => none) : gop G I o (fun _ => False) [] G I :=
  ⟨fun a => ⟨Or.inl, fun q => q.elim id False.elim⟩, fun _ _ _ => rfl, fun _ q => q.elim, by rw [h]; rfl, fun _ _ => rfl⟩
theorem am_nG_ne {a : am_A} (h : ¬ a = x) : (am_nG G x).2 a = G.2 a := by
  funext k
  exact if_neg h
theorem am_nG_eq : (am_nG G x).2 x = fun _ => none := by
  funext k
  exact if_pos rfl
theorem am_nG_mem {a : am_A} : a ∈ (am_nG G x).1 ↔ a ∈ G.1 ∨ a = x := by
  show a ∈ G.1 ++ [x] ↔ _
  rw [List.mem_append, List.mem_singleton]
theorem am_nI_ne {a : am_A} (h : ¬ a = x) : am_nI I x a = I a := if_neg h
theorem am_nI_eq : am_nI I x x = fun _ => 0 := if_pos rfl
theorem am_upR_ne {R : am_A → Nat → Option am_A} {a : am_A} (h : ¬ a = o) : am_upR R o k x a = R a := by
  funext j
  exact if_neg h
theorem am_upR_eq {R : am_A → Nat → Option am_A} (h : R o = lkp fl) : am_upR R o k x o = lkp ((k, x) :: fl) := by
  funext j
  show (if o = o then (if j = k then some x else R o j) else R o j) = if j = k then some x else lkp fl j
  rw [if_pos rfl, h]
theorem gop.call (h : gop G0 I0 o C fl G I) (hx : Cx x) (ho : ¬ C o) (hox : ¬ Cx o) (hd : ∀ a, Cx a → ¬ C a) (h2 : gst (am_nG G x) (am_nI I x) Cx G2 I2) : gop G0 I0 o (fun a => C a ∨ Cx a) ((k, x) :: fl) (G2.1, am_upR G2.2 o k x) I2 := by
  obtain ⟨a1, a2, a3, a4, a5⟩ := h
  obtain ⟨b1, b2, b3, b4⟩ := h2
  have nx : ∀ a, ¬ Cx a → ¬ a = x := fun a q e => q (e ▸ hx)
  refine ⟨fun a => ?_, fun a h1 h2 => ?_, fun a ha => ?_, ?_, fun a ha => ?_⟩
  · show a ∈ G2.1 ↔ _
    rw [b1, am_nG_mem, a1]
    constructor
    · rintro ((q | q) | q)
      · rcases q with q | q
        · exact Or.inl q
        · exact Or.inr (Or.inl q)
      · exact Or.inr (Or.inr (q ▸ hx))
      · exact Or.inr (Or.inr q)
    · rintro (q | q | q)
      · exact Or.inl (Or.inl (Or.inl q))
      · exact Or.inl (Or.inl (Or.inr q))
      · exact Or.inr q
  · have n1 : ¬ C a := fun q => h2 (Or.inl q)
    have n2 : ¬ Cx a := fun q => h2 (Or.inr q)
    show am_upR G2.2 o k x a = _
    rw [am_upR_ne h1, b2 a n2, am_nG_ne (nx a n2), a2 a h1 n1]
  · show am_upR G2.2 o k x a = _
    rcases ha with q | q
    · have n1 : ¬ a = o := fun e => ho (e ▸ q)
      have n2 : ¬ Cx a := fun z => hd a z q
      rw [am_upR_ne n1, b2 a n2, am_nG_ne (nx a n2), a3 a q]
    · have n1 : ¬ a = o := fun e => hox (e ▸ q)
      rw [am_upR_ne n1, b3 a q]
  · show am_upR G2.2 o k x o = _
    refine am_upR_eq ?_
    rw [b2 o hox, am_nG_ne (nx o hox), a4]
  · have n1 : ¬ C a := fun q => ha (Or.inl q)
    have n2 : ¬ Cx a := fun q => ha (Or.inr q)
    rw [b4 a n2, am_nI_ne (nx a n2), a5 a n1]
theorem gst.one (hR : am_R0 x = fun _ => none) : gst (am_nG G x) (am_nI I x) (fun a => a = x) (am_nG G x) (am_nI I x) :=
  ⟨fun a => ⟨Or.inl, fun q => q.elim id (fun e => am_nG_mem.mpr (Or.inr e))⟩, fun _ _ => rfl, fun a e => by rw [e, am_nG_eq, hR], fun _ _ => rfl⟩
theorem gop.arr (h : gop G0 I0 o C fl G I) (hx : ¬ C x) (ho : ¬ C o) (hxo : ¬ o = x) (hR : am_R0 x = fun _ => none) : gop G0 I0 o (fun a => C a ∨ a = x) ((k, x) :: fl) ((am_nG G x).1, am_upR (am_nG G x).2 o k x) (am_nI I x) :=
  h.call (Cx := fun a => a = x) rfl ho hxo (fun a e => e ▸ hx) (gst.one hR)
theorem gop.close (h : gop G0 I0 o C fl G I) (ho : o ∈ G0.1) (hc : ¬ C o) (hR : lkp fl = am_R0 o) : gst G0 I0 (fun a => C a ∨ a = o) G I := by
  obtain ⟨a1, a2, a3, a4, a5⟩ := h
  refine ⟨fun a => ?_, fun a q => a2 a (fun e => q (Or.inr e)) (fun e => q (Or.inl e)), fun a q => ?_, fun a q => a5 a (fun e => q (Or.inl e))⟩
  · rw [a1]
    constructor
    · rintro (q | q)
      · exact Or.inl q
      · exact Or.inr (Or.inl q)
    · rintro (q | q | q)
      · exact Or.inl q
      · exact Or.inr q
      · exact Or.inl (q ▸ ho)
  · rcases q with q | q
    · exact a3 a q
    · rw [q, a4, hR]
theorem gst.cg (h : gst G0 I0 C G I) (hc : ∀ a, C a ↔ Cx a) : gst G0 I0 Cx G I := by
  have : C = Cx := funext fun a => propext (hc a)
  rw [← this]
  exact h
/-- the cells C are written -/
theorem gst.wr (h : gst G0 I0 C G I) (hf : am_fr C I I2) : gst G0 I0 C G I2 :=
  ⟨h.1, h.2.1, h.2.2.1, fun a q => (hf a q).trans (h.2.2.2 a q)⟩
end GR
theorem R0_arr {s t : Nat} (h : 10 ≤ s) (h18 : ¬ s = 18) (h19 : ¬ s = 19) : am_R0 (s, t) = fun _ => none := by
  funext k
  unfold am_R0
  split <;> simp_all
theorem R0_5 (t : Nat) : am_R0 (5, t) = fun _ => none := by
  funext k
  unfold am_R0
  split <;> simp_all
theorem R0_1 : am_R0 (1, 0) = fun _ => none := by
  funext k
  unfold am_R0
  split <;> simp_all
theorem lkp_7 (t : Nat) : lkp [(12, (17, t)), (11, (16, t)), (10, (15, t)), (9, (14, t)), (8, (13, t)), (7, (12, t)), (6, (11, t)), (5, (10, t))] = am_R0 (7, t) := by
  funext k
  rcases (show k = 5 ∨ k = 6 ∨ k = 7 ∨ k = 8 ∨ k = 9 ∨ k = 10 ∨ k = 11 ∨ k = 12 ∨ (k < 5 ∨ 12 < k) by omega) with rfl | rfl | rfl | rfl | rfl | rfl | rfl | rfl | h
  · rfl
  · rfl
  · rfl
  · rfl
  · rfl
  · rfl
  · rfl
  · rfl
  · have e : am_R0 (7, t) k = none := by
      unfold am_R0
      split <;> simp_all
    rw [e]
    simp only [lkp]
    rw [if_neg (by omega), if_neg (by omega), if_neg (by omega), if_neg (by omega), if_neg (by omega), if_neg (by omega), if_neg (by omega), if_neg (by omega)]
theorem lkp_8 : lkp [(0, (24, 0))] = am_R0 (8, 0) := by
  funext k
  by_cases h : k = 0
  · rcases h with rfl <;> rfl
  · have e : am_R0 (8, 0) k = none := by
      unfold am_R0
      split <;> simp_all
    rw [e]
    simp only [lkp]
    rw [if_neg (by omega)]
theorem lkp_4 : lkp [(3, (5, 0)), (2, (21, 0))] = am_R0 (4, 0) := by
  funext k
  by_cases h : k = 3 ∨ k = 2
  · rcases h with rfl | rfl <;> rfl
  · have e : am_R0 (4, 0) k = none := by
      unfold am_R0
      split <;> simp_all
    rw [e]
    simp only [lkp]
    rw [if_neg (by omega), if_neg (by omega)]
theorem lkp_2 : lkp [(2, (5, 1)), (1, (23, 0)), (0, (22, 0))] = am_R0 (2, 0) := by
  funext k
  by_cases h : k = 2 ∨ k = 1 ∨ k = 0
  · rcases h with rfl | rfl | rfl <;> rfl
  · have e : am_R0 (2, 0) k = none := by
      unfold am_R0
      split <;> simp_all
    rw [e]
    simp only [lkp]
    rw [if_neg (by omega), if_neg (by omega), if_neg (by omega)]
theorem lkp_3 : lkp [(0, (18, 0))] = am_R0 (3, 0) := by
  funext k
  by_cases h : k = 0
  · rcases h with rfl <;> rfl
  · have e : am_R0 (3, 0) k = none := by
      unfold am_R0
      split <;> simp_all
    rw [e]
    simp only [lkp]
    rw [if_neg (by omega)]
theorem lkp_6 : lkp [(1, (20, 0)), (0, (19, 0))] = am_R0 (6, 0) := by
  funext k
  by_cases h : k = 1 ∨ k = 0
  · rcases h with rfl | rfl <;> rfl
  · have e : am_R0 (6, 0) k = none := by
      unfold am_R0
      split <;> simp_all
    rw [e]
    simp only [lkp]
    rw [if_neg (by omega), if_neg (by omega)]
theorem lkp_0 : lkp [(7, (7, 17)), (6, (1, 0)), (5, (2, 0)), (4, (4, 0)), (3, (6, 0)), (2, (3, 0)), (1, (7, 0)), (0, (8, 0))] = am_R0 (0, 0) := by
  funext k
  by_cases h : k = 7 ∨ k = 6 ∨ k = 5 ∨ k = 4 ∨ k = 3 ∨ k = 2 ∨ k = 1 ∨ k = 0
  · rcases h with rfl | rfl | rfl | rfl | rfl | rfl | rfl | rfl <;> rfl
  · have e : am_R0 (0, 0) k = none := by
      unfold am_R0
      split <;> simp_all
    rw [e]
    simp only [lkp]
    rw [if_neg (by omega), if_neg (by omega), if_neg (by omega), if_neg (by omega), if_neg (by omega), if_neg (by omega), if_neg (by omega), if_neg (by omega)]
section IN
variable {l : Launch} {D : Nat} {G : am_G} {I : am_I} {J : am_J} {P : am_P}
theorem s_i_Sheet {s : Nat} (hD : 1 ≤ D) (k : P (.inl none) G I J) : am_T l D y_Sheet_init [vR (5, s)] G I J P := by
  obtain ⟨d, rfl⟩ : ∃ d, D = d + 1 := ⟨D - 1, by omega⟩
  refine en_Sheet_init 20 (Nat.le_of_ble_eq_true rfl) ?_
  simp (disch := omega) only [am_z, cq_Sheet_init, Nat.reduceAdd, Nat.zero_le, Nat.reduceLeDiff, ar_lit]
  exact k
theorem s_i_Command (hD : 1 ≤ D) (k : P (.inl none) G I J) : am_T l D y_Command_init [vR (1, 0)] G I J P := by
  obtain ⟨d, rfl⟩ : ∃ d, D = d + 1 := ⟨D - 1, by omega⟩
  refine en_Command_init 20 (Nat.le_of_ble_eq_true rfl) ?_
  simp (disch := omega) only [am_z, cq_Command_init, Nat.reduceAdd, Nat.zero_le, Nat.reduceLeDiff, ar_lit]
  exact k
theorem s_i_Table {t : Nat} (hD : 2 ≤ D) (ho : (7, t) ∈ G.1) (h0 : G.2 (7, t) = fun _ => none) (hf : ∀ s, 10 ≤ s → s ≤ 17 → ¬ (s, t) ∈ G.1) (k : ∀ G' I' J', gst G I (isT t) G' I' → rC I' t tnew → I' (17, t) 0 = nI 0 → P (.inl none) G' I' J') : am_T l D y_Table_init [vR (7, t)] G I J P := by
  obtain ⟨d, rfl⟩ : ∃ d, D = d + 1 := ⟨D - 1, by omega⟩
  have fin : ∀ C G' I' J', gop G I (7, t) C [(12, (17, t)), (11, (16, t)), (10, (15, t)), (9, (14, t)), (8, (13, t)), (7, (12, t)), (6, (11, t)), (5, (10, t))] G' I' → (∀ a, C a ∨ a = (7, t) ↔ isT t a) → ¬ C (7, t) → I' (17, t) = (fun _ => 0) → am_X l (0, fun _ => 0) (d + 1) y_Table_init P 68 [some (vR (7, t))] [] 8 193 G' I' J' := by
    intro C G' I' J' g hC hn h17
    have e12 : G'.2 (7, t) 12 = some (17, t) := by rw [g.2.2.2.1]; rfl
    have z17 : I' (17, t) 0 = nI 0 := by rw [h17]; rfl
    refine rn_Table_init 20 ?_
    simp (disch := omega) only [am_z, cq_Table_init, Nat.reduceAdd, Nat.zero_le, Nat.reduceLeDiff, ar_lit]
    refine s_makeNew (by omega) e12 ?_
    simp only [am_z, Nat.reduceAdd, Nat.zero_le, Nat.reduceLeDiff]
    refine rn_Table_init 20 ?_
    simp (disch := omega) only [am_z, cq_Table_init, Nat.reduceAdd, Nat.zero_le, Nat.reduceLeDiff, ar_lit]
    have hc := rC.new z17
    refine k G' _ J' (((g.close ho hn (lkp_7 t)).cg hC).wr am_nw_fr) hc ?_
    exact hc.v0 tnew_w
  have g0 := gop.start (I := I) h0
  refine en_Table_init 2 (Nat.le_of_ble_eq_true rfl) ?_
  simp only [am_z, cq_Table_init, Nat.reduceAdd, Nat.zero_le, Nat.reduceLeDiff]
  refine rn_Table_init 4 ?_
  simp (disch := omega) only [am_z, cq_Table_init, Nat.reduceAdd, Nat.zero_le, Nat.reduceLeDiff, ar_lit, ar_lt, ar_cl, Nat.not_lt_zero, not_false_eq_true]
  refine ⟨(10, t), ⟨rfl, rfl⟩, Nat.le_of_ble_eq_true rfl, fun q => ((g0.1 _).mp q).elim (hf _ (by omega) (by omega)) (by simp), Nat.le_of_ble_eq_true rfl, ?_⟩
  have g1 := g0.arr (k := 5) (x := (10, t)) (by simp) (by simp) (by simp) (R0_arr (by omega) (by omega) (by omega))
  refine rn_Table_init 4 ?_
  simp (disch := omega) only [am_z, cq_Table_init, Nat.reduceAdd, Nat.zero_le, Nat.reduceLeDiff, ar_lit, ar_lt, ar_cl, Nat.not_lt_zero, not_false_eq_true]
  refine ⟨(11, t), ⟨rfl, rfl⟩, Nat.le_of_ble_eq_true rfl, fun q => ((g1.1 _).mp q).elim (hf _ (by omega) (by omega)) (by simp), Nat.le_of_ble_eq_true rfl, ?_⟩
  have g2 := g1.arr (k := 6) (x := (11, t)) (by simp) (by simp) (by simp) (R0_arr (by omega) (by omega) (by omega))
  refine rn_Table_init 4 ?_
  simp (disch := omega) only [am_z, cq_Table_init, Nat.reduceAdd, Nat.zero_le, Nat.reduceLeDiff, ar_lit, ar_lt, ar_cl, Nat.not_lt_zero, not_false_eq_true]
  refine ⟨(12, t), ⟨rfl, rfl⟩, Nat.le_of_ble_eq_true rfl, fun q => ((g2.1 _).mp q).elim (hf _ (by omega) (by omega)) (by simp), Nat.le_of_ble_eq_true rfl, ?_⟩
  have g3 := g2.arr (k := 7) (x := (12, t)) (by simp) (by simp) (by simp) (R0_arr (by omega) (by omega) (by omega))
  refine rn_Table_init 4 ?_
  simp (disch := omega) only [am_z, cq_Table_init, Nat.reduceAdd, Nat.zero_le, Nat.reduceLeDiff, ar_lit, ar_lt, ar_cl, Nat.not_lt_zero, not_false_eq_true]
  refine ⟨(13, t), ⟨rfl, rfl⟩, Nat.le_of_ble_eq_true rfl, fun q => ((g3.1 _).mp q).elim (hf _ (by omega) (by omega)) (by simp), Nat.le_of_ble_eq_true rfl, ?_⟩
  have g4 := g3.arr (k := 8) (x := (13, t)) (by simp) (by simp) (by simp) (R0_arr (by omega) (by omega) (by omega))
  refine rn_Table_init 4 ?_
  simp (disch := omega) only [am_z, cq_Table_init, Nat.reduceAdd, Nat.zero_le, Nat.reduceLeDiff, ar_lit, ar_lt, ar_cl, Nat.not_lt_zero, not_false_eq_true]
  refine ⟨(14, t), ⟨rfl, rfl⟩, Nat.le_of_ble_eq_true rfl, fun q => ((g4.1 _).mp q).elim (hf _ (by omega) (by omega)) (by simp), Nat.le_of_ble_eq_true rfl, ?_⟩
  have g5 := g4.arr (k := 9) (x := (14, t)) (by simp) (by simp) (by simp) (R0_arr (by omega) (by omega) (by omega))
  refine rn_Table_init 4 ?_
  simp (disch := omega) only [am_z, cq_Table_init, Nat.reduceAdd, Nat.zero_le, Nat.reduceLeDiff, ar_lit, ar_lt, ar_cl, Nat.not_lt_zero, not_false_eq_true]
  refine ⟨(15, t), ⟨rfl, rfl⟩, Nat.le_of_ble_eq_true rfl, fun q => ((g5.1 _).mp q).elim (hf _ (by omega) (by omega)) (by simp), Nat.le_of_ble_eq_true rfl, ?_⟩
  have g6 := g5.arr (k := 10) (x := (15, t)) (by simp) (by simp) (by simp) (R0_arr (by omega) (by omega) (by omega))
  refine rn_Table_init 4 ?_
  simp (disch := omega) only [am_z, cq_Table_init, Nat.reduceAdd, Nat.zero_le, Nat.reduceLeDiff, ar_lit, ar_lt, ar_cl, Nat.not_lt_zero, not_false_eq_true]
  refine ⟨(16, t), ⟨rfl, rfl⟩, Nat.le_of_ble_eq_true rfl, fun q => ((g6.1 _).mp q).elim (hf _ (by omega) (by omega)) (by simp), Nat.le_of_ble_eq_true rfl, ?_⟩
  have g7 := g6.arr (k := 11) (x := (16, t)) (by simp) (by simp) (by simp) (R0_arr (by omega) (by omega) (by omega))
  refine rn_Table_init 4 ?_
  simp (disch := omega) only [am_z, cq_Table_init, Nat.reduceAdd, Nat.zero_le, Nat.reduceLeDiff, ar_lit, ar_lt, ar_cl, Nat.not_lt_zero, not_false_eq_true]
  refine ⟨(17, t), ⟨rfl, rfl⟩, Nat.le_of_ble_eq_true rfl, fun q => ((g7.1 _).mp q).elim (hf _ (by omega) (by omega)) (by simp), Nat.le_of_ble_eq_true rfl, ?_⟩
  have g8 := g7.arr (k := 12) (x := (17, t)) (by simp) (by simp) (by simp) (R0_arr (by omega) (by omega) (by omega))
  refine fin _ _ _ _ g8 (fun a => ?_) (by simp) am_nI_eq
  obtain ⟨a1, a2⟩ := a
  simp only [Prod.mk.injEq, false_or]
  constructor
  · intro q
    refine ⟨?_, ?_⟩ <;> simp only <;> omega
  · rintro ⟨q1, q2⟩
    simp only at q1 q2
    omega
theorem s_i_Text (hD : 1 ≤ D) (ho : (8, 0) ∈ G.1) (h0 : G.2 (8, 0) = fun _ => none) (hf : ¬ (24, 0) ∈ G.1) (k : ∀ G' I' J', gst G I (fun a => a.2 = 0 ∧ (a.1 = 8 ∨ a.1 = 24)) G' I' → I' (8, 0) = I (8, 0) → P (.inl none) G' I' J') : am_T l D y_Text_init [vR (8, 0)] G I J P := by
  obtain ⟨d, rfl⟩ : ∃ d, D = d + 1 := ⟨D - 1, by omega⟩
  have g0 := gop.start (I := I) h0
  refine en_Text_init 2 (Nat.le_of_ble_eq_true rfl) ?_
  simp only [am_z, cq_Text_init, Nat.reduceAdd, Nat.zero_le, Nat.reduceLeDiff]
  refine rn_Text_init 4 ?_
  simp (disch := omega) only [am_z, cq_Text_init, Nat.reduceAdd, Nat.zero_le, Nat.reduceLeDiff, ar_lit, ar_lt, ar_cl, Nat.not_lt_zero, not_false_eq_true]
  refine ⟨(24, 0), ⟨rfl, rfl⟩, Nat.le_of_ble_eq_true rfl, fun q => ((g0.1 _).mp q).elim (hf) (by simp), Nat.le_of_ble_eq_true rfl, ?_⟩
  have g1 := g0.arr (k := 0) (x := (24, 0)) (by simp) (by simp) (by simp) (R0_arr (by omega) (by omega) (by omega))
  refine rn_Text_init 20 ?_
  simp (disch := omega) only [am_z, cq_Text_init, Nat.reduceAdd, Nat.zero_le, Nat.reduceLeDiff, ar_lit]
  exact k _ _ _ ((g1.close ho (by simp) (lkp_8)).cg (fun a => by obtain ⟨a1, a2⟩ := a; simp only [Prod.mk.injEq, false_or]; omega)) (am_nI_ne (by simp))
theorem s_i_Layout (hD : 2 ≤ D) (ho : (4, 0) ∈ G.1) (h0 : G.2 (4, 0) = fun _ => none) (hf : ¬ (21, 0) ∈ G.1) (hf5 : ¬ (5, 0) ∈ G.1) (k : ∀ G' I' J', gst G I (fun a => a.2 = 0 ∧ (a.1 = 4 ∨ a.1 = 5 ∨ a.1 = 21)) G' I' → P (.inl none) G' I' J') : am_T l D y_Layout_init [vR (4, 0)] G I J P := by
  obtain ⟨d, rfl⟩ : ∃ d, D = d + 1 := ⟨D - 1, by omega⟩
  have g0 := gop.start (I := I) h0
  refine en_Layout_init 2 (Nat.le_of_ble_eq_true rfl) ?_
  simp only [am_z, cq_Layout_init, Nat.reduceAdd, Nat.zero_le, Nat.reduceLeDiff]
  refine rn_Layout_init 4 ?_
  simp (disch := omega) only [am_z, cq_Layout_init, Nat.reduceAdd, Nat.zero_le, Nat.reduceLeDiff, ar_lit, ar_lt, ar_cl, Nat.not_lt_zero, not_false_eq_true]
  refine ⟨(21, 0), ⟨rfl, rfl⟩, Nat.le_of_ble_eq_true rfl, fun q => ((g0.1 _).mp q).elim (hf) (by simp), Nat.le_of_ble_eq_true rfl, ?_⟩
  have g1 := g0.arr (k := 2) (x := (21, 0)) (by simp) (by simp) (by simp) (R0_arr (by omega) (by omega) (by omega))
  refine rn_Layout_init 4 ?_
  simp (disch := omega) only [am_z, cq_Layout_init, Nat.reduceAdd, Nat.zero_le, Nat.reduceLeDiff, ar_lit, ar_lt, ar_cl, Nat.not_lt_zero, not_false_eq_true]
  refine ⟨Nat.le_of_ble_eq_true rfl, 0, fun q => ((g1.1 _).mp q).elim hf5 (by simp), Nat.le_of_ble_eq_true rfl, ?_⟩
  refine s_i_Sheet (by omega) ?_
  have g2 := g1.call (k := 3) (x := (5, 0)) (Cx := fun a => a = (5, 0)) rfl (by simp) (by simp) (fun a e => by rw [e]; simp) (gst.one (R0_5 0))
  simp only [am_z, Nat.reduceAdd, Nat.zero_le, Nat.reduceLeDiff]
  refine rn_Layout_init 20 ?_
  simp (disch := omega) only [am_z, cq_Layout_init, Nat.reduceAdd, Nat.zero_le, Nat.reduceLeDiff, ar_lit]
  exact ⟨by decide, k _ _ _ ((g2.close ho (by simp) (lkp_4)).cg (fun a => by obtain ⟨a1, a2⟩ := a; simp only [Prod.mk.injEq, false_or]; omega))⟩
theorem s_i_Evener (hD : 2 ≤ D) (ho : (2, 0) ∈ G.1) (h0 : G.2 (2, 0) = fun _ => none) (hf : ¬ (22, 0) ∈ G.1 ∧ ¬ (23, 0) ∈ G.1 ∧ ¬ (5, 1) ∈ G.1) (k : ∀ G' I' J', gst G I (fun a => (a.2 = 0 ∧ (a.1 = 2 ∨ a.1 = 22 ∨ a.1 = 23)) ∨ (a.1 = 5 ∧ a.2 = 1)) G' I' → P (.inl none) G' I' J') : am_T l D y_Evener_init [vR (2, 0)] G I J P := by
  obtain ⟨d, rfl⟩ : ∃ d, D = d + 1 := ⟨D - 1, by omega⟩
  have g0 := gop.start (I := I) h0
  refine en_Evener_init 2 (Nat.le_of_ble_eq_true rfl) ?_
  simp only [am_z, cq_Evener_init, Nat.reduceAdd, Nat.zero_le, Nat.reduceLeDiff]
  refine rn_Evener_init 4 ?_
  simp (disch := omega) only [am_z, cq_Evener_init, Nat.reduceAdd, Nat.zero_le, Nat.reduceLeDiff, ar_lit, ar_lt, ar_cl, Nat.not_lt_zero, not_false_eq_true]
  refine ⟨(22, 0), ⟨rfl, rfl⟩, Nat.le_of_ble_eq_true rfl, fun q => ((g0.1 _).mp q).elim (by first | exact hf.1 | exact hf.2.1) (by simp), Nat.le_of_ble_eq_true rfl, ?_⟩
  have g1 := g0.arr (k := 0) (x := (22, 0)) (by simp) (by simp) (by simp) (R0_arr (by omega) (by omega) (by omega))
  refine rn_Evener_init 4 ?_
  simp (disch := omega) only [am_z, cq_Evener_init, Nat.reduceAdd, Nat.zero_le, Nat.reduceLeDiff, ar_lit, ar_lt, ar_cl, Nat.not_lt_zero, not_false_eq_true]
  refine ⟨(23, 0), ⟨rfl, rfl⟩, Nat.le_of_ble_eq_true rfl, fun q => ((g1.1 _).mp q).elim (by first | exact hf.1 | exact hf.2.1) (by simp), Nat.le_of_ble_eq_true rfl, ?_⟩
  have g2 := g1.arr (k := 1) (x := (23, 0)) (by simp) (by simp) (by simp) (R0_arr (by omega) (by omega) (by omega))
  refine rn_Evener_init 4 ?_
  simp (disch := omega) only [am_z, cq_Evener_init, Nat.reduceAdd, Nat.zero_le, Nat.reduceLeDiff, ar_lit, ar_lt, ar_cl, Nat.not_lt_zero, not_false_eq_true]
  refine ⟨Nat.le_of_ble_eq_true rfl, 1, fun q => ((g2.1 _).mp q).elim hf.2.2 (by simp), Nat.le_of_ble_eq_true rfl, ?_⟩
  refine s_i_Sheet (by omega) ?_
  have g3 := g2.call (k := 2) (x := (5, 1)) (Cx := fun a => a = (5, 1)) rfl (by simp) (by simp) (fun a e => by rw [e]; simp) (gst.one (R0_5 1))
  simp only [am_z, Nat.reduceAdd, Nat.zero_le, Nat.reduceLeDiff]
  refine rn_Evener_init 20 ?_
  simp (disch := omega) only [am_z, cq_Evener_init, Nat.reduceAdd, Nat.zero_le, Nat.reduceLeDiff, ar_lit]
  exact ⟨by decide, k _ _ _ ((g3.close ho (by simp) (lkp_2)).cg (fun a => by obtain ⟨a1, a2⟩ := a; simp only [Prod.mk.injEq, false_or]; omega))⟩
end IN
