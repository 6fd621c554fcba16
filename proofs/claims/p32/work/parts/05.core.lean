/-! ===== an abstract machine over named cells: values, locals, worlds ===== -/
abbrev am_A : Type := Nat × Nat
abbrev am_V : Type := Int32 ⊕ (Int64 ⊕ am_A)
abbrev am_G : Type := List am_A × (am_A → Nat → Option am_A)
abbrev am_I : Type := am_A → Nat → Int32
abbrev am_J : Type := am_A → Nat → Int64
abbrev am_L : Type := List (Option am_V)
abbrev vI (x : Int32) : am_V := .inl x
abbrev vL (x : Int64) : am_V := .inr (.inl x)
abbrev vR (a : am_A) : am_V := .inr (.inr a)
/-- an end: returned (with a value or none), or thrown (1 IllegalArgument, 2 IllegalState, 3 IndexOutOfBounds) -/
abbrev am_O : Type := Option am_V ⊕ Nat
abbrev am_P : Type := am_O → am_G → am_I → am_J → Prop
abbrev am_K : Type := Nat → am_L → List am_V → Nat → Nat → am_G → am_I → am_J → Prop
abbrev am_S : Type := am_K → am_K → am_P → am_L → List am_V → Nat → Nat → am_G → am_I → am_J → Prop
def am_cv (ad : am_A → Nat) : am_V → Value
  | .inl x => .int x
  | .inr (.inl x) => .long x
  | .inr (.inr a) => .ref (ad a)
def am_vk (G : am_G) : am_V → Prop
  | .inr (.inr a) => a ∈ G.1 ∨ a.1 = 36
  | _ => True
def am_lg : am_L → Nat → Option am_V
  | [], _ => none
  | x :: _, 0 => x
  | _ :: r, n + 1 => am_lg r n
def am_lo : Option am_V → Option am_V
  | some (.inr (.inl _)) => none
  | x => x
def am_s1 : am_L → Nat → am_V → am_L
  | [], _, _ => []
  | _ :: r, 0, v => some v :: r
  | x :: r, 1, v => am_lo x :: am_s1 r 0 v
  | x :: r, n + 2, v => x :: am_s1 r (n + 1) v
def am_s2 : am_L → Nat → am_V → am_L
  | [], _, _ => []
  | [_], 0, v => [some v]
  | _ :: _ :: r, 0, v => some v :: none :: r
  | x :: r, 1, v => am_lo x :: am_s2 r 0 v
  | x :: r, n + 2, v => x :: am_s2 r (n + 1) v
def am_cl (ad : am_A → Nat) : Nat → am_L → List (Nat × Value)
  | _, [] => []
  | i, none :: r => am_cl ad (i + 1) r
  | i, some v :: r => (i, am_cv ad v) :: am_cl ad (i + 1) r
theorem am_cl_at (ad : am_A → Nat) : ∀ (ls : am_L) (k : Nat) (q : Nat × Value), q ∈ am_cl ad k ls → ∃ (j : Nat) (v : am_V), am_lg ls j = some v ∧ q = (k + j, am_cv ad v)
  | [], _, _, h => by simp [am_cl] at h
  | none :: r, k, q, h => by
    obtain ⟨j, v, h1, h2⟩ := am_cl_at ad r (k + 1) q h
    exact ⟨j + 1, v, h1, by rw [h2, Nat.add_assoc, Nat.add_comm 1 j]⟩
  | some w :: r, k, q, h => by
    rcases List.mem_cons.mp h with h | h
    · exact ⟨0, w, rfl, h⟩
    · obtain ⟨j, v, h1, h2⟩ := am_cl_at ad r (k + 1) q h
      exact ⟨j + 1, v, h1, by rw [h2, Nat.add_assoc, Nat.add_comm 1 j]⟩
theorem am_cl_in (ad : am_A → Nat) : ∀ (ls : am_L) (k j : Nat) (v : am_V), am_lg ls j = some v → (k + j, am_cv ad v) ∈ am_cl ad k ls
  | [], _, _, _, h => by simp [am_lg] at h
  | none :: r, k, 0, v, h => by simp [am_lg] at h
  | none :: r, k, j + 1, v, h => by
    have := am_cl_in ad r (k + 1) j v h
    rw [show k + (j + 1) = k + 1 + j by omega]
    exact this
  | some w :: r, k, 0, v, h => by
    have e : w = v := Option.some.inj h
    rw [e]
    exact List.mem_cons_self
  | some w :: r, k, j + 1, v, h => by
    have := am_cl_in ad r (k + 1) j v h
    rw [show k + (j + 1) = k + 1 + j by omega]
    exact List.mem_cons_of_mem _ this
theorem am_lo_some {x : Option am_V} {w : am_V} (h : am_lo x = some w) : x = some w ∧ ¬ ∃ z : Int64, w = .inr (.inl z) := by
  rcases x with _ | (x | x | a)
  · simp [am_lo] at h
  · have e : some (.inl x) = some w := h
    cases e
    exact ⟨rfl, fun ⟨z, hz⟩ => by cases hz⟩
  · simp [am_lo] at h
  · have e : some (.inr (.inr a)) = some w := h
    cases e
    exact ⟨rfl, fun ⟨z, hz⟩ => by cases hz⟩
theorem am_s1_get : ∀ (ls : am_L) (i : Nat) (v : am_V) (j : Nat) (w : am_V), am_lg (am_s1 ls i v) j = some w → (j = i ∧ w = v) ∨ (j ≠ i ∧ am_lg ls j = some w ∧ (j + 1 = i → ¬ ∃ z : Int64, w = .inr (.inl z)))
  | [], _, _, _, _, h => by simp [am_s1, am_lg] at h
  | x :: r, 0, v, 0, w, h => Or.inl ⟨rfl, (Option.some.inj h).symm⟩
  | x :: r, 0, v, j + 1, w, h => Or.inr ⟨by omega, h, fun q => by omega⟩
  | x :: r, 1, v, 0, w, h => by
    obtain ⟨h1, h2⟩ := am_lo_some (x := x) h
    exact Or.inr ⟨by omega, h1, fun _ => h2⟩
  | x :: r, 1, v, j + 1, w, h => by
    rcases am_s1_get r 0 v j w h with ⟨h1, h2⟩ | ⟨h1, h2, h3⟩
    · exact Or.inl ⟨by omega, h2⟩
    · exact Or.inr ⟨by omega, h2, fun q => by omega⟩
  | x :: r, i + 2, v, 0, w, h => Or.inr ⟨by omega, h, fun q => by omega⟩
  | x :: r, i + 2, v, j + 1, w, h => by
    rcases am_s1_get r (i + 1) v j w h with ⟨h1, h2⟩ | ⟨h1, h2, h3⟩
    · exact Or.inl ⟨by omega, h2⟩
    · exact Or.inr ⟨by omega, h2, fun q => h3 (by omega)⟩
theorem am_s2_get : ∀ (ls : am_L) (i : Nat) (v : am_V) (j : Nat) (w : am_V), am_lg (am_s2 ls i v) j = some w → (j = i ∧ w = v) ∨ (j ≠ i ∧ j ≠ i + 1 ∧ am_lg ls j = some w ∧ (j + 1 = i → ¬ ∃ z : Int64, w = .inr (.inl z)))
  | [], _, _, _, _, h => by simp [am_s2, am_lg] at h
  | [x], 0, v, 0, w, h => Or.inl ⟨rfl, (Option.some.inj h).symm⟩
  | [x], 0, v, j + 1, w, h => by simp [am_s2, am_lg] at h
  | x :: y :: r, 0, v, 0, w, h => Or.inl ⟨rfl, (Option.some.inj h).symm⟩
  | x :: y :: r, 0, v, 1, w, h => by simp [am_s2, am_lg] at h
  | x :: y :: r, 0, v, j + 2, w, h => Or.inr ⟨by omega, by omega, h, fun q => by omega⟩
  | [x], 1, v, 0, w, h => by
    obtain ⟨h1, h2⟩ := am_lo_some (x := x) h
    exact Or.inr ⟨by omega, by omega, h1, fun _ => h2⟩
  | x :: y :: r, 1, v, 0, w, h => by
    obtain ⟨h1, h2⟩ := am_lo_some (x := x) h
    exact Or.inr ⟨by omega, by omega, h1, fun _ => h2⟩
  | [x], 1, v, j + 1, w, h => by simp [am_s2, am_lg] at h
  | x :: y :: r, 1, v, j + 1, w, h => by
    rcases am_s2_get (y :: r) 0 v j w h with ⟨h1, h2⟩ | ⟨h1, h2, h3, h4⟩
    · exact Or.inl ⟨by omega, h2⟩
    · exact Or.inr ⟨by omega, by omega, h3, fun q => by omega⟩
  | [x], i + 2, v, 0, w, h => Or.inr ⟨by omega, by omega, h, fun q => by omega⟩
  | x :: y :: r, i + 2, v, 0, w, h => Or.inr ⟨by omega, by omega, h, fun q => by omega⟩
  | [x], i + 2, v, j + 1, w, h => by simp [am_s2, am_lg] at h
  | x :: y :: r, i + 2, v, j + 1, w, h => by
    rcases am_s2_get (y :: r) (i + 1) v j w h with ⟨h1, h2⟩ | ⟨h1, h2, h3, h4⟩
    · exact Or.inl ⟨by omega, h2⟩
    · exact Or.inr ⟨by omega, by omega, h3, fun q => h4 (by omega)⟩
theorem am_cat2 {ad : am_A → Nat} {w : am_V} (h : (am_cv ad w).category = 2) : ∃ z : Int64, w = .inr (.inl z) := by
  rcases w with x | x | a
  · cases h
  · exact ⟨x, rfl⟩
  · cases h
theorem am_has1 {ad : am_A → Nat} {LS : Array Slot} {nL i : Nat} {ls : am_L} {v : am_V} (h : lv_has LS nL ((i, am_cv ad v) :: (am_cl ad 0 ls).filter (fun q => !(q.1 == i) && !(q.1 + 1 == i && q.2.category == 2)))) : lv_has LS nL (am_cl ad 0 (am_s1 ls i v)) := by
  refine ⟨h.1, h.2.1, fun q hq => h.2.2 q ?_⟩
  obtain ⟨j, w, h1, rfl⟩ := am_cl_at ad _ 0 q hq
  rcases am_s1_get _ _ _ _ _ h1 with ⟨rfl, rfl⟩ | ⟨n1, n2, n3⟩
  · rw [Nat.zero_add]; exact List.mem_cons_self
  · refine List.mem_cons_of_mem _ (List.mem_filter.mpr ⟨am_cl_in ad ls 0 j w n2, ?_⟩)
    have g1 : ¬ (0 + j = i) := by omega
    have g2 : ¬ (0 + j + 1 = i ∧ (am_cv ad w).category = 2) := fun ⟨q1, q2⟩ => n3 (by omega) (am_cat2 q2)
    simp only [Bool.and_eq_true, Bool.not_eq_true', beq_eq_false_iff_ne, ne_eq, Bool.and_eq_false_iff]
    refine ⟨g1, ?_⟩
    by_cases e : 0 + j + 1 = i
    · exact Or.inr fun q => g2 ⟨e, q⟩
    · exact Or.inl e
theorem am_has2 {ad : am_A → Nat} {LS : Array Slot} {nL i : Nat} {ls : am_L} {v : am_V} (h : lv_has LS nL ((i, am_cv ad v) :: (am_cl ad 0 ls).filter (fun q => !(q.1 == i) && (!(q.1 == i + 1) && !(q.1 + 1 == i && q.2.category == 2))))) : lv_has LS nL (am_cl ad 0 (am_s2 ls i v)) := by
  refine ⟨h.1, h.2.1, fun q hq => h.2.2 q ?_⟩
  obtain ⟨j, w, h1, rfl⟩ := am_cl_at ad _ 0 q hq
  rcases am_s2_get _ _ _ _ _ h1 with ⟨rfl, rfl⟩ | ⟨n1, n0, n2, n3⟩
  · rw [Nat.zero_add]; exact List.mem_cons_self
  · refine List.mem_cons_of_mem _ (List.mem_filter.mpr ⟨am_cl_in ad ls 0 j w n2, ?_⟩)
    have g1 : ¬ (0 + j = i) := by omega
    have g0 : ¬ (0 + j = i + 1) := by omega
    have g2 : ¬ (0 + j + 1 = i ∧ (am_cv ad w).category = 2) := fun ⟨q1, q2⟩ => n3 (by omega) (am_cat2 q2)
    simp only [Bool.and_eq_true, Bool.not_eq_true', beq_eq_false_iff_ne, ne_eq, Bool.and_eq_false_iff]
    refine ⟨g1, g0, ?_⟩
    by_cases e : 0 + j + 1 = i
    · exact Or.inr fun q => g2 ⟨e, q⟩
    · exact Or.inl e
theorem am_lat {ad : am_A → Nat} {LS : Array Slot} {nL i : Nat} {ls : am_L} {v : am_V} (h : lv_has LS nL (am_cl ad 0 ls)) (hv : am_lg ls i = some v) : LS[i]? = some (.val (am_cv ad v)) := by
  have := h.2.2 _ (am_cl_in ad ls 0 i v hv)
  rwa [Nat.zero_add] at this
/-- what a method's tables say, and what of them lives on in each later state -/
theorem am_sv_warm {w : Jvm.Cond} {a a' : Array Value} {s U : State} (h : am_sv w = true) (hW : s.WarmedH U.vm) (hb : w.before a s = true) : w.before a' U = true := by
  cases w <;> first
    | exact va_Nw.use rfl (va_Nw.warmF hW (va_Nw.of rfl hb))
    | exact va_Nw.use rfl (va_Nw.warmM hW (va_Nw.of rfl hb))
    | exact va_Nw.use rfl (va_Nw.warmC hW (va_Nw.of rfl hb))
    | exact va_Nw.use rfl (va_Nw.warmD hW (va_Nw.of rfl hb))
    | exact word_at hW (good_of_word h) hb
def am_Wd (U : State) : Prop := (∀ w ∈ am_tb, w.before #[] U = true) ∧ va_AO "TablePager$Table" U ∧ (∀ q ∈ am_str, ∃ a, vk_R q.1 q.2.1 q.2.2 a U) ∧ ∀ q ∈ am_nc, va_Nc q.1 q.2 U
theorem am_Wd.warm {s U : State} (hW : s.WarmedH U.vm) (h : am_Wd s) : am_Wd U :=
  ⟨fun w hw => am_sv_warm (List.mem_filter.mp hw).2 hW (h.1 w hw), va_AO.moved hW.alike h.2.1, fun q hq => by
    obtain ⟨a, ha⟩ := h.2.2.1 q hq
    exact ⟨a, vk_R.warm hW ha⟩, fun q hq => va_Nc.moved hW.alike (h.2.2.2 q hq)⟩
theorem am_Wd.use {U : State} (h : am_Wd U) {w : Jvm.Cond} (hw : w ∈ am_tb) (a : Array Value) : w.before a U = true := am_sv_warm (List.mem_filter.mp hw).2 (State.WarmedH.refl U) (h.1 w hw)
/-- a cell of the world -/
def am_ce (ad : am_A → Nat) (cT : Nat → ClassId) (G : am_G) (I : am_I) (J : am_J) (a : am_A) : va_E :=
  if a.1 < 10 then .inr (a.1, (List.range (am_cn a.1)).map fun k => if am_fk a.1 k = 2 then va_rf ((G.2 a k).map ad) else .int (I a k))
  else if am_at a.1 = 3 then .inl (cT 3, (am_an a.1, .inr (.inl (J a))))
  else if am_at a.1 = 4 then .inl (cT 4, (am_an a.1, .inr (.inr (.inr (.inr (fun k => (G.2 a k).map ad))))))
  else .inl (cT (am_at a.1), (am_an a.1, .inl (I a)))
def am_ww (ad : am_A → Nat) (cT : Nat → ClassId) (G : am_G) (I : am_I) (J : am_J) : va_W := G.1.map fun a => (ad a, am_ce ad cT G I J a)
def am_wf (G : am_G) : Prop := (∀ a ∈ G.1, a.1 < 36) ∧ ∀ a ∈ G.1, ∀ (k : Nat) (b : am_A), G.2 a k = some b → b ∈ G.1
def am_tys (cT : Nat → ClassId) : List (ClassId × FieldType) := [(cT 0, .int), (cT 1, .boolean), (cT 2, .char), (cT 3, .int), (cT 4, .object "TablePager$Table")]
/-- the later names go on from the earlier ones -/
def am_xt (ad0 : am_A → Nat) (G0 : am_G) (ad : am_A → Nat) (G : am_G) : Prop := (∀ a ∈ G0.1, a ∈ G.1 ∧ ad a = ad0 a) ∧ ∀ a : am_A, a.1 = 36 → ad a = ad0 a
/-- the script, which only the law and its draw read -/
def am_scy (y : Nat) : Bool := Nat.beq y am_law || Nat.beq y y_L_draw
def am_scr (sc : Nat × (Nat → Int32)) (ad : am_A → Nat) (A : Nat → Prop) (s : State) : Prop := va_X (ad (36, 0)) sc.1 sc.2 s s.heap ∧ ad (36, 0) < s.heap.size ∧ ¬ A (ad (36, 0))
def am_M (sc : Nat × (Nat → Int32)) (y : Nat) (ad0 : am_A → Nat) (G0 : am_G) (ad : am_A → Nat) (cT : Nat → ClassId) (D : va_G) (A : Nat → Prop) (s : State) (H : Heap) (locs : List Loc) (LS : Array Slot) (ls : am_L) (st : List am_V) (G : am_G) (I : am_I) (J : am_J) : Prop :=
  lv_has LS (am_mL y) (am_cl ad 0 ls) ∧ va_P D am_cls (am_ww ad cT G I J) H ∧ va_D A (am_ww ad cT G I J) ∧ va_S A s.heap H locs ∧ am_wf G ∧ (∀ v ∈ st, am_vk G v) ∧ (∀ (i : Nat) (v : am_V), am_lg ls i = some v → am_vk G v) ∧ (am_scy y = true → am_scr sc ad A s) ∧ am_xt ad0 G0 ad G
/-- an end's value and world -/
def am_N (D : va_G) (cT : Nat → ClassId) (A : Nat → Prop) (ad0 : am_A → Nat) (G0 : am_G) (ad : am_A → Nat) (G : am_G) (I : am_I) (J : am_J) (t : State) : Prop :=
  va_P D am_cls (am_ww ad cT G I J) t.heap ∧ va_D A (am_ww ad cT G I J) ∧ am_wf G ∧ am_xt ad0 G0 ad G
def am_en : Nat → String
  | 1 => "java/lang/IllegalArgumentException"
  | 2 => "java/lang/IllegalStateException"
  | _ => "java/lang/IndexOutOfBoundsException"
def am_Qc (D : va_G) (cT : Nat → ClassId) (A : Nat → Prop) (ad0 : am_A → Nat) (G0 : am_G) (P : am_P) : Array Value → State → Outcome → State → Prop := fun _ st o t =>
  (∃ (v : Option am_V) (G : am_G) (I : am_I) (J : am_J) (ad : am_A → Nat), o = .returned (v.map (am_cv ad)) ∧ P (.inl v) G I J ∧ (∀ w, v = some w → am_vk G w) ∧ am_N D cT A ad0 G0 ad G I J t) ∧ va_F A st t
def am_Xc (D : va_G) (cT : Nat → ClassId) (A : Nat → Prop) (ad0 : am_A → Nat) (G0 : am_G) (P : am_P) : String → State → State → Prop := fun E st t =>
  (∃ (n : Nat) (G : am_G) (I : am_I) (J : am_J) (ad : am_A → Nat), E = am_en n ∧ 1 ≤ n ∧ n ≤ 3 ∧ P (.inr n) G I J ∧ am_N D cT A ad0 G0 ad G I J t) ∧ va_F A st t
/-- what holds while a method runs -/
def am_C (l : Launch) (d y : Nat) (P : am_P) (p : Program) (R : Room) (e : Env) (s : State) (m : MethodId) (args : Array Value) (below : List Frame) (meth : Method) (c : Code) (D : va_G) (cT : Nat → ClassId) (A : Nat → Prop) (ad0 : am_A → Nat) (G0 : am_G) (Q : State → Prop) : Prop :=
  (p.tables.exec = Jvm.exec ∧ c.code = am_mB y ∧ meth.sig.returnType = am_mR y ∧ c.maxLocals = am_mL y ∧ s.vm.findClass (am_mY y).cls = some m.cls ∧ meth.locks = false ∧ meth.name = (am_mY y).name) ∧
  (am_Wd s ∧ va_K D am_cls (am_tys cT) s ∧ (∀ q : Nat, s.heap.size ≤ q → A q) ∧ vx_Zq Bundle.tN "UNASSIGNED_STACK" Bundle.steD A s s.heap ∧ vx_Zq Bundle.tN "SUPPRESSED_SENTINEL" Bundle.listD A s s.heap) ∧
  (l.stackTraces = false ∧ d ≤ R.frames ∧ 35 * d + 15 * (d - 9) ≤ R.locals ∧ am_mc y ≤ R.cells ∧ am_ms y ≤ R.slots) ∧
  (am_mo y ≠ 2 → Q = vx_MQ below (am_Qc D cT A ad0 G0 P) (am_Xc D cT A ad0 G0 P) args s (am_mc y) (am_ms y) A ∧ c.exceptionTable.toList = tableOf (am_mH y)) ∧
  (am_mo y = 2 → (∀ (n : Nat) (G : am_G) (I : am_I) (J : am_J), ¬ P (.inr n) G I J) ∧ ∀ (pc : Nat) (H : Heap) (locs : List Loc) (kc ks : Nat) (LS : Array Slot) (v : am_V) (ad : am_A → Nat) (G : am_G) (I : am_I) (J : am_J), decode (am_mB y) pc = .ok (.ireturn, 1) → (∀ q ∈ locs, A q.base) → kc ≤ am_mc y → ks ≤ am_ms y → P (.inl (some v)) G I J → W p l e R s m args below meth c H locs kc ks Q (F0 m pc LS [am_cv ad v]))
def am_X (l : Launch) (sc : Nat × (Nat → Int32)) (d y : Nat) (P : am_P) : am_K := fun pc ls st kc ks G I J =>
  ∀ (p : Program) (R : Room) (e : Env) (s : State) (m : MethodId) (args : Array Value) (below : List Frame) (meth : Method) (c : Code) (D : va_G) (cT : Nat → ClassId) (A : Nat → Prop) (ad0 : am_A → Nat) (G0 : am_G) (Q : State → Prop) (ad : am_A → Nat) (H : Heap) (locs : List Loc) (LS : Array Slot),
    am_C l d y P p R e s m args below meth c D cT A ad0 G0 Q → am_M sc y ad0 G0 ad cT D A s H locs LS ls st G I J → kc ≤ am_mc y → ks ≤ am_ms y → W p l e R s m args below meth c H locs kc ks Q (F0 m pc LS (st.map (am_cv ad)))
def am_ok (l : Launch) (sc : Nat × (Nat → Int32)) (d y pc : Nat) (σ : am_S) : Prop :=
  ∀ (K X : am_K) (P : am_P) (ls : am_L) (st : List am_V) (kc ks : Nat) (G : am_G) (I : am_I) (J : am_J),
    (∀ pc ls st kc ks G I J, K pc ls st kc ks G I J → am_X l sc d y P pc ls st kc ks G I J) → (∀ pc ls st kc ks G I J, X pc ls st kc ks G I J → am_X l sc d y P pc ls st kc ks G I J) →
    σ K X P ls st kc ks G I J → am_X l sc d y P pc ls st kc ks G I J
section AMM
variable {sc : Nat × (Nat → Int32)} {y : Nat} {ad0 ad : am_A → Nat} {G0 G : am_G} {cT : Nat → ClassId} {D : va_G} {A : Nat → Prop} {s : State} {H : Heap} {locs : List Loc} {LS : Array Slot} {ls : am_L} {st : List am_V} {I : am_I} {J : am_J}
theorem am_M.stk (h : am_M sc y ad0 G0 ad cT D A s H locs LS ls st G I J) {st' : List am_V} (hv : ∀ v ∈ st', am_vk G v) : am_M sc y ad0 G0 ad cT D A s H locs LS ls st' G I J := by
  obtain ⟨h1, h2, h3, h4, h5, h6, h7, h8, h9⟩ := h
  exact ⟨h1, h2, h3, h4, h5, hv, h7, h8, h9⟩
theorem am_M.sok (h : am_M sc y ad0 G0 ad cT D A s H locs LS ls st G I J) : ∀ v ∈ st, am_vk G v := h.2.2.2.2.2.1
theorem am_M.lok (h : am_M sc y ad0 G0 ad cT D A s H locs LS ls st G I J) {i : Nat} {v : am_V} (hv : am_lg ls i = some v) : am_vk G v := h.2.2.2.2.2.2.1 i v hv
theorem am_M.lat (h : am_M sc y ad0 G0 ad cT D A s H locs LS ls st G I J) {i : Nat} {v : am_V} (hv : am_lg ls i = some v) : LS[i]? = some (.val (am_cv ad v)) := am_lat h.1 hv
theorem am_M.st1 (h : am_M sc y ad0 G0 ad cT D A s H locs LS ls st G I J) {i : Nat} {v : am_V} {LS' : Array Slot} {st' : List am_V} (hv : am_vk G v) (hs : ∀ v ∈ st', am_vk G v) (hL : lv_has LS' (am_mL y) ((i, am_cv ad v) :: (am_cl ad 0 ls).filter (fun q => !(q.1 == i) && !(q.1 + 1 == i && q.2.category == 2)))) : am_M sc y ad0 G0 ad cT D A s H locs LS' (am_s1 ls i v) st' G I J := by
  obtain ⟨h1, h2, h3, h4, h5, h6, h7, h8, h9⟩ := h
  refine ⟨am_has1 hL, h2, h3, h4, h5, hs, fun j w hw => ?_, h8, h9⟩
  rcases am_s1_get _ _ _ _ _ hw with ⟨-, rfl⟩ | ⟨-, n2, -⟩
  · exact hv
  · exact h7 j w n2
theorem am_M.st2 (h : am_M sc y ad0 G0 ad cT D A s H locs LS ls st G I J) {i : Nat} {v : am_V} {LS' : Array Slot} {st' : List am_V} (hv : am_vk G v) (hs : ∀ v ∈ st', am_vk G v) (hL : lv_has LS' (am_mL y) ((i, am_cv ad v) :: (am_cl ad 0 ls).filter (fun q => !(q.1 == i) && (!(q.1 == i + 1) && !(q.1 + 1 == i && q.2.category == 2))))) : am_M sc y ad0 G0 ad cT D A s H locs LS' (am_s2 ls i v) st' G I J := by
  obtain ⟨h1, h2, h3, h4, h5, h6, h7, h8, h9⟩ := h
  refine ⟨am_has2 hL, h2, h3, h4, h5, hs, fun j w hw => ?_, h8, h9⟩
  rcases am_s2_get _ _ _ _ _ hw with ⟨-, rfl⟩ | ⟨-, -, n2, -⟩
  · exact hv
  · exact h7 j w n2
end AMM
