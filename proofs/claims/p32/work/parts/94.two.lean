/-! ===== two objects side by side ===== -/
theorem as0_box : ∀ a ∈ am_as0, a.1 < 36 ∧ a.2 < 18 := by decide +kernel
def as0_q (x y : Nat) : Bool := ((decide (y = 0) && (decide (x ≤ 6) || decide (x = 8) || (decide (18 ≤ x) && decide (x ≤ 24)))) || (decide (x = 5) && decide (y = 1)) || (decide (y ≤ 17) && (decide (x = 7) || (decide (10 ≤ x) && decide (x ≤ 17)))))
theorem as0_all : ((List.range 36).all fun x => (List.range 18).all fun y => as0_q x y == decide ((x, y) ∈ am_as0)) = true := by decide +kernel
theorem as0_at (x : Nat) (hx : x < 36) (y : Nat) (hy : y < 18) : (x, y) ∈ am_as0 ↔ as0_q x y = true := by
  have h := List.all_eq_true.mp as0_all x (List.mem_range.mpr hx)
  have h := List.all_eq_true.mp h y (List.mem_range.mpr hy)
  have h := beq_iff_eq.mp h
  rw [h, decide_eq_true_iff]
theorem mem_as0 (a : am_A) : a ∈ am_as0 ↔ isC0 a := by
  obtain ⟨x, y⟩ := a
  unfold isC0
  constructor
  · intro h
    have hb := as0_box _ h
    have h := (as0_at x hb.1 y hb.2).mp h
    unfold as0_q at h
    simp only [Bool.or_eq_true, Bool.and_eq_true, decide_eq_true_iff] at h
    omega
  · intro h
    refine (as0_at x (by omega) y (by omega)).mpr ?_
    unfold as0_q
    simp only [Bool.or_eq_true, Bool.and_eq_true, decide_eq_true_iff]
    omega
theorem as0_nd : am_as0.Nodup := by decide +kernel
theorem isO_C0 {c : am_A} (hc : isO c) : isC0 c := by
  have tt : ∀ t, t ≤ 17 → isT t c → isC0 c := fun t ht z => by
    obtain ⟨z1, z2⟩ := z
    unfold isC0
    omega
  rcases hc with z | z | z | z | z | z
  · rw [z]; unfold isC0; simp
  · rw [z]; unfold isC0; simp
  · exact tt 0 (by omega) z
  · rcases z with z | ⟨k, h1, h2, z⟩
    · rw [z]; unfold isC0; simp
    · exact tt k (by omega) z
  · rcases z with z | z | z
    · rw [z]; unfold isC0; simp
    · exact tt 15 (by omega) z
    · exact tt 16 (by omega) z
  · rw [z]; unfold isC0; simp
theorem R0_wf : ∀ a : am_A, isC0 a → ∀ k b, am_R0 a k = some b → isC0 b := by
  intro a ha k b h
  obtain ⟨x, y⟩ := a
  unfold isC0 at ha
  unfold am_R0 at h
  simp only at h ha
  split at h
  all_goals first
    | (cases h; unfold isC0; simp; done)
    | (cases h; unfold isC0; simp only; omega)
    | (exfalso; omega)
    | (split at h
       · have e := Option.some.inj h
         rw [← e]
         refine Or.inr (Or.inr ⟨?_, Or.inl rfl⟩)
         show _ + _ ≤ 17
         omega
       · exact absurd h (by simp))
    | (exact absurd h (by simp))
theorem wf_G0 : am_wf am_G0 := ⟨fun a ha => (as0_box a ha).1, fun a ha k b hb => (mem_as0 b).mpr (R0_wf a ((mem_as0 a).mp ha) k b hb)⟩
/-- the second object's names -/
def ph (a : am_A) : am_A := (a.1, a.2 + 32)
theorem ph_inj {a b : am_A} (h : ph a = ph b) : a = b := by
  obtain ⟨x, y⟩ := a
  obtain ⟨z, w⟩ := b
  unfold ph at h
  simp only [Prod.mk.injEq] at h ⊢
  omega
def am_R2 : am_A → Nat → Option am_A := fun a k => if a.2 < 32 then am_R0 a k else (am_R0 (a.1, a.2 - 32) k).map ph
def am_G2 : am_G := (am_as0 ++ am_as0.map ph, am_R2)
theorem R2_lo {a : am_A} (h : a.2 < 32) : am_R2 a = am_R0 a := funext fun k => if_pos h
theorem R2_hi (a : am_A) (k : Nat) : am_R2 (ph a) k = (am_R0 a k).map ph := by
  show (if a.2 + 32 < 32 then _ else (am_R0 (a.1, a.2 + 32 - 32) k).map ph) = _
  rw [if_neg (by omega), Nat.add_sub_cancel]
theorem in_q (I : am_I) (J : am_J) : am_in (fun a => a) am_G0 I J am_G2 I J := by
  refine ⟨fun _ => rfl, fun _ _ h => h, fun a ha => List.mem_append_left _ ha, fun a ha k => ?_, as0_nd, fun _ _ => rfl, fun _ _ => rfl⟩
  have hb := (as0_box a ha).2
  show am_R2 a k = (am_R0 a k).map (fun a => a)
  rw [R2_lo (by omega)]
  exact (Option.map_id').symm
theorem in_p (I : am_I) (J : am_J) : am_in ph am_G0 (fun a => I (ph a)) (fun a => J (ph a)) am_G2 I J :=
  ⟨fun _ => rfl, fun _ _ h => ph_inj h, fun a ha => List.mem_append_right _ (List.mem_map.mpr ⟨a, ha, rfl⟩), fun a _ k => R2_hi a k, as0_nd, fun _ _ => rfl, fun _ _ => rfl⟩
/-- the first object's state, the second's -/
def bt (I : am_I) (sq sp : pt_G) : Prop := st I sq ∧ st (fun a => I (ph a)) sp
theorem st_as0 {I I' : am_I} {s : pt_G} (h : st I s) (hf : ∀ a ∈ am_as0, I' a = I a) : st I' s := h.kept fun c hc => hf c ((mem_as0 c).mpr (isO_C0 hc))
theorem two_q {l : Launch} {D y : Nat} {args : List am_V} {I : am_I} {J : am_J} {P : am_P} {sq sp s' : pt_G} {o : am_O} (hb : bt I sq sp) (ho : am_nr o) (hv : ∀ v ∈ args, am_vk am_G0 v) (ha : ∀ ad ad' : am_A → Nat, args.map (am_cv ad) = args.map (am_cv ad'))
    (h : ∀ (I : am_I) (J : am_J) (P' : am_P), st I sq → (∀ I', st I' s' → P' o am_G0 I' J) → am_T l D y (vR (0, 0) :: args) am_G0 I J P') (k : ∀ I' J', bt I' s' sp → P o am_G2 I' J') : am_T l D y (vR (0, 0) :: args) am_G2 I J P := by
  refine am_T.fr (P := fun o' G' I' _ => o' = o ∧ G' = am_G0 ∧ st I' s') (h I J _ hb.1 (fun I' hs => ⟨rfl, rfl, hs⟩)) (in_q I J) wf_G0 (List.forall_mem_cons.mpr ⟨Or.inl ((mem_as0 _).mpr (by unfold isC0; simp)), hv⟩) _ (fun ad => rfl) ?_
  rintro o' G' I' J' ⟨rfl, rfl, hs⟩
  refine ⟨rfl, ho, fun Ib' Jb' h1 h2 => k Ib' Jb' ⟨st_as0 hs h1, st_as0 hb.2 fun a ha => ?_⟩⟩
  have hbx := as0_box a ha
  refine h2 (ph a) fun c hc e => ?_
  have hcx := (as0_box c hc).2
  have : c.2 = a.2 + 32 := by rw [e]; rfl
  omega
theorem two_p {l : Launch} {D y : Nat} {args : List am_V} {I : am_I} {J : am_J} {P : am_P} {sq sp s' : pt_G} {o : am_O} (hb : bt I sq sp) (ho : am_nr o) (hv : ∀ v ∈ args, am_vk am_G0 v) (ha : ∀ ad ad' : am_A → Nat, args.map (am_cv ad) = args.map (am_cv ad'))
    (h : ∀ (I : am_I) (J : am_J) (P' : am_P), st I sp → (∀ I', st I' s' → P' o am_G0 I' J) → am_T l D y (vR (0, 0) :: args) am_G0 I J P') (k : ∀ I' J', bt I' sq s' → P o am_G2 I' J') : am_T l D y (vR (0, 32) :: args) am_G2 I J P := by
  refine am_T.fr (P := fun o' G' I' _ => o' = o ∧ G' = am_G0 ∧ st I' s') (h (fun a => I (ph a)) (fun a => J (ph a)) _ hb.2 (fun I' hs => ⟨rfl, rfl, hs⟩)) (in_p I J) wf_G0 (List.forall_mem_cons.mpr ⟨Or.inl ((mem_as0 _).mpr (by unfold isC0; simp)), hv⟩) _ (fun ad => ?_) ?_
  · show Value.ref (ad (0, 32)) :: args.map (am_cv ad) = Value.ref (ad (ph (0, 0))) :: args.map (am_cv fun b => ad (ph b))
    rw [ha ad (fun b => ad (ph b))]
    rfl
  · rintro o' G' I' J' ⟨rfl, rfl, hs⟩
    refine ⟨rfl, ho, fun Ib' Jb' h1 h2 => k Ib' Jb' ⟨st_as0 hb.1 fun a ha => ?_, st_as0 hs h1⟩⟩
    have hbx := (as0_box a ha).2
    refine h2 a fun c hc e => ?_
    have : c.2 + 32 = a.2 := by rw [← e]; rfl
    omega
