/-! ===== constructors: History, Slots, TablePager ===== -/
/-- the Tables from lo to hi -/
def isTr (lo hi : Nat) (a : am_A) : Prop := (lo ≤ a.2 ∧ a.2 ≤ hi) ∧ (a.1 = 7 ∨ (10 ≤ a.1 ∧ a.1 ≤ 17))
def fls (b : Nat) : Nat → List (Nat × am_A)
  | 0 => []
  | j + 1 => (j, (7, j + b)) :: fls b j
theorem fls_at (b : Nat) : ∀ j k, lkp (fls b j) k = if k < j then some (7, k + b) else none
  | 0, k => by rw [if_neg (by omega)]; rfl
  | j + 1, k => by
    show (if k = j then some (7, j + b) else lkp (fls b j) k) = _
    by_cases q : k = j
    · rw [if_pos q, if_pos (by omega), q]
    · rw [if_neg q, fls_at b j k]
      by_cases q2 : k < j
      · rw [if_pos q2, if_pos (by omega)]
      · rw [if_neg q2, if_neg (by omega)]
section GR
variable {G0 G G1 G2 : am_G} {I0 I I1 I2 : am_I} {o x : am_A} {C X Cx : am_A → Prop} {fl : List (Nat × am_A)} {k : Nat}
theorem gop.cg (h : gop G0 I0 o C fl G I) (hc : ∀ a, C a ↔ Cx a) : gop G0 I0 o Cx fl G I := by
  have : C = Cx := funext fun a => propext (hc a)
  rw [← this]
  exact h
theorem gst.mid (hm : ∀ a, a ∈ G1.1 ↔ a ∈ G.1 ∨ X a) (hn : ∀ a, ¬ a = o → ¬ X a → G1.2 a = G.2 a) (hX : ∀ a, X a → ¬ C a → G1.2 a = am_R0 a) (hoR : G1.2 o = am_R0 o) (hI : ∀ a, ¬ X a → I1 a = I a) (ho : o ∈ G.1) (hco : ¬ C o) (h : gst G1 I1 C G2 I2) : gst G I (fun a => C a ∨ X a ∨ a = o) G2 I2 := by
  obtain ⟨b1, b2, b3, b4⟩ := h
  refine ⟨fun a => ?_, fun a q => ?_, fun a q => ?_, fun a q => ?_⟩
  · rw [b1, hm]
    constructor
    · rintro ((q | q) | q)
      · exact Or.inl q
      · exact Or.inr (Or.inr (Or.inl q))
      · exact Or.inr (Or.inl q)
    · rintro (q | q | q | q)
      · exact Or.inl (Or.inl q)
      · exact Or.inr q
      · exact Or.inl (Or.inr q)
      · exact Or.inl (Or.inl (q ▸ ho))
  · rw [b2 a (fun z => q (Or.inl z)), hn a (fun z => q (Or.inr (Or.inr z))) (fun z => q (Or.inr (Or.inl z)))]
  · by_cases z : C a
    · exact b3 a z
    · rw [b2 a z]
      rcases q with q | q | q
      · exact absurd q z
      · exact hX a q z
      · rw [q, hoR]
  · rw [b4 a (fun z => q (Or.inl z)), hI a (fun z => q (Or.inr (Or.inl z)))]
end GR
section IN
variable {l : Launch} {D : Nat} {G : am_G} {I : am_I} {J : am_J} {P : am_P}
theorem am_cn_7 : am_cn 7 = 13 := rfl
theorem s_i_History (hD : 3 ≤ D) (ho : (3, 0) ∈ G.1) (h0 : G.2 (3, 0) = fun _ => none) (hf : ∀ a : am_A, ((a.2 = 0 ∧ a.1 = 18) ∨ isTr 1 14 a) → ¬ a ∈ G.1) (k : ∀ G' I' J', gst G I (fun a => (a.2 = 0 ∧ (a.1 = 3 ∨ a.1 = 18)) ∨ isTr 1 14 a) G' I' → I' (3, 0) = I (3, 0) → P (.inl none) G' I' J') : am_T l D y_History_init [vR (3, 0)] G I J P := by
  obtain ⟨d, rfl⟩ : ∃ d, D = d + 1 := ⟨D - 1, by omega⟩
  have f18 : ¬ (18, 0) ∈ G.1 := hf _ (Or.inl ⟨rfl, rfl⟩)
  refine en_History_init 2 (Nat.le_of_ble_eq_true rfl) ?_
  simp only [am_z, cq_History_init, Nat.reduceAdd, Nat.zero_le, Nat.reduceLeDiff]
  refine rn_History_init 6 ?_
  simp (disch := omega) only [am_z, cq_History_init, Nat.reduceAdd, Nat.zero_le, Nat.reduceLeDiff, ar_lit, ar_lt, ar_cl, Nat.not_lt_zero, not_false_eq_true]
  refine ⟨(18, 0), ⟨rfl, rfl⟩, Nat.le_of_ble_eq_true rfl, f18, Nat.le_of_ble_eq_true rfl, ?_⟩
  have hm1 : ∀ a, a ∈ (am_nG G (18, 0)).1 ↔ a ∈ G.1 ∨ a = (18, 0) := fun a => am_nG_mem
  have hn1 : ∀ a, ¬ a = (3, 0) → ¬ a = (18, 0) → am_upR (am_nG G (18, 0)).2 (3, 0) 0 (18, 0) a = G.2 a := fun a h1 h2 => by rw [am_upR_ne h1, am_nG_ne h2]
  have ho1 : am_upR (am_nG G (18, 0)).2 (3, 0) 0 (18, 0) (3, 0) = am_R0 (3, 0) := by
    rw [am_upR_eq (fl := []) (by rw [am_nG_ne (by simp), h0]; rfl), lkp_3]
  have ho18 : am_upR (am_nG G (18, 0)).2 (3, 0) 0 (18, 0) (18, 0) = fun _ => none := by
    rw [am_upR_ne (by simp), am_nG_eq]
  have loop : ∀ m j G' I' J' kc ks, j + m = 14 → kc = 1 + 9 * j → ks = 14 + 206 * j → gop ((am_nG G (18, 0)).1, am_upR (am_nG G (18, 0)).2 (3, 0) 0 (18, 0)) (am_nI I (18, 0)) (18, 0) (isTr 1 j) (fls 1 j) G' I' → am_X l (0, fun _ => 0) (d + 1) y_History_init P 15 [some (vR (3, 0)), some (vI (nI j))] [] kc ks G' I' J' := by
    intro m
    induction m with
    | zero =>
      intro j G' I' J' kc ks hj hkc hks g
      have : j = 14 := by omega
      subst this
      have n18 : ¬ isTr 1 14 (18, 0) := by unfold isTr; simp
      have n3 : ¬ isTr 1 14 (3, 0) := by unfold isTr; simp
      have gs := g.close (by show (18, 0) ∈ (am_nG G (18, 0)).1; rw [am_nG_mem]; exact Or.inr rfl) n18 (by funext k; rw [fls_at]; rfl)
      have gf := gs.mid (G1 := ((am_nG G (18, 0)).1, am_upR (am_nG G (18, 0)).2 (3, 0) 0 (18, 0))) (G := G) (I := I) (o := (3, 0)) (X := fun a => a = (18, 0)) hm1 hn1 (fun a q z => absurd (Or.inr q) z) ho1 (fun a q => am_nI_ne q) ho (by simp; exact n3)
      refine rn_History_init 20 ?_
      simp (disch := omega) only [am_z, cq_History_init, Nat.reduceAdd, Nat.zero_le, Nat.reduceLeDiff, ar_lit, ar_le, Nat.le_refl, ↓reduceIte]
      refine k G' I' _ (gf.cg (fun a => ?_)) ?_
      · obtain ⟨a1, a2⟩ := a
        unfold isTr
        simp only [Prod.mk.injEq]
        omega
      · rw [gs.2.2.2 (3, 0) (by simp; exact n3), am_nI_ne (by simp)]
    | succ m ih =>
      intro j G' I' J' kc ks hj hkc hks g
      have n18 : ¬ isTr 1 j (18, 0) := by unfold isTr; simp
      have n3 : ¬ isTr 1 j (3, 0) := by unfold isTr; simp
      have e3 : G'.2 (3, 0) 0 = some (18, 0) := by rw [g.2.1 (3, 0) (by simp) n3]; show am_upR (am_nG G (18, 0)).2 (3, 0) 0 (18, 0) (3, 0) 0 = _; rw [ho1]; rfl
      have fr : ∀ a, isT (j + 1) a → ¬ a ∈ G'.1 := fun a ha q => by
        obtain ⟨a1, a2⟩ := a
        obtain ⟨q1, q2⟩ := ha
        simp only at q1 q2
        rcases (g.1 _).mp q with z | z
        · rcases (hm1 _).mp z with z | z
          · exact hf _ (Or.inr ⟨⟨by simp only; omega, by simp only; omega⟩, q2⟩) z
          · simp only [Prod.mk.injEq] at z; omega
        · unfold isTr at z
          simp only at z
          omega
      have b14 : j < 14 := by omega
      refine rn_History_init 9 ?_
      simp (disch := omega) only [am_z, cq_History_init, Nat.reduceAdd, Nat.zero_le, Nat.reduceLeDiff, ar_lit, ar_le, e3, am_cn_7]
      rw [if_neg (by omega)]
      refine ⟨by omega, by omega, j + 1, fr _ ⟨rfl, Or.inl rfl⟩, ?_⟩
      refine ⟨⟨by omega, by omega⟩, ?_⟩
      refine s_i_Table (by omega) (am_nG_mem.mpr (Or.inr rfl)) am_nG_eq (fun s h1 h2 q => ?_) (fun G2 I2 J2 g2 _ _ => ?_)
      · rcases am_nG_mem.mp q with z | z
        · exact fr _ ⟨rfl, Or.inr ⟨h1, h2⟩⟩ z
        · simp only [Prod.mk.injEq] at z; omega
      · have g3 := g.call (k := j) (x := (7, j + 1)) (Cx := isT (j + 1)) ⟨rfl, Or.inl rfl⟩ n18 (by unfold isT; simp) (fun a q z => by unfold isT at q; unfold isTr at z; omega) g2
        simp only [am_z, Nat.reduceAdd, Nat.zero_le, Nat.reduceLeDiff]
        refine rn_History_init 20 ?_
        simp (disch := omega) only [am_z, cq_History_init, Nat.reduceAdd, Nat.zero_le, Nat.reduceLeDiff, ar_lit, ar_in, ar_cl, nI_add]
        refine ⟨b14, ?_⟩
        refine @ih (j + 1) _ _ _ _ _ (by omega) (by omega) (by omega) (g3.cg (fun a => ?_))
        unfold isTr isT
        omega
  refine @loop 14 0 _ _ _ _ _ rfl rfl rfl ((gop.start (G := ((am_nG G (18, 0)).1, am_upR (am_nG G (18, 0)).2 (3, 0) 0 (18, 0))) ho18).cg (fun a => ?_))
  unfold isTr
  simp only [false_iff]
  omega
theorem s_i_Slots (hD : 3 ≤ D) (ho : (6, 0) ∈ G.1) (h0 : G.2 (6, 0) = fun _ => none) (hf : ∀ a : am_A, ((a.2 = 0 ∧ (a.1 = 19 ∨ a.1 = 20)) ∨ isTr 15 16 a) → ¬ a ∈ G.1) (k : ∀ G' I' J', gst G I (fun a => (a.2 = 0 ∧ (a.1 = 6 ∨ a.1 = 19 ∨ a.1 = 20)) ∨ isTr 15 16 a) G' I' → I' (20, 0) = (fun _ => 0) → P (.inl none) G' I' J') : am_T l D y_Slots_init [vR (6, 0)] G I J P := by
  obtain ⟨d, rfl⟩ : ∃ d, D = d + 1 := ⟨D - 1, by omega⟩
  have f19 : ¬ (19, 0) ∈ G.1 := hf _ (Or.inl ⟨rfl, Or.inl rfl⟩)
  have f20 : ¬ (20, 0) ∈ G.1 := hf _ (Or.inl ⟨rfl, Or.inr rfl⟩)
  have fin : ∀ G1 I1 J1, (∀ a, a ∈ G1.1 ↔ a ∈ G.1 ∨ (a = (19, 0) ∨ a = (20, 0))) → (∀ a, ¬ a = (6, 0) → ¬ (a = (19, 0) ∨ a = (20, 0)) → G1.2 a = G.2 a) → G1.2 (6, 0) = am_R0 (6, 0) → G1.2 (19, 0) = (fun _ => none) → G1.2 (20, 0) = (fun _ => none) → (∀ a, ¬ (a = (19, 0) ∨ a = (20, 0)) → I1 a = I a) → I1 (20, 0) = (fun _ => 0) → am_X l (0, fun _ => 0) (d + 1) y_Slots_init P 21 [some (vR (6, 0)), some (vI (nI 0))] [] 2 4 G1 I1 J1 := by
    intro G1 I1 J1 hm1 hn1 ho1 ho19 ho20 hI1 hz20
    have loop : ∀ m j G' I' J' kc ks, j + m = 2 → kc = 2 + 9 * j → ks = 4 + 206 * j → gop G1 I1 (19, 0) (isTr 15 (14 + j)) (fls 15 j) G' I' → am_X l (0, fun _ => 0) (d + 1) y_Slots_init P 21 [some (vR (6, 0)), some (vI (nI j))] [] kc ks G' I' J' := by
      intro m
      induction m with
      | zero =>
        intro j G' I' J' kc ks hj hkc hks g
        have : j = 2 := by omega
        subst this
        have n19 : ¬ isTr 15 16 (19, 0) := by unfold isTr; simp
        have n6 : ¬ isTr 15 16 (6, 0) := by unfold isTr; simp
        have n20 : ¬ isTr 15 16 (20, 0) := by unfold isTr; simp
        have gs := g.close ((hm1 _).mpr (Or.inr (Or.inl rfl))) n19 (by funext k; rw [fls_at]; rfl)
        have gf := gs.mid (G := G) (I := I) (o := (6, 0)) (X := fun a => a = (19, 0) ∨ a = (20, 0)) hm1 hn1 (fun a q z => by
          rcases q with q | q
          · exact absurd (Or.inr q) z
          · rw [q, ho20, R0_arr (by omega) (by omega) (by omega)]) ho1 hI1 ho (by simp; exact n6)
        refine rn_Slots_init 20 ?_
        simp (disch := omega) only [am_z, cq_Slots_init, Nat.reduceAdd, Nat.zero_le, Nat.reduceLeDiff, ar_lit, ar_le, Nat.le_refl, ↓reduceIte]
        refine k G' I' _ (gf.cg (fun a => ?_)) ?_
        · obtain ⟨a1, a2⟩ := a
          unfold isTr
          simp only [Prod.mk.injEq]
          omega
        · rw [gs.2.2.2 (20, 0) (by simp; exact n20), hz20]
      | succ m ih =>
        intro j G' I' J' kc ks hj hkc hks g
        have n19 : ¬ isTr 15 (14 + j) (19, 0) := by unfold isTr; simp
        have n6 : ¬ isTr 15 (14 + j) (6, 0) := by unfold isTr; simp
        have e6 : G'.2 (6, 0) 0 = some (19, 0) := by rw [g.2.1 (6, 0) (by simp) n6, ho1]; rfl
        have fr : ∀ a, isT (j + 15) a → ¬ a ∈ G'.1 := fun a ha q => by
          obtain ⟨a1, a2⟩ := a
          obtain ⟨q1, q2⟩ := ha
          simp only at q1 q2
          rcases (g.1 _).mp q with z | z
          · rcases (hm1 _).mp z with z | z
            · exact hf _ (Or.inr ⟨⟨by simp only; omega, by simp only; omega⟩, q2⟩) z
            · simp only [Prod.mk.injEq] at z; omega
          · unfold isTr at z
            simp only at z
            omega
        have b2 : j < 2 := by omega
        refine rn_Slots_init 9 ?_
        simp (disch := omega) only [am_z, cq_Slots_init, Nat.reduceAdd, Nat.zero_le, Nat.reduceLeDiff, ar_lit, ar_le, e6, am_cn_7]
        rw [if_neg (by omega)]
        refine ⟨by omega, by omega, j + 15, fr _ ⟨rfl, Or.inl rfl⟩, ?_⟩
        refine ⟨⟨by omega, by omega⟩, ?_⟩
        refine s_i_Table (by omega) (am_nG_mem.mpr (Or.inr rfl)) am_nG_eq (fun s h1 h2 q => ?_) (fun G2 I2 J2 g2 _ _ => ?_)
        · rcases am_nG_mem.mp q with z | z
          · exact fr _ ⟨rfl, Or.inr ⟨h1, h2⟩⟩ z
          · simp only [Prod.mk.injEq] at z; omega
        · have g3 := g.call (k := j) (x := (7, j + 15)) (Cx := isT (j + 15)) ⟨rfl, Or.inl rfl⟩ n19 (by unfold isT; simp) (fun a q z => by unfold isT at q; unfold isTr at z; omega) g2
          simp only [am_z, Nat.reduceAdd, Nat.zero_le, Nat.reduceLeDiff]
          refine rn_Slots_init 20 ?_
          simp (disch := omega) only [am_z, cq_Slots_init, Nat.reduceAdd, Nat.zero_le, Nat.reduceLeDiff, ar_lit, ar_in, ar_cl, nI_add]
          refine ⟨b2, ?_⟩
          refine @ih (j + 1) _ _ _ _ _ (by omega) (by omega) (by omega) (g3.cg (fun a => ?_))
          unfold isTr isT
          omega
    refine @loop 2 0 G1 I1 J1 _ _ rfl rfl rfl ((gop.start ho19).cg (fun a => ?_))
    unfold isTr
    simp only [false_iff]
    omega
  refine en_Slots_init 2 (Nat.le_of_ble_eq_true rfl) ?_
  simp only [am_z, cq_Slots_init, Nat.reduceAdd, Nat.zero_le, Nat.reduceLeDiff]
  refine rn_Slots_init 4 ?_
  simp (disch := omega) only [am_z, cq_Slots_init, Nat.reduceAdd, Nat.zero_le, Nat.reduceLeDiff, ar_lit, ar_lt, ar_cl, Nat.not_lt_zero, not_false_eq_true]
  refine ⟨(19, 0), ⟨rfl, rfl⟩, Nat.le_of_ble_eq_true rfl, f19, Nat.le_of_ble_eq_true rfl, ?_⟩
  refine rn_Slots_init 6 ?_
  simp (disch := omega) only [am_z, cq_Slots_init, Nat.reduceAdd, Nat.zero_le, Nat.reduceLeDiff, ar_lit, ar_lt, ar_cl, Nat.not_lt_zero, not_false_eq_true]
  refine ⟨(20, 0), ⟨rfl, rfl⟩, Nat.le_of_ble_eq_true rfl, fun q => (am_nG_mem.mp q).elim f20 (by simp), Nat.le_of_ble_eq_true rfl, ?_⟩
  refine fin _ _ _ (fun a => ?_) (fun a h1 h2 => ?_) ?_ ?_ ?_ (fun a h => ?_) am_nI_eq
  · rw [am_nG_mem]
    show a ∈ (am_nG G (19, 0)).1 ∨ _ ↔ _
    rw [am_nG_mem, or_assoc]
  · show am_upR _ (6, 0) 1 (20, 0) a = _
    rw [am_upR_ne h1, am_nG_ne (fun q => h2 (Or.inr q))]
    show am_upR _ (6, 0) 0 (19, 0) a = _
    rw [am_upR_ne h1, am_nG_ne (fun q => h2 (Or.inl q))]
  · show am_upR _ (6, 0) 1 (20, 0) (6, 0) = _
    rw [am_upR_eq (fl := [(0, (19, 0))]), lkp_6]
    rw [am_nG_ne (by simp)]
    show am_upR _ (6, 0) 0 (19, 0) (6, 0) = _
    rw [am_upR_eq (fl := [])]
    rw [am_nG_ne (by simp), h0]
    rfl
  · show am_upR (am_nG ((am_nG G (19, 0)).1, am_upR (am_nG G (19, 0)).2 (6, 0) 0 (19, 0)) (20, 0)).2 (6, 0) 1 (20, 0) (19, 0) = _
    rw [am_upR_ne (by simp), am_nG_ne (by simp)]
    show am_upR (am_nG G (19, 0)).2 (6, 0) 0 (19, 0) (19, 0) = _
    rw [am_upR_ne (by simp), am_nG_eq]
  · show am_upR (am_nG ((am_nG G (19, 0)).1, am_upR (am_nG G (19, 0)).2 (6, 0) 0 (19, 0)) (20, 0)).2 (6, 0) 1 (20, 0) (20, 0) = _
    rw [am_upR_ne (by simp), am_nG_eq]
  · rw [am_nI_ne (fun q => h (Or.inr q)), am_nI_ne (fun q => h (Or.inl q))]
end IN
