/-! ===== constructors: TablePager ===== -/
def isC0 (a : am_A) : Prop := (a.2 = 0 ∧ (a.1 ≤ 6 ∨ a.1 = 8 ∨ (18 ≤ a.1 ∧ a.1 ≤ 24))) ∨ (a.1 = 5 ∧ a.2 = 1) ∨ (a.2 ≤ 17 ∧ (a.1 = 7 ∨ (10 ≤ a.1 ∧ a.1 ≤ 17)))
section GR
variable {G G' : am_G} {I I' : am_I} {o x a : am_A} {C : am_A → Prop} {fl : List (Nat × am_A)}
theorem gop.fr (h : gop G I o C fl G' I') (hf : ∀ a, isC0 a → ¬ a = o → ¬ a ∈ G.1) (h1 : isC0 a) (h2 : ¬ a = o) (h3 : ¬ C a) : ¬ a ∈ G'.1 := fun q => ((h.1 a).mp q).elim (hf a h1 h2) h3
theorem gop.fx (h : gop G I o C fl G' I') (hf : ∀ a, isC0 a → ¬ a = o → ¬ a ∈ G.1) (h1 : isC0 a) (h2 : ¬ a = o) (h3 : ¬ C a) (h4 : ¬ a = x) : ¬ a ∈ (am_nG G' x).1 := fun q => (am_nG_mem.mp q).elim (h.fr hf h1 h2 h3) h4
end GR
section IN
variable {l : Launch} {D : Nat} {G : am_G} {I : am_I} {J : am_J} {P : am_P}
theorem s_i_P (hD : 4 ≤ D) (ho : (0, 0) ∈ G.1) (h0 : G.2 (0, 0) = fun _ => none) (hf : ∀ a, isC0 a → ¬ a = (0, 0) → ¬ a ∈ G.1) (k : ∀ G' I' J', gst G I isC0 G' I' → st I' ([], tnew, [], fun _ => none) → P (.inl none) G' I' J') : am_T l D y_P_init [vR (0, 0)] G I J P := by
  obtain ⟨d, rfl⟩ : ∃ d, D = d + 1 := ⟨D - 1, by omega⟩
  have g0 := gop.start (I := I) h0
  refine en_P_init 2 (Nat.le_of_ble_eq_true rfl) ?_
  simp only [am_z, cq_P_init, Nat.reduceAdd, Nat.zero_le, Nat.reduceLeDiff]
  -- Text
  refine rn_P_init 4 ?_
  simp (disch := omega) only [am_z, cq_P_init, Nat.reduceAdd, Nat.zero_le, Nat.reduceLeDiff, ar_lit]
  refine ⟨Nat.le_of_ble_eq_true rfl, 0, g0.fr hf (by first | (simp [isT, isTr, isC0]; done) | (simp only [isT, isTr, isC0]; omega) | (simp [isT, isTr, isC0]; omega)) (by simp) (by first | (simp [isT, isTr, isC0]; done) | (simp only [isT, isTr, isC0]; omega) | (simp [isT, isTr, isC0]; omega)), ?_⟩
  refine ⟨Nat.le_of_ble_eq_true rfl, ?_⟩
  refine s_i_Text (by omega) (am_nG_mem.mpr (Or.inr rfl)) am_nG_eq (g0.fx hf (by first | (simp [isT, isTr, isC0]; done) | (simp only [isT, isTr, isC0]; omega) | (simp [isT, isTr, isC0]; omega)) (by simp) (by first | (simp [isT, isTr, isC0]; done) | (simp only [isT, isTr, isC0]; omega) | (simp [isT, isTr, isC0]; omega)) (by simp)) (fun G1 I1 J1 g1x c1 => ?_)
  have g1 := g0.call (k := 0) (x := (8, 0)) (Cx := (fun a : am_A => a.2 = 0 ∧ (a.1 = 8 ∨ a.1 = 24))) ⟨rfl, Or.inl rfl⟩ (by first | (simp [isT, isTr, isC0]; done) | (simp only [isT, isTr, isC0]; omega) | (simp [isT, isTr, isC0]; omega)) (by first | (simp [isT, isTr, isC0]; done) | (simp only [isT, isTr, isC0]; omega) | (simp [isT, isTr, isC0]; omega)) (fun a q z => by first | exact z.elim | (simp only [isT, isTr, Prod.ext_iff, false_or] at q z; omega)) g1x
  have kp1 : ∀ a : am_A, ¬ (fun a : am_A => a.2 = 0 ∧ (a.1 = 8 ∨ a.1 = 24)) a → I1 a = I a := fun a h => (g1x.2.2.2 a h).trans (am_nI_ne (fun e => h (by rw [e]; exact ⟨rfl, Or.inl rfl⟩)))
  simp only [am_z, Nat.reduceAdd, Nat.zero_le, Nat.reduceLeDiff]
  refine rn_P_init 1 ?_
  simp only [am_z, cq_P_init, Nat.reduceAdd, Nat.zero_le, Nat.reduceLeDiff]
  refine ⟨by decide, ?_⟩
  -- Table
  refine rn_P_init 4 ?_
  simp (disch := omega) only [am_z, cq_P_init, Nat.reduceAdd, Nat.zero_le, Nat.reduceLeDiff, ar_lit]
  refine ⟨Nat.le_of_ble_eq_true rfl, 0, g1.fr hf (by first | (simp [isT, isTr, isC0]; done) | (simp only [isT, isTr, isC0]; omega) | (simp [isT, isTr, isC0]; omega)) (by simp) (by first | (simp [isT, isTr, isC0]; done) | (simp only [isT, isTr, isC0]; omega) | (simp [isT, isTr, isC0]; omega)), ?_⟩
  refine ⟨Nat.le_of_ble_eq_true rfl, ?_⟩
  refine s_i_Table (by omega) (am_nG_mem.mpr (Or.inr rfl)) am_nG_eq (fun s h1 h2 => g1.fx hf (by simp only [isC0]; omega) (by simp only [Prod.mk.injEq]; omega) (by intro z; simp only [isT, isTr, Prod.ext_iff, false_or] at z; omega) (by simp only [Prod.mk.injEq]; omega)) (fun G2 I2 J2 g2x c2 e2 => ?_)
  have g2 := g1.call (k := 1) (x := (7, 0)) (Cx := (isT 0)) ⟨rfl, Or.inl rfl⟩ (by first | (simp [isT, isTr, isC0]; done) | (simp only [isT, isTr, isC0]; omega) | (simp [isT, isTr, isC0]; omega)) (by first | (simp [isT, isTr, isC0]; done) | (simp only [isT, isTr, isC0]; omega) | (simp [isT, isTr, isC0]; omega)) (fun a q z => by first | exact z.elim | (simp only [isT, isTr, Prod.ext_iff, false_or] at q z; omega)) g2x
  have kp2 : ∀ a : am_A, ¬ (isT 0) a → I2 a = I1 a := fun a h => (g2x.2.2.2 a h).trans (am_nI_ne (fun e => h (by rw [e]; exact ⟨rfl, Or.inl rfl⟩)))
  simp only [am_z, Nat.reduceAdd, Nat.zero_le, Nat.reduceLeDiff]
  refine rn_P_init 1 ?_
  simp only [am_z, cq_P_init, Nat.reduceAdd, Nat.zero_le, Nat.reduceLeDiff]
  refine ⟨by decide, ?_⟩
  -- History
  refine rn_P_init 4 ?_
  simp (disch := omega) only [am_z, cq_P_init, Nat.reduceAdd, Nat.zero_le, Nat.reduceLeDiff, ar_lit]
  refine ⟨Nat.le_of_ble_eq_true rfl, 0, g2.fr hf (by first | (simp [isT, isTr, isC0]; done) | (simp only [isT, isTr, isC0]; omega) | (simp [isT, isTr, isC0]; omega)) (by simp) (by first | (simp [isT, isTr, isC0]; done) | (simp only [isT, isTr, isC0]; omega) | (simp [isT, isTr, isC0]; omega)), ?_⟩
  refine ⟨Nat.le_of_ble_eq_true rfl, ?_⟩
  refine s_i_History (by omega) (am_nG_mem.mpr (Or.inr rfl)) am_nG_eq (fun a ha => g2.fx hf (by simp only [isT, isTr, isC0] at ha ⊢; omega) (by rintro rfl; simp [isT, isTr] at ha) (by intro z; simp only [isT, isTr, Prod.ext_iff, false_or] at ha z; omega) (by rintro rfl; simp [isT, isTr] at ha)) (fun G3 I3 J3 g3x c3 => ?_)
  have g3 := g2.call (k := 2) (x := (3, 0)) (Cx := (fun a : am_A => (a.2 = 0 ∧ (a.1 = 3 ∨ a.1 = 18)) ∨ isTr 1 14 a)) (Or.inl ⟨rfl, Or.inl rfl⟩) (by first | (simp [isT, isTr, isC0]; done) | (simp only [isT, isTr, isC0]; omega) | (simp [isT, isTr, isC0]; omega)) (by first | (simp [isT, isTr, isC0]; done) | (simp only [isT, isTr, isC0]; omega) | (simp [isT, isTr, isC0]; omega)) (fun a q z => by first | exact z.elim | (simp only [isT, isTr, Prod.ext_iff, false_or] at q z; omega)) g3x
  have kp3 : ∀ a : am_A, ¬ (fun a : am_A => (a.2 = 0 ∧ (a.1 = 3 ∨ a.1 = 18)) ∨ isTr 1 14 a) a → I3 a = I2 a := fun a h => (g3x.2.2.2 a h).trans (am_nI_ne (fun e => h (by rw [e]; exact (Or.inl ⟨rfl, Or.inl rfl⟩))))
  simp only [am_z, Nat.reduceAdd, Nat.zero_le, Nat.reduceLeDiff]
  refine rn_P_init 1 ?_
  simp only [am_z, cq_P_init, Nat.reduceAdd, Nat.zero_le, Nat.reduceLeDiff]
  refine ⟨by decide, ?_⟩
  -- Slots
  refine rn_P_init 4 ?_
  simp (disch := omega) only [am_z, cq_P_init, Nat.reduceAdd, Nat.zero_le, Nat.reduceLeDiff, ar_lit]
  refine ⟨Nat.le_of_ble_eq_true rfl, 0, g3.fr hf (by first | (simp [isT, isTr, isC0]; done) | (simp only [isT, isTr, isC0]; omega) | (simp [isT, isTr, isC0]; omega)) (by simp) (by first | (simp [isT, isTr, isC0]; done) | (simp only [isT, isTr, isC0]; omega) | (simp [isT, isTr, isC0]; omega)), ?_⟩
  refine ⟨Nat.le_of_ble_eq_true rfl, ?_⟩
  refine s_i_Slots (by omega) (am_nG_mem.mpr (Or.inr rfl)) am_nG_eq (fun a ha => g3.fx hf (by simp only [isT, isTr, isC0] at ha ⊢; omega) (by rintro rfl; simp [isT, isTr] at ha) (by intro z; simp only [isT, isTr, Prod.ext_iff, false_or] at ha z; omega) (by rintro rfl; simp [isT, isTr] at ha)) (fun G4 I4 J4 g4x c4 => ?_)
  have g4 := g3.call (k := 3) (x := (6, 0)) (Cx := (fun a : am_A => (a.2 = 0 ∧ (a.1 = 6 ∨ a.1 = 19 ∨ a.1 = 20)) ∨ isTr 15 16 a)) (Or.inl ⟨rfl, Or.inl rfl⟩) (by first | (simp [isT, isTr, isC0]; done) | (simp only [isT, isTr, isC0]; omega) | (simp [isT, isTr, isC0]; omega)) (by first | (simp [isT, isTr, isC0]; done) | (simp only [isT, isTr, isC0]; omega) | (simp [isT, isTr, isC0]; omega)) (fun a q z => by first | exact z.elim | (simp only [isT, isTr, Prod.ext_iff, false_or] at q z; omega)) g4x
  have kp4 : ∀ a : am_A, ¬ (fun a : am_A => (a.2 = 0 ∧ (a.1 = 6 ∨ a.1 = 19 ∨ a.1 = 20)) ∨ isTr 15 16 a) a → I4 a = I3 a := fun a h => (g4x.2.2.2 a h).trans (am_nI_ne (fun e => h (by rw [e]; exact (Or.inl ⟨rfl, Or.inl rfl⟩))))
  simp only [am_z, Nat.reduceAdd, Nat.zero_le, Nat.reduceLeDiff]
  refine rn_P_init 1 ?_
  simp only [am_z, cq_P_init, Nat.reduceAdd, Nat.zero_le, Nat.reduceLeDiff]
  refine ⟨by decide, ?_⟩
  -- Layout
  refine rn_P_init 4 ?_
  simp (disch := omega) only [am_z, cq_P_init, Nat.reduceAdd, Nat.zero_le, Nat.reduceLeDiff, ar_lit]
  refine ⟨Nat.le_of_ble_eq_true rfl, 0, g4.fr hf (by first | (simp [isT, isTr, isC0]; done) | (simp only [isT, isTr, isC0]; omega) | (simp [isT, isTr, isC0]; omega)) (by simp) (by first | (simp [isT, isTr, isC0]; done) | (simp only [isT, isTr, isC0]; omega) | (simp [isT, isTr, isC0]; omega)), ?_⟩
  refine ⟨Nat.le_of_ble_eq_true rfl, ?_⟩
  refine s_i_Layout (by omega) (am_nG_mem.mpr (Or.inr rfl)) am_nG_eq (g4.fx hf (by first | (simp [isT, isTr, isC0]; done) | (simp only [isT, isTr, isC0]; omega) | (simp [isT, isTr, isC0]; omega)) (by simp) (by first | (simp [isT, isTr, isC0]; done) | (simp only [isT, isTr, isC0]; omega) | (simp [isT, isTr, isC0]; omega)) (by simp)) (g4.fx hf (by first | (simp [isT, isTr, isC0]; done) | (simp only [isT, isTr, isC0]; omega) | (simp [isT, isTr, isC0]; omega)) (by simp) (by first | (simp [isT, isTr, isC0]; done) | (simp only [isT, isTr, isC0]; omega) | (simp [isT, isTr, isC0]; omega)) (by simp)) (fun G5 I5 J5 g5x => ?_)
  have g5 := g4.call (k := 4) (x := (4, 0)) (Cx := (fun a : am_A => a.2 = 0 ∧ (a.1 = 4 ∨ a.1 = 5 ∨ a.1 = 21))) ⟨rfl, Or.inl rfl⟩ (by first | (simp [isT, isTr, isC0]; done) | (simp only [isT, isTr, isC0]; omega) | (simp [isT, isTr, isC0]; omega)) (by first | (simp [isT, isTr, isC0]; done) | (simp only [isT, isTr, isC0]; omega) | (simp [isT, isTr, isC0]; omega)) (fun a q z => by first | exact z.elim | (simp only [isT, isTr, Prod.ext_iff, false_or] at q z; omega)) g5x
  have kp5 : ∀ a : am_A, ¬ (fun a : am_A => a.2 = 0 ∧ (a.1 = 4 ∨ a.1 = 5 ∨ a.1 = 21)) a → I5 a = I4 a := fun a h => (g5x.2.2.2 a h).trans (am_nI_ne (fun e => h (by rw [e]; exact ⟨rfl, Or.inl rfl⟩)))
  simp only [am_z, Nat.reduceAdd, Nat.zero_le, Nat.reduceLeDiff]
  refine rn_P_init 1 ?_
  simp only [am_z, cq_P_init, Nat.reduceAdd, Nat.zero_le, Nat.reduceLeDiff]
  refine ⟨by decide, ?_⟩
  -- Evener
  refine rn_P_init 4 ?_
  simp (disch := omega) only [am_z, cq_P_init, Nat.reduceAdd, Nat.zero_le, Nat.reduceLeDiff, ar_lit]
  refine ⟨Nat.le_of_ble_eq_true rfl, 0, g5.fr hf (by first | (simp [isT, isTr, isC0]; done) | (simp only [isT, isTr, isC0]; omega) | (simp [isT, isTr, isC0]; omega)) (by simp) (by first | (simp [isT, isTr, isC0]; done) | (simp only [isT, isTr, isC0]; omega) | (simp [isT, isTr, isC0]; omega)), ?_⟩
  refine ⟨Nat.le_of_ble_eq_true rfl, ?_⟩
  refine s_i_Evener (by omega) (am_nG_mem.mpr (Or.inr rfl)) am_nG_eq ⟨g5.fx hf (by first | (simp [isT, isTr, isC0]; done) | (simp only [isT, isTr, isC0]; omega) | (simp [isT, isTr, isC0]; omega)) (by simp) (by first | (simp [isT, isTr, isC0]; done) | (simp only [isT, isTr, isC0]; omega) | (simp [isT, isTr, isC0]; omega)) (by simp), g5.fx hf (by first | (simp [isT, isTr, isC0]; done) | (simp only [isT, isTr, isC0]; omega) | (simp [isT, isTr, isC0]; omega)) (by simp) (by first | (simp [isT, isTr, isC0]; done) | (simp only [isT, isTr, isC0]; omega) | (simp [isT, isTr, isC0]; omega)) (by simp), g5.fx hf (by first | (simp [isT, isTr, isC0]; done) | (simp only [isT, isTr, isC0]; omega) | (simp [isT, isTr, isC0]; omega)) (by simp) (by first | (simp [isT, isTr, isC0]; done) | (simp only [isT, isTr, isC0]; omega) | (simp [isT, isTr, isC0]; omega)) (by simp)⟩ (fun G6 I6 J6 g6x => ?_)
  have g6 := g5.call (k := 5) (x := (2, 0)) (Cx := (fun a : am_A => (a.2 = 0 ∧ (a.1 = 2 ∨ a.1 = 22 ∨ a.1 = 23)) ∨ (a.1 = 5 ∧ a.2 = 1))) (Or.inl ⟨rfl, Or.inl rfl⟩) (by first | (simp [isT, isTr, isC0]; done) | (simp only [isT, isTr, isC0]; omega) | (simp [isT, isTr, isC0]; omega)) (by first | (simp [isT, isTr, isC0]; done) | (simp only [isT, isTr, isC0]; omega) | (simp [isT, isTr, isC0]; omega)) (fun a q z => by first | exact z.elim | (simp only [isT, isTr, Prod.ext_iff, false_or] at q z; omega)) g6x
  have kp6 : ∀ a : am_A, ¬ (fun a : am_A => (a.2 = 0 ∧ (a.1 = 2 ∨ a.1 = 22 ∨ a.1 = 23)) ∨ (a.1 = 5 ∧ a.2 = 1)) a → I6 a = I5 a := fun a h => (g6x.2.2.2 a h).trans (am_nI_ne (fun e => h (by rw [e]; exact (Or.inl ⟨rfl, Or.inl rfl⟩))))
  simp only [am_z, Nat.reduceAdd, Nat.zero_le, Nat.reduceLeDiff]
  refine rn_P_init 1 ?_
  simp only [am_z, cq_P_init, Nat.reduceAdd, Nat.zero_le, Nat.reduceLeDiff]
  refine ⟨by decide, ?_⟩
  -- Command
  refine rn_P_init 4 ?_
  simp (disch := omega) only [am_z, cq_P_init, Nat.reduceAdd, Nat.zero_le, Nat.reduceLeDiff, ar_lit]
  refine ⟨Nat.le_of_ble_eq_true rfl, 0, g6.fr hf (by first | (simp [isT, isTr, isC0]; done) | (simp only [isT, isTr, isC0]; omega) | (simp [isT, isTr, isC0]; omega)) (by simp) (by first | (simp [isT, isTr, isC0]; done) | (simp only [isT, isTr, isC0]; omega) | (simp [isT, isTr, isC0]; omega)), ?_⟩
  try refine ⟨Nat.le_of_ble_eq_true rfl, ?_⟩
  refine s_i_Command (by omega) ?_
  have g7x := gst.one (G := (G6.1, am_upR G6.2 (0, 0) 5 (2, 0))) (I := I6) (x := (1, 0)) R0_1
  have g7 := g6.call (k := 6) (x := (1, 0)) (Cx := (fun a : am_A => a = (1, 0))) rfl (by first | (simp [isT, isTr, isC0]; done) | (simp only [isT, isTr, isC0]; omega) | (simp [isT, isTr, isC0]; omega)) (by simp) (fun a q => by rw [q]; simp [isT, isTr]) g7x
  have kp7 : ∀ a, ¬ a = (1, 0) → am_nI I6 (1, 0) a = I6 a := fun a h => am_nI_ne h
  generalize hG7 : am_nG (G6.1, am_upR G6.2 (0, 0) 5 (2, 0)) (1, 0) = G7 at *
  generalize hI7 : am_nI I6 (1, 0) = I7 at *
  simp only [am_z, Nat.reduceAdd, Nat.zero_le, Nat.reduceLeDiff]
  refine rn_P_init 1 ?_
  simp only [am_z, cq_P_init, Nat.reduceAdd, Nat.zero_le, Nat.reduceLeDiff]
  refine ⟨by decide, ?_⟩
  -- Table
  refine rn_P_init 4 ?_
  simp (disch := omega) only [am_z, cq_P_init, Nat.reduceAdd, Nat.zero_le, Nat.reduceLeDiff, ar_lit]
  refine ⟨Nat.le_of_ble_eq_true rfl, 17, g7.fr hf (by first | (simp [isT, isTr, isC0]; done) | (simp only [isT, isTr, isC0]; omega) | (simp [isT, isTr, isC0]; omega)) (by simp) (by first | (simp [isT, isTr, isC0]; done) | (simp only [isT, isTr, isC0]; omega) | (simp [isT, isTr, isC0]; omega)), ?_⟩
  refine ⟨Nat.le_of_ble_eq_true rfl, ?_⟩
  refine s_i_Table (by omega) (am_nG_mem.mpr (Or.inr rfl)) am_nG_eq (fun s h1 h2 => g7.fx hf (by simp only [isC0]; omega) (by simp only [Prod.mk.injEq]; omega) (by intro z; simp only [isT, isTr, Prod.ext_iff, false_or] at z; omega) (by simp only [Prod.mk.injEq]; omega)) (fun G8 I8 J8 g8x c8 e8 => ?_)
  have g8 := g7.call (k := 7) (x := (7, 17)) (Cx := (isT 17)) ⟨rfl, Or.inl rfl⟩ (by first | (simp [isT, isTr, isC0]; done) | (simp only [isT, isTr, isC0]; omega) | (simp [isT, isTr, isC0]; omega)) (by first | (simp [isT, isTr, isC0]; done) | (simp only [isT, isTr, isC0]; omega) | (simp [isT, isTr, isC0]; omega)) (fun a q z => by first | exact z.elim | (simp only [isT, isTr, Prod.ext_iff, false_or] at q z; omega)) g8x
  have kp8 : ∀ a : am_A, ¬ (isT 17) a → I8 a = I7 a := fun a h => (g8x.2.2.2 a h).trans (am_nI_ne (fun e => h (by rw [e]; exact ⟨rfl, Or.inl rfl⟩)))
  simp only [am_z, Nat.reduceAdd, Nat.zero_le, Nat.reduceLeDiff]
  refine rn_P_init 1 ?_
  simp only [am_z, cq_P_init, Nat.reduceAdd, Nat.zero_le, Nat.reduceLeDiff]
  refine ⟨by decide, ?_⟩
  refine rn_P_init 20 ?_
  simp (disch := omega) only [am_z, cq_P_init, Nat.reduceAdd, Nat.zero_le, Nat.reduceLeDiff, ar_lit]
  have gs := (g8.close ho (by simp [isT, isTr]) lkp_0).cg (Cx := isC0) (fun a => by simp only [isT, isTr, isC0, Prod.ext_iff, false_or]; omega)
  have z8 : I8 (8, 0) = fun _ => 0 := by rw [kp8 _ (by simp [isT, isTr]), kp7 _ (by simp [isT, isTr]), kp6 _ (by simp [isT, isTr]), kp5 _ (by simp [isT, isTr]), kp4 _ (by simp [isT, isTr]), kp3 _ (by simp [isT, isTr]), kp2 _ (by simp [isT, isTr]), c1]; exact am_nI_eq
  have z3 : I8 (3, 0) = fun _ => 0 := by rw [kp8 _ (by simp [isT, isTr]), kp7 _ (by simp [isT, isTr]), kp6 _ (by simp [isT, isTr]), kp5 _ (by simp [isT, isTr]), kp4 _ (by simp [isT, isTr]), c3]; exact am_nI_eq
  have z20 : I8 (20, 0) = fun _ => 0 := by rw [kp8 _ (by simp [isT, isTr]), kp7 _ (by simp [isT, isTr]), kp6 _ (by simp [isT, isTr]), kp5 _ (by simp [isT, isTr]), c4]
  have rc : rC I8 0 tnew := c2.kept (fun a ha => by rw [kp8 _ (by simp only [isT, isTr, Prod.ext_iff] at ha ⊢; omega), kp7 _ (by simp only [isT, isTr, Prod.ext_iff] at ha ⊢; omega), kp6 _ (by simp only [isT, isTr, Prod.ext_iff] at ha ⊢; omega), kp5 _ (by simp only [isT, isTr, Prod.ext_iff] at ha ⊢; omega), kp4 _ (by simp only [isT, isTr, Prod.ext_iff] at ha ⊢; omega), kp3 _ (by simp only [isT, isTr, Prod.ext_iff] at ha ⊢; omega)])
  refine k _ _ _ gs ⟨⟨by rw [z8]; rfl, fun j hj => absurd hj (Nat.not_lt_zero _), Nat.zero_le _, fun c hc => by cases hc⟩, rc, tnew_w, ⟨0, by omega, by rw [z3]; rfl, by rw [z3]; rfl, Nat.zero_le _, fun i hi => absurd hi (Nat.not_lt_zero _)⟩, fun j hj => ⟨by rw [z20]; rfl, fun q hq => by cases hq⟩, e8⟩
end IN
