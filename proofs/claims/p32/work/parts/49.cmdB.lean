/-! ===== the class Command: what it does ===== -/
def tdo1 (g : Nat) (p : pt_T) : Option pt_T := if (1 ≤ g / 1000 % 10 ∧ g / 1000 % 10 ≤ 6) ∧ g / 100 % 10 ≤ 6 ∧ g / 10 % 10 = 0 ∧ g % 10 = 0 ∧ tn p < 24 then some (tputR p (g / 1000 % 10) (g / 100 % 10)) else none
def tdo2 (g : Nat) (p : pt_T) : Option pt_T := if g / 100 % 100 < tn p ∧ g / 10 % 10 < tC p then some (tsetA p (g / 100 % 100) (g / 10 % 10) ((g % 10 : Nat) : Int)) else none
def tdo3 (g : Nat) (p : pt_T) : Option pt_T := if g / 100 % 100 < tn p ∧ g / 10 % 10 ≤ 1 ∧ g % 10 = 0 then some (tsetK p (g / 100 % 100) (g / 10 % 10)) else none
def tdo4 (g : Nat) (p : pt_T) : Option pt_T := if g / 100 % 100 < tn p ∧ g / 10 % 10 = 0 ∧ g % 10 = 0 then some (tdropR p (g / 100 % 100)) else none
def tdo5 (g : Nat) (p : pt_T) : Option pt_T := if tokH (g / 1000 % 10) (10 * (g / 100 % 10) + g / 10 % 10) = true ∧ g % 10 = 0 then some (tsetH p (g / 1000 % 10) (10 * (g / 100 % 10) + g / 10 % 10)) else none
def ke (P : am_P) (J : am_J) (t : Nat) (I : am_I) (p : pt_T) (o : Option pt_T) : Prop := ∀ I', am_fr (isT t) I I' → rC I' t (o.getD p) → P (.inl (some (vI (nI (b01 o.isSome))))) am_G0 I' J
section CM
variable {l : Launch} {D t : Nat} {I : am_I} {J : am_J} {P : am_P} {p : pt_T} {g : Nat}
theorem s_addsRow (hD : 3 ≤ D) (hk : rK I g) (hr : rC I t p) (hw : tW p) (k : ke P J t I p (tdo1 g p)) : am_T l D y_Command_addsRow [vR (1, 0), vR (7, t)] am_G0 I J P := by
  obtain ⟨d, rfl⟩ : ∃ d, D = d + 1 := ⟨D - 1, by omega⟩
  have no : ¬ ((1 ≤ g / 1000 % 10 ∧ g / 1000 % 10 ≤ 6) ∧ g / 100 % 10 ≤ 6 ∧ g / 10 % 10 = 0 ∧ g % 10 = 0 ∧ tn p < 24) → P (.inl (some (vI (nI 0)))) am_G0 I J := fun q => by
    unfold tdo1 at k
    rw [if_neg q] at k
    exact k I am_fr.rf hr
  refine en_Command_addsRow 60 (Nat.le_of_ble_eq_true rfl) ?_
  simp (disch := omega) only [am_z, cq_Command_addsRow, Nat.reduceAdd, ar_lit, hk.2.2.2.1, hk.2.2.2.2, hk.2.1, hk.2.2.1, ar_eq]
  by_cases q1 : g / 10 % 10 = 0
  · rw [if_pos q1]
    by_cases q2 : g % 10 = 0
    · rw [if_pos q2]
      refine s_allowsRow (by omega) (fun hno => ?_) (fun h n h1 h2 h3 e1 e2 => ?_)
      · simp only [am_z, Nat.reduceAdd]
        refine rn_Command_addsRow 60 ?_
        simp (disch := omega) only [am_z, cq_Command_addsRow, Nat.reduceAdd, ar_lit, ↓reduceIte]
        exact no fun q => hno _ _ q.1.1 q.1.2 q.2.1 rfl rfl
      · rw [ar_eq (by omega) (by omega)] at e1 e2
        subst e1 e2
        simp only [am_z, Nat.reduceAdd]
        refine rn_Command_addsRow 60 ?_
        simp (disch := omega) only [am_z, cq_Command_addsRow, Nat.reduceAdd, ar_lit, ar_eq, Nat.reduceEqDiff, ↓reduceIte]
        refine s_isFull (by omega) hr hw (fun n24 => ?_) (fun n24 => ?_)
        · simp only [am_z, Nat.reduceAdd]
          refine rn_Command_addsRow 60 ?_
          simp (disch := omega) only [am_z, cq_Command_addsRow, Nat.reduceAdd, ar_lit, ↓reduceIte, hk.2.1, hk.2.2.1]
          refine s_putRow (by omega) hr n24 (fun I' hf hr' => ?_)
          simp only [am_z, Nat.reduceAdd]
          refine rn_Command_addsRow 60 ?_
          simp only [am_z, cq_Command_addsRow, Nat.reduceAdd, ar_lit]
          unfold tdo1 at k
          rw [if_pos ⟨⟨h1, h2⟩, h3, q1, q2, n24⟩] at k
          exact k I' hf hr'
        · simp only [am_z, Nat.reduceAdd]
          refine rn_Command_addsRow 60 ?_
          simp (disch := omega) only [am_z, cq_Command_addsRow, Nat.reduceAdd, ar_lit, ar_eq, Nat.reduceEqDiff, ↓reduceIte]
          exact no fun q => by omega
    · rw [if_neg q2]
      exact no fun q => q2 q.2.2.2.1
  · rw [if_neg q1]
    exact no fun q => q1 q.2.2.1
theorem s_putsAmount (hD : 2 ≤ D) (hk : rK I g) (hr : rC I t p) (hw : tW p) (k : ke P J t I p (tdo2 g p)) : am_T l D y_Command_putsAmount [vR (1, 0), vR (7, t)] am_G0 I J P := by
  obtain ⟨d, rfl⟩ : ∃ d, D = d + 1 := ⟨D - 1, by omega⟩
  have h24 := hw.2.2.2.2.1
  have hc4 := hw.1.2
  have no : ¬ (g / 100 % 100 < tn p ∧ g / 10 % 10 < tC p) → P (.inl (some (vI (nI 0)))) am_G0 I J := fun q => by
    unfold tdo2 at k
    rw [if_neg q] at k
    exact k I am_fr.rf hr
  refine en_Command_putsAmount 60 (Nat.le_of_ble_eq_true rfl) ?_
  simp only [am_z, cq_Command_putsAmount, Nat.reduceAdd]
  refine s_firstPair (by omega) hk ?_
  simp only [am_z, Nat.reduceAdd]
  refine rn_Command_putsAmount 60 ?_
  simp only [am_z, cq_Command_putsAmount, Nat.reduceAdd]
  refine s_hasRow (by omega) hr hw (fun hno => ?_) (fun j hj ej => ?_)
  · simp only [am_z, Nat.reduceAdd]
    refine rn_Command_putsAmount 60 ?_
    simp (disch := omega) only [am_z, cq_Command_putsAmount, Nat.reduceAdd, ar_lit, ↓reduceIte]
    exact no fun q => hno _ q.1 rfl
  · rw [ar_eq (by omega) (by omega)] at ej
    subst ej
    simp only [am_z, Nat.reduceAdd]
    refine rn_Command_putsAmount 60 ?_
    simp (disch := omega) only [am_z, cq_Command_putsAmount, Nat.reduceAdd, ar_lit, ar_eq, Nat.reduceEqDiff, ↓reduceIte, hk.2.2.2.1]
    refine s_hasColumn (by omega) hr hw (fun hno => ?_) (fun c hc ec => ?_)
    · simp only [am_z, Nat.reduceAdd]
      refine rn_Command_putsAmount 60 ?_
      simp (disch := omega) only [am_z, cq_Command_putsAmount, Nat.reduceAdd, ar_lit, ↓reduceIte]
      exact no fun q => hno _ q.2 rfl
    · rw [ar_eq (by omega) (by omega)] at ec
      subst ec
      simp only [am_z, Nat.reduceAdd]
      refine rn_Command_putsAmount 60 ?_
      simp (disch := omega) only [am_z, cq_Command_putsAmount, Nat.reduceAdd, ar_lit, ar_eq, Nat.reduceEqDiff, ↓reduceIte]
      refine s_firstPair (by omega) hk ?_
      simp only [am_z, Nat.reduceAdd]
      refine rn_Command_putsAmount 60 ?_
      simp only [am_z, cq_Command_putsAmount, Nat.reduceAdd, hk.2.2.2.1, hk.2.2.2.2]
      refine s_putAmount (by omega) (by omega) (by omega) ?_
      simp only [am_z, Nat.reduceAdd]
      refine rn_Command_putsAmount 60 ?_
      simp only [am_z, cq_Command_putsAmount, Nat.reduceAdd, ar_lit]
      unfold tdo2 at k
      rw [if_pos ⟨hj, hc⟩] at k
      refine k _ (am_fr.up am_fr.rf isT_13) ?_
      rw [iI_nI (g % 10)]
      exact rC.setA hr hj (by omega)
theorem s_marksRow (hD : 2 ≤ D) (hk : rK I g) (hr : rC I t p) (hw : tW p) (k : ke P J t I p (tdo3 g p)) : am_T l D y_Command_marksRow [vR (1, 0), vR (7, t)] am_G0 I J P := by
  obtain ⟨d, rfl⟩ : ∃ d, D = d + 1 := ⟨D - 1, by omega⟩
  have h24 := hw.2.2.2.2.1
  have no : ¬ (g / 100 % 100 < tn p ∧ g / 10 % 10 ≤ 1 ∧ g % 10 = 0) → P (.inl (some (vI (nI 0)))) am_G0 I J := fun q => by
    unfold tdo3 at k
    rw [if_neg q] at k
    exact k I am_fr.rf hr
  refine en_Command_marksRow 60 (Nat.le_of_ble_eq_true rfl) ?_
  simp (disch := omega) only [am_z, cq_Command_marksRow, Nat.reduceAdd, ar_lit, hk.2.2.2.1, hk.2.2.2.2, ar_lt, ar_eq]
  by_cases q1 : 1 < g / 10 % 10
  · rw [if_pos q1]
    exact no fun q => by omega
  · rw [if_neg q1]
    by_cases q2 : g % 10 = 0
    · rw [if_pos q2]
      refine s_firstPair (by omega) hk ?_
      simp only [am_z, Nat.reduceAdd]
      refine rn_Command_marksRow 60 ?_
      simp only [am_z, cq_Command_marksRow, Nat.reduceAdd]
      refine s_hasRow (by omega) hr hw (fun hno => ?_) (fun j hj ej => ?_)
      · simp only [am_z, Nat.reduceAdd]
        refine rn_Command_marksRow 60 ?_
        simp (disch := omega) only [am_z, cq_Command_marksRow, Nat.reduceAdd, ar_lit, ↓reduceIte]
        exact no fun q => hno _ q.1 rfl
      · rw [ar_eq (by omega) (by omega)] at ej
        subst ej
        simp only [am_z, Nat.reduceAdd]
        refine rn_Command_marksRow 60 ?_
        simp (disch := omega) only [am_z, cq_Command_marksRow, Nat.reduceAdd, ar_lit, ar_eq, Nat.reduceEqDiff, ↓reduceIte]
        refine s_firstPair (by omega) hk ?_
        simp only [am_z, Nat.reduceAdd]
        refine rn_Command_marksRow 60 ?_
        unfold tdo3 at k
        rw [if_pos ⟨hj, by omega, q2⟩] at k
        simp (disch := omega) only [am_z, cq_Command_marksRow, Nat.reduceAdd, ar_lit, hk.2.2.2.1, ar_eq, ar_in, ar_cl, nar_b]
        by_cases q3 : g / 10 % 10 = 1
        · rw [if_pos q3]
          rw [q3] at k
          exact ⟨by omega, k _ (am_fr.up am_fr.rf isT_12) (rC.setK hr hj)⟩
        · rw [if_neg q3]
          rw [show g / 10 % 10 = 0 by omega] at k
          exact ⟨by omega, k _ (am_fr.up am_fr.rf isT_12) (rC.setK hr hj)⟩
    · rw [if_neg q2]
      exact no fun q => q2 q.2.2
theorem s_dropsRow (hD : 4 ≤ D) (hk : rK I g) (hr : rC I t p) (hw : tW p) (k : ke P J t I p (tdo4 g p)) : am_T l D y_Command_dropsRow [vR (1, 0), vR (7, t)] am_G0 I J P := by
  obtain ⟨d, rfl⟩ : ∃ d, D = d + 1 := ⟨D - 1, by omega⟩
  have h24 := hw.2.2.2.2.1
  have no : ¬ (g / 100 % 100 < tn p ∧ g / 10 % 10 = 0 ∧ g % 10 = 0) → P (.inl (some (vI (nI 0)))) am_G0 I J := fun q => by
    unfold tdo4 at k
    rw [if_neg q] at k
    exact k I am_fr.rf hr
  refine en_Command_dropsRow 60 (Nat.le_of_ble_eq_true rfl) ?_
  simp (disch := omega) only [am_z, cq_Command_dropsRow, Nat.reduceAdd, ar_lit, hk.2.2.2.1, hk.2.2.2.2, ar_eq]
  by_cases q1 : g / 10 % 10 = 0
  · rw [if_pos q1]
    by_cases q2 : g % 10 = 0
    · rw [if_pos q2]
      refine s_firstPair (by omega) hk ?_
      simp only [am_z, Nat.reduceAdd]
      refine rn_Command_dropsRow 60 ?_
      simp only [am_z, cq_Command_dropsRow, Nat.reduceAdd]
      refine s_hasRow (by omega) hr hw (fun hno => ?_) (fun j hj ej => ?_)
      · simp only [am_z, Nat.reduceAdd]
        refine rn_Command_dropsRow 60 ?_
        simp (disch := omega) only [am_z, cq_Command_dropsRow, Nat.reduceAdd, ar_lit, ↓reduceIte]
        exact no fun q => hno _ q.1 rfl
      · rw [ar_eq (by omega) (by omega)] at ej
        subst ej
        simp only [am_z, Nat.reduceAdd]
        refine rn_Command_dropsRow 60 ?_
        simp (disch := omega) only [am_z, cq_Command_dropsRow, Nat.reduceAdd, ar_lit, ar_eq, Nat.reduceEqDiff, ↓reduceIte]
        refine s_firstPair (by omega) hk ?_
        simp only [am_z, Nat.reduceAdd]
        refine rn_Command_dropsRow 60 ?_
        simp only [am_z, cq_Command_dropsRow, Nat.reduceAdd]
        refine s_dropRow (by omega) hr hw hj (fun I' hf hr' => ?_)
        simp only [am_z, Nat.reduceAdd]
        refine rn_Command_dropsRow 60 ?_
        simp only [am_z, cq_Command_dropsRow, Nat.reduceAdd, ar_lit]
        unfold tdo4 at k
        rw [if_pos ⟨hj, q1, q2⟩] at k
        exact k I' hf hr'
    · rw [if_neg q2]
      exact no fun q => q2 q.2.2
  · rw [if_neg q1]
    exact no fun q => q1 q.2.1
theorem s_putsHeight (hD : 2 ≤ D) (hk : rK I g) (hr : rC I t p) (k : ke P J t I p (tdo5 g p)) : am_T l D y_Command_putsHeight [vR (1, 0), vR (7, t)] am_G0 I J P := by
  obtain ⟨d, rfl⟩ : ∃ d, D = d + 1 := ⟨D - 1, by omega⟩
  have no : ¬ (tokH (g / 1000 % 10) (10 * (g / 100 % 10) + g / 10 % 10) = true ∧ g % 10 = 0) → P (.inl (some (vI (nI 0)))) am_G0 I J := fun q => by
    unfold tdo5 at k
    rw [if_neg q] at k
    exact k I am_fr.rf hr
  refine en_Command_putsHeight 60 (Nat.le_of_ble_eq_true rfl) ?_
  simp (disch := omega) only [am_z, cq_Command_putsHeight, Nat.reduceAdd, ar_lit, hk.2.1, hk.2.2.1, hk.2.2.2.1, hk.2.2.2.2, pk_mul, nI_add, ar_eq]
  by_cases q2 : g % 10 = 0
  · rw [if_pos q2]
    refine s_allowsHeight (by omega) (fun hno => ?_) (fun w h h1 h2 h3 e1 e2 => ?_)
    · simp only [am_z, Nat.reduceAdd]
      refine rn_Command_putsHeight 60 ?_
      simp (disch := omega) only [am_z, cq_Command_putsHeight, Nat.reduceAdd, ar_lit, ↓reduceIte]
      exact no fun q => by
        have := (tokH_iff _ _).mp q.1
        exact hno _ _ (by omega) (by omega) q.1 rfl rfl
    · rw [ar_eq (by omega) (by omega)] at e1 e2
      subst e1 e2
      simp only [am_z, Nat.reduceAdd]
      refine rn_Command_putsHeight 60 ?_
      simp (disch := omega) only [am_z, cq_Command_putsHeight, Nat.reduceAdd, ar_lit, ar_eq, Nat.reduceEqDiff, ↓reduceIte, hk.2.1]
      refine s_putHeight (by omega) hr h1 (fun I' hf hr' => ?_)
      simp only [am_z, Nat.reduceAdd]
      refine rn_Command_putsHeight 60 ?_
      simp only [am_z, cq_Command_putsHeight, Nat.reduceAdd, ar_lit]
      unfold tdo5 at k
      rw [if_pos ⟨h3, q2⟩] at k
      exact k I' hf hr'
  · rw [if_neg q2]
    exact no fun q => q2 q.2
end CM
