/-! ===== the abstract machine's cells: fields, arrays, the script ===== -/
section AMW
variable {ad : am_A → Nat} {cT : Nat → ClassId} {G G' : am_G} {I I' : am_I} {J J' : am_J} {a : am_A} {A : Nat → Prop} {D : va_G}
theorem am_at_small : ∀ s : Nat, am_at s ≤ 4 → 10 ≤ s ∧ s < 36 := by
  intro s h
  by_cases q : s < 37
  · have : ∀ s : Nat, s < 37 → am_at s ≤ 4 → 10 ≤ s ∧ s < 36 := by decide +kernel
    exact this s q h
  · have e : am_at s = 9 := by
      unfold am_at
      have e2 : am_atl[s]? = none := by
        rw [List.getElem?_eq_none_iff]
        have : am_atl.length = 37 := by decide +kernel
        omega
      rw [List.getD_eq_getElem?_getD, e2]
      rfl
    omega
theorem am_ww_at (h : a ∈ G.1) : ∃ q0 : Nat, (am_ww ad cT G I J)[q0]? = some (ad a, am_ce ad cT G I J a) ∧ G.1[q0]? = some a := by
  obtain ⟨q0, h0⟩ := List.getElem?_of_mem h
  exact ⟨q0, by unfold am_ww; rw [List.getElem?_map, h0]; rfl, h0⟩
theorem am_ce_o (h : a.1 < 10) : am_ce ad cT G I J a = .inr (a.1, (List.range (am_cn a.1)).map fun k => if am_fk a.1 k = 2 then va_rf ((G.2 a k).map ad) else .int (I a k)) := by
  unfold am_ce
  rw [if_pos h]
theorem am_ce_i {t : Nat} (h : am_at a.1 = t) (ht : t < 3) : am_ce ad cT G I J a = .inl (cT t, (am_an a.1, .inl (I a))) := by
  have := am_at_small a.1 (by omega)
  unfold am_ce
  rw [if_neg (by omega), if_neg (by omega), if_neg (by omega), h]
theorem am_ce_l (h : am_at a.1 = 3) : am_ce ad cT G I J a = .inl (cT 3, (am_an a.1, .inr (.inl (J a)))) := by
  have := am_at_small a.1 (by omega)
  unfold am_ce
  rw [if_neg (by omega), if_pos h]
theorem am_ce_q (h : am_at a.1 = 4) : am_ce ad cT G I J a = .inl (cT 4, (am_an a.1, .inr (.inr (.inr (.inr (fun k => (G.2 a k).map ad)))))) := by
  have := am_at_small a.1 (by omega)
  unfold am_ce
  rw [if_neg (by omega), if_neg (by omega), if_pos h]
theorem am_ce_eq {b : am_A} (hR : ∀ k, G'.2 b k = G.2 b k) (hI : I' b = I b) (hJ : J' b = J b) : am_ce ad cT G' I' J' b = am_ce ad cT G I J b := by
  unfold am_ce
  simp only [hR, hI, hJ]
theorem am_fs_at {N k : Nat} {f : Nat → Value} (hk : k < N) : ((List.range N).map f)[k]? = some (f k) := by
  rw [List.getElem?_map, List.getElem?_range hk]; rfl
theorem am_fs_set {N k : Nat} {f f' : Nat → Value} {v : Value} (hk : k < N) (h1 : f' k = v) (h2 : ∀ j, j ≠ k → f' j = f j) : ((List.range N).map f).set k v = (List.range N).map f' := by
  apply List.ext_getElem?
  intro j
  by_cases hj : j = k
  · subst hj
    rw [List.getElem?_set_self (by simpa using hk), am_fs_at hk, h1]
  · rw [List.getElem?_set_ne (Ne.symm hj), List.getElem?_map, List.getElem?_map]
    cases hb : (List.range N)[j]? with
    | none => rfl
    | some b =>
      have e : b = j := by
        obtain ⟨hl, hb⟩ := List.getElem?_eq_some_iff.mp hb
        rw [← hb, List.getElem_range]
      rw [Option.map_some, Option.map_some, e, h2 j hj]
theorem am_ww_set {q0 : Nat} {e : va_E} (hD : va_D A (am_ww ad cT G I J)) (hq : G.1[q0]? = some a) (hG : G'.1 = G.1) (he : am_ce ad cT G' I' J' a = e) (ho : ∀ b ∈ G.1, b ≠ a → am_ce ad cT G' I' J' b = am_ce ad cT G I J b) : (am_ww ad cT G I J).set q0 (ad a, e) = am_ww ad cT G' I' J' := by
  apply List.ext_getElem?
  intro j
  have hw : ∀ (j : Nat) (b : am_A), G.1[j]? = some b → (am_ww ad cT G I J)[j]? = some (ad b, am_ce ad cT G I J b) := fun j b h => by
    unfold am_ww
    rw [List.getElem?_map, h]
    rfl
  have hw' : (am_ww ad cT G' I' J')[j]? = (G.1[j]?).map fun a => (ad a, am_ce ad cT G' I' J' a) := by
    unfold am_ww
    rw [hG, List.getElem?_map]
  by_cases hj : j = q0
  · subst hj
    rw [List.getElem?_set_self (List.getElem?_eq_some_iff.mp (hw j a hq)).1, hw', hq, Option.map_some, he]
  · rw [List.getElem?_set_ne (Ne.symm hj), hw']
    cases hb : G.1[j]? with
    | none =>
      unfold am_ww
      rw [List.getElem?_map, hb]
      rfl
    | some b =>
      have hba : b ≠ a := by
        rintro rfl
        exact hj (hD.1 j q0 _ _ (hw j b hb) (hw q0 b hq) rfl)
      rw [hw j b hb, Option.map_some, ho b (List.mem_of_getElem? hb) hba]
theorem am_vk_eq (hG : G'.1 = G.1) {v : am_V} (h : am_vk G v) : am_vk G' v := by
  rcases v with x | x | b
  · exact trivial
  · exact trivial
  · show b ∈ G'.1 ∨ b.1 = 36
    rw [hG]
    exact h
end AMW
section AMN
variable {sc : Nat × (Nat → Int32)} {y : Nat} {ad0 ad : am_A → Nat} {G0 G G' : am_G} {cT : Nat → ClassId} {D : va_G} {A : Nat → Prop} {s : State} {H H' : Heap} {locs locs' : List Loc} {LS : Array Slot} {ls : am_L} {st st' : List am_V} {I I' : am_I} {J J' : am_J}
theorem am_M.wld (h : am_M sc y ad0 G0 ad cT D A s H locs LS ls st G I J) (hG : G'.1 = G.1) (hP : va_P D am_cls (am_ww ad cT G' I' J') H') (hD : va_D A (am_ww ad cT G' I' J')) (hS : va_S A s.heap H' locs') (hw : am_wf G') (hs : ∀ v ∈ st', am_vk G v) : am_M sc y ad0 G0 ad cT D A s H' locs' LS ls st' G' I' J' := by
  obtain ⟨h1, h2, h3, h4, h5, h6, h7, h8, h9, h10⟩ := h
  exact ⟨h1, hP, hD, hS, hw, fun v hv => am_vk_eq hG (hs v hv), fun i v hv => am_vk_eq hG (h7 i v hv), h8, fun a ha => ⟨by rw [hG]; exact (h9 a ha).1, (h9 a ha).2⟩, h10⟩
theorem am_M.inG (h : am_M sc y ad0 G0 ad cT D A s H locs LS ls st G I J) {a : am_A} (hv : am_vk G (vR a)) (ha : a.1 ≠ 36) : a ∈ G.1 := hv.resolve_right ha
end AMN
def am_upI (I : am_I) (a : am_A) (k : Nat) (x : Int32) : am_I := fun b => if b = a then upd (I a) k x else I b
def am_upJ (J : am_J) (a : am_A) (k : Nat) (x : Int64) : am_J := fun b => if b = a then vp_updL (J a) k x else J b
def am_upR (R : am_A → Nat → Option am_A) (a : am_A) (k : Nat) (x : am_A) : am_A → Nat → Option am_A := fun b j => if b = a then (if j = k then some x else R a j) else R b j
def am_cpI (I : am_I) (a0 a : am_A) (sp dp n : Nat) : am_I := fun b => if b = a then va_cpy (I a0) (I a) sp dp n else I b
/-- the pool entry idx of y's class names the field k of the class ci -/
def am_fl (y idx ci k : Nat) : Prop := Cond.fieldLink (am_mY y).cls idx (am_cT ci k).1 (am_cT ci k).2.1 (am_cT ci k).2.2.1 ∈ am_tb ∨ ∃ host : String, Cond.fieldLinkNest (am_mY y).cls idx (am_cT ci k).1 (am_cT ci k).2.1 (am_cT ci k).2.2.1 host ∈ am_tb
section AMH
variable {l : Launch} {sc : Nat × (Nat → Int32)} {d y pc : Nat}
def am_getI (ci k nx : Nat) : am_S := fun K X P ls st kc ks G I J => match st with
  | (.inr (.inr a)) :: r => a.1 = ci ∧ K nx ls ((.inl (I a k)) :: r) kc ks G I J
  | _ => False
theorem ok_getI {ci k idx : Nat} (h : decode (am_mB y) pc = .ok (.getfield idx, 3)) (hf : am_fl y idx ci k) (hci : ci < 10 ∧ k < am_cn ci ∧ ¬ am_fk ci k = 2) : am_ok l sc d y pc (am_getI ci k (pc + 3)) := by
  intro K X P ls st kc ks G I J hK _ hs
  unfold am_getI at hs
  split at hs
  · rename_i a r
    intro p R e s m args below meth c D cT A ad0 G0 Q ad H locs LS hC hM hc hn
    have hv := hM.sok
    simp only [List.forall_mem_cons] at hv
    obtain ⟨rfl, hs⟩ := hs
    obtain ⟨q0, he, -⟩ := am_ww_at (ad := ad) (cT := cT) (I := I) (J := J) (hM.inG hv.1 (by omega))
    rw [am_ce_o hci.1] at he
    have hk := hK _ _ _ _ _ _ _ _ hs _ _ _ _ _ _ _ _ _ _ _ _ _ _ _ _ _ _ _ hC (hM.stk (st' := (vI (I a k)) :: r) (List.forall_mem_cons.mpr ⟨trivial, hv.2⟩)) hc hn
    have hval : ((List.range (am_cn a.1)).map fun k => if am_fk a.1 k = 2 then va_rf ((G.2 a k).map ad) else Value.int (I a k))[k]? = some (.int (I a k)) := by
      rw [am_fs_at hci.2.1, if_neg hci.2.2]
    rcases hf with hf | ⟨host, hf⟩
    · exact va_get hC.1.1 hC.1.2.1 (fun w hw => hC.2.1.1.use hw args) (am_hin a.1 hci.1) hC.1.2.2.2.2.1 hC.2.1.2.1 hM.2.1 q0 he (am_cls_at a.1 hci.1) k hci.2.1 (hC.2.1.1.use hf args) (fun _ h => h) hval h hk
    · exact va_getN hC.1.1 hC.1.2.1 (fun w hw => hC.2.1.1.use hw args) (am_hin a.1 hci.1) hC.1.2.2.2.2.1 hC.2.1.2.1 hM.2.1 q0 he (am_cls_at a.1 hci.1) k hci.2.1 (hC.2.1.1.use hf args) (fun _ h => h) hval h hk
  · exact hs.elim
def am_getR (ci k nx : Nat) : am_S := fun K X P ls st kc ks G I J => match st with
  | (.inr (.inr a)) :: r => a.1 = ci ∧ match G.2 a k with
    | some b => K nx ls ((.inr (.inr b)) :: r) kc ks G I J
    | none => False
  | _ => False
theorem ok_getR {ci k idx : Nat} (h : decode (am_mB y) pc = .ok (.getfield idx, 3)) (hf : am_fl y idx ci k) (hci : ci < 10 ∧ k < am_cn ci ∧ am_fk ci k = 2) : am_ok l sc d y pc (am_getR ci k (pc + 3)) := by
  intro K X P ls st kc ks G I J hK _ hs
  unfold am_getR at hs
  split at hs
  · rename_i a r
    intro p R e s m args below meth c D cT A ad0 G0 Q ad H locs LS hC hM hc hn
    have hv := hM.sok
    simp only [List.forall_mem_cons] at hv
    obtain ⟨rfl, hs⟩ := hs
    have haG := hM.inG hv.1 (by omega)
    split at hs
    · rename_i b hb
      obtain ⟨q0, he, -⟩ := am_ww_at (ad := ad) (cT := cT) (I := I) (J := J) haG
      rw [am_ce_o hci.1] at he
      have hk := hK _ _ _ _ _ _ _ _ hs _ _ _ _ _ _ _ _ _ _ _ _ _ _ _ _ _ _ _ hC (hM.stk (st' := (vR b) :: r) (List.forall_mem_cons.mpr ⟨Or.inl (hM.2.2.2.2.1.2 a haG k b hb), hv.2⟩)) hc hn
      have hval : ((List.range (am_cn a.1)).map fun k => if am_fk a.1 k = 2 then va_rf ((G.2 a k).map ad) else Value.int (I a k))[k]? = some (.ref (ad b)) := by
        rw [am_fs_at hci.2.1, if_pos hci.2.2, hb]
        rfl
      rcases hf with hf | ⟨host, hf⟩
      · exact va_get hC.1.1 hC.1.2.1 (fun w hw => hC.2.1.1.use hw args) (am_hin a.1 hci.1) hC.1.2.2.2.2.1 hC.2.1.2.1 hM.2.1 q0 he (am_cls_at a.1 hci.1) k hci.2.1 (hC.2.1.1.use hf args) (fun _ h => h) hval h hk
      · exact va_getN hC.1.1 hC.1.2.1 (fun w hw => hC.2.1.1.use hw args) (am_hin a.1 hci.1) hC.1.2.2.2.2.1 hC.2.1.2.1 hM.2.1 q0 he (am_cls_at a.1 hci.1) k hci.2.1 (hC.2.1.1.use hf args) (fun _ h => h) hval h hk
    · exact hs.elim
  · exact hs.elim
/-- the put of an int field: x is 0 or 1 where the field is a truth value -/
def am_putI (ci k nx : Nat) : am_S := fun K X P ls st kc ks G I J => match st with
  | (.inl x) :: (.inr (.inr a)) :: r => a.1 = ci ∧ (am_fk ci k = 1 → x = 0 ∨ x = 1) ∧ K nx ls r kc ks G (am_upI I a k x) J
  | _ => False
theorem am_nz {x : Int32} (h : x = 0 ∨ x = 1) : narrow .boolean (.int x) = .int x ∧ fits .boolean (.int x) = true := by
  rcases h with rfl | rfl
  · exact ⟨by decide +kernel, by decide +kernel⟩
  · exact ⟨by decide +kernel, by decide +kernel⟩
theorem ok_putI {ci k idx : Nat} (h : decode (am_mB y) pc = .ok (.putfield idx, 3)) (hf : am_fl y idx ci k) (hci : ci < 10 ∧ k < am_cn ci ∧ ¬ am_fk ci k = 2) : am_ok l sc d y pc (am_putI ci k (pc + 3)) := by
  intro K X P ls st kc ks G I J hK _ hs
  unfold am_putI at hs
  split at hs
  · rename_i x a r
    intro p R e s m args below meth c D cT A ad0 G0 Q ad H locs LS hC hM hc hn
    have hv := hM.sok
    simp only [List.forall_mem_cons] at hv
    obtain ⟨rfl, hz, hs⟩ := hs
    have haG := hM.inG hv.2.1 (by omega)
    obtain ⟨q0, he, hq0⟩ := am_ww_at (ad := ad) (cT := cT) (I := I) (J := J) haG
    rw [am_ce_o hci.1] at he
    obtain ⟨f0, f1, -, f3⟩ := am_hfk a.1 hci.1 k hci.2.1
    have hty := am_hty a.1 hci.1 k hci.2.1
    have hset : (am_ww ad cT G I J).set q0 (ad a, .inr (a.1, ((List.range (am_cn a.1)).map fun k => if am_fk a.1 k = 2 then va_rf ((G.2 a k).map ad) else Value.int (I a k)).set k (.int x))) = am_ww ad cT G (am_upI I a k x) J := by
      refine am_ww_set hM.2.2.1 hq0 rfl ?_ (fun b _ hb => am_ce_eq (fun _ => rfl) (by simp [am_upI, hb]) rfl)
      rw [am_ce_o hci.1, am_fs_set hci.2.1]
      · rw [if_neg hci.2.2]; simp [am_upI, upd]
      · intro j hj
        simp [am_upI, upd, hj]
    have hfin : (am_cT a.1 k).2.2.2 = false := by
      rcases (show am_fk a.1 k = 0 ∨ am_fk a.1 k = 1 by omega) with g | g
      · exact (f0 g).2
      · exact (f1 g).2
    have hnf : narrow (am_ty a.1 k) (.int x) = .int x ∧ fits (am_ty a.1 k) (.int x) = true := by
      rcases (show am_fk a.1 k = 0 ∨ am_fk a.1 k = 1 by omega) with g | g
      · rw [(f0 g).1]; exact ⟨rfl, rfl⟩
      · rw [(f1 g).1]; exact am_nz (hz g)
    have kk : ∀ (H1 : Heap) (locs1 : List Loc), va_P D am_cls ((am_ww ad cT G I J).set q0 (ad a, .inr (a.1, ((List.range (am_cn a.1)).map fun k => if am_fk a.1 k = 2 then va_rf ((G.2 a k).map ad) else Value.int (I a k)).set k (.int x)))) H1 → va_D A ((am_ww ad cT G I J).set q0 (ad a, .inr (a.1, ((List.range (am_cn a.1)).map fun k => if am_fk a.1 k = 2 then va_rf ((G.2 a k).map ad) else Value.int (I a k)).set k (.int x)))) → va_S A s.heap H1 locs1 → W p l e R s m args below meth c H1 locs1 kc ks Q (F0 m (pc + 3) LS (r.map (am_cv ad))) := by
      intro H1 locs1 hP1 hD1 hS1
      rw [hset] at hP1 hD1
      exact hK _ _ _ _ _ _ _ _ hs _ _ _ _ _ _ _ _ _ _ _ _ _ _ _ _ _ _ _ hC (hM.wld rfl hP1 hD1 hS1 hM.2.2.2.2.1 hv.2.2) hc hn
    rcases hf with hf | ⟨host, hf⟩
    · exact va_put hC.1.1 hC.1.2.1 (fun w hw => hC.2.1.1.use hw args) (am_hin a.1 hci.1) (am_ty a.1) (am_hty a.1 hci.1) (am_hnm a.1 hci.1) hC.1.2.2.2.2.1 hC.2.1.2.1 hM.2.1 hM.2.2.1 hM.2.2.2.1 q0 he (am_cls_at a.1 hci.1) k hci.2.1 (hC.2.1.1.use hf args) (fun _ h => h) hfin hty hnf.1 hnf.2 (by simpa using hci.2.1) h kk
    · exact va_putN hC.1.1 hC.1.2.1 (fun w hw => hC.2.1.1.use hw args) (am_hin a.1 hci.1) (am_ty a.1) (am_hty a.1 hci.1) (am_hnm a.1 hci.1) hC.1.2.2.2.2.1 hC.2.1.2.1 hM.2.1 hM.2.2.1 hM.2.2.2.1 q0 he (am_cls_at a.1 hci.1) k hci.2.1 (hC.2.1.1.use hf args) (fun _ h => h) hfin hty hnf.1 hnf.2 (by simpa using hci.2.1) h kk
  · exact hs.elim
/-- a final reference field, put by its own constructor -/
def am_putR (ci k nx : Nat) : am_S := fun K X P ls st kc ks G I J => match st with
  | (.inr (.inr b)) :: (.inr (.inr a)) :: r => a.1 = ci ∧ b.1 < 36 ∧ K nx ls r kc ks (G.1, am_upR G.2 a k b) I J
  | _ => False
theorem am_isref {ty : FieldType} (h : ty.isReference = true) (q : Nat) : narrow ty (.ref q) = .ref q ∧ fits ty (.ref q) = true := by
  cases ty <;> first | exact ⟨rfl, rfl⟩ | (simp [FieldType.isReference] at h)
theorem ok_putR {ci k idx : Nat} (h : decode (am_mB y) pc = .ok (.putfield idx, 3)) (hf : Cond.fieldLink (am_mY y).cls idx (am_cT ci k).1 (am_cT ci k).2.1 (am_cT ci k).2.2.1 ∈ am_tb) (hci : ci < 10 ∧ k < am_cn ci ∧ am_fk ci k = 2) (hy : (am_mY y).name = "<init>" ∧ (am_mY y).cls = am_cN ci) : am_ok l sc d y pc (am_putR ci k (pc + 3)) := by
  intro K X P ls st kc ks G I J hK _ hs
  unfold am_putR at hs
  split at hs
  · rename_i b a r
    intro p R e s m args below meth c D cT A ad0 G0 Q ad H locs LS hC hM hc hn
    have hv := hM.sok
    simp only [List.forall_mem_cons] at hv
    obtain ⟨rfl, hb36, hs⟩ := hs
    have haG := hM.inG hv.2.1 (by omega)
    have hbG := hM.inG hv.1 (by omega)
    obtain ⟨q0, he, hq0⟩ := am_ww_at (ad := ad) (cT := cT) (I := I) (J := J) haG
    rw [am_ce_o hci.1] at he
    obtain ⟨-, -, f2, -⟩ := am_hfk a.1 hci.1 k hci.2.1
    obtain ⟨f2, f3⟩ := f2 hci.2.2
    have hset : (am_ww ad cT G I J).set q0 (ad a, .inr (a.1, ((List.range (am_cn a.1)).map fun k => if am_fk a.1 k = 2 then va_rf ((G.2 a k).map ad) else Value.int (I a k)).set k (.ref (ad b)))) = am_ww ad cT (G.1, am_upR G.2 a k b) I J := by
      refine am_ww_set hM.2.2.1 hq0 rfl ?_ (fun b' _ hb' => am_ce_eq (fun _ => by simp [am_upR, hb']) rfl rfl)
      rw [am_ce_o hci.1, am_fs_set hci.2.1]
      · rw [if_pos hci.2.2]; simp [am_upR, va_rf]
      · intro j hj
        simp [am_upR, hj]
    have hwf : am_wf (G.1, am_upR G.2 a k b) := by
      refine ⟨hM.2.2.2.2.1.1, fun a' ha' j b' hb' => ?_⟩
      have hb' : am_upR G.2 a k b a' j = some b' := hb'
      unfold am_upR at hb'
      split at hb'
      · split at hb'
        · cases hb'; exact hbG
        · exact hM.2.2.2.2.1.2 a haG j b' hb'
      · exact hM.2.2.2.2.1.2 a' ha' j b' hb'
    refine va_putF (v := .ref (ad b)) hC.1.1 hC.1.2.1 (fun w hw => hC.2.1.1.use hw args) (am_hin a.1 hci.1) (am_ty a.1) (am_hty a.1 hci.1) (am_hnm a.1 hci.1) hC.1.2.2.2.2.1 hC.2.1.2.1 hM.2.1 hM.2.2.1 hM.2.2.2.1 q0 he (am_cls_at a.1 hci.1) k hci.2.1 (hC.2.1.1.use hf args) (fun _ h => h) f3 (hC.1.2.2.2.2.2.2.trans hy.1) (by rw [am_hdc a.1 hci.1 k hci.2.1, hy.2]) (am_hty a.1 hci.1 k hci.2.1) (am_isref f2 _).1 (am_isref f2 _).2 (by simpa using hci.2.1) h ?_
    intro H1 locs1 hP1 hD1 hS1
    rw [hset] at hP1 hD1
    exact hK _ _ _ _ _ _ _ _ hs _ _ _ _ _ _ _ _ _ _ _ _ _ _ _ _ _ _ _ hC (hM.wld rfl hP1 hD1 hS1 hwf hv.2.2) hc hn
  · exact hs.elim
/-! arrays -/
theorem am_ty_at (cT : Nat → ClassId) : ∀ t : Nat, t < 5 → (am_tys cT)[t]? = some (cT t, am_aty t) := by
  intro t h
  match t, h with
  | 0, _ => rfl
  | 1, _ => rfl
  | 2, _ => rfl
  | 3, _ => rfl
  | 4, _ => rfl
  | k + 5, h => exact absurd h (by omega)
def am_ald (t nx : Nat) : am_S := fun K X P ls st kc ks G I J => match st with
  | (.inl i) :: (.inr (.inr a)) :: r => am_at a.1 = t ∧ vp_in i (am_an a.1) ∧ K nx ls ((.inl (I a i.toNatClampNeg)) :: r) kc ks G I J
  | _ => False
theorem ok_iald (h : decode (am_mB y) pc = .ok (.iaload, 1)) : am_ok l sc d y pc (am_ald 0 (pc + 1)) := by
  intro K X P ls st kc ks G I J hK _ hs
  unfold am_ald at hs
  split at hs
  · rename_i i a r
    intro p R e s m args below meth c D cT A ad0 G0 Q ad H locs LS hC hM hc hn
    have hv := hM.sok
    simp only [List.forall_mem_cons] at hv
    obtain ⟨ht, hi, hs⟩ := hs
    have h36 := am_at_small a.1 (by omega)
    obtain ⟨q0, he, -⟩ := am_ww_at (ad := ad) (cT := cT) (I := I) (J := J) (hM.inG hv.2.1 (by omega))
    rw [am_ce_i ht (by decide)] at he
    exact va_iald hC.1.1 hC.1.2.1 hC.2.1.2.1 hM.2.1 q0 0 he (am_ty_at cT 0 (by decide)) hi h (hK _ _ _ _ _ _ _ _ hs _ _ _ _ _ _ _ _ _ _ _ _ _ _ _ _ _ _ _ hC (hM.stk (st' := (vI (I a i.toNatClampNeg)) :: r) (List.forall_mem_cons.mpr ⟨trivial, hv.2.2⟩)) hc hn)
  · exact hs.elim
theorem ok_zald (h : decode (am_mB y) pc = .ok (.baload, 1)) : am_ok l sc d y pc (am_ald 1 (pc + 1)) := by
  intro K X P ls st kc ks G I J hK _ hs
  unfold am_ald at hs
  split at hs
  · rename_i i a r
    intro p R e s m args below meth c D cT A ad0 G0 Q ad H locs LS hC hM hc hn
    have hv := hM.sok
    simp only [List.forall_mem_cons] at hv
    obtain ⟨ht, hi, hs⟩ := hs
    have h36 := am_at_small a.1 (by omega)
    obtain ⟨q0, he, -⟩ := am_ww_at (ad := ad) (cT := cT) (I := I) (J := J) (hM.inG hv.2.1 (by omega))
    rw [am_ce_i ht (by decide)] at he
    exact va_zald hC.1.1 hC.1.2.1 hC.2.1.2.1 hM.2.1 q0 1 he (am_ty_at cT 1 (by decide)) hi h (hK _ _ _ _ _ _ _ _ hs _ _ _ _ _ _ _ _ _ _ _ _ _ _ _ _ _ _ _ hC (hM.stk (st' := (vI (I a i.toNatClampNeg)) :: r) (List.forall_mem_cons.mpr ⟨trivial, hv.2.2⟩)) hc hn)
  · exact hs.elim
theorem ok_cald (h : decode (am_mB y) pc = .ok (.caload, 1)) : am_ok l sc d y pc (am_ald 2 (pc + 1)) := by
  intro K X P ls st kc ks G I J hK _ hs
  unfold am_ald at hs
  split at hs
  · rename_i i a r
    intro p R e s m args below meth c D cT A ad0 G0 Q ad H locs LS hC hM hc hn
    have hv := hM.sok
    simp only [List.forall_mem_cons] at hv
    obtain ⟨ht, hi, hs⟩ := hs
    have h36 := am_at_small a.1 (by omega)
    obtain ⟨q0, he, -⟩ := am_ww_at (ad := ad) (cT := cT) (I := I) (J := J) (hM.inG hv.2.1 (by omega))
    rw [am_ce_i ht (by decide)] at he
    exact va_cald hC.1.1 hC.1.2.1 hC.2.1.2.1 hM.2.1 q0 2 he (am_ty_at cT 2 (by decide)) hi h (hK _ _ _ _ _ _ _ _ hs _ _ _ _ _ _ _ _ _ _ _ _ _ _ _ _ _ _ _ hC (hM.stk (st' := (vI (I a i.toNatClampNeg)) :: r) (List.forall_mem_cons.mpr ⟨trivial, hv.2.2⟩)) hc hn)
  · exact hs.elim
def am_lald (nx : Nat) : am_S := fun K X P ls st kc ks G I J => match st with
  | (.inl i) :: (.inr (.inr a)) :: r => am_at a.1 = 3 ∧ vp_in i (am_an a.1) ∧ K nx ls ((.inr (.inl (J a i.toNatClampNeg))) :: r) kc ks G I J
  | _ => False
/-- a store into an array of ints, truth values or signs: f narrows -/
def am_ast (t : Nat) (f : Int32 → Int32) (nx : Nat) : am_S := fun K X P ls st kc ks G I J => match st with
  | (.inl x) :: (.inl i) :: (.inr (.inr a)) :: r => am_at a.1 = t ∧ vp_in i (am_an a.1) ∧ K nx ls r kc ks G (am_upI I a i.toNatClampNeg (f x)) J
  | _ => False
theorem ok_iast (h : decode (am_mB y) pc = .ok (.iastore, 1)) : am_ok l sc d y pc (am_ast 0 (fun x => x) (pc + 1)) := by
  intro K X P ls st kc ks G I J hK _ hs
  unfold am_ast at hs
  split at hs
  · rename_i x i a r
    intro p R e s m args below meth c D cT A ad0 G0 Q ad H locs LS hC hM hc hn
    have hv := hM.sok
    simp only [List.forall_mem_cons] at hv
    obtain ⟨ht, hi, hs⟩ := hs
    have h36 := am_at_small a.1 (by omega)
    obtain ⟨q0, he, hq0⟩ := am_ww_at (ad := ad) (cT := cT) (I := I) (J := J) (hM.inG hv.2.2.1 (by omega))
    rw [am_ce_i ht (by decide)] at he
    refine va_iast hC.1.1 hC.1.2.1 hC.2.1.2.1 hM.2.1 hM.2.2.1 hM.2.2.2.1 q0 0 he (am_ty_at cT 0 (by decide)) hi h (fun H1 locs1 hP1 hD1 hS1 => ?_)
    rw [am_ww_set (G' := G) (I' := am_upI I a i.toNatClampNeg ((fun x => x) x)) (J' := J) hM.2.2.1 hq0 rfl (by rw [am_ce_i ht (by decide)]; simp [am_upI]) (fun b _ hb => am_ce_eq (fun _ => rfl) (by simp [am_upI, hb]) rfl)] at hP1 hD1
    exact hK _ _ _ _ _ _ _ _ hs _ _ _ _ _ _ _ _ _ _ _ _ _ _ _ _ _ _ _ hC (hM.wld rfl hP1 hD1 hS1 hM.2.2.2.2.1 hv.2.2.2) hc hn
  · exact hs.elim
theorem ok_zast (h : decode (am_mB y) pc = .ok (.bastore, 1)) : am_ok l sc d y pc (am_ast 1 (vp_nar .boolean) (pc + 1)) := by
  intro K X P ls st kc ks G I J hK _ hs
  unfold am_ast at hs
  split at hs
  · rename_i x i a r
    intro p R e s m args below meth c D cT A ad0 G0 Q ad H locs LS hC hM hc hn
    have hv := hM.sok
    simp only [List.forall_mem_cons] at hv
    obtain ⟨ht, hi, hs⟩ := hs
    have h36 := am_at_small a.1 (by omega)
    obtain ⟨q0, he, hq0⟩ := am_ww_at (ad := ad) (cT := cT) (I := I) (J := J) (hM.inG hv.2.2.1 (by omega))
    rw [am_ce_i ht (by decide)] at he
    refine va_zast hC.1.1 hC.1.2.1 hC.2.1.2.1 hM.2.1 hM.2.2.1 hM.2.2.2.1 q0 1 he (am_ty_at cT 1 (by decide)) hi h (fun H1 locs1 hP1 hD1 hS1 => ?_)
    rw [am_ww_set (G' := G) (I' := am_upI I a i.toNatClampNeg ((vp_nar .boolean) x)) (J' := J) hM.2.2.1 hq0 rfl (by rw [am_ce_i ht (by decide)]; simp [am_upI]) (fun b _ hb => am_ce_eq (fun _ => rfl) (by simp [am_upI, hb]) rfl)] at hP1 hD1
    exact hK _ _ _ _ _ _ _ _ hs _ _ _ _ _ _ _ _ _ _ _ _ _ _ _ _ _ _ _ hC (hM.wld rfl hP1 hD1 hS1 hM.2.2.2.2.1 hv.2.2.2) hc hn
  · exact hs.elim
theorem ok_cast (h : decode (am_mB y) pc = .ok (.castore, 1)) : am_ok l sc d y pc (am_ast 2 (vp_nar .char) (pc + 1)) := by
  intro K X P ls st kc ks G I J hK _ hs
  unfold am_ast at hs
  split at hs
  · rename_i x i a r
    intro p R e s m args below meth c D cT A ad0 G0 Q ad H locs LS hC hM hc hn
    have hv := hM.sok
    simp only [List.forall_mem_cons] at hv
    obtain ⟨ht, hi, hs⟩ := hs
    have h36 := am_at_small a.1 (by omega)
    obtain ⟨q0, he, hq0⟩ := am_ww_at (ad := ad) (cT := cT) (I := I) (J := J) (hM.inG hv.2.2.1 (by omega))
    rw [am_ce_i ht (by decide)] at he
    refine va_cast hC.1.1 hC.1.2.1 hC.2.1.2.1 hM.2.1 hM.2.2.1 hM.2.2.2.1 q0 2 he (am_ty_at cT 2 (by decide)) hi h (fun H1 locs1 hP1 hD1 hS1 => ?_)
    rw [am_ww_set (G' := G) (I' := am_upI I a i.toNatClampNeg ((vp_nar .char) x)) (J' := J) hM.2.2.1 hq0 rfl (by rw [am_ce_i ht (by decide)]; simp [am_upI]) (fun b _ hb => am_ce_eq (fun _ => rfl) (by simp [am_upI, hb]) rfl)] at hP1 hD1
    exact hK _ _ _ _ _ _ _ _ hs _ _ _ _ _ _ _ _ _ _ _ _ _ _ _ _ _ _ _ hC (hM.wld rfl hP1 hD1 hS1 hM.2.2.2.2.1 hv.2.2.2) hc hn
  · exact hs.elim
def am_last (nx : Nat) : am_S := fun K X P ls st kc ks G I J => match st with
  | (.inr (.inl x)) :: (.inl i) :: (.inr (.inr a)) :: r => am_at a.1 = 3 ∧ vp_in i (am_an a.1) ∧ K nx ls r kc ks G I (am_upJ J a i.toNatClampNeg x)
  | _ => False
def am_qald (nx : Nat) : am_S := fun K X P ls st kc ks G I J => match st with
  | (.inl i) :: (.inr (.inr a)) :: r => am_at a.1 = 4 ∧ vp_in i (am_an a.1) ∧ match G.2 a i.toNatClampNeg with
    | some b => K nx ls ((.inr (.inr b)) :: r) kc ks G I J
    | none => False
  | _ => False
theorem ok_qald (h : decode (am_mB y) pc = .ok (.aaload, 1)) : am_ok l sc d y pc (am_qald (pc + 1)) := by
  intro K X P ls st kc ks G I J hK _ hs
  unfold am_qald at hs
  split at hs
  · rename_i i a r
    intro p R e s m args below meth c D cT A ad0 G0 Q ad H locs LS hC hM hc hn
    have hv := hM.sok
    simp only [List.forall_mem_cons] at hv
    obtain ⟨ht, hi, hs⟩ := hs
    have h36 := am_at_small a.1 (by omega)
    have haG := hM.inG hv.2.1 (by omega)
    split at hs
    · rename_i b hb
      obtain ⟨q0, he, -⟩ := am_ww_at (ad := ad) (cT := cT) (I := I) (J := J) haG
      rw [am_ce_q ht] at he
      refine va_aldq (C := "TablePager$Table") hC.1.1 hC.1.2.1 hC.2.1.2.1 hM.2.1 q0 4 he (am_ty_at cT 4 (by decide)) hi h ?_
      have hk := hK _ _ _ _ _ _ _ _ hs _ _ _ _ _ _ _ _ _ _ _ _ _ _ _ _ _ _ _ hC (hM.stk (st' := (vR b) :: r) (List.forall_mem_cons.mpr ⟨Or.inl (hM.2.2.2.2.1.2 a haG _ b hb), hv.2.2⟩)) hc hn
      simp only [hb]
      exact hk
    · exact hs.elim
  · exact hs.elim
def am_qast (nx : Nat) : am_S := fun K X P ls st kc ks G I J => match st with
  | (.inr (.inr b)) :: (.inl i) :: (.inr (.inr a)) :: r => am_at a.1 = 4 ∧ vp_in i (am_an a.1) ∧ b.1 = 7 ∧ K nx ls r kc ks (G.1, am_upR G.2 a i.toNatClampNeg b) I J
  | _ => False
theorem ok_qast (h : decode (am_mB y) pc = .ok (.aastore, 1)) : am_ok l sc d y pc (am_qast (pc + 1)) := by
  intro K X P ls st kc ks G I J hK _ hs
  unfold am_qast at hs
  split at hs
  · rename_i b i a r
    intro p R e s m args below meth c D cT A ad0 G0 Q ad H locs LS hC hM hc hn
    have hv := hM.sok
    simp only [List.forall_mem_cons] at hv
    obtain ⟨ht, hi, hb7, hs⟩ := hs
    have h36 := am_at_small a.1 (by omega)
    have haG := hM.inG hv.2.2.1 (by omega)
    have hbG := hM.inG hv.1 (by omega)
    obtain ⟨q0, he, hq0⟩ := am_ww_at (ad := ad) (cT := cT) (I := I) (J := J) haG
    obtain ⟨qk, hek, -⟩ := am_ww_at (ad := ad) (cT := cT) (I := I) (J := J) hbG
    rw [am_ce_q ht] at he
    rw [am_ce_o (by omega), hb7] at hek
    have hwf : am_wf (G.1, am_upR G.2 a i.toNatClampNeg b) := by
      refine ⟨hM.2.2.2.2.1.1, fun a' ha' j b' hb' => ?_⟩
      have hb' : am_upR G.2 a i.toNatClampNeg b a' j = some b' := hb'
      unfold am_upR at hb'
      split at hb'
      · split at hb'
        · cases hb'; exact hbG
        · exact hM.2.2.2.2.1.2 a haG j b' hb'
      · exact hM.2.2.2.2.1.2 a' ha' j b' hb'
    refine va_astq (r := ("TablePager$Table", am_F7, 13)) hC.1.1 hC.1.2.1 hC.2.1.2.1 hM.2.1 hM.2.2.1 hM.2.2.2.1 q0 4 qk 7 he (am_ty_at cT 4 (by decide)) hek rfl hi h (fun H1 locs1 hP1 hD1 hS1 => ?_)
    rw [am_ww_set (G' := (G.1, am_upR G.2 a i.toNatClampNeg b)) (I' := I) (J' := J) hM.2.2.1 hq0 rfl (by
      rw [am_ce_q ht]
      refine congrArg (fun f => Sum.inl (cT 4, (am_an a.1, Sum.inr (Sum.inr (Sum.inr (Sum.inr f)))))) ?_
      funext j
      by_cases hj : j = i.toNatClampNeg
      · subst hj; simp [am_upR, va_up]
      · simp [am_upR, va_up, hj]) (fun b' _ hb' => am_ce_eq (fun _ => by simp [am_upR, hb']) rfl rfl)] at hP1 hD1
    exact hK _ _ _ _ _ _ _ _ hs _ _ _ _ _ _ _ _ _ _ _ _ _ _ _ _ _ _ _ hC (hM.wld rfl hP1 hD1 hS1 hwf hv.2.2.2) hc hn
  · exact hs.elim
/-- the script: its length, its ints -/
def am_slen (n : Nat) (nx : Nat) : am_S := fun K X P ls st kc ks G I J => match st with
  | (.inr (.inr a)) :: r => a = (36, 0) ∧ K nx ls ((.inl (Int32.ofNat n)) :: r) kc ks G I J
  | _ => False
theorem ok_slen (h : decode (am_mB y) pc = .ok (.arraylength, 1)) (hy : am_scy y = true) : am_ok l sc d y pc (am_slen sc.1 (pc + 1)) := by
  intro K X P ls st kc ks G I J hK _ hs
  unfold am_slen at hs
  split at hs
  · rename_i a r
    intro p R e s m args below meth c D cT A ad0 G0 Q ad H locs LS hC hM hc hn
    have hv := hM.sok
    simp only [List.forall_mem_cons] at hv
    obtain ⟨rfl, hs⟩ := hs
    obtain ⟨hX, hbl, hbA⟩ := hM.2.2.2.2.2.2.2.1 hy
    exact va_slen hC.1.1 hC.1.2.1 hX hbl hbA hM.2.2.2.1 h (hK _ _ _ _ _ _ _ _ hs _ _ _ _ _ _ _ _ _ _ _ _ _ _ _ _ _ _ _ hC (hM.stk (List.forall_mem_cons.mpr ⟨trivial, hv.2⟩)) hc hn)
  · exact hs.elim
def am_sld (n : Nat) (xs : Nat → Int32) (nx : Nat) : am_S := fun K X P ls st kc ks G I J => match st with
  | (.inl i) :: (.inr (.inr a)) :: r => a = (36, 0) ∧ vp_in i n ∧ K nx ls ((.inl (xs i.toNatClampNeg)) :: r) kc ks G I J
  | _ => False
theorem ok_sld (h : decode (am_mB y) pc = .ok (.iaload, 1)) (hy : am_scy y = true) : am_ok l sc d y pc (am_sld sc.1 sc.2 (pc + 1)) := by
  intro K X P ls st kc ks G I J hK _ hs
  unfold am_sld at hs
  split at hs
  · rename_i i a r
    intro p R e s m args below meth c D cT A ad0 G0 Q ad H locs LS hC hM hc hn
    have hv := hM.sok
    simp only [List.forall_mem_cons] at hv
    obtain ⟨rfl, hi, hs⟩ := hs
    obtain ⟨hX, hbl, hbA⟩ := hM.2.2.2.2.2.2.2.1 hy
    exact va_sld hC.1.1 hC.1.2.1 hX hbl hbA hM.2.2.2.1 hi h (hK _ _ _ _ _ _ _ _ hs _ _ _ _ _ _ _ _ _ _ _ _ _ _ _ _ _ _ _ hC (hM.stk (List.forall_mem_cons.mpr ⟨trivial, hv.2.2⟩)) hc hn)
  · exact hs.elim
end AMH
