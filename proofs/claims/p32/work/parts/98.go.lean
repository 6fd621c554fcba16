/-! ===== the law: its start ===== -/
theorem am_ce_cg {ad : am_A → Nat} {cT : Nat → ClassId} {G G' : am_G} {I : am_I} {J : am_J} {a : am_A} (h : G.2 a = G'.2 a) : am_ce ad cT G I J a = am_ce ad cT G' I J a := by
  unfold am_ce
  rw [h]
theorem am_X_eqv {l : Launch} {sc : Nat × (Nat → Int32)} {d y : Nat} {P : am_P} {pc : Nat} {ls : am_L} {st : List am_V} {kc ks : Nat} {G G' : am_G} {I : am_I} {J : am_J} (hm : ∀ a, a ∈ G.1 ↔ a ∈ G'.1) (hR : ∀ a ∈ G.1, G.2 a = G'.2 a) (hnd : G'.1.Nodup) (h : am_X l sc d y P pc ls st kc ks G' I J) : am_X l sc d y P pc ls st kc ks G I J := by
  intro p R e s m args below meth c D cT A ad0 G0 Q ad H locs LS hC hM hc hn
  refine h _ _ _ _ _ _ _ _ _ _ _ _ _ _ _ _ _ _ _ hC ?_ hc hn
  obtain ⟨h1, h2, h3, h4, h5, h6, h7, h8, h9⟩ := hM
  have vk : ∀ v, am_vk G v → am_vk G' v := fun v hv => by
    rcases v with x | x | a
    · exact hv
    · exact hv
    · exact hv.elim (fun q => Or.inl ((hm a).mp q)) Or.inr
  have at' : ∀ (k : Nat) (q : Nat × va_E), (am_ww ad cT G' I J)[k]? = some q → ∃ a, G'.1[k]? = some a ∧ q = (ad a, am_ce ad cT G' I J a) := fun k q hq => by
    unfold am_ww at hq
    rw [List.getElem?_map] at hq
    obtain ⟨a, ha, e⟩ := Option.map_eq_some_iff.mp hq
    exact ⟨a, ha, e.symm⟩
  have back : ∀ a, a ∈ G'.1 → ∃ i, (am_ww ad cT G I J)[i]? = some (ad a, am_ce ad cT G' I J a) ∧ G.1[i]? = some a := fun a ha => by
    have ha' := (hm a).mpr ha
    obtain ⟨i, h1, h2⟩ := am_ww_at (ad := ad) (cT := cT) (I := I) (J := J) ha'
    rw [am_ce_cg (hR a ha')] at h1
    exact ⟨i, h1, h2⟩
  refine ⟨h1, fun k q hq => ?_, ⟨fun i j x z hx hz e => ?_, fun k q hq => ?_⟩, h4, ⟨fun a ha => h5.1 a ((hm a).mpr ha), fun a ha k b hb => ?_⟩, fun v hv => vk v (h6 v hv), fun i v hv => vk v (h7 i v hv), h8, ⟨fun a ha => ⟨(hm a).mp (h9.1 a ha).1, (h9.1 a ha).2⟩, h9.2⟩⟩
  · obtain ⟨a, ha, e⟩ := at' k q hq
    obtain ⟨i, hi, _⟩ := back a (List.mem_of_getElem? ha)
    rw [e]
    exact h2 i _ hi
  · obtain ⟨a, ha, ea⟩ := at' i x hx
    obtain ⟨b, hb, eb⟩ := at' j z hz
    obtain ⟨i', hi', gi⟩ := back a (List.mem_of_getElem? ha)
    obtain ⟨j', hj', gj⟩ := back b (List.mem_of_getElem? hb)
    have eij : i' = j' := h3.1 i' j' _ _ hi' hj' (by rw [ea, eb] at e; exact e)
    rw [eij] at gi
    have eab : a = b := Option.some.inj (gi.symm.trans gj)
    rw [← eab] at hb
    exact (List.getElem?_inj (List.getElem?_eq_some_iff.mp ha).1 hnd).mp (ha.trans hb.symm)
  · obtain ⟨a, ha, e⟩ := at' k q hq
    obtain ⟨i, hi, _⟩ := back a (List.mem_of_getElem? ha)
    rw [e]
    exact h3.2 i _ hi
  · have ha' := (hm a).mpr ha
    rw [← hR a ha'] at hb
    exact (hm b).mp (h5.2 a ha' k b hb)
/-- the two objects' names change places -/
def sw (a : am_A) : am_A := if a.1 = 36 then a else if a.2 < 32 then (a.1, a.2 + 32) else if a.2 < 64 then (a.1, a.2 - 32) else a
theorem sw_1 (a : am_A) : (sw a).1 = a.1 := by
  unfold sw
  repeat' split
  all_goals rfl
theorem sw_sw (a : am_A) : sw (sw a) = a := by
  obtain ⟨x, y⟩ := a
  unfold sw
  by_cases h : x = 36
  · simp [h]
  · by_cases h1 : y < 32
    · simp only [h, h1, ↓reduceIte]
      rw [if_neg (by omega), if_pos (by omega), show y + 32 - 32 = y by omega]
    · by_cases h2 : y < 64
      · simp only [h, h1, h2, ↓reduceIte]
        rw [if_pos (by omega), show y - 32 + 32 = y by omega]
      · simp [h, h1, h2]
theorem sw_36 (a : am_A) (h : a.1 = 36) : sw a = a := if_pos h
theorem C0_bd {a : am_A} (h : isC0 a) : a.1 < 36 ∧ a.2 < 18 := as0_box a ((mem_as0 a).mpr h)
theorem sw_C0 {a : am_A} (h : isC0 a) : sw a = ph a := by
  have := C0_bd h
  unfold sw ph
  rw [if_neg (by omega), if_pos (by omega)]
theorem sw_ph {a : am_A} (h : isC0 a) : sw (ph a) = a := by rw [← sw_C0 h, sw_sw]
theorem G2_nd : am_G2.1.Nodup := by
  show (am_as0 ++ am_as0.map ph).Nodup
  decide +kernel
section LG
variable {l : Launch} {d n : Nat} {xs : Nat → Int32}
theorem law_go (hD : 10 ≤ d) (hn : n ≤ 260) : am_X l (n, xs) (d + 1) y_L_law lwP 0 [some (vR (36, 0)), none, none, none, none, none, none] [] 0 0 ([], fun _ _ => none) (fun _ _ => 0) (fun _ _ => 0) := by
  have h9 : 9 ≤ d := by omega
  refine rn_L_law h9 4 ?_
  simp (disch := omega) only [am_z, cq_L_law, Nat.reduceAdd, Nat.zero_le, Nat.reduceLeDiff, ar_lit]
  refine ⟨Nat.le_of_ble_eq_true rfl, 0, (by simp), ?_⟩
  refine ⟨Nat.le_of_ble_eq_true rfl, ?_⟩
  refine s_i_P (by omega) (am_nG_mem.mpr (Or.inr rfl)) am_nG_eq (fun a _ h2 q => (am_nG_mem.mp q).elim (fun z => by cases z) h2) (fun G1 I1 J1 g1 h1 => ?_)
  have e1 : ∀ a, a ∈ G1.1 ↔ isC0 a := fun a => by
    rw [g1.1, am_nG_mem]
    constructor
    · rintro ((q | q) | q)
      · cases q
      · rw [q]; unfold isC0; simp
      · exact q
    · exact Or.inr
  simp only [am_z, Nat.reduceAdd, Nat.zero_le, Nat.reduceLeDiff]
  refine rn_L_law h9 1 ?_
  simp only [am_z, cq_L_law, Nat.reduceAdd, Nat.zero_le, Nat.reduceLeDiff]
  refine am_X_ren (ls' := [some (vR (36, 0)), some (vR (0, 32)), none, none, none, none, none]) sw sw sw_sw sw_1 sw_36 sw_sw (fun i v hi => ?_) rfl ?_
  · match i, hi with
    | 0, hi => exact ⟨vR (36, 0), rfl, by cases hi; rfl⟩
    | 1, hi => exact ⟨vR (0, 0), rfl, by cases hi; rfl⟩
    | 2, hi => cases hi
    | 3, hi => cases hi
    | 4, hi => cases hi
    | 5, hi => cases hi
    | 6, hi => cases hi
    | i + 7, hi => cases hi
  have mem2 : ∀ a, a ∈ G1.1.map sw ↔ ∃ b, isC0 b ∧ ph b = a := fun a => by
    rw [List.mem_map]
    constructor
    · rintro ⟨b, hb, rfl⟩
      exact ⟨b, (e1 b).mp hb, (sw_C0 ((e1 b).mp hb)).symm⟩
    · rintro ⟨b, hb, rfl⟩
      exact ⟨b, (e1 b).mpr hb, sw_C0 hb⟩
  have hi : ∀ a, a ∈ G1.1.map sw → 32 ≤ a.2 := fun a ha => by
    obtain ⟨b, _, rfl⟩ := (mem2 a).mp ha
    exact Nat.le_add_left 32 b.2
  refine rn_L_law h9 3 ?_
  simp (disch := omega) only [am_z, cq_L_law, Nat.reduceAdd, Nat.zero_le, Nat.reduceLeDiff, ar_lit]
  refine ⟨Nat.le_of_ble_eq_true rfl, 0, (fun z => by have := hi _ z; simp at this), ?_⟩
  refine ⟨Nat.le_of_ble_eq_true rfl, ?_⟩
  refine s_i_P (by omega) (am_nG_mem.mpr (Or.inr rfl)) am_nG_eq (fun a ha h2 q => (am_nG_mem.mp q).elim (fun z => by have := hi _ z; have := (C0_bd ha).2; omega) h2) (fun G2 I2 J2 g2 h2 => ?_)
  have no0 : ∀ b, isC0 b → ¬ isC0 (ph b) := fun b hb z => by
    have := (C0_bd z).2
    have e : (ph b).2 = b.2 + 32 := rfl
    omega
  have ne0 : ∀ b, ¬ ph b = (0, 0) := fun b e => by
    have e2 : b.2 + 32 = 0 := congrArg Prod.snd e
    omega
  have e2 : ∀ a, a ∈ G2.1 ↔ (isC0 a ∨ ∃ b, isC0 b ∧ ph b = a) := fun a => by
    rw [g2.1, am_nG_mem]
    constructor
    · rintro ((q | q) | q)
      · exact Or.inr ((mem2 a).mp q)
      · rw [q]; exact Or.inl (by unfold isC0; simp)
      · exact Or.inl q
    · rintro (q | q)
      · exact Or.inr q
      · exact Or.inl (Or.inl ((mem2 a).mpr q))
  simp only [am_z, Nat.reduceAdd, Nat.zero_le, Nat.reduceLeDiff]
  refine am_X_eqv (G' := am_G2) (fun a => ?_) (fun a ha => ?_) G2_nd ?_
  · rw [e2]
    show _ ↔ a ∈ am_as0 ++ am_as0.map ph
    rw [List.mem_append, List.mem_map, mem_as0]
    constructor
    · rintro (q | ⟨b, hb, q⟩)
      · exact Or.inl q
      · exact Or.inr ⟨b, (mem_as0 b).mpr hb, q⟩
    · rintro (q | ⟨b, hb, q⟩)
      · exact Or.inl q
      · exact Or.inr ⟨b, (mem_as0 b).mp hb, q⟩
  · show _ = am_R2 a
    rcases (e2 a).mp ha with q | ⟨b, hb, rfl⟩
    · rw [g2.2.2.1 a q, R2_lo (by have := (C0_bd q).2; omega)]
    · rw [g2.2.1 _ (no0 b hb), am_nG_ne (ne0 b)]
      funext k
      rw [R2_hi]
      show (G1.2 (sw (ph b)) k).map sw = _
      rw [sw_ph hb, g1.2.2.1 b hb]
      cases hc : am_R0 b k with
      | none => rfl
      | some c => exact congrArg some (sw_C0 (R0_wf b hb k c hc))
  · have hb : bt I2 ([], tnew, [], fun _ => none) ([], tnew, [], fun _ => none) := by
      refine ⟨h2, st_as0 h1 fun a ha => ?_⟩
      have hc := (mem_as0 a).mp ha
      show I2 (ph a) = I1 a
      rw [g2.2.2.2 _ (no0 a hc), am_nI_ne (ne0 a)]
      show I1 (sw (ph a)) = I1 a
      rw [sw_ph hc]
    obtain ⟨X, hX, eX⟩ := drv_nn (n, xs) (nI 0)
    have hn' : (n, xs).1 ≤ 260 := hn
    simp only [show am_cn 0 = 8 from rfl, Nat.reduceAdd]
    refine rn_L_law h9 40 ?_
    simp (disch := omega) only [am_z, cq_L_law, Nat.reduceAdd, Nat.zero_le, Nat.reduceLeDiff, ar_lit, drw_e, hn, ar_lt, Nat.not_lt_zero, not_false_eq_true]
    rw [eX]
    refine rn_L_law h9 40 ?_
    simp (disch := omega) only [am_z, cq_L_law, Nat.reduceAdd, Nat.zero_le, Nat.reduceLeDiff, ar_lit]
    refine s_L_alike (by omega) hb (fun I3 J3 hb => ?_)
    simp only [am_z, Nat.reduceAdd, Nat.zero_le, Nat.reduceLeDiff]
    refine rn_L_law h9 40 ?_
    simp (disch := omega) only [am_z, cq_L_law, Nat.reduceAdd, Nat.zero_le, Nat.reduceLeDiff, ar_lit, ar_eq, Nat.reduceEqDiff, ↓reduceIte]
    refine two_p (s' := ([], tnew, [], fun _ => none)) (o := .inl (some (vI (nI 1)))) hb (by exact trivial) fa_nil (fun _ _ => rfl) (fun I J P' h k => s_L_errors (by omega) h k) (fun I4 J4 hb => ?_)
    simp only [am_z, Nat.reduceAdd, Nat.zero_le, Nat.reduceLeDiff]
    refine rn_L_law h9 40 ?_
    simp (disch := omega) only [am_z, cq_L_law, Nat.reduceAdd, Nat.zero_le, Nat.reduceLeDiff, ar_lit, ar_eq, Nat.reduceEqDiff, ↓reduceIte]
    refine two_p (s' := ([], tnew, [], fun _ => none)) (o := .inl (some (vI (nI 1)))) hb (by exact trivial) fa_nil (fun _ _ => rfl) (fun I J P' h k => s_L_kept (by omega) h k) (fun I5 J5 hb => ?_)
    simp only [am_z, Nat.reduceAdd, Nat.zero_le, Nat.reduceLeDiff]
    refine rn_L_law h9 40 ?_
    simp (disch := omega) only [am_z, cq_L_law, Nat.reduceAdd, Nat.zero_le, Nat.reduceLeDiff, ar_lit, ar_eq, Nat.reduceEqDiff, ↓reduceIte]
    exact lw_loop hD hn' 60 0 _ _ _ _ _ _ _ (by omega) hb (Nat.le_of_ble_eq_true rfl) (Nat.le_of_ble_eq_true rfl)
end LG
