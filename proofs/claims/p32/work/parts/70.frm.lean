/-! ===== a contract in a larger world, under other names ===== -/
theorem vx_Met.mono {l : Launch} {y : MethodName} {ws : List Cond} {rm : Room} {Pc Pc' : Array Value → State → Prop} {Qc Qc' : Array Value → State → Outcome → State → Prop} {XC XC' : String → State → State → Prop} {mc ms : Nat} {free free' : Addr → Prop} (h : vx_Met l y ws rm Pc Qc XC mc ms free) (hP : ∀ a s, Pc' a s → Pc a s) (hQ : ∀ a s o t, Pc' a s → Qc a s o t → Qc' a s o t) (hX : ∀ E a s t, Pc' a s → XC E s t → XC' E s t) (hf : ∀ q, free q → free' q) : vx_Met l y ws rm Pc' Qc' XC' mc ms free' := by
  intro p e ha hc hk s m args below hfr happ hp hk'
  obtain ⟨n, o, h1, h2, h3, h4⟩ := h p e ha hc hk s m args below hfr happ (hP _ _ hp) hk'
  refine ⟨n, o, h1, h2, h3, ?_⟩
  rcases h4 with ⟨g1, L, g2, g3⟩ | ⟨q, rfl, E, ce, L, g1, g2, g3, g4, g5, g6, g7⟩
  · exact Or.inl ⟨hQ _ _ _ _ hp g1, L, g2, fun q hq => hf _ (g3 q hq)⟩
  · exact Or.inr ⟨q, rfl, E, ce, L, hX _ _ _ _ hp g1, g2, g3, g4, g5, g6, fun z hz => hf _ (g7 z hz)⟩
/-- a small world's place in a larger one -/
def am_in (φ : am_A → am_A) (G : am_G) (I : am_I) (J : am_J) (Gb : am_G) (Ib : am_I) (Jb : am_J) : Prop :=
  (∀ a, (φ a).1 = a.1) ∧ (∀ a b, φ a = φ b → a = b) ∧ (∀ a ∈ G.1, φ a ∈ Gb.1) ∧ (∀ a ∈ G.1, ∀ k, Gb.2 (φ a) k = (G.2 a k).map φ) ∧ G.1.Nodup ∧ (∀ a ∈ G.1, Ib (φ a) = I a) ∧ ∀ a ∈ G.1, Jb (φ a) = J a
def am_nr : am_O → Prop
  | .inl (some (.inr (.inr _))) => False
  | _ => True
section FR
variable {φ : am_A → am_A} {ad ad' : am_A → Nat} {cT : Nat → ClassId} {G Gb : am_G} {I I' Ib : am_I} {J J' Jb : am_J} {D : va_G} {sz : Nat}
theorem am_ce_in (h : am_in φ G I J Gb Ib Jb) {a : am_A} (ha : a ∈ G.1) : am_ce (fun b => ad (φ b)) cT G I J a = am_ce ad cT Gb Ib Jb (φ a) := by
  obtain ⟨h1, h2, h3, h4, h5, h6, h7⟩ := h
  have e : ∀ k, (Gb.2 (φ a) k).map ad = (G.2 a k).map (fun b => ad (φ b)) := fun k => by rw [h4 a ha k, Option.map_map]; rfl
  unfold am_ce
  simp only [h1, h6 a ha, h7 a ha, e]
theorem am_ww_some {k : Nat} {q : Nat × va_E} (h : (am_ww ad cT G I J)[k]? = some q) : ∃ a, G.1[k]? = some a ∧ q = (ad a, am_ce ad cT G I J a) := by
  unfold am_ww at h
  rw [List.getElem?_map] at h
  obtain ⟨a, ha, e⟩ := Option.map_eq_some_iff.mp h
  exact ⟨a, ha, e.symm⟩
theorem am_ww_in (h : am_in φ G I J Gb Ib Jb) {k : Nat} {q : Nat × va_E} (hk : (am_ww (fun b => ad (φ b)) cT G I J)[k]? = some q) : ∃ (a : am_A) (j : Nat), G.1[k]? = some a ∧ Gb.1[j]? = some (φ a) ∧ (am_ww ad cT Gb Ib Jb)[j]? = some q := by
  obtain ⟨a, ha, rfl⟩ := am_ww_some hk
  have hm := List.mem_of_getElem? ha
  obtain ⟨j, h1, h2⟩ := am_ww_at (ad := ad) (cT := cT) (I := Ib) (J := Jb) (h.2.2.1 a hm)
  exact ⟨a, j, ha, h2, by rw [h1, am_ce_in h hm]⟩
theorem am_A_in (h : am_in φ G I J Gb Ib Jb) {q : Nat} (hq : va_A (am_ww (fun b => ad (φ b)) cT G I J) sz q) : va_A (am_ww ad cT Gb Ib Jb) sz q := by
  rcases hq with ⟨k, e, hk⟩ | hq
  · obtain ⟨a, j, -, -, h3⟩ := am_ww_in h hk
    exact Or.inl ⟨j, e, h3⟩
  · exact Or.inr hq
theorem am_P_in (h : am_in φ G I J Gb Ib Jb) {H : Heap} (hP : va_P D am_cls (am_ww ad cT Gb Ib Jb) H) : va_P D am_cls (am_ww (fun b => ad (φ b)) cT G I J) H := fun k q hk => by
  obtain ⟨a, j, -, -, h3⟩ := am_ww_in h hk
  exact hP j q h3
theorem am_D_in (h : am_in φ G I J Gb Ib Jb) {A : Nat → Prop} (hD : va_D A (am_ww ad cT Gb Ib Jb)) : va_D A (am_ww (fun b => ad (φ b)) cT G I J) := by
  refine ⟨fun i j p q hi hj e => ?_, fun k q hk => ?_⟩
  · obtain ⟨a, i', a1, a2, a3⟩ := am_ww_in h hi
    obtain ⟨b, j', b1, b2, b3⟩ := am_ww_in h hj
    have e2 := hD.1 i' j' p q a3 b3 e
    rw [e2] at a2
    have e3 : a = b := h.2.1 a b (Option.some.inj (a2.symm.trans b2))
    rw [← e3] at b1
    exact (List.getElem?_inj (List.getElem?_eq_some_iff.mp a1).1 h.2.2.2.2.1).mp (a1.trans b1.symm)
  · obtain ⟨a, j, -, -, h3⟩ := am_ww_in h hk
    exact hD.2 j q h3
/-- what the larger world holds when the small one holds I' -/
noncomputable def am_mx {α : Type} (φ : am_A → am_A) (G : am_G) (I' Ib : am_A → Nat → α) : am_A → Nat → α := fun b => @dite _ (∃ a, a ∈ G.1 ∧ φ a = b) (Classical.propDecidable _) (fun h => I' (Classical.choose h)) (fun _ => Ib b)
theorem am_mx_in {α : Type} {I' Ib : am_A → Nat → α} (hi : ∀ a b, φ a = φ b → a = b) {a : am_A} (ha : a ∈ G.1) : am_mx φ G I' Ib (φ a) = I' a := by
  unfold am_mx
  have h : ∃ c, c ∈ G.1 ∧ φ c = φ a := ⟨a, ha, rfl⟩
  rw [dif_pos h, hi _ _ (Classical.choose_spec h).2]
theorem am_mx_out {α : Type} {I' Ib : am_A → Nat → α} {b : am_A} (hb : ∀ a ∈ G.1, ¬ φ a = b) : am_mx φ G I' Ib b = Ib b := by
  unfold am_mx
  exact dif_neg (fun ⟨a, h1, h2⟩ => hb a h1 h2)
theorem am_cv_nr {v : Option am_V} (h : am_nr (.inl v)) : v.map (am_cv ad) = v.map (am_cv ad') := by
  rcases v with _ | (x | x | a)
  · rfl
  · rfl
  · rfl
  · exact h.elim
theorem am_vk_nr {v : Option am_V} (h : am_nr (.inl v)) : ∀ w, v = some w → am_vk G w := by
  rintro w rfl
  rcases w with x | x | a
  · trivial
  · trivial
  · exact h.elim
/-- what the end of the small world's call leaves in the larger world -/
theorem am_N_in (h : am_in φ G I J Gb Ib Jb) (hw : am_wf G) (hwb : am_wf Gb) {A : Nat → Prop} {st t : State} (hP0 : va_P D am_cls (am_ww ad cT Gb Ib Jb) st.heap) (hD0 : va_D A (am_ww ad cT Gb Ib Jb)) (hsz : st.heap.size = sz)
    (hN : am_N D cT (va_A (am_ww (fun b => ad (φ b)) cT G I J) sz) (fun b => ad (φ b)) G ad' G I' J' t) (hF : va_F (va_A (am_ww (fun b => ad (φ b)) cT G I J) sz) st t) :
    am_N D cT (va_A (am_ww ad cT Gb Ib Jb) sz) ad Gb ad Gb (am_mx φ G I' Ib) (am_mx φ G J' Jb) t := by
  obtain ⟨n1, n2, n3, n4⟩ := hN
  have hin := h
  obtain ⟨h1, h2, h3, h4, h5, h6, h7⟩ := h
  have hin' : am_in φ G I' J' Gb (am_mx φ G I' Ib) (am_mx φ G J' Jb) := ⟨h1, h2, h3, h4, h5, fun a ha => am_mx_in h2 ha, fun a ha => am_mx_in h2 ha⟩
  have adr : ∀ a ∈ G.1, ad' a = ad (φ a) := fun a ha => (n4.1 a ha).2
  have ce' : ∀ a ∈ G.1, am_ce ad' cT G I' J' a = am_ce (fun b => ad (φ b)) cT G I' J' a := fun a ha => by
    have e : ∀ k, (G.2 a k).map ad' = (G.2 a k).map (fun b => ad (φ b)) := fun k => by
      cases hk : G.2 a k with
      | none => rfl
      | some b => exact congrArg some (adr b (hw.2 a ha k b hk))
    unfold am_ce
    simp only [e]
  have ix : ∀ (k : Nat) (q : Nat × va_E), (am_ww ad cT Gb (am_mx φ G I' Ib) (am_mx φ G J' Jb))[k]? = some q → ∃ e0, (am_ww ad cT Gb Ib Jb)[k]? = some (q.1, e0) := fun k q hk => by
    obtain ⟨b, hb, rfl⟩ := am_ww_some hk
    exact ⟨_, by unfold am_ww; rw [List.getElem?_map, hb]; rfl⟩
  refine ⟨fun k q hk => ?_, ⟨fun i j p q hi hj e => ?_, fun k q hk => ?_⟩, hwb, ⟨fun a ha => ⟨ha, rfl⟩, fun _ _ => rfl⟩⟩
  · obtain ⟨b, hb, rfl⟩ := am_ww_some hk
    rcases Classical.em (∃ a, a ∈ G.1 ∧ φ a = b) with ⟨a, ha, rfl⟩ | hno
    · obtain ⟨j, g1, g2⟩ := am_ww_at (ad := ad') (cT := cT) (I := I') (J := J') ha
      have g3 := n1 j _ g1
      rw [adr a ha, ce' a ha, am_ce_in hin' ha] at g3
      exact g3
    · have hno' : ∀ a ∈ G.1, ¬ φ a = b := fun a ha e => hno ⟨a, ha, e⟩
      have e1 : am_ce ad cT Gb (am_mx φ G I' Ib) (am_mx φ G J' Jb) b = am_ce ad cT Gb Ib Jb b := am_ce_eq (fun _ => rfl) (am_mx_out hno') (am_mx_out hno')
      have hk0 : (am_ww ad cT Gb Ib Jb)[k]? = some (ad b, am_ce ad cT Gb Ib Jb b) := by unfold am_ww; rw [List.getElem?_map, hb]; rfl
      rw [e1]
      refine (hP0 k _ hk0).kept ?_
      refine hF.2 (ad b) (by have := (hP0 k _ hk0).lt; exact this) ?_
      rintro (⟨j, e, hj⟩ | hj)
      · obtain ⟨a, j', a1, a2, a3⟩ := am_ww_in hin hj
        have e2 := hD0.1 j' k _ _ a3 hk0 rfl
        rw [e2, hb] at a2
        exact hno' a (List.mem_of_getElem? a1) (Option.some.inj a2).symm
      · have := (hP0 k _ hk0).lt
        rw [hsz] at this
        exact absurd hj (Nat.not_le.mpr this)
  · obtain ⟨e1, k1⟩ := ix i p hi
    obtain ⟨e2, k2⟩ := ix j q hj
    exact hD0.1 i j _ _ k1 k2 e
  · obtain ⟨e1, k1⟩ := ix k q hk
    exact Or.inl ⟨k, e1, k1⟩
/-- a contract of the small world is one of the larger -/
theorem am_T.fr {l : Launch} {d y : Nat} {as : List am_V} {P Pb : am_P} (hT : am_T l d y as G I J P) (h : am_in φ G I J Gb Ib Jb) (hw : am_wf G) (hv : ∀ v ∈ as, am_vk G v)
    (as' : List am_V) (hv' : ∀ ad : am_A → Nat, as'.map (am_cv ad) = as.map (am_cv (fun b => ad (φ b)))) (hk : ∀ o G' I' J', P o G' I' J' → G' = G ∧ am_nr o ∧ ∀ Ib' Jb', (∀ a ∈ G.1, Ib' (φ a) = I' a) → (∀ b, (∀ a ∈ G.1, ¬ φ a = b) → Ib' b = Ib b) → Pb o Gb Ib' Jb') : am_T l d y as' Gb Ib Jb Pb := by
  intro hl hwb _ D cT ad sz
  have hM := hT hl hw hv D cT (fun b => ad (φ b)) sz
  have fin : ∀ o I' J', P o G I' J' → Pb o Gb (am_mx φ G I' Ib) (am_mx φ G J' Jb) := fun o I' J' hp => (hk o G I' J' hp).2.2 _ _ (fun a ha => am_mx_in h.2.1 ha) (fun b hb => am_mx_out hb)
  refine vx_Met.mono hM ?_ ?_ ?_ (fun q hq => am_A_in h hq)
  · rintro a s ⟨rfl, b1, b2, b3, b4, b5, b6, b7⟩
    refine ⟨by rw [hv'], b1, am_P_in h b2, b3, am_D_in h b4, b5, b6.narrow (fun q hq => am_A_in h hq), b7.narrow (fun q hq => am_A_in h hq)⟩
  · rintro a s o t ⟨-, b1, b2, b3, b4, b5, b6, b7⟩ ⟨⟨v, G', I', J', ad', ho, hp, hvk, hN⟩, hF⟩
    obtain ⟨rfl, hnr, -⟩ := hk _ _ _ _ hp
    exact ⟨⟨v, Gb, _, _, ad, by rw [ho, am_cv_nr hnr], fin _ _ _ hp, am_vk_nr hnr, am_N_in h hw hwb b2 b4 b1 hN hF⟩, hF.1, fun q h1 h2 => hF.2 q h1 (fun z => h2 (am_A_in h z))⟩
  · rintro E a s t ⟨-, b1, b2, b3, b4, b5, b6, b7⟩ ⟨⟨n, G', I', J', ad', ho, hn1, hn3, hp, hN⟩, hF⟩
    obtain ⟨rfl, hnr, -⟩ := hk _ _ _ _ hp
    exact ⟨⟨n, Gb, _, _, ad, ho, hn1, hn3, fin _ _ _ hp, am_N_in h hw hwb b2 b4 b1 hN hF⟩, hF.1, fun q h1 h2 => hF.2 q h1 (fun z => h2 (am_A_in h z))⟩
end FR
/-! the law's world under other names -/
section RN
variable {l : Launch} {sc : Nat × (Nat → Int32)} {d : Nat} {P : am_P}
def am_rv (π : am_A → am_A) : am_V → am_V
  | .inr (.inr a) => .inr (.inr (π a))
  | v => v
theorem am_X_ren {pc : Nat} {ls ls' : am_L} {st : List am_V} {kc ks : Nat} {G : am_G} {I : am_I} {J : am_J} (π ρ : am_A → am_A) (h1 : ∀ a, ρ (π a) = a) (h3 : ∀ a, (π a).1 = a.1) (h36 : ∀ a : am_A, a.1 = 36 → π a = a) (h2 : ∀ a, π (ρ a) = a)
    (hls : ∀ (i : Nat) (v : am_V), am_lg ls' i = some v → ∃ w, am_lg ls i = some w ∧ v = am_rv π w) (hst : st = [])
    (h : am_X l sc d y_L_law P pc ls' [] kc ks (G.1.map π, fun a k => (G.2 (ρ a) k).map π) (fun a => I (ρ a)) (fun a => J (ρ a))) : am_X l sc d y_L_law P pc ls st kc ks G I J := by
  subst hst
  intro p R e s m args below meth c D cT A ad0 G0 Q ad H locs LS hC hM hc hn
  have cvr : ∀ w, am_cv (fun b => ad (ρ b)) (am_rv π w) = am_cv ad w := fun w => by
    rcases w with x | x | a
    · rfl
    · rfl
    · show Value.ref (ad (ρ (π a))) = _
      rw [h1]
      rfl
  refine h p R e s m args below meth c D cT A ad0 ([], fun _ _ => none) Q (fun b => ad (ρ b)) H locs LS ⟨hC.1, hC.2.1, hC.2.2.1, fun hh => absurd (show am_mo y_L_law = 2 by decide +kernel) hh, hC.2.2.2.2⟩ ?_ hc hn
  obtain ⟨m1, m2, m3, m4, m5, m6, m7, m8, m9⟩ := hM
  have ceq : ∀ a, am_ce (fun b => ad (ρ b)) cT (G.1.map π, fun a k => (G.2 (ρ a) k).map π) (fun a => I (ρ a)) (fun a => J (ρ a)) (π a) = am_ce ad cT G I J a := fun a => by
    have e : ∀ k, ((G.2 a k).map π).map (fun b => ad (ρ b)) = (G.2 a k).map ad := fun k => by
      rw [Option.map_map]
      congr 1
      funext b
      exact congrArg ad (h1 b)
    unfold am_ce
    simp only [h3, h1, e]
  have eww : am_ww (fun b => ad (ρ b)) cT (G.1.map π, fun a k => (G.2 (ρ a) k).map π) (fun a => I (ρ a)) (fun a => J (ρ a)) = am_ww ad cT G I J := by
    unfold am_ww
    simp only [List.map_map]
    refine List.map_congr_left fun a _ => ?_
    show (ad (ρ (π a)), _) = _
    rw [h1]
    exact congrArg (fun z => (ad a, z)) (ceq a)
  refine ⟨⟨m1.1, m1.2.1, fun q hq => ?_⟩, by rw [eww]; exact m2, by rw [eww]; exact m3, m4, ⟨fun a ha => ?_, fun a ha k b hb => ?_⟩, (fun _ h => nomatch h), fun i v hv => ?_, fun hy => ?_, ⟨(fun _ h => nomatch h), fun a ha => ?_⟩⟩
  · obtain ⟨j, v, e1, rfl⟩ := am_cl_at _ ls' 0 q hq
    obtain ⟨w, hw, rfl⟩ := hls j v e1
    rw [cvr]
    exact m1.2.2 _ (am_cl_in ad ls 0 j w hw)
  · obtain ⟨b, hb, rfl⟩ := List.mem_map.mp ha
    rw [h3]
    exact m5.1 b hb
  · obtain ⟨c0, hc0, rfl⟩ := List.mem_map.mp ha
    have hb : (G.2 (ρ (π c0)) k).map π = some b := hb
    rw [h1] at hb
    obtain ⟨b0, hb0, rfl⟩ := Option.map_eq_some_iff.mp hb
    exact List.mem_map.mpr ⟨b0, m5.2 c0 hc0 k b0 hb0, rfl⟩
  · obtain ⟨w, hw, rfl⟩ := hls i v hv
    have := m7 i w hw
    rcases w with x | x | a
    · trivial
    · trivial
    · rcases this with q | q
      · exact Or.inl (List.mem_map.mpr ⟨a, q, rfl⟩)
      · exact Or.inr (by show (π a).1 = 36; rw [h3]; exact q)
  · obtain ⟨g1, g2, g3⟩ := m8 hy
    have e : ρ (36, 0) = (36, 0) := by
      have := h1 (36, 0)
      rwa [h36 (36, 0) rfl] at this
    unfold am_scr
    simp only [e]
    exact ⟨g1, g2, g3⟩
  · have e : ρ a = a := by
      have := h1 a
      rwa [h36 a ha] at this
    show ad (ρ a) = ad0 a
    rw [e]
    exact m9.2 a ha
end RN
