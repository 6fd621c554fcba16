/-! ===== the most even cuts: no way to cut costs less; heights; what actions leave as it was ===== -/
section MB
variable {p : pt_T}
theorem tbk_none {c : Nat → Nat} {a : Nat} : ∀ k, tbk p c a k = none → ∀ j, j < k → ¬ tend p (a + j) = true
  | 0, _, j, hj => absurd hj (Nat.not_lt_zero _)
  | k + 1, e, j, hj => by
    rw [tbk_s] at e
    by_cases q : tend p (a + k) = true
    · rw [if_pos q] at e
      cases ht : tbk p c a k with
      | none => rw [ht] at e; cases e
      | some y =>
        rw [ht] at e
        have e : (if tcost p a (a + k) + c (a + k + 1) < y.1 then some (tcost p a (a + k) + c (a + k + 1), a + k) else some y) = none := e
        split at e <;> cases e
    · rw [if_neg q] at e
      rcases Nat.lt_succ_iff_lt_or_eq.mp hj with u | rfl
      · exact tbk_none k e j u
      · exact q
theorem tbk_min {c : Nat → Nat} {a : Nat} : ∀ k x, tbk p c a k = some x → (∃ j, j < k ∧ tend p (a + j) = true ∧ x = (tcost p a (a + j) + c (a + j + 1), a + j)) ∧ ∀ j, j < k → tend p (a + j) = true → x.1 ≤ tcost p a (a + j) + c (a + j + 1)
  | 0, x, e => by cases e
  | k + 1, x, e => by
    rw [tbk_s] at e
    by_cases q : tend p (a + k) = true
    · rw [if_pos q] at e
      cases ht : tbk p c a k with
      | none =>
        rw [ht] at e
        have hx : (tcost p a (a + k) + c (a + k + 1), a + k) = x := Option.some.inj e
        refine ⟨⟨k, Nat.lt_succ_self k, q, hx.symm⟩, fun j hj ht2 => ?_⟩
        rcases Nat.lt_succ_iff_lt_or_eq.mp hj with z | rfl
        · exact absurd ht2 (tbk_none k ht j z)
        · rw [← hx]; exact Nat.le_refl _
      | some y =>
        rw [ht] at e
        obtain ⟨⟨j0, g1, g2, g3⟩, g4⟩ := tbk_min k y ht
        have e : (if tcost p a (a + k) + c (a + k + 1) < y.1 then some (tcost p a (a + k) + c (a + k + 1), a + k) else some y) = some x := e
        by_cases z : tcost p a (a + k) + c (a + k + 1) < y.1
        · rw [if_pos z] at e
          have hx := Option.some.inj e
          refine ⟨⟨k, Nat.lt_succ_self k, q, hx.symm⟩, fun j hj ht2 => ?_⟩
          rcases Nat.lt_succ_iff_lt_or_eq.mp hj with u | rfl
          · have := g4 j u ht2
            rw [← hx]
            show tcost p a (a + k) + c (a + k + 1) ≤ _
            omega
          · rw [← hx]; exact Nat.le_refl _
        · rw [if_neg z] at e
          have hx := Option.some.inj e
          subst hx
          refine ⟨⟨j0, Nat.lt_succ_of_lt g1, g2, g3⟩, fun j hj ht2 => ?_⟩
          rcases Nat.lt_succ_iff_lt_or_eq.mp hj with u | rfl
          · exact g4 j u ht2
          · omega
    · rw [if_neg q] at e
      obtain ⟨⟨j0, g1, g2, g3⟩, g4⟩ := tbk_min k x e
      refine ⟨⟨j0, Nat.lt_succ_of_lt g1, g2, g3⟩, fun j hj ht2 => ?_⟩
      rcases Nat.lt_succ_iff_lt_or_eq.mp hj with u | rfl
      · exact g4 j u ht2
      · exact absurd ht2 q
theorem tdp_keep (m : Nat) (hm : m + 1 ≤ tn p) {i : Nat} (hi : tn p - m ≤ i) : (tdp p (m + 1)).1 i = (tdp p m).1 i ∧ (tdp p (m + 1)).2 i = (tdp p m).2 i := ⟨if_neg (by omega), if_neg (by omega)⟩
theorem tdp_stay : ∀ e m, m + e ≤ tn p → ∀ i, tn p - m ≤ i → (tdp p (m + e)).1 i = (tdp p m).1 i ∧ (tdp p (m + e)).2 i = (tdp p m).2 i
  | 0, _, _, _, _ => ⟨rfl, rfl⟩
  | e + 1, m, h, i, hi => by
    have h1 := tdp_keep (p := p) (m + e) (by omega) (i := i) (by omega)
    have h2 := tdp_stay e m (by omega) i hi
    rw [show m + (e + 1) = m + e + 1 by omega]
    exact ⟨h1.1.trans h2.1, h1.2.trans h2.2⟩
/-- the smallest cost from the row i on, and the end of the page that begins there -/
def tC0 (p : pt_T) (i : Nat) : Nat := (tdp p (tn p)).1 i
def tE0 (p : pt_T) (i : Nat) : Nat := (tdp p (tn p)).2 i
theorem tC0_n : tC0 p (tn p) = 0 := by
  have := (tdp_stay (p := p) (tn p) 0 (by omega) (tn p) (by omega)).1
  rw [Nat.zero_add] at this
  exact this
theorem tC0_at {i : Nat} (hi : i < tn p) : (∃ j, i + j < tn p ∧ tend p (i + j) = true ∧ tC0 p i = tcost p i (i + j) + tC0 p (i + j + 1) ∧ tE0 p i = i + j) ∧ ∀ j, i + j < tn p → tend p (i + j) = true → tC0 p i ≤ tcost p i (i + j) + tC0 p (i + j + 1) := by
  obtain ⟨m, hm⟩ : ∃ m, i + (m + 1) = tn p := ⟨tn p - i - 1, by omega⟩
  have hi2 : tn p - (m + 1) = i := by omega
  have e1 := tdp_stay (p := p) (tn p - (m + 1)) (m + 1) (by omega) i (by omega)
  rw [show m + 1 + (tn p - (m + 1)) = tn p by omega] at e1
  have ec : ∀ j, i < j → (tdp p m).1 j = tC0 p j := fun j hj => by
    have := (tdp_stay (p := p) (tn p - m) m (by omega) j (by omega)).1
    rw [show m + (tn p - m) = tn p by omega] at this
    exact this.symm
  obtain ⟨x, hx⟩ := tbk_some (p := p) (c := (tdp p m).1) (a := i) (k := m) (by omega)
  have d1 : (tdp p (m + 1)).1 i = x.1 := by
    show (if i = tn p - (m + 1) then ((tbk p (tdp p m).1 (tn p - (m + 1)) (m + 1)).getD (0, 0)).1 else (tdp p m).1 i) = _
    rw [if_pos hi2.symm, hi2, hx]
    rfl
  have d2 : (tdp p (m + 1)).2 i = x.2 := by
    show (if i = tn p - (m + 1) then ((tbk p (tdp p m).1 (tn p - (m + 1)) (m + 1)).getD (0, 0)).2 else (tdp p m).2 i) = _
    rw [if_pos hi2.symm, hi2, hx]
    rfl
  have f1 : tC0 p i = x.1 := e1.1.trans d1
  have f2 : tE0 p i = x.2 := e1.2.trans d2
  obtain ⟨⟨j, g1, g2, g3⟩, g4⟩ := tbk_min (m + 1) x hx
  refine ⟨⟨j, by omega, g2, ?_, ?_⟩, fun j hj ht => ?_⟩
  · rw [f1, g3, ec _ (by omega)]
  · rw [f2, g3]
  · have := g4 j (by omega) ht
    rw [ec _ (by omega)] at this
    rw [f1]
    exact this
theorem tE0_in {i : Nat} (hi : i < tn p) : i ≤ tE0 p i ∧ tE0 p i < tn p ∧ tend p (tE0 p i) = true := by
  obtain ⟨⟨j, g1, g2, _, g4⟩, _⟩ := tC0_at hi
  rw [g4]
  exact ⟨by omega, g1, g2⟩
/-- the pages cost no less -/
def pcost (p : pt_T) (k : Nat) : Nat := sumN (fun j => tcost p (pst p (tP p) j) (pgA (tpg p (tP p)) j).2.1) k
theorem pcost_le : ∀ k, k ≤ (tpg p (tP p)).length → tC0 p 0 ≤ pcost p k + tC0 p (pst p (tP p) k)
  | 0, _ => by
    show tC0 p 0 ≤ 0 + tC0 p 0
    omega
  | k + 1, hk => by
    have h1 := pcost_le k (by omega)
    have hin := pst_in (p := p) (h := tP p) (k := k) (by omega)
    have ht := pg_tend (p := p) (h := tP p) (k := k) (by omega)
    have h2 := (tC0_at hin.2.2).2 ((pgA (tpg p (tP p)) k).2.1 - pst p (tP p) k)
    rw [show pst p (tP p) k + ((pgA (tpg p (tP p)) k).2.1 - pst p (tP p) k) = (pgA (tpg p (tP p)) k).2.1 by omega] at h2
    have h3 := h2 hin.2.1 ht
    rw [pst_s]
    show _ ≤ pcost p k + tcost p (pst p (tP p) k) (pgA (tpg p (tP p)) k).2.1 + _
    omega
theorem pcost_all (hw : tW p) : tC0 p 0 ≤ pcost p (tpg p (tP p)).length := by
  have := pcost_le (p := p) _ (Nat.le_refl (tpg p (tP p)).length)
  rw [pst_len hw, tC0_n] at this
  exact this
theorem tC0_bd (hw : tW p) : tC0 p 0 ≤ 300000 * 24 := by
  have h1 := (tdp_le hw (tn p) (Nat.le_refl _) 0 (by omega) (by omega)).1
  have h24 := hw.2.2.2.2.1
  have : 300000 * (tn p - 0) ≤ 300000 * 24 := Nat.mul_le_mul_left _ (by omega)
  exact Nat.le_trans h1 this
theorem pcost_bd (hw : tW p) : ∀ k, k ≤ (tpg p (tP p)).length → pcost p k ≤ 300000 * k := by
  intro k hk
  refine sumN_le _ 300000 k fun j hj => ?_
  have hin := pst_in (p := p) (h := tP p) (k := j) (by omega)
  exact tcost_le hw hin.1 hin.2.1
/-- where the page i begins, if the ends are e -/
def tpos (e : Nat → Nat) : Nat → Nat
  | 0 => 0
  | i + 1 => e (tpos e i) + 1
theorem tcl_go (e : Nat → Nat) (n : Nat) : ∀ i f j, (∀ k, k < i → tpos e k < n) → tcl e n (i + f) (i + j) 0 = tcl e n f j (tpos e i)
  | 0, f, j, _ => by rw [Nat.zero_add, Nat.zero_add]; rfl
  | i + 1, f, j, h => by
    have h1 := tcl_go e n i (f + 1) (j + 1) (fun k hk => h k (by omega))
    rw [show i + 1 + f = i + (f + 1) by omega, show i + 1 + j = i + (j + 1) by omega, h1]
    show (if tpos e i < n then (if j + 1 = 0 then some (e (tpos e i)) else tcl e n f (j + 1 - 1) (e (tpos e i) + 1)) else none) = _
    rw [if_pos (h i (by omega)), if_neg (by omega)]
    rfl
theorem tcl_lo (e : Nat → Nat) (n : Nat) : ∀ f i a, f ≤ i → tcl e n f i a = none
  | 0, _, _, _ => rfl
  | f + 1, i, a, h => by
    show (if a < n then (if i = 0 then some (e a) else tcl e n f (i - 1) (e a + 1)) else none) = none
    split
    · rw [if_neg (by omega)]
      exact tcl_lo e n f (i - 1) (e a + 1) (by omega)
    · rfl
theorem tcl_at (hw : tW p) {i : Nat} (h : ∀ k, k < i → tpos (tE0 p) k < tn p) : tcl (tE0 p) (tn p) 24 i 0 = if tpos (tE0 p) i < tn p then some (tE0 p (tpos (tE0 p) i)) else none := by
  have h24 := hw.2.2.2.2.1
  have ge : ∀ k, (∀ j, j < k → tpos (tE0 p) j < tn p) → k ≤ tpos (tE0 p) k := by
    intro k
    induction k with
    | zero => intro _; exact Nat.zero_le _
    | succ k ih =>
      intro hk
      have h1 := ih (fun j hj => hk j (by omega))
      have h2 := (tE0_in (hk k (by omega))).1
      show k + 1 ≤ tE0 p (tpos (tE0 p) k) + 1
      omega
  have gi := ge i h
  by_cases q : i < 24
  · have := tcl_go (tE0 p) (tn p) i (24 - i) 0 h
    rw [show i + (24 - i) = 24 by omega, Nat.add_zero] at this
    rw [this, show 24 - i = (23 - i) + 1 by omega]
    show (if tpos (tE0 p) i < tn p then (if (0 : Nat) = 0 then some (tE0 p (tpos (tE0 p) i)) else _) else none) = _
    rw [if_pos rfl]
  · rw [tcl_lo _ _ 24 i 0 (by omega), if_neg (by omega)]
end MB
/-! which tables are alike for the pages -/
section MC
variable {p q : pt_T}
theorem tln_cg (hE : tE q = tE p) (hS : q.2.2 = p.2.2) (hH : ∀ r, tH q r = tH p r) (hN : ∀ r, tN q r = tN p r) (hV : ∀ n, tV q n = tV p n) (hn : tn q = tn p) (a b : Nat) : tlines q a b = tlines p a b := by
  have hm : tm q = tm p := by unfold tm; rw [hS]
  have hSs : ∀ s, tS q s = tS p s := fun s => by unfold tS; rw [hS]
  have hF : ∀ s, tF q s = tF p s := fun s => by unfold tF; rw [hSs]
  have hL : ∀ s, tL q s = tL p s := fun s => by unfold tL; rw [hSs]
  have hnam : tnam q a = tnam p a := by
    unfold tnam
    rw [hm]
    simp only [hF, hL]
  have hmsk : ∀ k, tmsk q a k = tmsk p a k := fun k => by
    induction k with
    | zero => rfl
    | succ k ih =>
      show tmsk q a k ||| 1 <<< tN q (a + k) = tmsk p a k ||| 1 <<< tN p (a + k)
      rw [ih, hN]
  have hnc : ∀ m, tnc q m = tnc p m := fun m => by
    unfold tnc
    simp only [hV]
  unfold tlines tln tcy
  rw [hE, hnam, hmsk, hnc, hn]
  simp only [hH]
theorem tpl_cg (ht : ∀ r, tend q r = tend p r) (hl : ∀ a b, tlines q a b = tlines p a b) (hn : tn q = tn p) (h : Nat) : tpg q h = tpg p h := by
  have h1 : ∀ k a, tlf q h a k = tlf p h a k := fun k a => by
    induction k with
    | zero => rfl
    | succ k ih =>
      show (if tend q (a + k) = true ∧ tlines q a (a + k) ≤ h then some (a + k) else tlf q h a k) = _
      rw [ht, hl, ih]
      rfl
  have h2 : ∀ k a, tfe q k a = tfe p k a := fun k => by
    induction k with
    | zero => intro a; rfl
    | succ k ih =>
      intro a
      show (if tend q a = true then a else tfe q k (a + 1)) = _
      rw [ht, ih]
      rfl
  have h3 : ∀ a, tlast q h a = tlast p h a := fun a => by unfold tlast; rw [h1, hn]
  have h4 : ∀ a, tnx q h a = tnx p h a := fun a => by unfold tnx; rw [h3, h2, hn]
  have h5 : ∀ f a, tpl q h f a = tpl p h f a := fun f => by
    induction f with
    | zero => intro a; rfl
    | succ f ih =>
      intro a
      show (if a < tn q then (a, tnx q h a, (tlast q h a).isNone) :: tpl q h f (tnx q h a + 1) else []) = _
      rw [hn, h4, h3, ih]
      rfl
  exact h5 24 0
theorem tsetH_tend (x r : Nat) : tend (tsetH p 0 x) r = tend p r := rfl
theorem tsetH_lines (x a b : Nat) : tlines (tsetH p 0 x) a b = tlines p a b := tln_cg (p := p) (q := tsetH p 0 x) rfl rfl (fun _ => rfl) (fun _ => rfl) (fun _ => rfl) rfl a b
theorem tsetH_pg (x h : Nat) : tpg (tsetH p 0 x) h = tpg p h := tpl_cg (p := p) (q := tsetH p 0 x) (fun _ => rfl) (tsetH_lines x) rfl h
theorem tsetH_P (x : Nat) : tP (tsetH p 0 x) = x := rfl
theorem tsetK_R (r b i : Nat) : tH (tsetK p r b) i = tH p i ∧ tN (tsetK p r b) i = tN p i ∧ tA (tsetK p r b) i = tA p i ∧ tK (tsetK p r b) i = if i = r ∧ i < tn p then b else tK p i := by
  have e := tR_set (p := p) r i (tH p r, tN p r, b, tA p r)
  have e : tR (tsetK p r b) i = if i = r ∧ i < tn p then (tH p r, tN p r, b, tA p r) else tR p i := e
  unfold tH tN tA tK
  rw [e]
  by_cases q : i = r ∧ i < tn p
  · rw [if_pos q, if_pos q, q.1]
    exact ⟨rfl, rfl, rfl, rfl⟩
  · rw [if_neg q, if_neg q]
    exact ⟨rfl, rfl, rfl, rfl⟩
theorem tsetK_n (r b : Nat) : tn (tsetK p r b) = tn p := tn_set r _
theorem tsetK_lines (r b x y : Nat) : tlines (tsetK p r b) x y = tlines p x y := tln_cg (p := p) (q := tsetK p r b) rfl rfl (fun i => (tsetK_R r b i).1) (fun i => (tsetK_R r b i).2.1) (fun _ => rfl) (tsetK_n r b) x y
theorem tsetK_cost (r b x y : Nat) : tcost (tsetK p r b) x y = tcost p x y := by
  unfold tcost
  rw [tsetK_lines, tsetK_n]
  rfl
theorem tsetK_cut {r : Nat} (hr : r < tn p) : ¬ tcut (tsetK p r 1) r = true := fun h => by
  have := (tcut_iff.mp h).1
  rw [(tsetK_R r 1 r).2.2.2, if_pos ⟨rfl, hr⟩] at this
  omega
theorem tsetK_sub {r i : Nat} (h : tend (tsetK p r 1) i = true) : tend p i = true := by
  by_cases hn : i + 1 = tn p
  · exact tend_last hn
  · have h1 := tend_cut h (by rw [tsetK_n]; exact hn)
    obtain ⟨g1, g2⟩ := tcut_iff.mp h1
    refine tcut_tend (tcut_iff.mpr ⟨?_, g2⟩)
    rw [(tsetK_R r 1 i).2.2.2] at g1
    split at g1
    · omega
    · exact g1
theorem tsetK_C0 (r : Nat) : ∀ m i, i + m = tn p → tC0 p i ≤ tC0 (tsetK p r 1) i := by
  intro m
  induction m using Nat.strongRecOn with
  | ind m ih =>
    intro i hi
    by_cases h0 : m = 0
    · rw [show i = tn p by omega, tC0_n]
      exact Nat.zero_le _
    · obtain ⟨⟨j, g1, g2, g3, _⟩, _⟩ := tC0_at (p := tsetK p r 1) (i := i) (by rw [tsetK_n]; omega)
      rw [tsetK_n] at g1
      have h1 := (tC0_at (p := p) (i := i) (by omega)).2 j g1 (tsetK_sub g2)
      have h2 := ih (tn p - (i + j + 1)) (by omega) (i + j + 1) (by omega)
      rw [g3, tsetK_cost]
      omega
/-- the mark back again -/
theorem tsetK_back {r : Nat} (hr : r < tn p) (b c : Nat) : tsetK (tsetK (tsetK p r b) r c) r (tK p r) = p := by
  have eR : ∀ (q : pt_T) (x : Nat), r < tn q → tR (tsetK q r x) r = (tH q r, tN q r, x, tA q r) := fun q x hq => by
    have e := tR_set (p := q) r r (tH q r, tN q r, x, tA q r)
    rw [if_pos ⟨rfl, hq⟩] at e
    exact e
  have e1 := eR p b hr
  have e2 := eR (tsetK p r b) c (by rw [tsetK_n]; exact hr)
  have hset : ∀ (q : pt_T) (x : Nat), tsetK q r x = (q.1, q.2.1.set r (tH q r, tN q r, x, tA q r), q.2.2) := fun _ _ => rfl
  have k1 : tH (tsetK p r b) r = tH p r ∧ tN (tsetK p r b) r = tN p r ∧ tA (tsetK p r b) r = tA p r := ⟨(tsetK_R r b r).1, (tsetK_R r b r).2.1, (tsetK_R r b r).2.2.1⟩
  have k2 : tH (tsetK (tsetK p r b) r c) r = tH p r ∧ tN (tsetK (tsetK p r b) r c) r = tN p r ∧ tA (tsetK (tsetK p r b) r c) r = tA p r := ⟨((tsetK_R r c r).1).trans k1.1, ((tsetK_R r c r).2.1).trans k1.2.1, ((tsetK_R r c r).2.2.1).trans k1.2.2⟩
  rw [hset (tsetK (tsetK p r b) r c), k2.1, k2.2.1, k2.2.2, hset (tsetK p r b) c, hset p b]
  simp only [List.set_set]
  have : p.2.1.set r (tH p r, tN p r, tK p r, tA p r) = p.2.1 := by
    have e : (tH p r, tN p r, tK p r, tA p r) = p.2.1[r]'hr := by
      have : tR p r = p.2.1[r]'hr := by
        unfold tR
        rw [List.getD_eq_getElem?_getD, List.getElem?_eq_getElem hr]
        rfl
      rw [← this]
      rfl
    rw [e]
    exact List.set_getElem_self hr
  rw [this]
theorem tdropS_back (x : pt_S) : tdropS (tputS p x) (tm p) = p := by
  show (p.1, p.2.1, (p.2.2 ++ [x]).eraseIdx (tm p)) = p
  have : (p.2.2 ++ [x]).eraseIdx (tm p) = p.2.2 := by
    unfold tm
    rw [List.eraseIdx_append_of_length_le (Nat.le_refl _), Nat.sub_self]
    simp
  rw [this]
/-- all amounts but the one of the row that goes -/
theorem sumZ_drop (f g : Nat → Int) (r : Nat) (h1 : ∀ i, i < r → g i = f i) (h2 : ∀ i, r ≤ i → g i = f (i + 1)) : ∀ k, sumZ g (r + k) = sumZ f (r + k + 1) - f r
  | 0 => by
    show sumZ g r = sumZ f r + f r - f r
    rw [sumZ_eq r h1]
    omega
  | k + 1 => by
    have ih := sumZ_drop f g r h1 h2 k
    show sumZ g (r + k) + g (r + k) = sumZ f (r + k + 1) + f (r + k + 1) - f r
    rw [ih, h2 (r + k) (by omega)]
    omega
theorem tsum_drop {r c : Nat} (hr : r < tn p) : tsum (tdropR p r) 0 (tn p - 1) c = tsum p 0 (tn p) c - tA p r c := by
  have hA : ∀ i, tA (tdropR p r) i c = if i < r then tA p i c else tA p (i + 1) c := fun i => by
    unfold tA
    rw [tR_dropR]
    split <;> rfl
  obtain ⟨k, hk⟩ : ∃ k, r + k + 1 = tn p := ⟨tn p - r - 1, by omega⟩
  have := sumZ_drop (fun i => tA p (0 + i) c) (fun i => tA (tdropR p r) (0 + i) c) r (fun i hi => by simp only [Nat.zero_add]; rw [hA, if_pos hi]) (fun i hi => by simp only [Nat.zero_add]; rw [hA, if_neg (by omega)]) k
  unfold tsum
  rw [← hk, show r + k + 1 - 1 - 0 = r + k by omega, show r + k + 1 - 0 = r + k + 1 by omega, this, Nat.zero_add]
/-- heightFor -/
theorem thf_spec (n : Nat) : ∀ f h, (∃ x, h ≤ x ∧ x < h + f ∧ thf p n f h = nI x ∧ ((tpg p x).length ≤ n ∧ tov (tpg p x) = 0) ∧ ∀ y, h ≤ y → y < x → ¬ ((tpg p y).length ≤ n ∧ tov (tpg p y) = 0)) ∨ (thf p n f h = -999999 ∧ ∀ y, h ≤ y → y < h + f → ¬ ((tpg p y).length ≤ n ∧ tov (tpg p y) = 0))
  | 0, h => Or.inr ⟨rfl, fun y h1 h2 => by omega⟩
  | f + 1, h => by
    by_cases q : (tpg p h).length ≤ n ∧ tov (tpg p h) = 0
    · exact Or.inl ⟨h, Nat.le_refl _, by omega, if_pos q, q, fun y h1 h2 => by omega⟩
    · have e : thf p n (f + 1) h = thf p n f (h + 1) := if_neg q
      rcases thf_spec n f (h + 1) with ⟨x, a1, a2, a3, a4, a5⟩ | ⟨b1, b2⟩
      · refine Or.inl ⟨x, by omega, by omega, e.trans a3, a4, fun y h1 h2 => ?_⟩
        by_cases z : y = h
        · rw [z]; exact q
        · exact a5 y (by omega) h2
      · refine Or.inr ⟨e.trans b1, fun y h1 h2 => ?_⟩
        by_cases z : y = h
        · rw [z]; exact q
        · exact b2 y (by omega) (by omega)
end MC
