/-! ===== the wrappers of actions, where they answer ===== -/
section VA
variable {l : Launch} {D : Nat} {I : am_I} {J : am_J} {P : am_P} {t : List Nat} {p q : pt_T} {H : List pt_T} {Z : Nat → Option pt_T}
theorem pgl_lt (p : pt_T) (h : Nat) : (tpg p h).length < 2147483648 := by
  have : (tpg p h).length ≤ 24 := tpg_len
  omega
theorem s_V_setHeight {x : Nat} (hD : 8 ≤ D) (h : st I (t, p, H, Z)) (h1 : 6 ≤ x) (h2 : x ≤ 40) (k : ∀ I', st I' (t, tsetH p 0 x, p :: H.take 13, Z) → P (.inl (some (vL (lI ((tpg p x).length : Int))))) am_G0 I' J) : am_T l D y_L_setHeight [vR (0, 0), vI (nI 0), vI (nI x)] am_G0 I J P := by
  have e : q_setHeight (t, p, H, Z) (nI 0) (nI x) = ((0, nI (tpg p x).length), (t, tsetH p 0 x, p :: H.take 13, Z)) := by
    unfold q_setHeight
    rw [tix_n (n := 8) (j := 0) (by omega) (by omega), tix_n (n := 41) (j := x) (by omega) (by omega)]
    have hk : tokH 0 x = true := by
      show (decide (6 ≤ x) && decide (x ≤ 40)) = true
      rw [decide_eq_true h1, decide_eq_true h2]
      rfl
    show (if tokH 0 x = true then ((0, nI (tpg (tsetH p 0 x) (tP (tsetH p 0 x))).length), tact (t, p, H, Z) (tsetH p 0 x)) else _) = _
    rw [if_pos hk, tsetH_P, tsetH_pg]
    rfl
  refine s_L_setHeight hD h (fun I' h' => ?_)
  rw [e] at h' ⊢
  rw [wx_0, nI_lI (pgl_lt p x)]
  exact k I' h'
theorem s_V_undo (hD : 8 ≤ D) (h : st I (t, q, p :: H, Z)) (k : ∀ I', st I' (t, p, H, Z) → P (.inl (some (vL (lI (H.length : Int))))) am_G0 I' J) : am_T l D y_L_undo [vR (0, 0)] am_G0 I J P := by
  have hL : (p :: H).length ≤ 14 := h.2.2.2.1.choose_spec.2.2.2.1
  have hL : H.length + 1 ≤ 14 := hL
  refine s_L_undo hD h (fun I' h' => ?_)
  show P (.inl (some (vL (wx [2] (0, nI H.length))))) am_G0 I' J
  rw [wx_0, nI_lI (by omega)]
  exact k I' h'
theorem hist_lt (h : st I (t, p, H, Z)) : H.length ≤ 14 := h.2.2.2.1.choose_spec.2.2.2.1
theorem s_V_undo0 (hD : 8 ≤ D) (h : st I (t, p, [], Z)) (k : ∀ I', st I' (t, p, [], Z) → P (.inl (some (vL (-9000000000000000003)))) am_G0 I' J) : am_T l D y_L_undo [vR (0, 0)] am_G0 I J P := by
  refine s_L_undo hD h (fun I' h' => ?_)
  exact k I' h'
theorem s_V_keep {r b : Nat} (hD : 8 ≤ D) (h : st I (t, p, H, Z)) (hr : r < tn p) (hb : b ≤ 1) (k : ∀ I', st I' (t, tsetK p r b, p :: H.take 13, Z) → P (.inl (some (vL (lI ((tpg (tsetK p r b) (tP p)).length : Int))))) am_G0 I' J) : am_T l D y_L_keep [vR (0, 0), vI (nI r), vI (nI b)] am_G0 I J P := by
  have h24 := h.w.2.2.2.2.1
  have h24 : tn p ≤ 24 := h24
  have e : q_keep (t, p, H, Z) (nI r) b = ((0, nI (tpg (tsetK p r b) (tP p)).length), (t, tsetK p r b, p :: H.take 13, Z)) := by
    unfold q_keep
    show (match tix (tn p) (nI r) with | none => _ | some i => _) = _
    rw [tix_n hr (by omega)]
    rfl
  refine s_L_keep hD hb h (fun I' h' => ?_)
  rw [e] at h' ⊢
  rw [wx_0, nI_lI (pgl_lt _ _)]
  exact k I' h'
theorem s_V_removeRow {r : Nat} (hD : 8 ≤ D) (h : st I (t, p, H, Z)) (hr : r < tn p) (k : ∀ I', st I' (t, tdropR p r, p :: H.take 13, Z) → P (.inl (some (vL (lI ((tm p : Int) - (tm (tdropR p r) : Int)))))) am_G0 I' J) : am_T l D y_L_removeRow [vR (0, 0), vI (nI r)] am_G0 I J P := by
  have h24 := h.w.2.2.2.2.1
  have h24 : tn p ≤ 24 := h24
  have h6 := h.w.2.2.2.2.2.1
  have h6 : tm p ≤ 6 := h6
  have hm := tm_dropR (p := p) r
  have e : q_removeRow (t, p, H, Z) (nI r) = ((0, nI (tm p - tm (tdropR p r))), (t, tdropR p r, p :: H.take 13, Z)) := by
    unfold q_removeRow
    show (match tix (tn p) (nI r) with | none => _ | some i => _) = _
    rw [tix_n hr (by omega)]
    rfl
  refine s_L_removeRow hD h (fun I' h' => ?_)
  rw [e] at h' ⊢
  rw [wx_0, nI_lI (by omega), show ((tm p - tm (tdropR p r) : Nat) : Int) = (tm p : Int) - (tm (tdropR p r) : Int) by omega]
  exact k I' h'
theorem s_V_addSpan {a b : Nat} (hD : 8 ≤ D) (h : st I (t, p, H, Z)) (hab : a < b) (hb : b < tn p) (hm : tm p < 6) (k : ∀ I', st I' (t, tputS p (a, b, 0), p :: H.take 13, Z) → P (.inl (some (vL (lI (tm p : Int))))) am_G0 I' J) : am_T l D y_L_addSpan [vR (0, 0), vI (nI a), vI (nI b), vI (nI 0)] am_G0 I J P := by
  have h24 := h.w.2.2.2.2.1
  have h24 : tn p ≤ 24 := h24
  have e : q_addSpan (t, p, H, Z) (nI a) (nI b) 0 = ((0, nI (tm p)), (t, tputS p (a, b, 0), p :: H.take 13, Z)) := by
    unfold q_addSpan
    show (match tix (tn p) (nI a) with | none => _ | some i => (match tix (tn p) (nI b) with | none => _ | some j => _)) = _
    rw [tix_n (j := a) (by omega) (by omega), tix_n hb (by omega)]
    show (if a < b then (if tm p = 6 then _ else ((0, nI (tm p)), tact (t, p, H, Z) (tputS p (a, b, 0)))) else _) = _
    rw [if_pos hab, if_neg (by omega)]
    rfl
  refine s_L_addSpan hD (by omega) h (fun I' h' => ?_)
  rw [e] at h' ⊢
  rw [wx_0, nI_lI (by omega)]
  exact k I' h'
theorem s_V_removeSpan {i : Nat} (hD : 8 ≤ D) (h : st I (t, p, H, Z)) (hi : i < tm p) (k : ∀ I', st I' (t, tdropS p i, p :: H.take 13, Z) → P (.inl (some (vL (lI ((tpg (tdropS p i) (tP p)).length : Int))))) am_G0 I' J) : am_T l D y_L_removeSpan [vR (0, 0), vI (nI i)] am_G0 I J P := by
  have h6 := h.w.2.2.2.2.2.1
  have h6 : tm p ≤ 6 := h6
  have e : q_removeSpan (t, p, H, Z) (nI i) = ((0, nI (tpg (tdropS p i) (tP p)).length), (t, tdropS p i, p :: H.take 13, Z)) := by
    unfold q_removeSpan
    show (match tix (tm p) (nI i) with | none => _ | some i => _) = _
    rw [tix_n hi (by omega)]
    rfl
  refine s_L_removeSpan hD h (fun I' h' => ?_)
  rw [e] at h' ⊢
  rw [wx_0, nI_lI (pgl_lt _ _)]
  exact k I' h'
theorem s_V_save {i : Nat} (hD : 8 ≤ D) (h : st I (t, p, H, Z)) (hi : i < 2) (k : ∀ I', st I' (t, p, H, fun j => if j = i then some p else Z j) → P (.inl (some (vL (lI (tn p : Int))))) am_G0 I' J) : am_T l D y_L_save [vR (0, 0), vI (nI i)] am_G0 I J P := by
  have h24 := h.w.2.2.2.2.1
  have h24 : tn p ≤ 24 := h24
  have e : q_save (t, p, H, Z) (nI i) = ((0, nI (tn p)), (t, p, H, fun j => if j = i then some p else Z j)) := by
    unfold q_save
    rw [tix_n hi (by omega)]
  refine s_L_save hD h (fun I' h' => ?_)
  rw [e] at h' ⊢
  rw [wx_0, nI_lI (by omega)]
  exact k I' h'
theorem s_V_restore {i : Nat} (hD : 8 ≤ D) (h : st I (t, p, H, Z)) (hi : i < 2) (hZ : Z i = some q) (hq : tn q ≤ 24) (k : ∀ I', st I' (t, q, [], Z) → P (.inl (some (vL (lI (tn q : Int))))) am_G0 I' J) : am_T l D y_L_restore [vR (0, 0), vI (nI i)] am_G0 I J P := by
  have e : q_restore (t, p, H, Z) (nI i) = ((0, nI (tn q)), (t, q, [], Z)) := by
    unfold q_restore
    rw [tix_n hi (by omega)]
    show (match Z i with | none => _ | some q => _) = _
    rw [hZ]
  refine s_L_restore hD h (fun I' h' => ?_)
  rw [e] at h' ⊢
  rw [wx_0, nI_lI (by omega)]
  exact k I' h'
theorem s_V_o {s : pt_G} (hD : 8 ≤ D) (h : st I s) (k : ∀ I', st I' s → P (.inl (some (vL (lI (tC0 s.2.1 0 : Int))))) am_G0 I' J) : am_T l D y_L_o [vR (0, 0)] am_G0 I J P := by
  obtain ⟨d, rfl⟩ : ∃ d, D = d + 1 := ⟨D - 1, by omega⟩
  have hb := tC0_bd h.w
  refine en_L_o 20 (Nat.le_of_ble_eq_true rfl) ?_
  simp (disch := omega) only [am_z, cq_L_o, Nat.reduceAdd, Nat.zero_le, Nat.reduceLeDiff, ar_lit]
  refine s_P_evenest (by omega) h (fun I' hf hs => ?_)
  show am_X l (0, fun _ => 0) (d + 1) y_L_o P 4 _ [vI (nI (tC0 s.2.1 0))] _ _ am_G0 I' J
  refine rn_L_o 20 ?_
  simp (disch := omega) only [am_z, cq_L_o, Nat.reduceAdd, Nat.zero_le, Nat.reduceLeDiff, ar_lit, nI_lI]
  exact k I' hs
theorem s_V_evenCut {s : pt_G} {i : Nat} (hD : 8 ≤ D) (h : st I s) (hi : i < 2147483648) (hp : ∀ k, k < i → tpos (tE0 s.2.1) k < tn s.2.1) (k : ∀ I', st I' s → P (.inl (some (vL (lI (if tpos (tE0 s.2.1) i < tn s.2.1 then ((tE0 s.2.1 (tpos (tE0 s.2.1) i) : Nat) : Int) else -999999))))) am_G0 I' J) : am_T l D y_L_evenCut [vR (0, 0), vI (nI i)] am_G0 I J P := by
  have hw := h.w
  have h24 := hw.2.2.2.2.1
  have e : wx [1] (q_evenCut s.2.1 (nI i)) = lI (if tpos (tE0 s.2.1) i < tn s.2.1 then ((tE0 s.2.1 (tpos (tE0 s.2.1) i) : Nat) : Int) else -999999) := by
    unfold q_evenCut
    rw [nI_toInt (by omega), if_pos (by omega)]
    refine (wx_0 _ _).trans ?_
    show (lv (tcl (tE0 s.2.1) (tn s.2.1) 24 ((i : Int)).toNat 0)).toInt64 = _
    rw [Int.toNat_natCast, tcl_at hw hp]
    by_cases q : tpos (tE0 s.2.1) i < tn s.2.1
    · have := (tE0_in q).2.1
      rw [if_pos q, if_pos q]
      exact nI_lI (by omega)
    · rw [if_neg q, if_neg q]
      decide +kernel
  exact s_L_evenCut hD h (fun I' h' => by rw [e]; exact k I' h')
theorem s_V_heightFor {s : pt_G} {n : Nat} (hD : 8 ≤ D) (h : st I s) (h1 : 1 ≤ n) (h2 : n ≤ 24)
    (k1 : ∀ I' x, st I' s → 6 ≤ x → x ≤ 40 → (tpg s.2.1 x).length ≤ n → tov (tpg s.2.1 x) = 0 → (∀ y, 6 ≤ y → y < x → ¬ ((tpg s.2.1 y).length ≤ n ∧ tov (tpg s.2.1 y) = 0)) → P (.inl (some (vL (lI (x : Int))))) am_G0 I' J)
    (k2 : ∀ I', st I' s → (∀ y, 6 ≤ y → y ≤ 40 → ¬ ((tpg s.2.1 y).length ≤ n ∧ tov (tpg s.2.1 y) = 0)) → P (.inl (some (vL (lI (-999999))))) am_G0 I' J) : am_T l D y_L_heightFor [vR (0, 0), vI (nI n)] am_G0 I J P := by
  have e : q_heightFor s.2.1 (nI n) = (0, thf s.2.1 n 35 6) := by
    unfold q_heightFor
    rw [nI_toInt (by omega), if_pos (by omega), Int.toNat_natCast]
  refine s_L_heightFor hD h (fun I' h' => ?_)
  rw [e]
  rcases thf_spec (p := s.2.1) n 35 6 with ⟨x, a1, a2, a3, a4, a5⟩ | ⟨b1, b2⟩
  · rw [a3, wx_0, nI_lI (by omega)]
    exact k1 I' x h' a1 (by omega) a4.1 a4.2 a5
  · rw [b1, wx_0, show (-999999 : Int32).toInt64 = lI (-999999) by decide +kernel]
    exact k2 I' h' (fun y y1 y2 => b2 y y1 (by omega))
end VA
