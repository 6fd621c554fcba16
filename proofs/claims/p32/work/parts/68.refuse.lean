/-! ===== calls that are refused ===== -/
theorem wxe : (∀ (a : Nat) (K : List Nat) (v : Int32), wx (a :: K) (1, v) = xE a) ∧ (∀ (a b : Nat) (K : List Nat) (v : Int32), wx (a :: b :: K) (2, v) = xE b) ∧ (∀ (a b c : Nat) (K : List Nat) (v : Int32), wx (a :: b :: c :: K) (3, v) = xE c) ∧ xE 1 = -9000000000000000002 ∧ xE 2 = -9000000000000000003 ∧ xE 3 = -9000000000000000001 := ⟨fun _ _ _ => rfl, fun _ _ _ _ => rfl, fun _ _ _ _ _ => rfl, rfl, rfl, rfl⟩
theorem lI_n (n : Nat) : (lI (n : Int)).toInt32 = nI n := (lI_i _).trans (iI_nI n).symm
theorem neg_m1 : (-nI 1).toInt < 0 := by decide +kernel
section RF
variable {p : pt_T}
theorem r_about1 : q_about p (-nI 1) = (1, 0) := by
  unfold q_about
  rw [tix_neg neg_m1]
theorem r_about8 : q_about p (nI 8) = (1, 0) := by
  unfold q_about
  rw [tix_no (by omega) (by omega)]
theorem r_row (hw : tW p) (w : Int32) : q_row p (nI (tn p)) w = (1, 0) := by
  have := hw.2.2.2.2.1
  unfold q_row
  rw [tix_no (Nat.le_refl _) (by omega)]
theorem r_row5 (hn : 0 < tn p) (hw : tW p) : q_row p (nI 0) (nI 5) = (2, 0) := by
  have := hw.2.2.2.2.1
  unfold q_row
  rw [tix_n hn (by omega), tix_no (n := 5) (by omega) (by omega)]
theorem r_amountm (hn : 0 < tn p) (hw : tW p) : q_amount p (nI 0) (nI (tC p)) = (1, 0) := by
  have := hw.2.2.2.2.1
  have := hw.1
  unfold q_amount
  rw [tix_n hn (by omega), tix_no (n := tC p) (by omega) (by omega)]
theorem r_page6 (hl : 0 < (tpg p (tP p)).length) : q_page p (nI 0) (nI 6) = (2, 0) := by
  have : (tpg p (tP p)).length ≤ 24 := tpg_len
  unfold q_page
  rw [tix_n hl (by omega), tix_no (n := 6) (by omega) (by omega)]
theorem r_broughtm (hl : 0 < (tpg p (tP p)).length) (hw : tW p) : q_brought p (nI 0) (nI (tC p)) = (1, 0) := by
  have : (tpg p (tP p)).length ≤ 24 := tpg_len
  have := hw.1
  unfold q_brought
  rw [tix_n hl (by omega), tix_no (n := tC p) (by omega) (by omega)]
theorem r_amountn (hw : tW p) (c : Int32) : q_amount p (nI (tn p)) c = (1, 0) := by
  have := hw.2.2.2.2.1
  unfold q_amount
  rw [tix_no (Nat.le_refl _) (by omega)]
theorem r_span (hw : tW p) (w : Int32) : q_span p (nI (tm p)) w = (1, 0) := by
  have := hw.2.2.2.2.2.1
  unfold q_span
  rw [tix_no (Nat.le_refl _) (by omega)]
theorem r_span4 (hn : 0 < tm p) (hw : tW p) : q_span p (nI 0) (nI 4) = (2, 0) := by
  have := hw.2.2.2.2.2.1
  unfold q_span
  rw [tix_n hn (by omega), tix_no (n := 4) (by omega) (by omega)]
theorem r_note0 : q_note p (nI 0) = (1, 0) := by
  unfold q_note
  rw [nI_toInt (by omega), if_neg (by omega)]
theorem r_note7 : q_note p (nI 7) = (1, 0) := by
  unfold q_note
  rw [nI_toInt (by omega), if_neg (by omega)]
theorem r_page (w : Int32) : q_page p (nI (tpg p (tP p)).length) w = (1, 0) := by
  have : (tpg p (tP p)).length ≤ 24 := tpg_len
  unfold q_page
  rw [tix_no (Nat.le_refl _) (by omega)]
theorem r_brought (c : Int32) : q_brought p (nI (tpg p (tP p)).length) c = (1, 0) := by
  have : (tpg p (tP p)).length ≤ 24 := tpg_len
  unfold q_brought
  rw [tix_no (Nat.le_refl _) (by omega)]
theorem r_carried (c : Int32) : q_carried p (-nI 1) c = (1, 0) := by
  unfold q_carried
  rw [tix_neg neg_m1]
theorem r_richest (hw : tW p) : q_richest p (nI (tC p)) = (1, 0) := by
  have := hw.1
  unfold q_richest
  rw [tix_no (Nat.le_refl _) (by omega)]
theorem r_height : q_heightFor p (nI 0) = (1, 0) := by
  unfold q_heightFor
  rw [nI_toInt (by omega), if_neg (by omega)]
theorem r_even : q_evenCut p (-nI 1) = (1, 0) := by
  have := neg_m1
  unfold q_evenCut
  rw [if_neg (by omega)]
theorem r_empty (hw : tW p) : q_emptyFrom p (nI (tn p)) = (1, 0) := by
  have := hw.2.2.2.2.1
  unfold q_emptyFrom
  rw [tix_no (Nat.le_refl _) (by omega)]
theorem r_script0 (t : Int64) : q_runScript p (nI 0) t = (1, 0) := by
  unfold q_runScript
  rw [nI_toInt (by omega), if_neg (by omega)]
theorem r_script3 : q_runScript p (nI 3) 1000000000000000 = (1, 0) := by
  have e : (1000000000000000 : Int64).toInt = 1000000000000000 := by decide +kernel
  unfold q_runScript
  rw [nI_toInt (by omega), e, if_neg (fun h => absurd h.2.2 (by decide +kernel))]
theorem r_simulate (x : Int64) : q_simulate p x (nI 0) = (1, 0) := by
  unfold q_simulate
  rw [nI_toInt (by omega), if_neg (by omega)]
end RF
section RS
variable {s : pt_G}
theorem r_addRow00 : q_addRow s (nI 0) (nI 0) = ((1, 0), s) := by
  unfold q_addRow
  rw [tix_n (n := 7) (j := 0) (by omega) (by omega)]
  rfl
theorem r_addRow17 : q_addRow s (nI 1) (nI 7) = ((1, 0), s) := by
  unfold q_addRow
  rw [tix_n (n := 7) (j := 1) (by omega) (by omega), tix_no (n := 7) (j := 7) (by omega) (by omega)]
theorem r_addRow24 (h : tn s.2.1 = 24) : q_addRow s (nI 1) (nI 0) = ((2, 0), s) := by
  unfold q_addRow
  rw [tix_n (n := 7) (j := 1) (by omega) (by omega), tix_n (n := 7) (j := 0) (by omega) (by omega)]
  show (if (1 : Nat) = 0 then _ else if tn s.2.1 = 24 then _ else _) = _
  rw [if_neg (by omega), if_pos h]
theorem r_setAn (hw : tW s.2.1) (c v : Int32) : q_setAmount s (nI (tn s.2.1)) c v = ((1, 0), s) := by
  have := hw.2.2.2.2.1
  unfold q_setAmount
  rw [tix_no (Nat.le_refl _) (by omega)]
theorem r_setAv (hn : 0 < tn s.2.1) (hw : tW s.2.1) : q_setAmount s (nI 0) (nI 0) (-nI 100) = ((2, 0), s) := by
  have := hw.2.2.2.2.1
  have := hw.1
  unfold q_setAmount
  rw [tix_n hn (by omega), tix_n (n := tC s.2.1) (by omega) (by omega)]
  show (if -99 ≤ (-nI 100).toInt ∧ (-nI 100).toInt ≤ 99 then _ else _) = _
  rw [if_neg (by decide +kernel)]
theorem r_setAm (hn : 0 < tn s.2.1) (hw : tW s.2.1) (v : Int32) : q_setAmount s (nI 0) (nI (tC s.2.1)) v = ((1, 0), s) := by
  have := hw.2.2.2.2.1
  have := hw.1
  unfold q_setAmount
  rw [tix_n hn (by omega), tix_no (n := tC s.2.1) (by omega) (by omega)]
theorem r_addSe (hn : 0 < tn s.2.1) (hw : tW s.2.1) (c : Nat) : q_addSpan s (nI (tn s.2.1 - 1)) (nI 0) c = ((2, 0), s) := by
  have := hw.2.2.2.2.1
  unfold q_addSpan
  rw [tix_n (j := tn s.2.1 - 1) (by omega) (by omega), tix_n hn (by omega)]
  show (if tn s.2.1 - 1 < 0 then _ else _) = _
  rw [if_neg (by omega)]
theorem r_keep (hw : tW s.2.1) (b : Nat) : q_keep s (nI (tn s.2.1)) b = ((1, 0), s) := by
  have := hw.2.2.2.2.1
  unfold q_keep
  rw [tix_no (Nat.le_refl _) (by omega)]
theorem r_remove : q_removeRow s (-nI 1) = ((1, 0), s) := by
  unfold q_removeRow
  rw [tix_neg neg_m1]
theorem r_addSn (hw : tW s.2.1) (c : Nat) : q_addSpan s (nI 0) (nI (tn s.2.1)) c = ((1, 0), s) := by
  have := hw.2.2.2.2.1
  unfold q_addSpan
  rcases Nat.eq_zero_or_pos (tn s.2.1) with z | z
  · rw [z, tix_no (n := 0) (j := 0) (by omega) (by omega)]
  · rw [tix_n z (by omega), tix_no (Nat.le_refl _) (by omega)]
theorem r_addS6 (hn : 2 ≤ tn s.2.1) (hm : tm s.2.1 = 6) (hw : tW s.2.1) (c : Nat) : q_addSpan s (nI 0) (nI (tn s.2.1 - 1)) c = ((3, 0), s) := by
  have := hw.2.2.2.2.1
  unfold q_addSpan
  rw [tix_n (j := 0) (by omega) (by omega), tix_n (j := tn s.2.1 - 1) (by omega) (by omega)]
  show (if 0 < tn s.2.1 - 1 then (if tm s.2.1 = 6 then _ else _) else _) = _
  rw [if_pos (by omega), if_pos hm]
theorem r_remS (hw : tW s.2.1) : q_removeSpan s (nI (tm s.2.1)) = ((1, 0), s) := by
  have := hw.2.2.2.2.2.1
  unfold q_removeSpan
  rw [tix_no (Nat.le_refl _) (by omega)]
theorem r_setH05 : q_setHeight s (nI 0) (nI 5) = ((1, 0), s) := by
  unfold q_setHeight
  rw [tix_n (n := 8) (j := 0) (by omega) (by omega), tix_n (n := 41) (j := 5) (by omega) (by omega)]
  exact if_neg (by decide)
theorem r_setH15 : q_setHeight s (nI 1) (nI 5) = ((1, 0), s) := by
  unfold q_setHeight
  rw [tix_n (n := 8) (j := 1) (by omega) (by omega), tix_n (n := 41) (j := 5) (by omega) (by omega)]
  exact if_neg (by decide)
theorem r_setH70 : q_setHeight s (nI 7) (nI 0) = ((1, 0), s) := by
  unfold q_setHeight
  rw [tix_n (n := 8) (j := 7) (by omega) (by omega), tix_n (n := 41) (j := 0) (by omega) (by omega)]
  exact if_neg (by decide)
theorem r_setH81 : q_setHeight s (nI 8) (nI 1) = ((1, 0), s) := by
  unfold q_setHeight
  rw [tix_no (n := 8) (j := 8) (by omega) (by omega)]
theorem r_save : q_save s (nI 2) = ((1, 0), s) := by
  unfold q_save
  rw [tix_no (n := 2) (j := 2) (by omega) (by omega)]
theorem r_restore : q_restore s (nI 2) = ((1, 0), s) := by
  unfold q_restore
  rw [tix_no (n := 2) (j := 2) (by omega) (by omega)]
theorem r_append : q_append s (-nI 1) = ((1, 0), s) := by
  have := neg_m1
  unfold q_append
  rw [if_neg (by omega)]
end RS
