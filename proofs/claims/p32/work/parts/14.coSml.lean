/-! written by wip/p32/gen.py: the code of Sml -/
def co_Command_init (l : Launch) (d : Nat) : List (Nat × am_S) := [(0, am_aload 0 1), (1, am_oinit 4), (4, am_vret)]
theorem ck_Command_init {l : Launch} {sc : Nat × (Nat → Int32)} {d : Nat} : ∀ q ∈ co_Command_init l d, am_ok l sc (d + 1) y_Command_init q.1 q.2 :=
  fa_cons (ok_aload_n (show decode (am_mB y_Command_init) 0 = .ok (.aload_n 0, 1) by decide +kernel) rfl) <|
  fa_cons (ok_oinit (show decode (am_mB y_Command_init) 1 = .ok (.invokespecial 1, 3) by decide +kernel) w_233 w_24 w_25 (by omega)) <|
  fa_cons (ok_vret (show decode (am_mB y_Command_init) 4 = .ok (.return_, 1) by decide +kernel) rfl (by decide +kernel)) <|
  fa_nil
set_option maxRecDepth 100000 in
theorem cq_Command_init (l : Launch) (d : Nat) : am_lk (co_Command_init l d) 0 = am_aload 0 1 ∧ am_lk (co_Command_init l d) 1 = am_oinit 4 ∧ am_lk (co_Command_init l d) 4 = am_vret := ⟨rfl, rfl, rfl⟩
theorem en_Command_init {l : Launch} {d : Nat} (n : Nat) {as : List am_V} {G : am_G} {I : am_I} {J : am_J} {P : am_P} (hlen : (as.map am_cat).sum ≤ 1) (h : am_go (am_lk (co_Command_init l d)) (am_X l (0, fun _ => 0) (d + 1) y_Command_init P) P n 0 (am_el 1 as) [] 0 0 G I J) : am_T l (d + 1) y_Command_init as G I J P :=
  am_T_of (sc := (0, fun _ => 0)) cf_Command_init (by decide +kernel) (by decide) (by decide +kernel) hlen (am_run (ok_lk _ (ck_Command_init)) n _ _ _ _ _ _ _ _ h)
theorem rn_Command_init {l : Launch} {sc : Nat × (Nat → Int32)} {d : Nat} {P : am_P} (n : Nat) {pc : Nat} {ls : am_L} {st : List am_V} {kc ks : Nat} {G : am_G} {I : am_I} {J : am_J} (h : am_go (am_lk (co_Command_init l d)) (am_X l sc (d + 1) y_Command_init P) P n pc ls st kc ks G I J) : am_X l sc (d + 1) y_Command_init P pc ls st kc ks G I J := am_run (ok_lk _ (ck_Command_init)) n _ _ _ _ _ _ _ _ h
def co_Command_setDigits (l : Launch) (d : Nat) : List (Nat × am_S) := [(0, am_aload 0 1), (1, am_iload 1 2), (2, am_push (vI 10000) 5), (5, am_idiv 6), (6, am_putI 1 0 9), (9, am_aload 0 10), (10, am_iload 1 11), (11, am_push (vI 1000) 14), (14, am_idiv 15), (15, am_push (vI 10) 17), (17, am_irem 18), (18, am_putI 1 1 21), (21, am_aload 0 22), (22, am_iload 1 23), (23, am_push (vI 100) 25), (25, am_idiv 26), (26, am_push (vI 10) 28), (28, am_irem 29), (29, am_putI 1 2 32), (32, am_aload 0 33), (33, am_iload 1 34), (34, am_push (vI 10) 36), (36, am_idiv 37), (37, am_push (vI 10) 39), (39, am_irem 40), (40, am_putI 1 3 43), (43, am_aload 0 44), (44, am_iload 1 45), (45, am_push (vI 10) 47), (47, am_irem 48), (48, am_putI 1 4 51), (51, am_vret)]
theorem ck_Command_setDigits {l : Launch} {sc : Nat × (Nat → Int32)} {d : Nat} : ∀ q ∈ co_Command_setDigits l d, am_ok l sc (d + 1) y_Command_setDigits q.1 q.2 :=
  fa_cons (ok_aload_n (show decode (am_mB y_Command_setDigits) 0 = .ok (.aload_n 0, 1) by decide +kernel) rfl) <|
  fa_cons (ok_iload_n (show decode (am_mB y_Command_setDigits) 1 = .ok (.iload_n 1, 1) by decide +kernel) rfl) <|
  fa_cons (ok_sipush (show decode (am_mB y_Command_setDigits) 2 = .ok (.sipush 10000, 3) by decide +kernel) (by decide +kernel)) <|
  fa_cons (ok_idiv (show decode (am_mB y_Command_setDigits) 5 = .ok (.idiv, 1) by decide +kernel)) <|
  fa_cons (ok_putI (show decode (am_mB y_Command_setDigits) 6 = .ok (.putfield 7, 3) by decide +kernel) fl_Command_7 (by decide +kernel)) <|
  fa_cons (ok_aload_n (show decode (am_mB y_Command_setDigits) 9 = .ok (.aload_n 0, 1) by decide +kernel) rfl) <|
  fa_cons (ok_iload_n (show decode (am_mB y_Command_setDigits) 10 = .ok (.iload_n 1, 1) by decide +kernel) rfl) <|
  fa_cons (ok_sipush (show decode (am_mB y_Command_setDigits) 11 = .ok (.sipush 1000, 3) by decide +kernel) (by decide +kernel)) <|
  fa_cons (ok_idiv (show decode (am_mB y_Command_setDigits) 14 = .ok (.idiv, 1) by decide +kernel)) <|
  fa_cons (ok_bipush (show decode (am_mB y_Command_setDigits) 15 = .ok (.bipush 10, 2) by decide +kernel) (by decide +kernel)) <|
  fa_cons (ok_irem (show decode (am_mB y_Command_setDigits) 17 = .ok (.irem, 1) by decide +kernel)) <|
  fa_cons (ok_putI (show decode (am_mB y_Command_setDigits) 18 = .ok (.putfield 13, 3) by decide +kernel) fl_Command_13 (by decide +kernel)) <|
  fa_cons (ok_aload_n (show decode (am_mB y_Command_setDigits) 21 = .ok (.aload_n 0, 1) by decide +kernel) rfl) <|
  fa_cons (ok_iload_n (show decode (am_mB y_Command_setDigits) 22 = .ok (.iload_n 1, 1) by decide +kernel) rfl) <|
  fa_cons (ok_bipush (show decode (am_mB y_Command_setDigits) 23 = .ok (.bipush 100, 2) by decide +kernel) (by decide +kernel)) <|
  fa_cons (ok_idiv (show decode (am_mB y_Command_setDigits) 25 = .ok (.idiv, 1) by decide +kernel)) <|
  fa_cons (ok_bipush (show decode (am_mB y_Command_setDigits) 26 = .ok (.bipush 10, 2) by decide +kernel) (by decide +kernel)) <|
  fa_cons (ok_irem (show decode (am_mB y_Command_setDigits) 28 = .ok (.irem, 1) by decide +kernel)) <|
  fa_cons (ok_putI (show decode (am_mB y_Command_setDigits) 29 = .ok (.putfield 16, 3) by decide +kernel) fl_Command_16 (by decide +kernel)) <|
  fa_cons (ok_aload_n (show decode (am_mB y_Command_setDigits) 32 = .ok (.aload_n 0, 1) by decide +kernel) rfl) <|
  fa_cons (ok_iload_n (show decode (am_mB y_Command_setDigits) 33 = .ok (.iload_n 1, 1) by decide +kernel) rfl) <|
  fa_cons (ok_bipush (show decode (am_mB y_Command_setDigits) 34 = .ok (.bipush 10, 2) by decide +kernel) (by decide +kernel)) <|
  fa_cons (ok_idiv (show decode (am_mB y_Command_setDigits) 36 = .ok (.idiv, 1) by decide +kernel)) <|
  fa_cons (ok_bipush (show decode (am_mB y_Command_setDigits) 37 = .ok (.bipush 10, 2) by decide +kernel) (by decide +kernel)) <|
  fa_cons (ok_irem (show decode (am_mB y_Command_setDigits) 39 = .ok (.irem, 1) by decide +kernel)) <|
  fa_cons (ok_putI (show decode (am_mB y_Command_setDigits) 40 = .ok (.putfield 19, 3) by decide +kernel) fl_Command_19 (by decide +kernel)) <|
  fa_cons (ok_aload_n (show decode (am_mB y_Command_setDigits) 43 = .ok (.aload_n 0, 1) by decide +kernel) rfl) <|
  fa_cons (ok_iload_n (show decode (am_mB y_Command_setDigits) 44 = .ok (.iload_n 1, 1) by decide +kernel) rfl) <|
  fa_cons (ok_bipush (show decode (am_mB y_Command_setDigits) 45 = .ok (.bipush 10, 2) by decide +kernel) (by decide +kernel)) <|
  fa_cons (ok_irem (show decode (am_mB y_Command_setDigits) 47 = .ok (.irem, 1) by decide +kernel)) <|
  fa_cons (ok_putI (show decode (am_mB y_Command_setDigits) 48 = .ok (.putfield 22, 3) by decide +kernel) fl_Command_22 (by decide +kernel)) <|
  fa_cons (ok_vret (show decode (am_mB y_Command_setDigits) 51 = .ok (.return_, 1) by decide +kernel) rfl (by decide +kernel)) <|
  fa_nil
set_option maxRecDepth 100000 in
theorem cq_Command_setDigits (l : Launch) (d : Nat) : am_lk (co_Command_setDigits l d) 0 = am_aload 0 1 ∧ am_lk (co_Command_setDigits l d) 1 = am_iload 1 2 ∧ am_lk (co_Command_setDigits l d) 2 = am_push (vI 10000) 5 ∧ am_lk (co_Command_setDigits l d) 5 = am_idiv 6 ∧ am_lk (co_Command_setDigits l d) 6 = am_putI 1 0 9 ∧ am_lk (co_Command_setDigits l d) 9 = am_aload 0 10 ∧ am_lk (co_Command_setDigits l d) 10 = am_iload 1 11 ∧ am_lk (co_Command_setDigits l d) 11 = am_push (vI 1000) 14 ∧ am_lk (co_Command_setDigits l d) 14 = am_idiv 15 ∧ am_lk (co_Command_setDigits l d) 15 = am_push (vI 10) 17 ∧ am_lk (co_Command_setDigits l d) 17 = am_irem 18 ∧ am_lk (co_Command_setDigits l d) 18 = am_putI 1 1 21 ∧ am_lk (co_Command_setDigits l d) 21 = am_aload 0 22 ∧ am_lk (co_Command_setDigits l d) 22 = am_iload 1 23 ∧ am_lk (co_Command_setDigits l d) 23 = am_push (vI 100) 25 ∧ am_lk (co_Command_setDigits l d) 25 = am_idiv 26 ∧ am_lk (co_Command_setDigits l d) 26 = am_push (vI 10) 28 ∧ am_lk (co_Command_setDigits l d) 28 = am_irem 29 ∧ am_lk (co_Command_setDigits l d) 29 = am_putI 1 2 32 ∧ am_lk (co_Command_setDigits l d) 32 = am_aload 0 33 ∧ am_lk (co_Command_setDigits l d) 33 = am_iload 1 34 ∧ am_lk (co_Command_setDigits l d) 34 = am_push (vI 10) 36 ∧ am_lk (co_Command_setDigits l d) 36 = am_idiv 37 ∧ am_lk (co_Command_setDigits l d) 37 = am_push (vI 10) 39 ∧ am_lk (co_Command_setDigits l d) 39 = am_irem 40 ∧ am_lk (co_Command_setDigits l d) 40 = am_putI 1 3 43 ∧ am_lk (co_Command_setDigits l d) 43 = am_aload 0 44 ∧ am_lk (co_Command_setDigits l d) 44 = am_iload 1 45 ∧ am_lk (co_Command_setDigits l d) 45 = am_push (vI 10) 47 ∧ am_lk (co_Command_setDigits l d) 47 = am_irem 48 ∧ am_lk (co_Command_setDigits l d) 48 = am_putI 1 4 51 ∧ am_lk (co_Command_setDigits l d) 51 = am_vret := ⟨rfl, rfl, rfl, rfl, rfl, rfl, rfl, rfl, rfl, rfl, rfl, rfl, rfl, rfl, rfl, rfl, rfl, rfl, rfl, rfl, rfl, rfl, rfl, rfl, rfl, rfl, rfl, rfl, rfl, rfl, rfl, rfl⟩
theorem en_Command_setDigits {l : Launch} {d : Nat} (n : Nat) {as : List am_V} {G : am_G} {I : am_I} {J : am_J} {P : am_P} (hlen : (as.map am_cat).sum ≤ 2) (h : am_go (am_lk (co_Command_setDigits l d)) (am_X l (0, fun _ => 0) (d + 1) y_Command_setDigits P) P n 0 (am_el 2 as) [] 0 0 G I J) : am_T l (d + 1) y_Command_setDigits as G I J P :=
  am_T_of (sc := (0, fun _ => 0)) cf_Command_setDigits (by decide +kernel) (by decide) (by decide +kernel) hlen (am_run (ok_lk _ (ck_Command_setDigits)) n _ _ _ _ _ _ _ _ h)
theorem rn_Command_setDigits {l : Launch} {sc : Nat × (Nat → Int32)} {d : Nat} {P : am_P} (n : Nat) {pc : Nat} {ls : am_L} {st : List am_V} {kc ks : Nat} {G : am_G} {I : am_I} {J : am_J} (h : am_go (am_lk (co_Command_setDigits l d)) (am_X l sc (d + 1) y_Command_setDigits P) P n pc ls st kc ks G I J) : am_X l sc (d + 1) y_Command_setDigits P pc ls st kc ks G I J := am_run (ok_lk _ (ck_Command_setDigits)) n _ _ _ _ _ _ _ _ h
def co_Command_runOn (l : Launch) (d : Nat) : List (Nat × am_S) := [(0, am_aload 0 1), (1, am_getI 1 0 4), (4, am_tsw 1 [40, 46, 52, 58, 64] 70), (40, am_aload 0 41), (41, am_aload 1 42), (42, am_cal l d y_Command_addsRow (some 1) 2 45 0 0 0 0), (45, am_iret true), (46, am_aload 0 47), (47, am_aload 1 48), (48, am_cal l d y_Command_putsAmount (some 1) 2 51 0 0 0 0), (51, am_iret true), (52, am_aload 0 53), (53, am_aload 1 54), (54, am_cal l d y_Command_marksRow (some 1) 2 57 0 0 0 0), (57, am_iret true), (58, am_aload 0 59), (59, am_aload 1 60), (60, am_cal l d y_Command_dropsRow (some 1) 2 63 0 0 0 0), (63, am_iret true), (64, am_aload 0 65), (65, am_aload 1 66), (66, am_cal l d y_Command_putsHeight (some 1) 2 69 0 0 0 0), (69, am_iret true), (70, am_aload 0 71), (71, am_aload 1 72), (72, am_aload 2 73), (73, am_cal l d y_Command_holds (some 1) 3 76 0 0 0 0), (76, am_iret true)]
theorem ck_Command_runOn {l : Launch} {sc : Nat × (Nat → Int32)} {d : Nat} : ∀ q ∈ co_Command_runOn l d, am_ok l sc (d + 1) y_Command_runOn q.1 q.2 :=
  fa_cons (ok_aload_n (show decode (am_mB y_Command_runOn) 0 = .ok (.aload_n 0, 1) by decide +kernel) rfl) <|
  fa_cons (ok_getI (show decode (am_mB y_Command_runOn) 1 = .ok (.getfield 7, 3) by decide +kernel) fl_Command_7 (by decide +kernel)) <|
  fa_cons (ok_tsw (show decode (am_mB y_Command_runOn) 4 = .ok (.tableswitch 66 1 5 #[36, 42, 48, 54, 60], 36) by decide +kernel) (by decide) (by decide) (by decide)) <|
  fa_cons (ok_aload_n (show decode (am_mB y_Command_runOn) 40 = .ok (.aload_n 0, 1) by decide +kernel) rfl) <|
  fa_cons (ok_aload_n (show decode (am_mB y_Command_runOn) 41 = .ok (.aload_n 1, 1) by decide +kernel) rfl) <|
  fa_cons (ok_cal ⟨rfl, rfl, rfl, rfl⟩ (ok_callV (show decode (am_mB y_Command_runOn) 42 = .ok (.invokevirtual 25, 3) by decide +kernel) cf_Command_addsRow (by decide +kernel) ml_Command_25 ci_Command_addsRow cv_Command_addsRow ⟨by decide, rfl⟩ rfl ⟨by decide +kernel, rfl⟩ (Or.inl (by decide +kernel)))) <|
  fa_cons (ok_iret (show decode (am_mB y_Command_runOn) 45 = .ok (.ireturn, 1) by decide +kernel) rfl) <|
  fa_cons (ok_aload_n (show decode (am_mB y_Command_runOn) 46 = .ok (.aload_n 0, 1) by decide +kernel) rfl) <|
  fa_cons (ok_aload_n (show decode (am_mB y_Command_runOn) 47 = .ok (.aload_n 1, 1) by decide +kernel) rfl) <|
  fa_cons (ok_cal ⟨rfl, rfl, rfl, rfl⟩ (ok_callV (show decode (am_mB y_Command_runOn) 48 = .ok (.invokevirtual 29, 3) by decide +kernel) cf_Command_putsAmount (by decide +kernel) ml_Command_29 ci_Command_putsAmount cv_Command_putsAmount ⟨by decide, rfl⟩ rfl ⟨by decide +kernel, rfl⟩ (Or.inl (by decide +kernel)))) <|
  fa_cons (ok_iret (show decode (am_mB y_Command_runOn) 51 = .ok (.ireturn, 1) by decide +kernel) rfl) <|
  fa_cons (ok_aload_n (show decode (am_mB y_Command_runOn) 52 = .ok (.aload_n 0, 1) by decide +kernel) rfl) <|
  fa_cons (ok_aload_n (show decode (am_mB y_Command_runOn) 53 = .ok (.aload_n 1, 1) by decide +kernel) rfl) <|
  fa_cons (ok_cal ⟨rfl, rfl, rfl, rfl⟩ (ok_callV (show decode (am_mB y_Command_runOn) 54 = .ok (.invokevirtual 32, 3) by decide +kernel) cf_Command_marksRow (by decide +kernel) ml_Command_32 ci_Command_marksRow cv_Command_marksRow ⟨by decide, rfl⟩ rfl ⟨by decide +kernel, rfl⟩ (Or.inl (by decide +kernel)))) <|
  fa_cons (ok_iret (show decode (am_mB y_Command_runOn) 57 = .ok (.ireturn, 1) by decide +kernel) rfl) <|
  fa_cons (ok_aload_n (show decode (am_mB y_Command_runOn) 58 = .ok (.aload_n 0, 1) by decide +kernel) rfl) <|
  fa_cons (ok_aload_n (show decode (am_mB y_Command_runOn) 59 = .ok (.aload_n 1, 1) by decide +kernel) rfl) <|
  fa_cons (ok_cal ⟨rfl, rfl, rfl, rfl⟩ (ok_callV (show decode (am_mB y_Command_runOn) 60 = .ok (.invokevirtual 35, 3) by decide +kernel) cf_Command_dropsRow (by decide +kernel) ml_Command_35 ci_Command_dropsRow cv_Command_dropsRow ⟨by decide, rfl⟩ rfl ⟨by decide +kernel, rfl⟩ (Or.inl (by decide +kernel)))) <|
  fa_cons (ok_iret (show decode (am_mB y_Command_runOn) 63 = .ok (.ireturn, 1) by decide +kernel) rfl) <|
  fa_cons (ok_aload_n (show decode (am_mB y_Command_runOn) 64 = .ok (.aload_n 0, 1) by decide +kernel) rfl) <|
  fa_cons (ok_aload_n (show decode (am_mB y_Command_runOn) 65 = .ok (.aload_n 1, 1) by decide +kernel) rfl) <|
  fa_cons (ok_cal ⟨rfl, rfl, rfl, rfl⟩ (ok_callV (show decode (am_mB y_Command_runOn) 66 = .ok (.invokevirtual 38, 3) by decide +kernel) cf_Command_putsHeight (by decide +kernel) ml_Command_38 ci_Command_putsHeight cv_Command_putsHeight ⟨by decide, rfl⟩ rfl ⟨by decide +kernel, rfl⟩ (Or.inl (by decide +kernel)))) <|
  fa_cons (ok_iret (show decode (am_mB y_Command_runOn) 69 = .ok (.ireturn, 1) by decide +kernel) rfl) <|
  fa_cons (ok_aload_n (show decode (am_mB y_Command_runOn) 70 = .ok (.aload_n 0, 1) by decide +kernel) rfl) <|
  fa_cons (ok_aload_n (show decode (am_mB y_Command_runOn) 71 = .ok (.aload_n 1, 1) by decide +kernel) rfl) <|
  fa_cons (ok_aload_n (show decode (am_mB y_Command_runOn) 72 = .ok (.aload_n 2, 1) by decide +kernel) rfl) <|
  fa_cons (ok_cal ⟨rfl, rfl, rfl, rfl⟩ (ok_callV (show decode (am_mB y_Command_runOn) 73 = .ok (.invokevirtual 41, 3) by decide +kernel) cf_Command_holds (by decide +kernel) ml_Command_41 ci_Command_holds cv_Command_holds ⟨by decide, rfl⟩ rfl ⟨by decide +kernel, rfl⟩ (Or.inl (by decide +kernel)))) <|
  fa_cons (ok_iret (show decode (am_mB y_Command_runOn) 76 = .ok (.ireturn, 1) by decide +kernel) rfl) <|
  fa_nil
set_option maxRecDepth 100000 in
theorem cq_Command_runOn (l : Launch) (d : Nat) : am_lk (co_Command_runOn l d) 0 = am_aload 0 1 ∧ am_lk (co_Command_runOn l d) 1 = am_getI 1 0 4 ∧ am_lk (co_Command_runOn l d) 4 = am_tsw 1 [40, 46, 52, 58, 64] 70 ∧ am_lk (co_Command_runOn l d) 40 = am_aload 0 41 ∧ am_lk (co_Command_runOn l d) 41 = am_aload 1 42 ∧ am_lk (co_Command_runOn l d) 42 = am_cal l d y_Command_addsRow (some 1) 2 45 0 0 0 0 ∧ am_lk (co_Command_runOn l d) 45 = am_iret true ∧ am_lk (co_Command_runOn l d) 46 = am_aload 0 47 ∧ am_lk (co_Command_runOn l d) 47 = am_aload 1 48 ∧ am_lk (co_Command_runOn l d) 48 = am_cal l d y_Command_putsAmount (some 1) 2 51 0 0 0 0 ∧ am_lk (co_Command_runOn l d) 51 = am_iret true ∧ am_lk (co_Command_runOn l d) 52 = am_aload 0 53 ∧ am_lk (co_Command_runOn l d) 53 = am_aload 1 54 ∧ am_lk (co_Command_runOn l d) 54 = am_cal l d y_Command_marksRow (some 1) 2 57 0 0 0 0 ∧ am_lk (co_Command_runOn l d) 57 = am_iret true ∧ am_lk (co_Command_runOn l d) 58 = am_aload 0 59 ∧ am_lk (co_Command_runOn l d) 59 = am_aload 1 60 ∧ am_lk (co_Command_runOn l d) 60 = am_cal l d y_Command_dropsRow (some 1) 2 63 0 0 0 0 ∧ am_lk (co_Command_runOn l d) 63 = am_iret true ∧ am_lk (co_Command_runOn l d) 64 = am_aload 0 65 ∧ am_lk (co_Command_runOn l d) 65 = am_aload 1 66 ∧ am_lk (co_Command_runOn l d) 66 = am_cal l d y_Command_putsHeight (some 1) 2 69 0 0 0 0 ∧ am_lk (co_Command_runOn l d) 69 = am_iret true ∧ am_lk (co_Command_runOn l d) 70 = am_aload 0 71 ∧ am_lk (co_Command_runOn l d) 71 = am_aload 1 72 ∧ am_lk (co_Command_runOn l d) 72 = am_aload 2 73 ∧ am_lk (co_Command_runOn l d) 73 = am_cal l d y_Command_holds (some 1) 3 76 0 0 0 0 ∧ am_lk (co_Command_runOn l d) 76 = am_iret true := ⟨rfl, rfl, rfl, rfl, rfl, rfl, rfl, rfl, rfl, rfl, rfl, rfl, rfl, rfl, rfl, rfl, rfl, rfl, rfl, rfl, rfl, rfl, rfl, rfl, rfl, rfl, rfl, rfl⟩
theorem en_Command_runOn {l : Launch} {d : Nat} (n : Nat) {as : List am_V} {G : am_G} {I : am_I} {J : am_J} {P : am_P} (hlen : (as.map am_cat).sum ≤ 3) (h : am_go (am_lk (co_Command_runOn l d)) (am_X l (0, fun _ => 0) (d + 1) y_Command_runOn P) P n 0 (am_el 3 as) [] 0 0 G I J) : am_T l (d + 1) y_Command_runOn as G I J P :=
  am_T_of (sc := (0, fun _ => 0)) cf_Command_runOn (by decide +kernel) (by decide) (by decide +kernel) hlen (am_run (ok_lk _ (ck_Command_runOn)) n _ _ _ _ _ _ _ _ h)
theorem rn_Command_runOn {l : Launch} {sc : Nat × (Nat → Int32)} {d : Nat} {P : am_P} (n : Nat) {pc : Nat} {ls : am_L} {st : List am_V} {kc ks : Nat} {G : am_G} {I : am_I} {J : am_J} (h : am_go (am_lk (co_Command_runOn l d)) (am_X l sc (d + 1) y_Command_runOn P) P n pc ls st kc ks G I J) : am_X l sc (d + 1) y_Command_runOn P pc ls st kc ks G I J := am_run (ok_lk _ (ck_Command_runOn)) n _ _ _ _ _ _ _ _ h
def co_Command_holds (l : Launch) (d : Nat) : List (Nat × am_S) := [(0, am_aload 2 1), (1, am_aload 1 2), (2, am_aload 1 3), (3, am_getI 7 3 6), (6, am_cal l d y_Layout_lay (some 4) 3 9 0 0 0 0), (9, am_aload 0 10), (10, am_getI 1 0 13), (13, am_tsw 6 [44, 83, 123, 170] 208), (44, am_aload 0 45), (45, am_getI 1 1 48), (48, am_if_ne 51 81), (51, am_aload 0 52), (52, am_getI 1 2 55), (55, am_if_ne 58 81), (58, am_aload 2 59), (59, am_getI 4 0 62), (62, am_push (vI 10) 64), (64, am_aload 0 65), (65, am_getI 1 3 68), (68, am_imul 69), (69, am_aload 0 70), (70, am_getI 1 4 73), (73, am_iadd 74), (74, am_icmp_gt 77 81), (77, am_push (vI 1) 78), (78, am_goto 82), (81, am_push (vI 0) 82), (82, am_iret true), (83, am_aload 2 84), (84, am_aload 0 85), (85, am_cal l d y_Command_firstPair (some 1) 1 88 0 0 0 0), (88, am_cal l d y_Layout_hasPage (some 4) 2 91 0 0 0 0), (91, am_if_eq 94 121), (94, am_aload 2 95), (95, am_aload 0 96), (96, am_cal l d y_Command_firstPair (some 1) 1 99 0 0 0 0), (99, am_cal l d y_Layout_lastOf (some 4) 2 102 0 0 0 0), (102, am_push (vI 10) 104), (104, am_aload 0 105), (105, am_getI 1 3 108), (108, am_imul 109), (109, am_aload 0 110), (110, am_getI 1 4 113), (113, am_iadd 114), (114, am_icmp_ne 117 121), (117, am_push (vI 1) 118), (118, am_goto 122), (121, am_push (vI 0) 122), (122, am_iret true), (123, am_aload 0 124), (124, am_getI 1 3 127), (127, am_if_ne 130 168), (130, am_aload 0 131), (131, am_getI 1 4 134), (134, am_if_ne 137 168), (137, am_aload 1 138), (138, am_aload 0 139), (139, am_getI 1 1 142), (142, am_cal l d y_Table_hasSpan (some 7) 2 145 0 0 0 0), (145, am_if_eq 148 168), (148, am_aload 2 149), (149, am_aload 1 150), (150, am_aload 0 151), (151, am_getI 1 1 154), (154, am_cal l d y_Layout_pagesOfSpan (some 4) 3 157 0 0 0 0), (157, am_aload 0 158), (158, am_getI 1 2 161), (161, am_icmp_ne 164 168), (164, am_push (vI 1) 165), (165, am_goto 169), (168, am_push (vI 0) 169), (169, am_iret true), (170, am_aload 0 171), (171, am_getI 1 1 174), (174, am_if_ne 177 206), (177, am_aload 0 178), (178, am_getI 1 2 181), (181, am_if_ne 184 206), (184, am_aload 0 185), (185, am_getI 1 3 188), (188, am_if_ne 191 206), (191, am_aload 2 192), (192, am_getI 4 1 195), (195, am_aload 0 196), (196, am_getI 1 4 199), (199, am_icmp_gt 202 206), (202, am_push (vI 1) 203), (203, am_goto 207), (206, am_push (vI 0) 207), (207, am_iret true), (208, am_push (vI 0) 209), (209, am_iret true)]
theorem ck_Command_holds {l : Launch} {sc : Nat × (Nat → Int32)} {d : Nat} : ∀ q ∈ co_Command_holds l d, am_ok l sc (d + 1) y_Command_holds q.1 q.2 :=
  fa_cons (ok_aload_n (show decode (am_mB y_Command_holds) 0 = .ok (.aload_n 2, 1) by decide +kernel) rfl) <|
  fa_cons (ok_aload_n (show decode (am_mB y_Command_holds) 1 = .ok (.aload_n 1, 1) by decide +kernel) rfl) <|
  fa_cons (ok_aload_n (show decode (am_mB y_Command_holds) 2 = .ok (.aload_n 1, 1) by decide +kernel) rfl) <|
  fa_cons (ok_getI (show decode (am_mB y_Command_holds) 3 = .ok (.getfield 45, 3) by decide +kernel) fl_Command_45 (by decide +kernel)) <|
  fa_cons (ok_cal ⟨rfl, rfl, rfl, rfl⟩ (ok_callV (show decode (am_mB y_Command_holds) 6 = .ok (.invokevirtual 50, 3) by decide +kernel) cf_Layout_lay (by decide +kernel) ml_Command_50 ci_Layout_lay cv_Layout_lay ⟨by decide, rfl⟩ rfl ⟨by decide +kernel, rfl⟩ (Or.inl (by decide +kernel)))) <|
  fa_cons (ok_aload_n (show decode (am_mB y_Command_holds) 9 = .ok (.aload_n 0, 1) by decide +kernel) rfl) <|
  fa_cons (ok_getI (show decode (am_mB y_Command_holds) 10 = .ok (.getfield 7, 3) by decide +kernel) fl_Command_7 (by decide +kernel)) <|
  fa_cons (ok_tsw (show decode (am_mB y_Command_holds) 13 = .ok (.tableswitch 195 6 9 #[31, 70, 110, 157], 31) by decide +kernel) (by decide) (by decide) (by decide)) <|
  fa_cons (ok_aload_n (show decode (am_mB y_Command_holds) 44 = .ok (.aload_n 0, 1) by decide +kernel) rfl) <|
  fa_cons (ok_getI (show decode (am_mB y_Command_holds) 45 = .ok (.getfield 13, 3) by decide +kernel) fl_Command_13 (by decide +kernel)) <|
  fa_cons (ok_if_ne (show decode (am_mB y_Command_holds) 48 = .ok (.ifCond .ne 33, 3) by decide +kernel) (by decide)) <|
  fa_cons (ok_aload_n (show decode (am_mB y_Command_holds) 51 = .ok (.aload_n 0, 1) by decide +kernel) rfl) <|
  fa_cons (ok_getI (show decode (am_mB y_Command_holds) 52 = .ok (.getfield 16, 3) by decide +kernel) fl_Command_16 (by decide +kernel)) <|
  fa_cons (ok_if_ne (show decode (am_mB y_Command_holds) 55 = .ok (.ifCond .ne 26, 3) by decide +kernel) (by decide)) <|
  fa_cons (ok_aload_n (show decode (am_mB y_Command_holds) 58 = .ok (.aload_n 2, 1) by decide +kernel) rfl) <|
  fa_cons (ok_getI (show decode (am_mB y_Command_holds) 59 = .ok (.getfield 56, 3) by decide +kernel) fl_Command_56 (by decide +kernel)) <|
  fa_cons (ok_bipush (show decode (am_mB y_Command_holds) 62 = .ok (.bipush 10, 2) by decide +kernel) (by decide +kernel)) <|
  fa_cons (ok_aload_n (show decode (am_mB y_Command_holds) 64 = .ok (.aload_n 0, 1) by decide +kernel) rfl) <|
  fa_cons (ok_getI (show decode (am_mB y_Command_holds) 65 = .ok (.getfield 19, 3) by decide +kernel) fl_Command_19 (by decide +kernel)) <|
  fa_cons (ok_imul (show decode (am_mB y_Command_holds) 68 = .ok (.imul, 1) by decide +kernel)) <|
  fa_cons (ok_aload_n (show decode (am_mB y_Command_holds) 69 = .ok (.aload_n 0, 1) by decide +kernel) rfl) <|
  fa_cons (ok_getI (show decode (am_mB y_Command_holds) 70 = .ok (.getfield 22, 3) by decide +kernel) fl_Command_22 (by decide +kernel)) <|
  fa_cons (ok_iadd (show decode (am_mB y_Command_holds) 73 = .ok (.iadd, 1) by decide +kernel)) <|
  fa_cons (ok_icmp_gt (show decode (am_mB y_Command_holds) 74 = .ok (.if_icmp .gt 7, 3) by decide +kernel) (by decide)) <|
  fa_cons (ok_iconst (show decode (am_mB y_Command_holds) 77 = .ok (.iconst 1, 1) by decide +kernel) rfl) <|
  fa_cons (ok_goto (show decode (am_mB y_Command_holds) 78 = .ok (.goto 4, 3) by decide +kernel) (by decide)) <|
  fa_cons (ok_iconst (show decode (am_mB y_Command_holds) 81 = .ok (.iconst 0, 1) by decide +kernel) rfl) <|
  fa_cons (ok_iret (show decode (am_mB y_Command_holds) 82 = .ok (.ireturn, 1) by decide +kernel) rfl) <|
  fa_cons (ok_aload_n (show decode (am_mB y_Command_holds) 83 = .ok (.aload_n 2, 1) by decide +kernel) rfl) <|
  fa_cons (ok_aload_n (show decode (am_mB y_Command_holds) 84 = .ok (.aload_n 0, 1) by decide +kernel) rfl) <|
  fa_cons (ok_cal ⟨rfl, rfl, rfl, rfl⟩ (ok_callV (show decode (am_mB y_Command_holds) 85 = .ok (.invokevirtual 59, 3) by decide +kernel) cf_Command_firstPair (by decide +kernel) ml_Command_59 ci_Command_firstPair cv_Command_firstPair ⟨by decide, rfl⟩ rfl ⟨by decide +kernel, rfl⟩ (Or.inl (by decide +kernel)))) <|
  fa_cons (ok_cal ⟨rfl, rfl, rfl, rfl⟩ (ok_callV (show decode (am_mB y_Command_holds) 88 = .ok (.invokevirtual 63, 3) by decide +kernel) cf_Layout_hasPage (by decide +kernel) ml_Command_63 ci_Layout_hasPage cv_Layout_hasPage ⟨by decide, rfl⟩ rfl ⟨by decide +kernel, rfl⟩ (Or.inl (by decide +kernel)))) <|
  fa_cons (ok_if_eq (show decode (am_mB y_Command_holds) 91 = .ok (.ifCond .eq 30, 3) by decide +kernel) (by decide)) <|
  fa_cons (ok_aload_n (show decode (am_mB y_Command_holds) 94 = .ok (.aload_n 2, 1) by decide +kernel) rfl) <|
  fa_cons (ok_aload_n (show decode (am_mB y_Command_holds) 95 = .ok (.aload_n 0, 1) by decide +kernel) rfl) <|
  fa_cons (ok_cal ⟨rfl, rfl, rfl, rfl⟩ (ok_callV (show decode (am_mB y_Command_holds) 96 = .ok (.invokevirtual 59, 3) by decide +kernel) cf_Command_firstPair (by decide +kernel) ml_Command_59 ci_Command_firstPair cv_Command_firstPair ⟨by decide, rfl⟩ rfl ⟨by decide +kernel, rfl⟩ (Or.inl (by decide +kernel)))) <|
  fa_cons (ok_cal ⟨rfl, rfl, rfl, rfl⟩ (ok_callV (show decode (am_mB y_Command_holds) 99 = .ok (.invokevirtual 67, 3) by decide +kernel) cf_Layout_lastOf (by decide +kernel) ml_Command_67 ci_Layout_lastOf cv_Layout_lastOf ⟨by decide, rfl⟩ rfl ⟨by decide +kernel, rfl⟩ (Or.inl (by decide +kernel)))) <|
  fa_cons (ok_bipush (show decode (am_mB y_Command_holds) 102 = .ok (.bipush 10, 2) by decide +kernel) (by decide +kernel)) <|
  fa_cons (ok_aload_n (show decode (am_mB y_Command_holds) 104 = .ok (.aload_n 0, 1) by decide +kernel) rfl) <|
  fa_cons (ok_getI (show decode (am_mB y_Command_holds) 105 = .ok (.getfield 19, 3) by decide +kernel) fl_Command_19 (by decide +kernel)) <|
  fa_cons (ok_imul (show decode (am_mB y_Command_holds) 108 = .ok (.imul, 1) by decide +kernel)) <|
  fa_cons (ok_aload_n (show decode (am_mB y_Command_holds) 109 = .ok (.aload_n 0, 1) by decide +kernel) rfl) <|
  fa_cons (ok_getI (show decode (am_mB y_Command_holds) 110 = .ok (.getfield 22, 3) by decide +kernel) fl_Command_22 (by decide +kernel)) <|
  fa_cons (ok_iadd (show decode (am_mB y_Command_holds) 113 = .ok (.iadd, 1) by decide +kernel)) <|
  fa_cons (ok_icmp_ne (show decode (am_mB y_Command_holds) 114 = .ok (.if_icmp .ne 7, 3) by decide +kernel) (by decide)) <|
  fa_cons (ok_iconst (show decode (am_mB y_Command_holds) 117 = .ok (.iconst 1, 1) by decide +kernel) rfl) <|
  fa_cons (ok_goto (show decode (am_mB y_Command_holds) 118 = .ok (.goto 4, 3) by decide +kernel) (by decide)) <|
  fa_cons (ok_iconst (show decode (am_mB y_Command_holds) 121 = .ok (.iconst 0, 1) by decide +kernel) rfl) <|
  fa_cons (ok_iret (show decode (am_mB y_Command_holds) 122 = .ok (.ireturn, 1) by decide +kernel) rfl) <|
  fa_cons (ok_aload_n (show decode (am_mB y_Command_holds) 123 = .ok (.aload_n 0, 1) by decide +kernel) rfl) <|
  fa_cons (ok_getI (show decode (am_mB y_Command_holds) 124 = .ok (.getfield 19, 3) by decide +kernel) fl_Command_19 (by decide +kernel)) <|
  fa_cons (ok_if_ne (show decode (am_mB y_Command_holds) 127 = .ok (.ifCond .ne 41, 3) by decide +kernel) (by decide)) <|
  fa_cons (ok_aload_n (show decode (am_mB y_Command_holds) 130 = .ok (.aload_n 0, 1) by decide +kernel) rfl) <|
  fa_cons (ok_getI (show decode (am_mB y_Command_holds) 131 = .ok (.getfield 22, 3) by decide +kernel) fl_Command_22 (by decide +kernel)) <|
  fa_cons (ok_if_ne (show decode (am_mB y_Command_holds) 134 = .ok (.ifCond .ne 34, 3) by decide +kernel) (by decide)) <|
  fa_cons (ok_aload_n (show decode (am_mB y_Command_holds) 137 = .ok (.aload_n 1, 1) by decide +kernel) rfl) <|
  fa_cons (ok_aload_n (show decode (am_mB y_Command_holds) 138 = .ok (.aload_n 0, 1) by decide +kernel) rfl) <|
  fa_cons (ok_getI (show decode (am_mB y_Command_holds) 139 = .ok (.getfield 13, 3) by decide +kernel) fl_Command_13 (by decide +kernel)) <|
  fa_cons (ok_cal ⟨rfl, rfl, rfl, rfl⟩ (ok_callV (show decode (am_mB y_Command_holds) 142 = .ok (.invokevirtual 71, 3) by decide +kernel) cf_Table_hasSpan (by decide +kernel) ml_Command_71 ci_Table_hasSpan cv_Table_hasSpan ⟨by decide, rfl⟩ rfl ⟨by decide +kernel, rfl⟩ (Or.inl (by decide +kernel)))) <|
  fa_cons (ok_if_eq (show decode (am_mB y_Command_holds) 145 = .ok (.ifCond .eq 23, 3) by decide +kernel) (by decide)) <|
  fa_cons (ok_aload_n (show decode (am_mB y_Command_holds) 148 = .ok (.aload_n 2, 1) by decide +kernel) rfl) <|
  fa_cons (ok_aload_n (show decode (am_mB y_Command_holds) 149 = .ok (.aload_n 1, 1) by decide +kernel) rfl) <|
  fa_cons (ok_aload_n (show decode (am_mB y_Command_holds) 150 = .ok (.aload_n 0, 1) by decide +kernel) rfl) <|
  fa_cons (ok_getI (show decode (am_mB y_Command_holds) 151 = .ok (.getfield 13, 3) by decide +kernel) fl_Command_13 (by decide +kernel)) <|
  fa_cons (ok_cal ⟨rfl, rfl, rfl, rfl⟩ (ok_callV (show decode (am_mB y_Command_holds) 154 = .ok (.invokevirtual 74, 3) by decide +kernel) cf_Layout_pagesOfSpan (by decide +kernel) ml_Command_74 ci_Layout_pagesOfSpan cv_Layout_pagesOfSpan ⟨by decide, rfl⟩ rfl ⟨by decide +kernel, rfl⟩ (Or.inl (by decide +kernel)))) <|
  fa_cons (ok_aload_n (show decode (am_mB y_Command_holds) 157 = .ok (.aload_n 0, 1) by decide +kernel) rfl) <|
  fa_cons (ok_getI (show decode (am_mB y_Command_holds) 158 = .ok (.getfield 16, 3) by decide +kernel) fl_Command_16 (by decide +kernel)) <|
  fa_cons (ok_icmp_ne (show decode (am_mB y_Command_holds) 161 = .ok (.if_icmp .ne 7, 3) by decide +kernel) (by decide)) <|
  fa_cons (ok_iconst (show decode (am_mB y_Command_holds) 164 = .ok (.iconst 1, 1) by decide +kernel) rfl) <|
  fa_cons (ok_goto (show decode (am_mB y_Command_holds) 165 = .ok (.goto 4, 3) by decide +kernel) (by decide)) <|
  fa_cons (ok_iconst (show decode (am_mB y_Command_holds) 168 = .ok (.iconst 0, 1) by decide +kernel) rfl) <|
  fa_cons (ok_iret (show decode (am_mB y_Command_holds) 169 = .ok (.ireturn, 1) by decide +kernel) rfl) <|
  fa_cons (ok_aload_n (show decode (am_mB y_Command_holds) 170 = .ok (.aload_n 0, 1) by decide +kernel) rfl) <|
  fa_cons (ok_getI (show decode (am_mB y_Command_holds) 171 = .ok (.getfield 13, 3) by decide +kernel) fl_Command_13 (by decide +kernel)) <|
  fa_cons (ok_if_ne (show decode (am_mB y_Command_holds) 174 = .ok (.ifCond .ne 32, 3) by decide +kernel) (by decide)) <|
  fa_cons (ok_aload_n (show decode (am_mB y_Command_holds) 177 = .ok (.aload_n 0, 1) by decide +kernel) rfl) <|
  fa_cons (ok_getI (show decode (am_mB y_Command_holds) 178 = .ok (.getfield 16, 3) by decide +kernel) fl_Command_16 (by decide +kernel)) <|
  fa_cons (ok_if_ne (show decode (am_mB y_Command_holds) 181 = .ok (.ifCond .ne 25, 3) by decide +kernel) (by decide)) <|
  fa_cons (ok_aload_n (show decode (am_mB y_Command_holds) 184 = .ok (.aload_n 0, 1) by decide +kernel) rfl) <|
  fa_cons (ok_getI (show decode (am_mB y_Command_holds) 185 = .ok (.getfield 19, 3) by decide +kernel) fl_Command_19 (by decide +kernel)) <|
  fa_cons (ok_if_ne (show decode (am_mB y_Command_holds) 188 = .ok (.ifCond .ne 18, 3) by decide +kernel) (by decide)) <|
  fa_cons (ok_aload_n (show decode (am_mB y_Command_holds) 191 = .ok (.aload_n 2, 1) by decide +kernel) rfl) <|
  fa_cons (ok_getI (show decode (am_mB y_Command_holds) 192 = .ok (.getfield 78, 3) by decide +kernel) fl_Command_78 (by decide +kernel)) <|
  fa_cons (ok_aload_n (show decode (am_mB y_Command_holds) 195 = .ok (.aload_n 0, 1) by decide +kernel) rfl) <|
  fa_cons (ok_getI (show decode (am_mB y_Command_holds) 196 = .ok (.getfield 22, 3) by decide +kernel) fl_Command_22 (by decide +kernel)) <|
  fa_cons (ok_icmp_gt (show decode (am_mB y_Command_holds) 199 = .ok (.if_icmp .gt 7, 3) by decide +kernel) (by decide)) <|
  fa_cons (ok_iconst (show decode (am_mB y_Command_holds) 202 = .ok (.iconst 1, 1) by decide +kernel) rfl) <|
  fa_cons (ok_goto (show decode (am_mB y_Command_holds) 203 = .ok (.goto 4, 3) by decide +kernel) (by decide)) <|
  fa_cons (ok_iconst (show decode (am_mB y_Command_holds) 206 = .ok (.iconst 0, 1) by decide +kernel) rfl) <|
  fa_cons (ok_iret (show decode (am_mB y_Command_holds) 207 = .ok (.ireturn, 1) by decide +kernel) rfl) <|
  fa_cons (ok_iconst (show decode (am_mB y_Command_holds) 208 = .ok (.iconst 0, 1) by decide +kernel) rfl) <|
  fa_cons (ok_iret (show decode (am_mB y_Command_holds) 209 = .ok (.ireturn, 1) by decide +kernel) rfl) <|
  fa_nil
set_option maxRecDepth 100000 in
theorem cq_Command_holds (l : Launch) (d : Nat) : am_lk (co_Command_holds l d) 0 = am_aload 2 1 ∧ am_lk (co_Command_holds l d) 1 = am_aload 1 2 ∧ am_lk (co_Command_holds l d) 2 = am_aload 1 3 ∧ am_lk (co_Command_holds l d) 3 = am_getI 7 3 6 ∧ am_lk (co_Command_holds l d) 6 = am_cal l d y_Layout_lay (some 4) 3 9 0 0 0 0 ∧ am_lk (co_Command_holds l d) 9 = am_aload 0 10 ∧ am_lk (co_Command_holds l d) 10 = am_getI 1 0 13 ∧ am_lk (co_Command_holds l d) 13 = am_tsw 6 [44, 83, 123, 170] 208 ∧ am_lk (co_Command_holds l d) 44 = am_aload 0 45 ∧ am_lk (co_Command_holds l d) 45 = am_getI 1 1 48 ∧ am_lk (co_Command_holds l d) 48 = am_if_ne 51 81 ∧ am_lk (co_Command_holds l d) 51 = am_aload 0 52 ∧ am_lk (co_Command_holds l d) 52 = am_getI 1 2 55 ∧ am_lk (co_Command_holds l d) 55 = am_if_ne 58 81 ∧ am_lk (co_Command_holds l d) 58 = am_aload 2 59 ∧ am_lk (co_Command_holds l d) 59 = am_getI 4 0 62 ∧ am_lk (co_Command_holds l d) 62 = am_push (vI 10) 64 ∧ am_lk (co_Command_holds l d) 64 = am_aload 0 65 ∧ am_lk (co_Command_holds l d) 65 = am_getI 1 3 68 ∧ am_lk (co_Command_holds l d) 68 = am_imul 69 ∧ am_lk (co_Command_holds l d) 69 = am_aload 0 70 ∧ am_lk (co_Command_holds l d) 70 = am_getI 1 4 73 ∧ am_lk (co_Command_holds l d) 73 = am_iadd 74 ∧ am_lk (co_Command_holds l d) 74 = am_icmp_gt 77 81 ∧ am_lk (co_Command_holds l d) 77 = am_push (vI 1) 78 ∧ am_lk (co_Command_holds l d) 78 = am_goto 82 ∧ am_lk (co_Command_holds l d) 81 = am_push (vI 0) 82 ∧ am_lk (co_Command_holds l d) 82 = am_iret true ∧ am_lk (co_Command_holds l d) 83 = am_aload 2 84 ∧ am_lk (co_Command_holds l d) 84 = am_aload 0 85 ∧ am_lk (co_Command_holds l d) 85 = am_cal l d y_Command_firstPair (some 1) 1 88 0 0 0 0 ∧ am_lk (co_Command_holds l d) 88 = am_cal l d y_Layout_hasPage (some 4) 2 91 0 0 0 0 ∧ am_lk (co_Command_holds l d) 91 = am_if_eq 94 121 ∧ am_lk (co_Command_holds l d) 94 = am_aload 2 95 ∧ am_lk (co_Command_holds l d) 95 = am_aload 0 96 ∧ am_lk (co_Command_holds l d) 96 = am_cal l d y_Command_firstPair (some 1) 1 99 0 0 0 0 ∧ am_lk (co_Command_holds l d) 99 = am_cal l d y_Layout_lastOf (some 4) 2 102 0 0 0 0 ∧ am_lk (co_Command_holds l d) 102 = am_push (vI 10) 104 ∧ am_lk (co_Command_holds l d) 104 = am_aload 0 105 ∧ am_lk (co_Command_holds l d) 105 = am_getI 1 3 108 ∧ am_lk (co_Command_holds l d) 108 = am_imul 109 ∧ am_lk (co_Command_holds l d) 109 = am_aload 0 110 ∧ am_lk (co_Command_holds l d) 110 = am_getI 1 4 113 ∧ am_lk (co_Command_holds l d) 113 = am_iadd 114 ∧ am_lk (co_Command_holds l d) 114 = am_icmp_ne 117 121 ∧ am_lk (co_Command_holds l d) 117 = am_push (vI 1) 118 ∧ am_lk (co_Command_holds l d) 118 = am_goto 122 ∧ am_lk (co_Command_holds l d) 121 = am_push (vI 0) 122 ∧ am_lk (co_Command_holds l d) 122 = am_iret true ∧ am_lk (co_Command_holds l d) 123 = am_aload 0 124 ∧ am_lk (co_Command_holds l d) 124 = am_getI 1 3 127 ∧ am_lk (co_Command_holds l d) 127 = am_if_ne 130 168 ∧ am_lk (co_Command_holds l d) 130 = am_aload 0 131 ∧ am_lk (co_Command_holds l d) 131 = am_getI 1 4 134 ∧ am_lk (co_Command_holds l d) 134 = am_if_ne 137 168 ∧ am_lk (co_Command_holds l d) 137 = am_aload 1 138 ∧ am_lk (co_Command_holds l d) 138 = am_aload 0 139 ∧ am_lk (co_Command_holds l d) 139 = am_getI 1 1 142 ∧ am_lk (co_Command_holds l d) 142 = am_cal l d y_Table_hasSpan (some 7) 2 145 0 0 0 0 ∧ am_lk (co_Command_holds l d) 145 = am_if_eq 148 168 ∧ am_lk (co_Command_holds l d) 148 = am_aload 2 149 ∧ am_lk (co_Command_holds l d) 149 = am_aload 1 150 ∧ am_lk (co_Command_holds l d) 150 = am_aload 0 151 ∧ am_lk (co_Command_holds l d) 151 = am_getI 1 1 154 ∧ am_lk (co_Command_holds l d) 154 = am_cal l d y_Layout_pagesOfSpan (some 4) 3 157 0 0 0 0 ∧ am_lk (co_Command_holds l d) 157 = am_aload 0 158 ∧ am_lk (co_Command_holds l d) 158 = am_getI 1 2 161 ∧ am_lk (co_Command_holds l d) 161 = am_icmp_ne 164 168 ∧ am_lk (co_Command_holds l d) 164 = am_push (vI 1) 165 ∧ am_lk (co_Command_holds l d) 165 = am_goto 169 ∧ am_lk (co_Command_holds l d) 168 = am_push (vI 0) 169 ∧ am_lk (co_Command_holds l d) 169 = am_iret true ∧ am_lk (co_Command_holds l d) 170 = am_aload 0 171 ∧ am_lk (co_Command_holds l d) 171 = am_getI 1 1 174 ∧ am_lk (co_Command_holds l d) 174 = am_if_ne 177 206 ∧ am_lk (co_Command_holds l d) 177 = am_aload 0 178 ∧ am_lk (co_Command_holds l d) 178 = am_getI 1 2 181 ∧ am_lk (co_Command_holds l d) 181 = am_if_ne 184 206 ∧ am_lk (co_Command_holds l d) 184 = am_aload 0 185 ∧ am_lk (co_Command_holds l d) 185 = am_getI 1 3 188 ∧ am_lk (co_Command_holds l d) 188 = am_if_ne 191 206 ∧ am_lk (co_Command_holds l d) 191 = am_aload 2 192 ∧ am_lk (co_Command_holds l d) 192 = am_getI 4 1 195 ∧ am_lk (co_Command_holds l d) 195 = am_aload 0 196 ∧ am_lk (co_Command_holds l d) 196 = am_getI 1 4 199 ∧ am_lk (co_Command_holds l d) 199 = am_icmp_gt 202 206 ∧ am_lk (co_Command_holds l d) 202 = am_push (vI 1) 203 ∧ am_lk (co_Command_holds l d) 203 = am_goto 207 ∧ am_lk (co_Command_holds l d) 206 = am_push (vI 0) 207 ∧ am_lk (co_Command_holds l d) 207 = am_iret true ∧ am_lk (co_Command_holds l d) 208 = am_push (vI 0) 209 ∧ am_lk (co_Command_holds l d) 209 = am_iret true := ⟨rfl, rfl, rfl, rfl, rfl, rfl, rfl, rfl, rfl, rfl, rfl, rfl, rfl, rfl, rfl, rfl, rfl, rfl, rfl, rfl, rfl, rfl, rfl, rfl, rfl, rfl, rfl, rfl, rfl, rfl, rfl, rfl, rfl, rfl, rfl, rfl, rfl, rfl, rfl, rfl, rfl, rfl, rfl, rfl, rfl, rfl, rfl, rfl, rfl, rfl, rfl, rfl, rfl, rfl, rfl, rfl, rfl, rfl, rfl, rfl, rfl, rfl, rfl, rfl, rfl, rfl, rfl, rfl, rfl, rfl, rfl, rfl, rfl, rfl, rfl, rfl, rfl, rfl, rfl, rfl, rfl, rfl, rfl, rfl, rfl, rfl, rfl, rfl, rfl, rfl, rfl, rfl⟩
theorem en_Command_holds {l : Launch} {d : Nat} (n : Nat) {as : List am_V} {G : am_G} {I : am_I} {J : am_J} {P : am_P} (hlen : (as.map am_cat).sum ≤ 3) (h : am_go (am_lk (co_Command_holds l d)) (am_X l (0, fun _ => 0) (d + 1) y_Command_holds P) P n 0 (am_el 3 as) [] 0 0 G I J) : am_T l (d + 1) y_Command_holds as G I J P :=
  am_T_of (sc := (0, fun _ => 0)) cf_Command_holds (by decide +kernel) (by decide) (by decide +kernel) hlen (am_run (ok_lk _ (ck_Command_holds)) n _ _ _ _ _ _ _ _ h)
theorem rn_Command_holds {l : Launch} {sc : Nat × (Nat → Int32)} {d : Nat} {P : am_P} (n : Nat) {pc : Nat} {ls : am_L} {st : List am_V} {kc ks : Nat} {G : am_G} {I : am_I} {J : am_J} (h : am_go (am_lk (co_Command_holds l d)) (am_X l sc (d + 1) y_Command_holds P) P n pc ls st kc ks G I J) : am_X l sc (d + 1) y_Command_holds P pc ls st kc ks G I J := am_run (ok_lk _ (ck_Command_holds)) n _ _ _ _ _ _ _ _ h
def co_Command_firstPair (l : Launch) (d : Nat) : List (Nat × am_S) := [(0, am_push (vI 10) 2), (2, am_aload 0 3), (3, am_getI 1 1 6), (6, am_imul 7), (7, am_aload 0 8), (8, am_getI 1 2 11), (11, am_iadd 12), (12, am_iret false)]
theorem ck_Command_firstPair {l : Launch} {sc : Nat × (Nat → Int32)} {d : Nat} : ∀ q ∈ co_Command_firstPair l d, am_ok l sc (d + 1) y_Command_firstPair q.1 q.2 :=
  fa_cons (ok_bipush (show decode (am_mB y_Command_firstPair) 0 = .ok (.bipush 10, 2) by decide +kernel) (by decide +kernel)) <|
  fa_cons (ok_aload_n (show decode (am_mB y_Command_firstPair) 2 = .ok (.aload_n 0, 1) by decide +kernel) rfl) <|
  fa_cons (ok_getI (show decode (am_mB y_Command_firstPair) 3 = .ok (.getfield 13, 3) by decide +kernel) fl_Command_13 (by decide +kernel)) <|
  fa_cons (ok_imul (show decode (am_mB y_Command_firstPair) 6 = .ok (.imul, 1) by decide +kernel)) <|
  fa_cons (ok_aload_n (show decode (am_mB y_Command_firstPair) 7 = .ok (.aload_n 0, 1) by decide +kernel) rfl) <|
  fa_cons (ok_getI (show decode (am_mB y_Command_firstPair) 8 = .ok (.getfield 16, 3) by decide +kernel) fl_Command_16 (by decide +kernel)) <|
  fa_cons (ok_iadd (show decode (am_mB y_Command_firstPair) 11 = .ok (.iadd, 1) by decide +kernel)) <|
  fa_cons (ok_iret (show decode (am_mB y_Command_firstPair) 12 = .ok (.ireturn, 1) by decide +kernel) rfl) <|
  fa_nil
set_option maxRecDepth 100000 in
theorem cq_Command_firstPair (l : Launch) (d : Nat) : am_lk (co_Command_firstPair l d) 0 = am_push (vI 10) 2 ∧ am_lk (co_Command_firstPair l d) 2 = am_aload 0 3 ∧ am_lk (co_Command_firstPair l d) 3 = am_getI 1 1 6 ∧ am_lk (co_Command_firstPair l d) 6 = am_imul 7 ∧ am_lk (co_Command_firstPair l d) 7 = am_aload 0 8 ∧ am_lk (co_Command_firstPair l d) 8 = am_getI 1 2 11 ∧ am_lk (co_Command_firstPair l d) 11 = am_iadd 12 ∧ am_lk (co_Command_firstPair l d) 12 = am_iret false := ⟨rfl, rfl, rfl, rfl, rfl, rfl, rfl, rfl⟩
theorem en_Command_firstPair {l : Launch} {d : Nat} (n : Nat) {as : List am_V} {G : am_G} {I : am_I} {J : am_J} {P : am_P} (hlen : (as.map am_cat).sum ≤ 1) (h : am_go (am_lk (co_Command_firstPair l d)) (am_X l (0, fun _ => 0) (d + 1) y_Command_firstPair P) P n 0 (am_el 1 as) [] 0 0 G I J) : am_T l (d + 1) y_Command_firstPair as G I J P :=
  am_T_of (sc := (0, fun _ => 0)) cf_Command_firstPair (by decide +kernel) (by decide) (by decide +kernel) hlen (am_run (ok_lk _ (ck_Command_firstPair)) n _ _ _ _ _ _ _ _ h)
theorem rn_Command_firstPair {l : Launch} {sc : Nat × (Nat → Int32)} {d : Nat} {P : am_P} (n : Nat) {pc : Nat} {ls : am_L} {st : List am_V} {kc ks : Nat} {G : am_G} {I : am_I} {J : am_J} (h : am_go (am_lk (co_Command_firstPair l d)) (am_X l sc (d + 1) y_Command_firstPair P) P n pc ls st kc ks G I J) : am_X l sc (d + 1) y_Command_firstPair P pc ls st kc ks G I J := am_run (ok_lk _ (ck_Command_firstPair)) n _ _ _ _ _ _ _ _ h
def co_Command_addsRow (l : Launch) (d : Nat) : List (Nat × am_S) := [(0, am_aload 0 1), (1, am_getI 1 3 4), (4, am_if_ne 7 35), (7, am_aload 0 8), (8, am_getI 1 4 11), (11, am_if_ne 14 35), (14, am_aload 0 15), (15, am_getI 1 1 18), (18, am_aload 0 19), (19, am_getI 1 2 22), (22, am_cal l d y_Table_allowsRow none 2 25 0 0 0 0), (25, am_if_eq 28 35), (28, am_aload 1 29), (29, am_cal l d y_Table_isFull (some 7) 1 32 0 0 0 0), (32, am_if_eq 35 37), (35, am_push (vI 0) 36), (36, am_iret true), (37, am_aload 1 38), (38, am_aload 0 39), (39, am_getI 1 1 42), (42, am_aload 0 43), (43, am_getI 1 2 46), (46, am_cal l d y_Table_putRow (some 7) 3 49 0 0 0 0), (49, am_push (vI 1) 50), (50, am_iret true)]
theorem ck_Command_addsRow {l : Launch} {sc : Nat × (Nat → Int32)} {d : Nat} : ∀ q ∈ co_Command_addsRow l d, am_ok l sc (d + 1) y_Command_addsRow q.1 q.2 :=
  fa_cons (ok_aload_n (show decode (am_mB y_Command_addsRow) 0 = .ok (.aload_n 0, 1) by decide +kernel) rfl) <|
  fa_cons (ok_getI (show decode (am_mB y_Command_addsRow) 1 = .ok (.getfield 19, 3) by decide +kernel) fl_Command_19 (by decide +kernel)) <|
  fa_cons (ok_if_ne (show decode (am_mB y_Command_addsRow) 4 = .ok (.ifCond .ne 31, 3) by decide +kernel) (by decide)) <|
  fa_cons (ok_aload_n (show decode (am_mB y_Command_addsRow) 7 = .ok (.aload_n 0, 1) by decide +kernel) rfl) <|
  fa_cons (ok_getI (show decode (am_mB y_Command_addsRow) 8 = .ok (.getfield 22, 3) by decide +kernel) fl_Command_22 (by decide +kernel)) <|
  fa_cons (ok_if_ne (show decode (am_mB y_Command_addsRow) 11 = .ok (.ifCond .ne 24, 3) by decide +kernel) (by decide)) <|
  fa_cons (ok_aload_n (show decode (am_mB y_Command_addsRow) 14 = .ok (.aload_n 0, 1) by decide +kernel) rfl) <|
  fa_cons (ok_getI (show decode (am_mB y_Command_addsRow) 15 = .ok (.getfield 13, 3) by decide +kernel) fl_Command_13 (by decide +kernel)) <|
  fa_cons (ok_aload_n (show decode (am_mB y_Command_addsRow) 18 = .ok (.aload_n 0, 1) by decide +kernel) rfl) <|
  fa_cons (ok_getI (show decode (am_mB y_Command_addsRow) 19 = .ok (.getfield 16, 3) by decide +kernel) fl_Command_16 (by decide +kernel)) <|
  fa_cons (ok_cal ⟨rfl, rfl, rfl, rfl⟩ (ok_callS (show decode (am_mB y_Command_addsRow) 22 = .ok (.invokestatic 81, 3) by decide +kernel) cf_Table_allowsRow (by decide +kernel) ml_Command_81 cs_Table_allowsRow rfl ⟨by decide +kernel, rfl⟩ (Or.inl (by decide +kernel)))) <|
  fa_cons (ok_if_eq (show decode (am_mB y_Command_addsRow) 25 = .ok (.ifCond .eq 10, 3) by decide +kernel) (by decide)) <|
  fa_cons (ok_aload_n (show decode (am_mB y_Command_addsRow) 28 = .ok (.aload_n 1, 1) by decide +kernel) rfl) <|
  fa_cons (ok_cal ⟨rfl, rfl, rfl, rfl⟩ (ok_callV (show decode (am_mB y_Command_addsRow) 29 = .ok (.invokevirtual 85, 3) by decide +kernel) cf_Table_isFull (by decide +kernel) ml_Command_85 ci_Table_isFull cv_Table_isFull ⟨by decide, rfl⟩ rfl ⟨by decide +kernel, rfl⟩ (Or.inl (by decide +kernel)))) <|
  fa_cons (ok_if_eq (show decode (am_mB y_Command_addsRow) 32 = .ok (.ifCond .eq 5, 3) by decide +kernel) (by decide)) <|
  fa_cons (ok_iconst (show decode (am_mB y_Command_addsRow) 35 = .ok (.iconst 0, 1) by decide +kernel) rfl) <|
  fa_cons (ok_iret (show decode (am_mB y_Command_addsRow) 36 = .ok (.ireturn, 1) by decide +kernel) rfl) <|
  fa_cons (ok_aload_n (show decode (am_mB y_Command_addsRow) 37 = .ok (.aload_n 1, 1) by decide +kernel) rfl) <|
  fa_cons (ok_aload_n (show decode (am_mB y_Command_addsRow) 38 = .ok (.aload_n 0, 1) by decide +kernel) rfl) <|
  fa_cons (ok_getI (show decode (am_mB y_Command_addsRow) 39 = .ok (.getfield 13, 3) by decide +kernel) fl_Command_13 (by decide +kernel)) <|
  fa_cons (ok_aload_n (show decode (am_mB y_Command_addsRow) 42 = .ok (.aload_n 0, 1) by decide +kernel) rfl) <|
  fa_cons (ok_getI (show decode (am_mB y_Command_addsRow) 43 = .ok (.getfield 16, 3) by decide +kernel) fl_Command_16 (by decide +kernel)) <|
  fa_cons (ok_cal ⟨rfl, rfl, rfl, rfl⟩ (ok_callV (show decode (am_mB y_Command_addsRow) 46 = .ok (.invokevirtual 89, 3) by decide +kernel) cf_Table_putRow (by decide +kernel) ml_Command_89 ci_Table_putRow cv_Table_putRow ⟨by decide, rfl⟩ rfl ⟨by decide +kernel, rfl⟩ (Or.inl (by decide +kernel)))) <|
  fa_cons (ok_iconst (show decode (am_mB y_Command_addsRow) 49 = .ok (.iconst 1, 1) by decide +kernel) rfl) <|
  fa_cons (ok_iret (show decode (am_mB y_Command_addsRow) 50 = .ok (.ireturn, 1) by decide +kernel) rfl) <|
  fa_nil
set_option maxRecDepth 100000 in
theorem cq_Command_addsRow (l : Launch) (d : Nat) : am_lk (co_Command_addsRow l d) 0 = am_aload 0 1 ∧ am_lk (co_Command_addsRow l d) 1 = am_getI 1 3 4 ∧ am_lk (co_Command_addsRow l d) 4 = am_if_ne 7 35 ∧ am_lk (co_Command_addsRow l d) 7 = am_aload 0 8 ∧ am_lk (co_Command_addsRow l d) 8 = am_getI 1 4 11 ∧ am_lk (co_Command_addsRow l d) 11 = am_if_ne 14 35 ∧ am_lk (co_Command_addsRow l d) 14 = am_aload 0 15 ∧ am_lk (co_Command_addsRow l d) 15 = am_getI 1 1 18 ∧ am_lk (co_Command_addsRow l d) 18 = am_aload 0 19 ∧ am_lk (co_Command_addsRow l d) 19 = am_getI 1 2 22 ∧ am_lk (co_Command_addsRow l d) 22 = am_cal l d y_Table_allowsRow none 2 25 0 0 0 0 ∧ am_lk (co_Command_addsRow l d) 25 = am_if_eq 28 35 ∧ am_lk (co_Command_addsRow l d) 28 = am_aload 1 29 ∧ am_lk (co_Command_addsRow l d) 29 = am_cal l d y_Table_isFull (some 7) 1 32 0 0 0 0 ∧ am_lk (co_Command_addsRow l d) 32 = am_if_eq 35 37 ∧ am_lk (co_Command_addsRow l d) 35 = am_push (vI 0) 36 ∧ am_lk (co_Command_addsRow l d) 36 = am_iret true ∧ am_lk (co_Command_addsRow l d) 37 = am_aload 1 38 ∧ am_lk (co_Command_addsRow l d) 38 = am_aload 0 39 ∧ am_lk (co_Command_addsRow l d) 39 = am_getI 1 1 42 ∧ am_lk (co_Command_addsRow l d) 42 = am_aload 0 43 ∧ am_lk (co_Command_addsRow l d) 43 = am_getI 1 2 46 ∧ am_lk (co_Command_addsRow l d) 46 = am_cal l d y_Table_putRow (some 7) 3 49 0 0 0 0 ∧ am_lk (co_Command_addsRow l d) 49 = am_push (vI 1) 50 ∧ am_lk (co_Command_addsRow l d) 50 = am_iret true := ⟨rfl, rfl, rfl, rfl, rfl, rfl, rfl, rfl, rfl, rfl, rfl, rfl, rfl, rfl, rfl, rfl, rfl, rfl, rfl, rfl, rfl, rfl, rfl, rfl, rfl⟩
theorem en_Command_addsRow {l : Launch} {d : Nat} (n : Nat) {as : List am_V} {G : am_G} {I : am_I} {J : am_J} {P : am_P} (hlen : (as.map am_cat).sum ≤ 2) (h : am_go (am_lk (co_Command_addsRow l d)) (am_X l (0, fun _ => 0) (d + 1) y_Command_addsRow P) P n 0 (am_el 2 as) [] 0 0 G I J) : am_T l (d + 1) y_Command_addsRow as G I J P :=
  am_T_of (sc := (0, fun _ => 0)) cf_Command_addsRow (by decide +kernel) (by decide) (by decide +kernel) hlen (am_run (ok_lk _ (ck_Command_addsRow)) n _ _ _ _ _ _ _ _ h)
theorem rn_Command_addsRow {l : Launch} {sc : Nat × (Nat → Int32)} {d : Nat} {P : am_P} (n : Nat) {pc : Nat} {ls : am_L} {st : List am_V} {kc ks : Nat} {G : am_G} {I : am_I} {J : am_J} (h : am_go (am_lk (co_Command_addsRow l d)) (am_X l sc (d + 1) y_Command_addsRow P) P n pc ls st kc ks G I J) : am_X l sc (d + 1) y_Command_addsRow P pc ls st kc ks G I J := am_run (ok_lk _ (ck_Command_addsRow)) n _ _ _ _ _ _ _ _ h
def co_Command_putsAmount (l : Launch) (d : Nat) : List (Nat × am_S) := [(0, am_aload 1 1), (1, am_aload 0 2), (2, am_cal l d y_Command_firstPair (some 1) 1 5 0 0 0 0), (5, am_cal l d y_Table_hasRow (some 7) 2 8 0 0 0 0), (8, am_if_eq 11 22), (11, am_aload 1 12), (12, am_aload 0 13), (13, am_getI 1 3 16), (16, am_cal l d y_Table_hasColumn (some 7) 2 19 0 0 0 0), (19, am_if_ne 22 24), (22, am_push (vI 0) 23), (23, am_iret true), (24, am_aload 1 25), (25, am_aload 0 26), (26, am_cal l d y_Command_firstPair (some 1) 1 29 0 0 0 0), (29, am_aload 0 30), (30, am_getI 1 3 33), (33, am_aload 0 34), (34, am_getI 1 4 37), (37, am_cal l d y_Table_putAmount (some 7) 4 40 0 0 0 0), (40, am_push (vI 1) 41), (41, am_iret true)]
theorem ck_Command_putsAmount {l : Launch} {sc : Nat × (Nat → Int32)} {d : Nat} : ∀ q ∈ co_Command_putsAmount l d, am_ok l sc (d + 1) y_Command_putsAmount q.1 q.2 :=
  fa_cons (ok_aload_n (show decode (am_mB y_Command_putsAmount) 0 = .ok (.aload_n 1, 1) by decide +kernel) rfl) <|
  fa_cons (ok_aload_n (show decode (am_mB y_Command_putsAmount) 1 = .ok (.aload_n 0, 1) by decide +kernel) rfl) <|
  fa_cons (ok_cal ⟨rfl, rfl, rfl, rfl⟩ (ok_callV (show decode (am_mB y_Command_putsAmount) 2 = .ok (.invokevirtual 59, 3) by decide +kernel) cf_Command_firstPair (by decide +kernel) ml_Command_59 ci_Command_firstPair cv_Command_firstPair ⟨by decide, rfl⟩ rfl ⟨by decide +kernel, rfl⟩ (Or.inl (by decide +kernel)))) <|
  fa_cons (ok_cal ⟨rfl, rfl, rfl, rfl⟩ (ok_callV (show decode (am_mB y_Command_putsAmount) 5 = .ok (.invokevirtual 93, 3) by decide +kernel) cf_Table_hasRow (by decide +kernel) ml_Command_93 ci_Table_hasRow cv_Table_hasRow ⟨by decide, rfl⟩ rfl ⟨by decide +kernel, rfl⟩ (Or.inl (by decide +kernel)))) <|
  fa_cons (ok_if_eq (show decode (am_mB y_Command_putsAmount) 8 = .ok (.ifCond .eq 14, 3) by decide +kernel) (by decide)) <|
  fa_cons (ok_aload_n (show decode (am_mB y_Command_putsAmount) 11 = .ok (.aload_n 1, 1) by decide +kernel) rfl) <|
  fa_cons (ok_aload_n (show decode (am_mB y_Command_putsAmount) 12 = .ok (.aload_n 0, 1) by decide +kernel) rfl) <|
  fa_cons (ok_getI (show decode (am_mB y_Command_putsAmount) 13 = .ok (.getfield 19, 3) by decide +kernel) fl_Command_19 (by decide +kernel)) <|
  fa_cons (ok_cal ⟨rfl, rfl, rfl, rfl⟩ (ok_callV (show decode (am_mB y_Command_putsAmount) 16 = .ok (.invokevirtual 96, 3) by decide +kernel) cf_Table_hasColumn (by decide +kernel) ml_Command_96 ci_Table_hasColumn cv_Table_hasColumn ⟨by decide, rfl⟩ rfl ⟨by decide +kernel, rfl⟩ (Or.inl (by decide +kernel)))) <|
  fa_cons (ok_if_ne (show decode (am_mB y_Command_putsAmount) 19 = .ok (.ifCond .ne 5, 3) by decide +kernel) (by decide)) <|
  fa_cons (ok_iconst (show decode (am_mB y_Command_putsAmount) 22 = .ok (.iconst 0, 1) by decide +kernel) rfl) <|
  fa_cons (ok_iret (show decode (am_mB y_Command_putsAmount) 23 = .ok (.ireturn, 1) by decide +kernel) rfl) <|
  fa_cons (ok_aload_n (show decode (am_mB y_Command_putsAmount) 24 = .ok (.aload_n 1, 1) by decide +kernel) rfl) <|
  fa_cons (ok_aload_n (show decode (am_mB y_Command_putsAmount) 25 = .ok (.aload_n 0, 1) by decide +kernel) rfl) <|
  fa_cons (ok_cal ⟨rfl, rfl, rfl, rfl⟩ (ok_callV (show decode (am_mB y_Command_putsAmount) 26 = .ok (.invokevirtual 59, 3) by decide +kernel) cf_Command_firstPair (by decide +kernel) ml_Command_59 ci_Command_firstPair cv_Command_firstPair ⟨by decide, rfl⟩ rfl ⟨by decide +kernel, rfl⟩ (Or.inl (by decide +kernel)))) <|
  fa_cons (ok_aload_n (show decode (am_mB y_Command_putsAmount) 29 = .ok (.aload_n 0, 1) by decide +kernel) rfl) <|
  fa_cons (ok_getI (show decode (am_mB y_Command_putsAmount) 30 = .ok (.getfield 19, 3) by decide +kernel) fl_Command_19 (by decide +kernel)) <|
  fa_cons (ok_aload_n (show decode (am_mB y_Command_putsAmount) 33 = .ok (.aload_n 0, 1) by decide +kernel) rfl) <|
  fa_cons (ok_getI (show decode (am_mB y_Command_putsAmount) 34 = .ok (.getfield 22, 3) by decide +kernel) fl_Command_22 (by decide +kernel)) <|
  fa_cons (ok_cal ⟨rfl, rfl, rfl, rfl⟩ (ok_callV (show decode (am_mB y_Command_putsAmount) 37 = .ok (.invokevirtual 99, 3) by decide +kernel) cf_Table_putAmount (by decide +kernel) ml_Command_99 ci_Table_putAmount cv_Table_putAmount ⟨by decide, rfl⟩ rfl ⟨by decide +kernel, rfl⟩ (Or.inl (by decide +kernel)))) <|
  fa_cons (ok_iconst (show decode (am_mB y_Command_putsAmount) 40 = .ok (.iconst 1, 1) by decide +kernel) rfl) <|
  fa_cons (ok_iret (show decode (am_mB y_Command_putsAmount) 41 = .ok (.ireturn, 1) by decide +kernel) rfl) <|
  fa_nil
set_option maxRecDepth 100000 in
theorem cq_Command_putsAmount (l : Launch) (d : Nat) : am_lk (co_Command_putsAmount l d) 0 = am_aload 1 1 ∧ am_lk (co_Command_putsAmount l d) 1 = am_aload 0 2 ∧ am_lk (co_Command_putsAmount l d) 2 = am_cal l d y_Command_firstPair (some 1) 1 5 0 0 0 0 ∧ am_lk (co_Command_putsAmount l d) 5 = am_cal l d y_Table_hasRow (some 7) 2 8 0 0 0 0 ∧ am_lk (co_Command_putsAmount l d) 8 = am_if_eq 11 22 ∧ am_lk (co_Command_putsAmount l d) 11 = am_aload 1 12 ∧ am_lk (co_Command_putsAmount l d) 12 = am_aload 0 13 ∧ am_lk (co_Command_putsAmount l d) 13 = am_getI 1 3 16 ∧ am_lk (co_Command_putsAmount l d) 16 = am_cal l d y_Table_hasColumn (some 7) 2 19 0 0 0 0 ∧ am_lk (co_Command_putsAmount l d) 19 = am_if_ne 22 24 ∧ am_lk (co_Command_putsAmount l d) 22 = am_push (vI 0) 23 ∧ am_lk (co_Command_putsAmount l d) 23 = am_iret true ∧ am_lk (co_Command_putsAmount l d) 24 = am_aload 1 25 ∧ am_lk (co_Command_putsAmount l d) 25 = am_aload 0 26 ∧ am_lk (co_Command_putsAmount l d) 26 = am_cal l d y_Command_firstPair (some 1) 1 29 0 0 0 0 ∧ am_lk (co_Command_putsAmount l d) 29 = am_aload 0 30 ∧ am_lk (co_Command_putsAmount l d) 30 = am_getI 1 3 33 ∧ am_lk (co_Command_putsAmount l d) 33 = am_aload 0 34 ∧ am_lk (co_Command_putsAmount l d) 34 = am_getI 1 4 37 ∧ am_lk (co_Command_putsAmount l d) 37 = am_cal l d y_Table_putAmount (some 7) 4 40 0 0 0 0 ∧ am_lk (co_Command_putsAmount l d) 40 = am_push (vI 1) 41 ∧ am_lk (co_Command_putsAmount l d) 41 = am_iret true := ⟨rfl, rfl, rfl, rfl, rfl, rfl, rfl, rfl, rfl, rfl, rfl, rfl, rfl, rfl, rfl, rfl, rfl, rfl, rfl, rfl, rfl, rfl⟩
theorem en_Command_putsAmount {l : Launch} {d : Nat} (n : Nat) {as : List am_V} {G : am_G} {I : am_I} {J : am_J} {P : am_P} (hlen : (as.map am_cat).sum ≤ 2) (h : am_go (am_lk (co_Command_putsAmount l d)) (am_X l (0, fun _ => 0) (d + 1) y_Command_putsAmount P) P n 0 (am_el 2 as) [] 0 0 G I J) : am_T l (d + 1) y_Command_putsAmount as G I J P :=
  am_T_of (sc := (0, fun _ => 0)) cf_Command_putsAmount (by decide +kernel) (by decide) (by decide +kernel) hlen (am_run (ok_lk _ (ck_Command_putsAmount)) n _ _ _ _ _ _ _ _ h)
theorem rn_Command_putsAmount {l : Launch} {sc : Nat × (Nat → Int32)} {d : Nat} {P : am_P} (n : Nat) {pc : Nat} {ls : am_L} {st : List am_V} {kc ks : Nat} {G : am_G} {I : am_I} {J : am_J} (h : am_go (am_lk (co_Command_putsAmount l d)) (am_X l sc (d + 1) y_Command_putsAmount P) P n pc ls st kc ks G I J) : am_X l sc (d + 1) y_Command_putsAmount P pc ls st kc ks G I J := am_run (ok_lk _ (ck_Command_putsAmount)) n _ _ _ _ _ _ _ _ h
def co_Command_marksRow (l : Launch) (d : Nat) : List (Nat × am_S) := [(0, am_aload 0 1), (1, am_getI 1 3 4), (4, am_push (vI 1) 5), (5, am_icmp_gt 8 26), (8, am_aload 0 9), (9, am_getI 1 4 12), (12, am_if_ne 15 26), (15, am_aload 1 16), (16, am_aload 0 17), (17, am_cal l d y_Command_firstPair (some 1) 1 20 0 0 0 0), (20, am_cal l d y_Table_hasRow (some 7) 2 23 0 0 0 0), (23, am_if_ne 26 28), (26, am_push (vI 0) 27), (27, am_iret true), (28, am_aload 1 29), (29, am_getR 7 7 32), (32, am_aload 0 33), (33, am_cal l d y_Command_firstPair (some 1) 1 36 0 0 0 0), (36, am_aload 0 37), (37, am_getI 1 3 40), (40, am_push (vI 1) 41), (41, am_icmp_ne 44 48), (44, am_push (vI 1) 45), (45, am_goto 49), (48, am_push (vI 0) 49), (49, am_ast 1 (vp_nar .boolean) 50), (50, am_push (vI 1) 51), (51, am_iret true)]
theorem ck_Command_marksRow {l : Launch} {sc : Nat × (Nat → Int32)} {d : Nat} : ∀ q ∈ co_Command_marksRow l d, am_ok l sc (d + 1) y_Command_marksRow q.1 q.2 :=
  fa_cons (ok_aload_n (show decode (am_mB y_Command_marksRow) 0 = .ok (.aload_n 0, 1) by decide +kernel) rfl) <|
  fa_cons (ok_getI (show decode (am_mB y_Command_marksRow) 1 = .ok (.getfield 19, 3) by decide +kernel) fl_Command_19 (by decide +kernel)) <|
  fa_cons (ok_iconst (show decode (am_mB y_Command_marksRow) 4 = .ok (.iconst 1, 1) by decide +kernel) rfl) <|
  fa_cons (ok_icmp_gt (show decode (am_mB y_Command_marksRow) 5 = .ok (.if_icmp .gt 21, 3) by decide +kernel) (by decide)) <|
  fa_cons (ok_aload_n (show decode (am_mB y_Command_marksRow) 8 = .ok (.aload_n 0, 1) by decide +kernel) rfl) <|
  fa_cons (ok_getI (show decode (am_mB y_Command_marksRow) 9 = .ok (.getfield 22, 3) by decide +kernel) fl_Command_22 (by decide +kernel)) <|
  fa_cons (ok_if_ne (show decode (am_mB y_Command_marksRow) 12 = .ok (.ifCond .ne 14, 3) by decide +kernel) (by decide)) <|
  fa_cons (ok_aload_n (show decode (am_mB y_Command_marksRow) 15 = .ok (.aload_n 1, 1) by decide +kernel) rfl) <|
  fa_cons (ok_aload_n (show decode (am_mB y_Command_marksRow) 16 = .ok (.aload_n 0, 1) by decide +kernel) rfl) <|
  fa_cons (ok_cal ⟨rfl, rfl, rfl, rfl⟩ (ok_callV (show decode (am_mB y_Command_marksRow) 17 = .ok (.invokevirtual 59, 3) by decide +kernel) cf_Command_firstPair (by decide +kernel) ml_Command_59 ci_Command_firstPair cv_Command_firstPair ⟨by decide, rfl⟩ rfl ⟨by decide +kernel, rfl⟩ (Or.inl (by decide +kernel)))) <|
  fa_cons (ok_cal ⟨rfl, rfl, rfl, rfl⟩ (ok_callV (show decode (am_mB y_Command_marksRow) 20 = .ok (.invokevirtual 93, 3) by decide +kernel) cf_Table_hasRow (by decide +kernel) ml_Command_93 ci_Table_hasRow cv_Table_hasRow ⟨by decide, rfl⟩ rfl ⟨by decide +kernel, rfl⟩ (Or.inl (by decide +kernel)))) <|
  fa_cons (ok_if_ne (show decode (am_mB y_Command_marksRow) 23 = .ok (.ifCond .ne 5, 3) by decide +kernel) (by decide)) <|
  fa_cons (ok_iconst (show decode (am_mB y_Command_marksRow) 26 = .ok (.iconst 0, 1) by decide +kernel) rfl) <|
  fa_cons (ok_iret (show decode (am_mB y_Command_marksRow) 27 = .ok (.ireturn, 1) by decide +kernel) rfl) <|
  fa_cons (ok_aload_n (show decode (am_mB y_Command_marksRow) 28 = .ok (.aload_n 1, 1) by decide +kernel) rfl) <|
  fa_cons (ok_getR (show decode (am_mB y_Command_marksRow) 29 = .ok (.getfield 103, 3) by decide +kernel) fl_Command_103 (by decide +kernel)) <|
  fa_cons (ok_aload_n (show decode (am_mB y_Command_marksRow) 32 = .ok (.aload_n 0, 1) by decide +kernel) rfl) <|
  fa_cons (ok_cal ⟨rfl, rfl, rfl, rfl⟩ (ok_callV (show decode (am_mB y_Command_marksRow) 33 = .ok (.invokevirtual 59, 3) by decide +kernel) cf_Command_firstPair (by decide +kernel) ml_Command_59 ci_Command_firstPair cv_Command_firstPair ⟨by decide, rfl⟩ rfl ⟨by decide +kernel, rfl⟩ (Or.inl (by decide +kernel)))) <|
  fa_cons (ok_aload_n (show decode (am_mB y_Command_marksRow) 36 = .ok (.aload_n 0, 1) by decide +kernel) rfl) <|
  fa_cons (ok_getI (show decode (am_mB y_Command_marksRow) 37 = .ok (.getfield 19, 3) by decide +kernel) fl_Command_19 (by decide +kernel)) <|
  fa_cons (ok_iconst (show decode (am_mB y_Command_marksRow) 40 = .ok (.iconst 1, 1) by decide +kernel) rfl) <|
  fa_cons (ok_icmp_ne (show decode (am_mB y_Command_marksRow) 41 = .ok (.if_icmp .ne 7, 3) by decide +kernel) (by decide)) <|
  fa_cons (ok_iconst (show decode (am_mB y_Command_marksRow) 44 = .ok (.iconst 1, 1) by decide +kernel) rfl) <|
  fa_cons (ok_goto (show decode (am_mB y_Command_marksRow) 45 = .ok (.goto 4, 3) by decide +kernel) (by decide)) <|
  fa_cons (ok_iconst (show decode (am_mB y_Command_marksRow) 48 = .ok (.iconst 0, 1) by decide +kernel) rfl) <|
  fa_cons (ok_zast (show decode (am_mB y_Command_marksRow) 49 = .ok (.bastore, 1) by decide +kernel)) <|
  fa_cons (ok_iconst (show decode (am_mB y_Command_marksRow) 50 = .ok (.iconst 1, 1) by decide +kernel) rfl) <|
  fa_cons (ok_iret (show decode (am_mB y_Command_marksRow) 51 = .ok (.ireturn, 1) by decide +kernel) rfl) <|
  fa_nil
set_option maxRecDepth 100000 in
theorem cq_Command_marksRow (l : Launch) (d : Nat) : am_lk (co_Command_marksRow l d) 0 = am_aload 0 1 ∧ am_lk (co_Command_marksRow l d) 1 = am_getI 1 3 4 ∧ am_lk (co_Command_marksRow l d) 4 = am_push (vI 1) 5 ∧ am_lk (co_Command_marksRow l d) 5 = am_icmp_gt 8 26 ∧ am_lk (co_Command_marksRow l d) 8 = am_aload 0 9 ∧ am_lk (co_Command_marksRow l d) 9 = am_getI 1 4 12 ∧ am_lk (co_Command_marksRow l d) 12 = am_if_ne 15 26 ∧ am_lk (co_Command_marksRow l d) 15 = am_aload 1 16 ∧ am_lk (co_Command_marksRow l d) 16 = am_aload 0 17 ∧ am_lk (co_Command_marksRow l d) 17 = am_cal l d y_Command_firstPair (some 1) 1 20 0 0 0 0 ∧ am_lk (co_Command_marksRow l d) 20 = am_cal l d y_Table_hasRow (some 7) 2 23 0 0 0 0 ∧ am_lk (co_Command_marksRow l d) 23 = am_if_ne 26 28 ∧ am_lk (co_Command_marksRow l d) 26 = am_push (vI 0) 27 ∧ am_lk (co_Command_marksRow l d) 27 = am_iret true ∧ am_lk (co_Command_marksRow l d) 28 = am_aload 1 29 ∧ am_lk (co_Command_marksRow l d) 29 = am_getR 7 7 32 ∧ am_lk (co_Command_marksRow l d) 32 = am_aload 0 33 ∧ am_lk (co_Command_marksRow l d) 33 = am_cal l d y_Command_firstPair (some 1) 1 36 0 0 0 0 ∧ am_lk (co_Command_marksRow l d) 36 = am_aload 0 37 ∧ am_lk (co_Command_marksRow l d) 37 = am_getI 1 3 40 ∧ am_lk (co_Command_marksRow l d) 40 = am_push (vI 1) 41 ∧ am_lk (co_Command_marksRow l d) 41 = am_icmp_ne 44 48 ∧ am_lk (co_Command_marksRow l d) 44 = am_push (vI 1) 45 ∧ am_lk (co_Command_marksRow l d) 45 = am_goto 49 ∧ am_lk (co_Command_marksRow l d) 48 = am_push (vI 0) 49 ∧ am_lk (co_Command_marksRow l d) 49 = am_ast 1 (vp_nar .boolean) 50 ∧ am_lk (co_Command_marksRow l d) 50 = am_push (vI 1) 51 ∧ am_lk (co_Command_marksRow l d) 51 = am_iret true := ⟨rfl, rfl, rfl, rfl, rfl, rfl, rfl, rfl, rfl, rfl, rfl, rfl, rfl, rfl, rfl, rfl, rfl, rfl, rfl, rfl, rfl, rfl, rfl, rfl, rfl, rfl, rfl, rfl⟩
theorem en_Command_marksRow {l : Launch} {d : Nat} (n : Nat) {as : List am_V} {G : am_G} {I : am_I} {J : am_J} {P : am_P} (hlen : (as.map am_cat).sum ≤ 2) (h : am_go (am_lk (co_Command_marksRow l d)) (am_X l (0, fun _ => 0) (d + 1) y_Command_marksRow P) P n 0 (am_el 2 as) [] 0 0 G I J) : am_T l (d + 1) y_Command_marksRow as G I J P :=
  am_T_of (sc := (0, fun _ => 0)) cf_Command_marksRow (by decide +kernel) (by decide) (by decide +kernel) hlen (am_run (ok_lk _ (ck_Command_marksRow)) n _ _ _ _ _ _ _ _ h)
theorem rn_Command_marksRow {l : Launch} {sc : Nat × (Nat → Int32)} {d : Nat} {P : am_P} (n : Nat) {pc : Nat} {ls : am_L} {st : List am_V} {kc ks : Nat} {G : am_G} {I : am_I} {J : am_J} (h : am_go (am_lk (co_Command_marksRow l d)) (am_X l sc (d + 1) y_Command_marksRow P) P n pc ls st kc ks G I J) : am_X l sc (d + 1) y_Command_marksRow P pc ls st kc ks G I J := am_run (ok_lk _ (ck_Command_marksRow)) n _ _ _ _ _ _ _ _ h
def co_Command_dropsRow (l : Launch) (d : Nat) : List (Nat × am_S) := [(0, am_aload 0 1), (1, am_getI 1 3 4), (4, am_if_ne 7 25), (7, am_aload 0 8), (8, am_getI 1 4 11), (11, am_if_ne 14 25), (14, am_aload 1 15), (15, am_aload 0 16), (16, am_cal l d y_Command_firstPair (some 1) 1 19 0 0 0 0), (19, am_cal l d y_Table_hasRow (some 7) 2 22 0 0 0 0), (22, am_if_ne 25 27), (25, am_push (vI 0) 26), (26, am_iret true), (27, am_aload 1 28), (28, am_aload 0 29), (29, am_cal l d y_Command_firstPair (some 1) 1 32 0 0 0 0), (32, am_cal l d y_Table_dropRow (some 7) 2 35 0 0 0 0), (35, am_pop 36), (36, am_push (vI 1) 37), (37, am_iret true)]
theorem ck_Command_dropsRow {l : Launch} {sc : Nat × (Nat → Int32)} {d : Nat} : ∀ q ∈ co_Command_dropsRow l d, am_ok l sc (d + 1) y_Command_dropsRow q.1 q.2 :=
  fa_cons (ok_aload_n (show decode (am_mB y_Command_dropsRow) 0 = .ok (.aload_n 0, 1) by decide +kernel) rfl) <|
  fa_cons (ok_getI (show decode (am_mB y_Command_dropsRow) 1 = .ok (.getfield 19, 3) by decide +kernel) fl_Command_19 (by decide +kernel)) <|
  fa_cons (ok_if_ne (show decode (am_mB y_Command_dropsRow) 4 = .ok (.ifCond .ne 21, 3) by decide +kernel) (by decide)) <|
  fa_cons (ok_aload_n (show decode (am_mB y_Command_dropsRow) 7 = .ok (.aload_n 0, 1) by decide +kernel) rfl) <|
  fa_cons (ok_getI (show decode (am_mB y_Command_dropsRow) 8 = .ok (.getfield 22, 3) by decide +kernel) fl_Command_22 (by decide +kernel)) <|
  fa_cons (ok_if_ne (show decode (am_mB y_Command_dropsRow) 11 = .ok (.ifCond .ne 14, 3) by decide +kernel) (by decide)) <|
  fa_cons (ok_aload_n (show decode (am_mB y_Command_dropsRow) 14 = .ok (.aload_n 1, 1) by decide +kernel) rfl) <|
  fa_cons (ok_aload_n (show decode (am_mB y_Command_dropsRow) 15 = .ok (.aload_n 0, 1) by decide +kernel) rfl) <|
  fa_cons (ok_cal ⟨rfl, rfl, rfl, rfl⟩ (ok_callV (show decode (am_mB y_Command_dropsRow) 16 = .ok (.invokevirtual 59, 3) by decide +kernel) cf_Command_firstPair (by decide +kernel) ml_Command_59 ci_Command_firstPair cv_Command_firstPair ⟨by decide, rfl⟩ rfl ⟨by decide +kernel, rfl⟩ (Or.inl (by decide +kernel)))) <|
  fa_cons (ok_cal ⟨rfl, rfl, rfl, rfl⟩ (ok_callV (show decode (am_mB y_Command_dropsRow) 19 = .ok (.invokevirtual 93, 3) by decide +kernel) cf_Table_hasRow (by decide +kernel) ml_Command_93 ci_Table_hasRow cv_Table_hasRow ⟨by decide, rfl⟩ rfl ⟨by decide +kernel, rfl⟩ (Or.inl (by decide +kernel)))) <|
  fa_cons (ok_if_ne (show decode (am_mB y_Command_dropsRow) 22 = .ok (.ifCond .ne 5, 3) by decide +kernel) (by decide)) <|
  fa_cons (ok_iconst (show decode (am_mB y_Command_dropsRow) 25 = .ok (.iconst 0, 1) by decide +kernel) rfl) <|
  fa_cons (ok_iret (show decode (am_mB y_Command_dropsRow) 26 = .ok (.ireturn, 1) by decide +kernel) rfl) <|
  fa_cons (ok_aload_n (show decode (am_mB y_Command_dropsRow) 27 = .ok (.aload_n 1, 1) by decide +kernel) rfl) <|
  fa_cons (ok_aload_n (show decode (am_mB y_Command_dropsRow) 28 = .ok (.aload_n 0, 1) by decide +kernel) rfl) <|
  fa_cons (ok_cal ⟨rfl, rfl, rfl, rfl⟩ (ok_callV (show decode (am_mB y_Command_dropsRow) 29 = .ok (.invokevirtual 59, 3) by decide +kernel) cf_Command_firstPair (by decide +kernel) ml_Command_59 ci_Command_firstPair cv_Command_firstPair ⟨by decide, rfl⟩ rfl ⟨by decide +kernel, rfl⟩ (Or.inl (by decide +kernel)))) <|
  fa_cons (ok_cal ⟨rfl, rfl, rfl, rfl⟩ (ok_callV (show decode (am_mB y_Command_dropsRow) 32 = .ok (.invokevirtual 107, 3) by decide +kernel) cf_Table_dropRow (by decide +kernel) ml_Command_107 ci_Table_dropRow cv_Table_dropRow ⟨by decide, rfl⟩ rfl ⟨by decide +kernel, rfl⟩ (Or.inl (by decide +kernel)))) <|
  fa_cons (ok_pop (show decode (am_mB y_Command_dropsRow) 35 = .ok (.pop, 1) by decide +kernel)) <|
  fa_cons (ok_iconst (show decode (am_mB y_Command_dropsRow) 36 = .ok (.iconst 1, 1) by decide +kernel) rfl) <|
  fa_cons (ok_iret (show decode (am_mB y_Command_dropsRow) 37 = .ok (.ireturn, 1) by decide +kernel) rfl) <|
  fa_nil
set_option maxRecDepth 100000 in
theorem cq_Command_dropsRow (l : Launch) (d : Nat) : am_lk (co_Command_dropsRow l d) 0 = am_aload 0 1 ∧ am_lk (co_Command_dropsRow l d) 1 = am_getI 1 3 4 ∧ am_lk (co_Command_dropsRow l d) 4 = am_if_ne 7 25 ∧ am_lk (co_Command_dropsRow l d) 7 = am_aload 0 8 ∧ am_lk (co_Command_dropsRow l d) 8 = am_getI 1 4 11 ∧ am_lk (co_Command_dropsRow l d) 11 = am_if_ne 14 25 ∧ am_lk (co_Command_dropsRow l d) 14 = am_aload 1 15 ∧ am_lk (co_Command_dropsRow l d) 15 = am_aload 0 16 ∧ am_lk (co_Command_dropsRow l d) 16 = am_cal l d y_Command_firstPair (some 1) 1 19 0 0 0 0 ∧ am_lk (co_Command_dropsRow l d) 19 = am_cal l d y_Table_hasRow (some 7) 2 22 0 0 0 0 ∧ am_lk (co_Command_dropsRow l d) 22 = am_if_ne 25 27 ∧ am_lk (co_Command_dropsRow l d) 25 = am_push (vI 0) 26 ∧ am_lk (co_Command_dropsRow l d) 26 = am_iret true ∧ am_lk (co_Command_dropsRow l d) 27 = am_aload 1 28 ∧ am_lk (co_Command_dropsRow l d) 28 = am_aload 0 29 ∧ am_lk (co_Command_dropsRow l d) 29 = am_cal l d y_Command_firstPair (some 1) 1 32 0 0 0 0 ∧ am_lk (co_Command_dropsRow l d) 32 = am_cal l d y_Table_dropRow (some 7) 2 35 0 0 0 0 ∧ am_lk (co_Command_dropsRow l d) 35 = am_pop 36 ∧ am_lk (co_Command_dropsRow l d) 36 = am_push (vI 1) 37 ∧ am_lk (co_Command_dropsRow l d) 37 = am_iret true := ⟨rfl, rfl, rfl, rfl, rfl, rfl, rfl, rfl, rfl, rfl, rfl, rfl, rfl, rfl, rfl, rfl, rfl, rfl, rfl, rfl⟩
theorem en_Command_dropsRow {l : Launch} {d : Nat} (n : Nat) {as : List am_V} {G : am_G} {I : am_I} {J : am_J} {P : am_P} (hlen : (as.map am_cat).sum ≤ 2) (h : am_go (am_lk (co_Command_dropsRow l d)) (am_X l (0, fun _ => 0) (d + 1) y_Command_dropsRow P) P n 0 (am_el 2 as) [] 0 0 G I J) : am_T l (d + 1) y_Command_dropsRow as G I J P :=
  am_T_of (sc := (0, fun _ => 0)) cf_Command_dropsRow (by decide +kernel) (by decide) (by decide +kernel) hlen (am_run (ok_lk _ (ck_Command_dropsRow)) n _ _ _ _ _ _ _ _ h)
theorem rn_Command_dropsRow {l : Launch} {sc : Nat × (Nat → Int32)} {d : Nat} {P : am_P} (n : Nat) {pc : Nat} {ls : am_L} {st : List am_V} {kc ks : Nat} {G : am_G} {I : am_I} {J : am_J} (h : am_go (am_lk (co_Command_dropsRow l d)) (am_X l sc (d + 1) y_Command_dropsRow P) P n pc ls st kc ks G I J) : am_X l sc (d + 1) y_Command_dropsRow P pc ls st kc ks G I J := am_run (ok_lk _ (ck_Command_dropsRow)) n _ _ _ _ _ _ _ _ h
def co_Command_putsHeight (l : Launch) (d : Nat) : List (Nat × am_S) := [(0, am_push (vI 10) 2), (2, am_aload 0 3), (3, am_getI 1 2 6), (6, am_imul 7), (7, am_aload 0 8), (8, am_getI 1 3 11), (11, am_iadd 12), (12, am_istore 2 13), (13, am_aload 0 14), (14, am_getI 1 4 17), (17, am_if_ne 20 31), (20, am_aload 0 21), (21, am_getI 1 1 24), (24, am_iload 2 25), (25, am_cal l d y_Table_allowsHeight none 2 28 0 0 0 0), (28, am_if_ne 31 33), (31, am_push (vI 0) 32), (32, am_iret true), (33, am_aload 1 34), (34, am_aload 0 35), (35, am_getI 1 1 38), (38, am_iload 2 39), (39, am_cal l d y_Table_putHeight (some 7) 3 42 0 0 0 0), (42, am_push (vI 1) 43), (43, am_iret true)]
theorem ck_Command_putsHeight {l : Launch} {sc : Nat × (Nat → Int32)} {d : Nat} : ∀ q ∈ co_Command_putsHeight l d, am_ok l sc (d + 1) y_Command_putsHeight q.1 q.2 :=
  fa_cons (ok_bipush (show decode (am_mB y_Command_putsHeight) 0 = .ok (.bipush 10, 2) by decide +kernel) (by decide +kernel)) <|
  fa_cons (ok_aload_n (show decode (am_mB y_Command_putsHeight) 2 = .ok (.aload_n 0, 1) by decide +kernel) rfl) <|
  fa_cons (ok_getI (show decode (am_mB y_Command_putsHeight) 3 = .ok (.getfield 16, 3) by decide +kernel) fl_Command_16 (by decide +kernel)) <|
  fa_cons (ok_imul (show decode (am_mB y_Command_putsHeight) 6 = .ok (.imul, 1) by decide +kernel)) <|
  fa_cons (ok_aload_n (show decode (am_mB y_Command_putsHeight) 7 = .ok (.aload_n 0, 1) by decide +kernel) rfl) <|
  fa_cons (ok_getI (show decode (am_mB y_Command_putsHeight) 8 = .ok (.getfield 19, 3) by decide +kernel) fl_Command_19 (by decide +kernel)) <|
  fa_cons (ok_iadd (show decode (am_mB y_Command_putsHeight) 11 = .ok (.iadd, 1) by decide +kernel)) <|
  fa_cons (ok_istore_n (show decode (am_mB y_Command_putsHeight) 12 = .ok (.istore_n 2, 1) by decide +kernel) rfl (by decide +kernel)) <|
  fa_cons (ok_aload_n (show decode (am_mB y_Command_putsHeight) 13 = .ok (.aload_n 0, 1) by decide +kernel) rfl) <|
  fa_cons (ok_getI (show decode (am_mB y_Command_putsHeight) 14 = .ok (.getfield 22, 3) by decide +kernel) fl_Command_22 (by decide +kernel)) <|
  fa_cons (ok_if_ne (show decode (am_mB y_Command_putsHeight) 17 = .ok (.ifCond .ne 14, 3) by decide +kernel) (by decide)) <|
  fa_cons (ok_aload_n (show decode (am_mB y_Command_putsHeight) 20 = .ok (.aload_n 0, 1) by decide +kernel) rfl) <|
  fa_cons (ok_getI (show decode (am_mB y_Command_putsHeight) 21 = .ok (.getfield 13, 3) by decide +kernel) fl_Command_13 (by decide +kernel)) <|
  fa_cons (ok_iload_n (show decode (am_mB y_Command_putsHeight) 24 = .ok (.iload_n 2, 1) by decide +kernel) rfl) <|
  fa_cons (ok_cal ⟨rfl, rfl, rfl, rfl⟩ (ok_callS (show decode (am_mB y_Command_putsHeight) 25 = .ok (.invokestatic 110, 3) by decide +kernel) cf_Table_allowsHeight (by decide +kernel) ml_Command_110 cs_Table_allowsHeight rfl ⟨by decide +kernel, rfl⟩ (Or.inl (by decide +kernel)))) <|
  fa_cons (ok_if_ne (show decode (am_mB y_Command_putsHeight) 28 = .ok (.ifCond .ne 5, 3) by decide +kernel) (by decide)) <|
  fa_cons (ok_iconst (show decode (am_mB y_Command_putsHeight) 31 = .ok (.iconst 0, 1) by decide +kernel) rfl) <|
  fa_cons (ok_iret (show decode (am_mB y_Command_putsHeight) 32 = .ok (.ireturn, 1) by decide +kernel) rfl) <|
  fa_cons (ok_aload_n (show decode (am_mB y_Command_putsHeight) 33 = .ok (.aload_n 1, 1) by decide +kernel) rfl) <|
  fa_cons (ok_aload_n (show decode (am_mB y_Command_putsHeight) 34 = .ok (.aload_n 0, 1) by decide +kernel) rfl) <|
  fa_cons (ok_getI (show decode (am_mB y_Command_putsHeight) 35 = .ok (.getfield 13, 3) by decide +kernel) fl_Command_13 (by decide +kernel)) <|
  fa_cons (ok_iload_n (show decode (am_mB y_Command_putsHeight) 38 = .ok (.iload_n 2, 1) by decide +kernel) rfl) <|
  fa_cons (ok_cal ⟨rfl, rfl, rfl, rfl⟩ (ok_callV (show decode (am_mB y_Command_putsHeight) 39 = .ok (.invokevirtual 113, 3) by decide +kernel) cf_Table_putHeight (by decide +kernel) ml_Command_113 ci_Table_putHeight cv_Table_putHeight ⟨by decide, rfl⟩ rfl ⟨by decide +kernel, rfl⟩ (Or.inl (by decide +kernel)))) <|
  fa_cons (ok_iconst (show decode (am_mB y_Command_putsHeight) 42 = .ok (.iconst 1, 1) by decide +kernel) rfl) <|
  fa_cons (ok_iret (show decode (am_mB y_Command_putsHeight) 43 = .ok (.ireturn, 1) by decide +kernel) rfl) <|
  fa_nil
set_option maxRecDepth 100000 in
theorem cq_Command_putsHeight (l : Launch) (d : Nat) : am_lk (co_Command_putsHeight l d) 0 = am_push (vI 10) 2 ∧ am_lk (co_Command_putsHeight l d) 2 = am_aload 0 3 ∧ am_lk (co_Command_putsHeight l d) 3 = am_getI 1 2 6 ∧ am_lk (co_Command_putsHeight l d) 6 = am_imul 7 ∧ am_lk (co_Command_putsHeight l d) 7 = am_aload 0 8 ∧ am_lk (co_Command_putsHeight l d) 8 = am_getI 1 3 11 ∧ am_lk (co_Command_putsHeight l d) 11 = am_iadd 12 ∧ am_lk (co_Command_putsHeight l d) 12 = am_istore 2 13 ∧ am_lk (co_Command_putsHeight l d) 13 = am_aload 0 14 ∧ am_lk (co_Command_putsHeight l d) 14 = am_getI 1 4 17 ∧ am_lk (co_Command_putsHeight l d) 17 = am_if_ne 20 31 ∧ am_lk (co_Command_putsHeight l d) 20 = am_aload 0 21 ∧ am_lk (co_Command_putsHeight l d) 21 = am_getI 1 1 24 ∧ am_lk (co_Command_putsHeight l d) 24 = am_iload 2 25 ∧ am_lk (co_Command_putsHeight l d) 25 = am_cal l d y_Table_allowsHeight none 2 28 0 0 0 0 ∧ am_lk (co_Command_putsHeight l d) 28 = am_if_ne 31 33 ∧ am_lk (co_Command_putsHeight l d) 31 = am_push (vI 0) 32 ∧ am_lk (co_Command_putsHeight l d) 32 = am_iret true ∧ am_lk (co_Command_putsHeight l d) 33 = am_aload 1 34 ∧ am_lk (co_Command_putsHeight l d) 34 = am_aload 0 35 ∧ am_lk (co_Command_putsHeight l d) 35 = am_getI 1 1 38 ∧ am_lk (co_Command_putsHeight l d) 38 = am_iload 2 39 ∧ am_lk (co_Command_putsHeight l d) 39 = am_cal l d y_Table_putHeight (some 7) 3 42 0 0 0 0 ∧ am_lk (co_Command_putsHeight l d) 42 = am_push (vI 1) 43 ∧ am_lk (co_Command_putsHeight l d) 43 = am_iret true := ⟨rfl, rfl, rfl, rfl, rfl, rfl, rfl, rfl, rfl, rfl, rfl, rfl, rfl, rfl, rfl, rfl, rfl, rfl, rfl, rfl, rfl, rfl, rfl, rfl, rfl⟩
theorem en_Command_putsHeight {l : Launch} {d : Nat} (n : Nat) {as : List am_V} {G : am_G} {I : am_I} {J : am_J} {P : am_P} (hlen : (as.map am_cat).sum ≤ 3) (h : am_go (am_lk (co_Command_putsHeight l d)) (am_X l (0, fun _ => 0) (d + 1) y_Command_putsHeight P) P n 0 (am_el 3 as) [] 0 0 G I J) : am_T l (d + 1) y_Command_putsHeight as G I J P :=
  am_T_of (sc := (0, fun _ => 0)) cf_Command_putsHeight (by decide +kernel) (by decide) (by decide +kernel) hlen (am_run (ok_lk _ (ck_Command_putsHeight)) n _ _ _ _ _ _ _ _ h)
theorem rn_Command_putsHeight {l : Launch} {sc : Nat × (Nat → Int32)} {d : Nat} {P : am_P} (n : Nat) {pc : Nat} {ls : am_L} {st : List am_V} {kc ks : Nat} {G : am_G} {I : am_I} {J : am_J} (h : am_go (am_lk (co_Command_putsHeight l d)) (am_X l sc (d + 1) y_Command_putsHeight P) P n pc ls st kc ks G I J) : am_X l sc (d + 1) y_Command_putsHeight P pc ls st kc ks G I J := am_run (ok_lk _ (ck_Command_putsHeight)) n _ _ _ _ _ _ _ _ h
def co_Evener_init (l : Launch) (d : Nat) : List (Nat × am_S) := [(0, am_aload 0 1), (1, am_oinit 4), (4, am_aload 0 5), (5, am_push (vI 25) 7), (7, am_mka 0 9 3 53), (9, am_putR 2 0 12), (12, am_aload 0 13), (13, am_push (vI 24) 15), (15, am_mka 0 17 3 53), (17, am_putR 2 1 20), (20, am_aload 0 21), (21, am_mk 5 24 3 53), (24, am_dup 25), (25, am_cal l d y_Sheet_init (some 5) 1 28 0 0 3 53), (28, am_putR 2 2 31), (31, am_vret)]
theorem ck_Evener_init {l : Launch} {sc : Nat × (Nat → Int32)} {d : Nat} : ∀ q ∈ co_Evener_init l d, am_ok l sc (d + 1) y_Evener_init q.1 q.2 :=
  fa_cons (ok_aload_n (show decode (am_mB y_Evener_init) 0 = .ok (.aload_n 0, 1) by decide +kernel) rfl) <|
  fa_cons (ok_oinit (show decode (am_mB y_Evener_init) 1 = .ok (.invokespecial 3, 3) by decide +kernel) w_215 w_24 w_25 (by omega)) <|
  fa_cons (ok_aload_n (show decode (am_mB y_Evener_init) 4 = .ok (.aload_n 0, 1) by decide +kernel) rfl) <|
  fa_cons (ok_bipush (show decode (am_mB y_Evener_init) 5 = .ok (.bipush 25, 2) by decide +kernel) (by decide +kernel)) <|
  fa_cons (ok_mka ⟨rfl, rfl⟩ (ok_newa (show decode (am_mB y_Evener_init) 7 = .ok (.newarray .int, 2) by decide +kernel) w_130 (by decide +kernel))) <|
  fa_cons (ok_putR (show decode (am_mB y_Evener_init) 9 = .ok (.putfield 9, 3) by decide +kernel) w_218 (by decide +kernel) (by decide +kernel)) <|
  fa_cons (ok_aload_n (show decode (am_mB y_Evener_init) 12 = .ok (.aload_n 0, 1) by decide +kernel) rfl) <|
  fa_cons (ok_bipush (show decode (am_mB y_Evener_init) 13 = .ok (.bipush 24, 2) by decide +kernel) (by decide +kernel)) <|
  fa_cons (ok_mka ⟨rfl, rfl⟩ (ok_newa (show decode (am_mB y_Evener_init) 15 = .ok (.newarray .int, 2) by decide +kernel) w_130 (by decide +kernel))) <|
  fa_cons (ok_putR (show decode (am_mB y_Evener_init) 17 = .ok (.putfield 15, 3) by decide +kernel) w_219 (by decide +kernel) (by decide +kernel)) <|
  fa_cons (ok_aload_n (show decode (am_mB y_Evener_init) 20 = .ok (.aload_n 0, 1) by decide +kernel) rfl) <|
  fa_cons (ok_mk ⟨rfl, rfl⟩ (ok_new (show decode (am_mB y_Evener_init) 21 = .ok (.new 18, 3) by decide +kernel) w_216 (by decide))) <|
  fa_cons (ok_dup (show decode (am_mB y_Evener_init) 24 = .ok (.dup, 1) by decide +kernel)) <|
  fa_cons (ok_cal ⟨rfl, rfl, rfl, rfl⟩ (ok_callI (show decode (am_mB y_Evener_init) 25 = .ok (.invokespecial 20, 3) by decide +kernel) cf_Sheet_init (by decide +kernel) ml_Evener_20 ci_Sheet_init ⟨rfl, rfl⟩ (by decide) rfl ⟨by decide +kernel, rfl⟩ (Or.inl (by decide +kernel)))) <|
  fa_cons (ok_putR (show decode (am_mB y_Evener_init) 28 = .ok (.putfield 21, 3) by decide +kernel) w_220 (by decide +kernel) (by decide +kernel)) <|
  fa_cons (ok_vret (show decode (am_mB y_Evener_init) 31 = .ok (.return_, 1) by decide +kernel) rfl (by decide +kernel)) <|
  fa_nil
set_option maxRecDepth 100000 in
theorem cq_Evener_init (l : Launch) (d : Nat) : am_lk (co_Evener_init l d) 0 = am_aload 0 1 ∧ am_lk (co_Evener_init l d) 1 = am_oinit 4 ∧ am_lk (co_Evener_init l d) 4 = am_aload 0 5 ∧ am_lk (co_Evener_init l d) 5 = am_push (vI 25) 7 ∧ am_lk (co_Evener_init l d) 7 = am_mka 0 9 3 53 ∧ am_lk (co_Evener_init l d) 9 = am_putR 2 0 12 ∧ am_lk (co_Evener_init l d) 12 = am_aload 0 13 ∧ am_lk (co_Evener_init l d) 13 = am_push (vI 24) 15 ∧ am_lk (co_Evener_init l d) 15 = am_mka 0 17 3 53 ∧ am_lk (co_Evener_init l d) 17 = am_putR 2 1 20 ∧ am_lk (co_Evener_init l d) 20 = am_aload 0 21 ∧ am_lk (co_Evener_init l d) 21 = am_mk 5 24 3 53 ∧ am_lk (co_Evener_init l d) 24 = am_dup 25 ∧ am_lk (co_Evener_init l d) 25 = am_cal l d y_Sheet_init (some 5) 1 28 0 0 3 53 ∧ am_lk (co_Evener_init l d) 28 = am_putR 2 2 31 ∧ am_lk (co_Evener_init l d) 31 = am_vret := ⟨rfl, rfl, rfl, rfl, rfl, rfl, rfl, rfl, rfl, rfl, rfl, rfl, rfl, rfl, rfl, rfl⟩
theorem en_Evener_init {l : Launch} {d : Nat} (n : Nat) {as : List am_V} {G : am_G} {I : am_I} {J : am_J} {P : am_P} (hlen : (as.map am_cat).sum ≤ 1) (h : am_go (am_lk (co_Evener_init l d)) (am_X l (0, fun _ => 0) (d + 1) y_Evener_init P) P n 0 (am_el 1 as) [] 0 0 G I J) : am_T l (d + 1) y_Evener_init as G I J P :=
  am_T_of (sc := (0, fun _ => 0)) cf_Evener_init (by decide +kernel) (by decide) (by decide +kernel) hlen (am_run (ok_lk _ (ck_Evener_init)) n _ _ _ _ _ _ _ _ h)
theorem rn_Evener_init {l : Launch} {sc : Nat × (Nat → Int32)} {d : Nat} {P : am_P} (n : Nat) {pc : Nat} {ls : am_L} {st : List am_V} {kc ks : Nat} {G : am_G} {I : am_I} {J : am_J} (h : am_go (am_lk (co_Evener_init l d)) (am_X l sc (d + 1) y_Evener_init P) P n pc ls st kc ks G I J) : am_X l sc (d + 1) y_Evener_init P pc ls st kc ks G I J := am_run (ok_lk _ (ck_Evener_init)) n _ _ _ _ _ _ _ _ h
def co_Evener_leastCost (l : Launch) (d : Nat) : List (Nat × am_S) := [(0, am_aload 1 1), (1, am_cal l d y_Table_endRows (some 7) 1 4 0 0 0 0), (4, am_istore 2 5), (5, am_aload 0 6), (6, am_getR 2 0 9), (9, am_aload 1 10), (10, am_getI 7 1 13), (13, am_push (vI 0) 14), (14, am_ast 0 (fun x => x) 15), (15, am_aload 1 16), (16, am_getI 7 1 19), (19, am_push (vI 1) 20), (20, am_isub 21), (21, am_stp (am_istore 3 22)), (22, am_iload 3 23), (23, am_if_lt 26 39), (26, am_aload 0 27), (27, am_aload 1 28), (28, am_iload 3 29), (29, am_iload 2 30), (30, am_cal l d y_Evener_chooseEnd (some 2) 4 33 0 0 0 0), (33, am_iinc 3 (-1) 36), (36, am_stp (am_goto 22)), (39, am_aload 0 40), (40, am_getR 2 0 43), (43, am_push (vI 0) 44), (44, am_ald 0 45), (45, am_iret false)]
theorem ck_Evener_leastCost {l : Launch} {sc : Nat × (Nat → Int32)} {d : Nat} : ∀ q ∈ co_Evener_leastCost l d, am_ok l sc (d + 1) y_Evener_leastCost q.1 q.2 :=
  fa_cons (ok_aload_n (show decode (am_mB y_Evener_leastCost) 0 = .ok (.aload_n 1, 1) by decide +kernel) rfl) <|
  fa_cons (ok_cal ⟨rfl, rfl, rfl, rfl⟩ (ok_callV (show decode (am_mB y_Evener_leastCost) 1 = .ok (.invokevirtual 25, 3) by decide +kernel) cf_Table_endRows (by decide +kernel) ml_Evener_25 ci_Table_endRows cv_Table_endRows ⟨by decide, rfl⟩ rfl ⟨by decide +kernel, rfl⟩ (Or.inl (by decide +kernel)))) <|
  fa_cons (ok_istore_n (show decode (am_mB y_Evener_leastCost) 4 = .ok (.istore_n 2, 1) by decide +kernel) rfl (by decide +kernel)) <|
  fa_cons (ok_aload_n (show decode (am_mB y_Evener_leastCost) 5 = .ok (.aload_n 0, 1) by decide +kernel) rfl) <|
  fa_cons (ok_getR (show decode (am_mB y_Evener_leastCost) 6 = .ok (.getfield 9, 3) by decide +kernel) fl_Evener_9 (by decide +kernel)) <|
  fa_cons (ok_aload_n (show decode (am_mB y_Evener_leastCost) 9 = .ok (.aload_n 1, 1) by decide +kernel) rfl) <|
  fa_cons (ok_getI (show decode (am_mB y_Evener_leastCost) 10 = .ok (.getfield 31, 3) by decide +kernel) fl_Evener_31 (by decide +kernel)) <|
  fa_cons (ok_iconst (show decode (am_mB y_Evener_leastCost) 13 = .ok (.iconst 0, 1) by decide +kernel) rfl) <|
  fa_cons (ok_iast (show decode (am_mB y_Evener_leastCost) 14 = .ok (.iastore, 1) by decide +kernel)) <|
  fa_cons (ok_aload_n (show decode (am_mB y_Evener_leastCost) 15 = .ok (.aload_n 1, 1) by decide +kernel) rfl) <|
  fa_cons (ok_getI (show decode (am_mB y_Evener_leastCost) 16 = .ok (.getfield 31, 3) by decide +kernel) fl_Evener_31 (by decide +kernel)) <|
  fa_cons (ok_iconst (show decode (am_mB y_Evener_leastCost) 19 = .ok (.iconst 1, 1) by decide +kernel) rfl) <|
  fa_cons (ok_isub (show decode (am_mB y_Evener_leastCost) 20 = .ok (.isub, 1) by decide +kernel)) <|
  fa_cons (ok_stp (σ := am_istore 3 22) (ok_istore_n (show decode (am_mB y_Evener_leastCost) 21 = .ok (.istore_n 3, 1) by decide +kernel) rfl (by decide +kernel))) <|
  fa_cons (ok_iload_n (show decode (am_mB y_Evener_leastCost) 22 = .ok (.iload_n 3, 1) by decide +kernel) rfl) <|
  fa_cons (ok_if_lt (show decode (am_mB y_Evener_leastCost) 23 = .ok (.ifCond .lt 16, 3) by decide +kernel) (by decide)) <|
  fa_cons (ok_aload_n (show decode (am_mB y_Evener_leastCost) 26 = .ok (.aload_n 0, 1) by decide +kernel) rfl) <|
  fa_cons (ok_aload_n (show decode (am_mB y_Evener_leastCost) 27 = .ok (.aload_n 1, 1) by decide +kernel) rfl) <|
  fa_cons (ok_iload_n (show decode (am_mB y_Evener_leastCost) 28 = .ok (.iload_n 3, 1) by decide +kernel) rfl) <|
  fa_cons (ok_iload_n (show decode (am_mB y_Evener_leastCost) 29 = .ok (.iload_n 2, 1) by decide +kernel) rfl) <|
  fa_cons (ok_cal ⟨rfl, rfl, rfl, rfl⟩ (ok_callV (show decode (am_mB y_Evener_leastCost) 30 = .ok (.invokevirtual 35, 3) by decide +kernel) cf_Evener_chooseEnd (by decide +kernel) ml_Evener_35 ci_Evener_chooseEnd cv_Evener_chooseEnd ⟨by decide, rfl⟩ rfl ⟨by decide +kernel, rfl⟩ (Or.inl (by decide +kernel)))) <|
  fa_cons (ok_iinc (show decode (am_mB y_Evener_leastCost) 33 = .ok (.iinc 3 (-1), 3) by decide +kernel) (by decide +kernel) (by decide +kernel)) <|
  fa_cons (ok_stp (σ := am_goto 22) (ok_goto (show decode (am_mB y_Evener_leastCost) 36 = .ok (.goto (-14), 3) by decide +kernel) (by decide))) <|
  fa_cons (ok_aload_n (show decode (am_mB y_Evener_leastCost) 39 = .ok (.aload_n 0, 1) by decide +kernel) rfl) <|
  fa_cons (ok_getR (show decode (am_mB y_Evener_leastCost) 40 = .ok (.getfield 9, 3) by decide +kernel) fl_Evener_9 (by decide +kernel)) <|
  fa_cons (ok_iconst (show decode (am_mB y_Evener_leastCost) 43 = .ok (.iconst 0, 1) by decide +kernel) rfl) <|
  fa_cons (ok_iald (show decode (am_mB y_Evener_leastCost) 44 = .ok (.iaload, 1) by decide +kernel)) <|
  fa_cons (ok_iret (show decode (am_mB y_Evener_leastCost) 45 = .ok (.ireturn, 1) by decide +kernel) rfl) <|
  fa_nil
set_option maxRecDepth 100000 in
theorem cq_Evener_leastCost (l : Launch) (d : Nat) : am_lk (co_Evener_leastCost l d) 0 = am_aload 1 1 ∧ am_lk (co_Evener_leastCost l d) 1 = am_cal l d y_Table_endRows (some 7) 1 4 0 0 0 0 ∧ am_lk (co_Evener_leastCost l d) 4 = am_istore 2 5 ∧ am_lk (co_Evener_leastCost l d) 5 = am_aload 0 6 ∧ am_lk (co_Evener_leastCost l d) 6 = am_getR 2 0 9 ∧ am_lk (co_Evener_leastCost l d) 9 = am_aload 1 10 ∧ am_lk (co_Evener_leastCost l d) 10 = am_getI 7 1 13 ∧ am_lk (co_Evener_leastCost l d) 13 = am_push (vI 0) 14 ∧ am_lk (co_Evener_leastCost l d) 14 = am_ast 0 (fun x => x) 15 ∧ am_lk (co_Evener_leastCost l d) 15 = am_aload 1 16 ∧ am_lk (co_Evener_leastCost l d) 16 = am_getI 7 1 19 ∧ am_lk (co_Evener_leastCost l d) 19 = am_push (vI 1) 20 ∧ am_lk (co_Evener_leastCost l d) 20 = am_isub 21 ∧ am_lk (co_Evener_leastCost l d) 21 = am_stp (am_istore 3 22) ∧ am_lk (co_Evener_leastCost l d) 22 = am_iload 3 23 ∧ am_lk (co_Evener_leastCost l d) 23 = am_if_lt 26 39 ∧ am_lk (co_Evener_leastCost l d) 26 = am_aload 0 27 ∧ am_lk (co_Evener_leastCost l d) 27 = am_aload 1 28 ∧ am_lk (co_Evener_leastCost l d) 28 = am_iload 3 29 ∧ am_lk (co_Evener_leastCost l d) 29 = am_iload 2 30 ∧ am_lk (co_Evener_leastCost l d) 30 = am_cal l d y_Evener_chooseEnd (some 2) 4 33 0 0 0 0 ∧ am_lk (co_Evener_leastCost l d) 33 = am_iinc 3 (-1) 36 ∧ am_lk (co_Evener_leastCost l d) 36 = am_stp (am_goto 22) ∧ am_lk (co_Evener_leastCost l d) 39 = am_aload 0 40 ∧ am_lk (co_Evener_leastCost l d) 40 = am_getR 2 0 43 ∧ am_lk (co_Evener_leastCost l d) 43 = am_push (vI 0) 44 ∧ am_lk (co_Evener_leastCost l d) 44 = am_ald 0 45 ∧ am_lk (co_Evener_leastCost l d) 45 = am_iret false := ⟨rfl, rfl, rfl, rfl, rfl, rfl, rfl, rfl, rfl, rfl, rfl, rfl, rfl, rfl, rfl, rfl, rfl, rfl, rfl, rfl, rfl, rfl, rfl, rfl, rfl, rfl, rfl, rfl⟩
theorem en_Evener_leastCost {l : Launch} {d : Nat} (n : Nat) {as : List am_V} {G : am_G} {I : am_I} {J : am_J} {P : am_P} (hlen : (as.map am_cat).sum ≤ 4) (h : am_go (am_lk (co_Evener_leastCost l d)) (am_X l (0, fun _ => 0) (d + 1) y_Evener_leastCost P) P n 0 (am_el 4 as) [] 0 0 G I J) : am_T l (d + 1) y_Evener_leastCost as G I J P :=
  am_T_of (sc := (0, fun _ => 0)) cf_Evener_leastCost (by decide +kernel) (by decide) (by decide +kernel) hlen (am_run (ok_lk _ (ck_Evener_leastCost)) n _ _ _ _ _ _ _ _ h)
theorem rn_Evener_leastCost {l : Launch} {sc : Nat × (Nat → Int32)} {d : Nat} {P : am_P} (n : Nat) {pc : Nat} {ls : am_L} {st : List am_V} {kc ks : Nat} {G : am_G} {I : am_I} {J : am_J} (h : am_go (am_lk (co_Evener_leastCost l d)) (am_X l sc (d + 1) y_Evener_leastCost P) P n pc ls st kc ks G I J) : am_X l sc (d + 1) y_Evener_leastCost P pc ls st kc ks G I J := am_run (ok_lk _ (ck_Evener_leastCost)) n _ _ _ _ _ _ _ _ h
def co_Evener_chooseEnd (l : Launch) (d : Nat) : List (Nat × am_S) := [(0, am_push (vI 0) 1), (1, am_istore 4 3), (3, am_aload 0 4), (4, am_getR 2 2 7), (7, am_aload 1 8), (8, am_iload 2 9), (9, am_cal l d y_Sheet_begin (some 5) 3 12 0 0 0 0), (12, am_iload 2 13), (13, am_stp (am_istore 5 15)), (15, am_iload 5 17), (17, am_aload 1 18), (18, am_getI 7 1 21), (21, am_icmp_ge 24 103), (24, am_aload 0 25), (25, am_getR 2 2 28), (28, am_aload 1 29), (29, am_iload 5 31), (31, am_cal l d y_Sheet_take (some 5) 3 34 0 0 0 0), (34, am_iload 3 35), (35, am_iload 5 37), (37, am_cal l d y_P_isIn none 2 40 0 0 0 0), (40, am_if_eq 43 97), (43, am_aload 0 44), (44, am_aload 1 45), (45, am_iload 5 47), (47, am_cal l d y_Evener_costOfSheet (some 2) 3 50 0 0 0 0), (50, am_aload 0 51), (51, am_getR 2 0 54), (54, am_iload 5 56), (56, am_push (vI 1) 57), (57, am_iadd 58), (58, am_ald 0 59), (59, am_iadd 60), (60, am_istore 6 62), (62, am_iload 4 64), (64, am_if_eq 67 78), (67, am_iload 6 69), (69, am_aload 0 70), (70, am_getR 2 0 73), (73, am_iload 2 74), (74, am_ald 0 75), (75, am_icmp_ge 78 97), (78, am_push (vI 1) 79), (79, am_istore 4 81), (81, am_aload 0 82), (82, am_getR 2 0 85), (85, am_iload 2 86), (86, am_iload 6 88), (88, am_ast 0 (fun x => x) 89), (89, am_aload 0 90), (90, am_getR 2 1 93), (93, am_iload 2 94), (94, am_iload 5 96), (96, am_ast 0 (fun x => x) 97), (97, am_iinc 5 1 100), (100, am_stp (am_goto 15)), (103, am_vret)]
theorem ck_Evener_chooseEnd {l : Launch} {sc : Nat × (Nat → Int32)} {d : Nat} : ∀ q ∈ co_Evener_chooseEnd l d, am_ok l sc (d + 1) y_Evener_chooseEnd q.1 q.2 :=
  fa_cons (ok_iconst (show decode (am_mB y_Evener_chooseEnd) 0 = .ok (.iconst 0, 1) by decide +kernel) rfl) <|
  fa_cons (ok_istore (show decode (am_mB y_Evener_chooseEnd) 1 = .ok (.istore 4, 2) by decide +kernel) (by decide +kernel)) <|
  fa_cons (ok_aload_n (show decode (am_mB y_Evener_chooseEnd) 3 = .ok (.aload_n 0, 1) by decide +kernel) rfl) <|
  fa_cons (ok_getR (show decode (am_mB y_Evener_chooseEnd) 4 = .ok (.getfield 21, 3) by decide +kernel) fl_Evener_21 (by decide +kernel)) <|
  fa_cons (ok_aload_n (show decode (am_mB y_Evener_chooseEnd) 7 = .ok (.aload_n 1, 1) by decide +kernel) rfl) <|
  fa_cons (ok_iload_n (show decode (am_mB y_Evener_chooseEnd) 8 = .ok (.iload_n 2, 1) by decide +kernel) rfl) <|
  fa_cons (ok_cal ⟨rfl, rfl, rfl, rfl⟩ (ok_callV (show decode (am_mB y_Evener_chooseEnd) 9 = .ok (.invokevirtual 39, 3) by decide +kernel) cf_Sheet_begin (by decide +kernel) ml_Evener_39 ci_Sheet_begin cv_Sheet_begin ⟨by decide, rfl⟩ rfl ⟨by decide +kernel, rfl⟩ (Or.inl (by decide +kernel)))) <|
  fa_cons (ok_iload_n (show decode (am_mB y_Evener_chooseEnd) 12 = .ok (.iload_n 2, 1) by decide +kernel) rfl) <|
  fa_cons (ok_stp (σ := am_istore 5 15) (ok_istore (show decode (am_mB y_Evener_chooseEnd) 13 = .ok (.istore 5, 2) by decide +kernel) (by decide +kernel))) <|
  fa_cons (ok_iload (show decode (am_mB y_Evener_chooseEnd) 15 = .ok (.iload 5, 2) by decide +kernel)) <|
  fa_cons (ok_aload_n (show decode (am_mB y_Evener_chooseEnd) 17 = .ok (.aload_n 1, 1) by decide +kernel) rfl) <|
  fa_cons (ok_getI (show decode (am_mB y_Evener_chooseEnd) 18 = .ok (.getfield 31, 3) by decide +kernel) fl_Evener_31 (by decide +kernel)) <|
  fa_cons (ok_icmp_ge (show decode (am_mB y_Evener_chooseEnd) 21 = .ok (.if_icmp .ge 82, 3) by decide +kernel) (by decide)) <|
  fa_cons (ok_aload_n (show decode (am_mB y_Evener_chooseEnd) 24 = .ok (.aload_n 0, 1) by decide +kernel) rfl) <|
  fa_cons (ok_getR (show decode (am_mB y_Evener_chooseEnd) 25 = .ok (.getfield 21, 3) by decide +kernel) fl_Evener_21 (by decide +kernel)) <|
  fa_cons (ok_aload_n (show decode (am_mB y_Evener_chooseEnd) 28 = .ok (.aload_n 1, 1) by decide +kernel) rfl) <|
  fa_cons (ok_iload (show decode (am_mB y_Evener_chooseEnd) 29 = .ok (.iload 5, 2) by decide +kernel)) <|
  fa_cons (ok_cal ⟨rfl, rfl, rfl, rfl⟩ (ok_callV (show decode (am_mB y_Evener_chooseEnd) 31 = .ok (.invokevirtual 43, 3) by decide +kernel) cf_Sheet_take (by decide +kernel) ml_Evener_43 ci_Sheet_take cv_Sheet_take ⟨by decide, rfl⟩ rfl ⟨by decide +kernel, rfl⟩ (Or.inl (by decide +kernel)))) <|
  fa_cons (ok_iload_n (show decode (am_mB y_Evener_chooseEnd) 34 = .ok (.iload_n 3, 1) by decide +kernel) rfl) <|
  fa_cons (ok_iload (show decode (am_mB y_Evener_chooseEnd) 35 = .ok (.iload 5, 2) by decide +kernel)) <|
  fa_cons (ok_cal ⟨rfl, rfl, rfl, rfl⟩ (ok_callS (show decode (am_mB y_Evener_chooseEnd) 37 = .ok (.invokestatic 46, 3) by decide +kernel) cf_P_isIn (by decide +kernel) ml_Evener_46 cs_P_isIn rfl ⟨by decide +kernel, rfl⟩ (Or.inl (by decide +kernel)))) <|
  fa_cons (ok_if_eq (show decode (am_mB y_Evener_chooseEnd) 40 = .ok (.ifCond .eq 57, 3) by decide +kernel) (by decide)) <|
  fa_cons (ok_aload_n (show decode (am_mB y_Evener_chooseEnd) 43 = .ok (.aload_n 0, 1) by decide +kernel) rfl) <|
  fa_cons (ok_aload_n (show decode (am_mB y_Evener_chooseEnd) 44 = .ok (.aload_n 1, 1) by decide +kernel) rfl) <|
  fa_cons (ok_iload (show decode (am_mB y_Evener_chooseEnd) 45 = .ok (.iload 5, 2) by decide +kernel)) <|
  fa_cons (ok_cal ⟨rfl, rfl, rfl, rfl⟩ (ok_callV (show decode (am_mB y_Evener_chooseEnd) 47 = .ok (.invokevirtual 50, 3) by decide +kernel) cf_Evener_costOfSheet (by decide +kernel) ml_Evener_50 ci_Evener_costOfSheet cv_Evener_costOfSheet ⟨by decide, rfl⟩ rfl ⟨by decide +kernel, rfl⟩ (Or.inl (by decide +kernel)))) <|
  fa_cons (ok_aload_n (show decode (am_mB y_Evener_chooseEnd) 50 = .ok (.aload_n 0, 1) by decide +kernel) rfl) <|
  fa_cons (ok_getR (show decode (am_mB y_Evener_chooseEnd) 51 = .ok (.getfield 9, 3) by decide +kernel) fl_Evener_9 (by decide +kernel)) <|
  fa_cons (ok_iload (show decode (am_mB y_Evener_chooseEnd) 54 = .ok (.iload 5, 2) by decide +kernel)) <|
  fa_cons (ok_iconst (show decode (am_mB y_Evener_chooseEnd) 56 = .ok (.iconst 1, 1) by decide +kernel) rfl) <|
  fa_cons (ok_iadd (show decode (am_mB y_Evener_chooseEnd) 57 = .ok (.iadd, 1) by decide +kernel)) <|
  fa_cons (ok_iald (show decode (am_mB y_Evener_chooseEnd) 58 = .ok (.iaload, 1) by decide +kernel)) <|
  fa_cons (ok_iadd (show decode (am_mB y_Evener_chooseEnd) 59 = .ok (.iadd, 1) by decide +kernel)) <|
  fa_cons (ok_istore (show decode (am_mB y_Evener_chooseEnd) 60 = .ok (.istore 6, 2) by decide +kernel) (by decide +kernel)) <|
  fa_cons (ok_iload (show decode (am_mB y_Evener_chooseEnd) 62 = .ok (.iload 4, 2) by decide +kernel)) <|
  fa_cons (ok_if_eq (show decode (am_mB y_Evener_chooseEnd) 64 = .ok (.ifCond .eq 14, 3) by decide +kernel) (by decide)) <|
  fa_cons (ok_iload (show decode (am_mB y_Evener_chooseEnd) 67 = .ok (.iload 6, 2) by decide +kernel)) <|
  fa_cons (ok_aload_n (show decode (am_mB y_Evener_chooseEnd) 69 = .ok (.aload_n 0, 1) by decide +kernel) rfl) <|
  fa_cons (ok_getR (show decode (am_mB y_Evener_chooseEnd) 70 = .ok (.getfield 9, 3) by decide +kernel) fl_Evener_9 (by decide +kernel)) <|
  fa_cons (ok_iload_n (show decode (am_mB y_Evener_chooseEnd) 73 = .ok (.iload_n 2, 1) by decide +kernel) rfl) <|
  fa_cons (ok_iald (show decode (am_mB y_Evener_chooseEnd) 74 = .ok (.iaload, 1) by decide +kernel)) <|
  fa_cons (ok_icmp_ge (show decode (am_mB y_Evener_chooseEnd) 75 = .ok (.if_icmp .ge 22, 3) by decide +kernel) (by decide)) <|
  fa_cons (ok_iconst (show decode (am_mB y_Evener_chooseEnd) 78 = .ok (.iconst 1, 1) by decide +kernel) rfl) <|
  fa_cons (ok_istore (show decode (am_mB y_Evener_chooseEnd) 79 = .ok (.istore 4, 2) by decide +kernel) (by decide +kernel)) <|
  fa_cons (ok_aload_n (show decode (am_mB y_Evener_chooseEnd) 81 = .ok (.aload_n 0, 1) by decide +kernel) rfl) <|
  fa_cons (ok_getR (show decode (am_mB y_Evener_chooseEnd) 82 = .ok (.getfield 9, 3) by decide +kernel) fl_Evener_9 (by decide +kernel)) <|
  fa_cons (ok_iload_n (show decode (am_mB y_Evener_chooseEnd) 85 = .ok (.iload_n 2, 1) by decide +kernel) rfl) <|
  fa_cons (ok_iload (show decode (am_mB y_Evener_chooseEnd) 86 = .ok (.iload 6, 2) by decide +kernel)) <|
  fa_cons (ok_iast (show decode (am_mB y_Evener_chooseEnd) 88 = .ok (.iastore, 1) by decide +kernel)) <|
  fa_cons (ok_aload_n (show decode (am_mB y_Evener_chooseEnd) 89 = .ok (.aload_n 0, 1) by decide +kernel) rfl) <|
  fa_cons (ok_getR (show decode (am_mB y_Evener_chooseEnd) 90 = .ok (.getfield 15, 3) by decide +kernel) fl_Evener_15 (by decide +kernel)) <|
  fa_cons (ok_iload_n (show decode (am_mB y_Evener_chooseEnd) 93 = .ok (.iload_n 2, 1) by decide +kernel) rfl) <|
  fa_cons (ok_iload (show decode (am_mB y_Evener_chooseEnd) 94 = .ok (.iload 5, 2) by decide +kernel)) <|
  fa_cons (ok_iast (show decode (am_mB y_Evener_chooseEnd) 96 = .ok (.iastore, 1) by decide +kernel)) <|
  fa_cons (ok_iinc (show decode (am_mB y_Evener_chooseEnd) 97 = .ok (.iinc 5 1, 3) by decide +kernel) (by decide +kernel) (by decide +kernel)) <|
  fa_cons (ok_stp (σ := am_goto 15) (ok_goto (show decode (am_mB y_Evener_chooseEnd) 100 = .ok (.goto (-85), 3) by decide +kernel) (by decide))) <|
  fa_cons (ok_vret (show decode (am_mB y_Evener_chooseEnd) 103 = .ok (.return_, 1) by decide +kernel) rfl (by decide +kernel)) <|
  fa_nil
set_option maxRecDepth 100000 in
theorem cq_Evener_chooseEnd (l : Launch) (d : Nat) : am_lk (co_Evener_chooseEnd l d) 0 = am_push (vI 0) 1 ∧ am_lk (co_Evener_chooseEnd l d) 1 = am_istore 4 3 ∧ am_lk (co_Evener_chooseEnd l d) 3 = am_aload 0 4 ∧ am_lk (co_Evener_chooseEnd l d) 4 = am_getR 2 2 7 ∧ am_lk (co_Evener_chooseEnd l d) 7 = am_aload 1 8 ∧ am_lk (co_Evener_chooseEnd l d) 8 = am_iload 2 9 ∧ am_lk (co_Evener_chooseEnd l d) 9 = am_cal l d y_Sheet_begin (some 5) 3 12 0 0 0 0 ∧ am_lk (co_Evener_chooseEnd l d) 12 = am_iload 2 13 ∧ am_lk (co_Evener_chooseEnd l d) 13 = am_stp (am_istore 5 15) ∧ am_lk (co_Evener_chooseEnd l d) 15 = am_iload 5 17 ∧ am_lk (co_Evener_chooseEnd l d) 17 = am_aload 1 18 ∧ am_lk (co_Evener_chooseEnd l d) 18 = am_getI 7 1 21 ∧ am_lk (co_Evener_chooseEnd l d) 21 = am_icmp_ge 24 103 ∧ am_lk (co_Evener_chooseEnd l d) 24 = am_aload 0 25 ∧ am_lk (co_Evener_chooseEnd l d) 25 = am_getR 2 2 28 ∧ am_lk (co_Evener_chooseEnd l d) 28 = am_aload 1 29 ∧ am_lk (co_Evener_chooseEnd l d) 29 = am_iload 5 31 ∧ am_lk (co_Evener_chooseEnd l d) 31 = am_cal l d y_Sheet_take (some 5) 3 34 0 0 0 0 ∧ am_lk (co_Evener_chooseEnd l d) 34 = am_iload 3 35 ∧ am_lk (co_Evener_chooseEnd l d) 35 = am_iload 5 37 ∧ am_lk (co_Evener_chooseEnd l d) 37 = am_cal l d y_P_isIn none 2 40 0 0 0 0 ∧ am_lk (co_Evener_chooseEnd l d) 40 = am_if_eq 43 97 ∧ am_lk (co_Evener_chooseEnd l d) 43 = am_aload 0 44 ∧ am_lk (co_Evener_chooseEnd l d) 44 = am_aload 1 45 ∧ am_lk (co_Evener_chooseEnd l d) 45 = am_iload 5 47 ∧ am_lk (co_Evener_chooseEnd l d) 47 = am_cal l d y_Evener_costOfSheet (some 2) 3 50 0 0 0 0 ∧ am_lk (co_Evener_chooseEnd l d) 50 = am_aload 0 51 ∧ am_lk (co_Evener_chooseEnd l d) 51 = am_getR 2 0 54 ∧ am_lk (co_Evener_chooseEnd l d) 54 = am_iload 5 56 ∧ am_lk (co_Evener_chooseEnd l d) 56 = am_push (vI 1) 57 ∧ am_lk (co_Evener_chooseEnd l d) 57 = am_iadd 58 ∧ am_lk (co_Evener_chooseEnd l d) 58 = am_ald 0 59 ∧ am_lk (co_Evener_chooseEnd l d) 59 = am_iadd 60 ∧ am_lk (co_Evener_chooseEnd l d) 60 = am_istore 6 62 ∧ am_lk (co_Evener_chooseEnd l d) 62 = am_iload 4 64 ∧ am_lk (co_Evener_chooseEnd l d) 64 = am_if_eq 67 78 ∧ am_lk (co_Evener_chooseEnd l d) 67 = am_iload 6 69 ∧ am_lk (co_Evener_chooseEnd l d) 69 = am_aload 0 70 ∧ am_lk (co_Evener_chooseEnd l d) 70 = am_getR 2 0 73 ∧ am_lk (co_Evener_chooseEnd l d) 73 = am_iload 2 74 ∧ am_lk (co_Evener_chooseEnd l d) 74 = am_ald 0 75 ∧ am_lk (co_Evener_chooseEnd l d) 75 = am_icmp_ge 78 97 ∧ am_lk (co_Evener_chooseEnd l d) 78 = am_push (vI 1) 79 ∧ am_lk (co_Evener_chooseEnd l d) 79 = am_istore 4 81 ∧ am_lk (co_Evener_chooseEnd l d) 81 = am_aload 0 82 ∧ am_lk (co_Evener_chooseEnd l d) 82 = am_getR 2 0 85 ∧ am_lk (co_Evener_chooseEnd l d) 85 = am_iload 2 86 ∧ am_lk (co_Evener_chooseEnd l d) 86 = am_iload 6 88 ∧ am_lk (co_Evener_chooseEnd l d) 88 = am_ast 0 (fun x => x) 89 ∧ am_lk (co_Evener_chooseEnd l d) 89 = am_aload 0 90 ∧ am_lk (co_Evener_chooseEnd l d) 90 = am_getR 2 1 93 ∧ am_lk (co_Evener_chooseEnd l d) 93 = am_iload 2 94 ∧ am_lk (co_Evener_chooseEnd l d) 94 = am_iload 5 96 ∧ am_lk (co_Evener_chooseEnd l d) 96 = am_ast 0 (fun x => x) 97 ∧ am_lk (co_Evener_chooseEnd l d) 97 = am_iinc 5 1 100 ∧ am_lk (co_Evener_chooseEnd l d) 100 = am_stp (am_goto 15) ∧ am_lk (co_Evener_chooseEnd l d) 103 = am_vret := ⟨rfl, rfl, rfl, rfl, rfl, rfl, rfl, rfl, rfl, rfl, rfl, rfl, rfl, rfl, rfl, rfl, rfl, rfl, rfl, rfl, rfl, rfl, rfl, rfl, rfl, rfl, rfl, rfl, rfl, rfl, rfl, rfl, rfl, rfl, rfl, rfl, rfl, rfl, rfl, rfl, rfl, rfl, rfl, rfl, rfl, rfl, rfl, rfl, rfl, rfl, rfl, rfl, rfl, rfl, rfl, rfl, rfl⟩
theorem en_Evener_chooseEnd {l : Launch} {d : Nat} (n : Nat) {as : List am_V} {G : am_G} {I : am_I} {J : am_J} {P : am_P} (hlen : (as.map am_cat).sum ≤ 7) (h : am_go (am_lk (co_Evener_chooseEnd l d)) (am_X l (0, fun _ => 0) (d + 1) y_Evener_chooseEnd P) P n 0 (am_el 7 as) [] 0 0 G I J) : am_T l (d + 1) y_Evener_chooseEnd as G I J P :=
  am_T_of (sc := (0, fun _ => 0)) cf_Evener_chooseEnd (by decide +kernel) (by decide) (by decide +kernel) hlen (am_run (ok_lk _ (ck_Evener_chooseEnd)) n _ _ _ _ _ _ _ _ h)
theorem rn_Evener_chooseEnd {l : Launch} {sc : Nat × (Nat → Int32)} {d : Nat} {P : am_P} (n : Nat) {pc : Nat} {ls : am_L} {st : List am_V} {kc ks : Nat} {G : am_G} {I : am_I} {J : am_J} (h : am_go (am_lk (co_Evener_chooseEnd l d)) (am_X l sc (d + 1) y_Evener_chooseEnd P) P n pc ls st kc ks G I J) : am_X l sc (d + 1) y_Evener_chooseEnd P pc ls st kc ks G I J := am_run (ok_lk _ (ck_Evener_chooseEnd)) n _ _ _ _ _ _ _ _ h
def co_Evener_costOfSheet (l : Launch) (d : Nat) : List (Nat × am_S) := [(0, am_aload 1 1), (1, am_getI 7 3 4), (4, am_aload 0 5), (5, am_getR 2 2 8), (8, am_cal l d y_Sheet_needed (some 5) 1 11 0 0 0 0), (11, am_isub 12), (12, am_istore 3 13), (13, am_iload 3 14), (14, am_if_ge 17 24), (17, am_push (vI 1000) 20), (20, am_iload 3 21), (21, am_ineg 22), (22, am_imul 23), (23, am_iret false), (24, am_iload 2 25), (25, am_aload 1 26), (26, am_getI 7 1 29), (29, am_push (vI 1) 30), (30, am_isub 31), (31, am_icmp_ne 34 38), (34, am_push (vI 0) 35), (35, am_goto 41), (38, am_iload 3 39), (39, am_iload 3 40), (40, am_imul 41), (41, am_iret false)]
theorem ck_Evener_costOfSheet {l : Launch} {sc : Nat × (Nat → Int32)} {d : Nat} : ∀ q ∈ co_Evener_costOfSheet l d, am_ok l sc (d + 1) y_Evener_costOfSheet q.1 q.2 :=
  fa_cons (ok_aload_n (show decode (am_mB y_Evener_costOfSheet) 0 = .ok (.aload_n 1, 1) by decide +kernel) rfl) <|
  fa_cons (ok_getI (show decode (am_mB y_Evener_costOfSheet) 1 = .ok (.getfield 54, 3) by decide +kernel) fl_Evener_54 (by decide +kernel)) <|
  fa_cons (ok_aload_n (show decode (am_mB y_Evener_costOfSheet) 4 = .ok (.aload_n 0, 1) by decide +kernel) rfl) <|
  fa_cons (ok_getR (show decode (am_mB y_Evener_costOfSheet) 5 = .ok (.getfield 21, 3) by decide +kernel) fl_Evener_21 (by decide +kernel)) <|
  fa_cons (ok_cal ⟨rfl, rfl, rfl, rfl⟩ (ok_callV (show decode (am_mB y_Evener_costOfSheet) 8 = .ok (.invokevirtual 57, 3) by decide +kernel) cf_Sheet_needed (by decide +kernel) ml_Evener_57 ci_Sheet_needed cv_Sheet_needed ⟨by decide, rfl⟩ rfl ⟨by decide +kernel, rfl⟩ (Or.inl (by decide +kernel)))) <|
  fa_cons (ok_isub (show decode (am_mB y_Evener_costOfSheet) 11 = .ok (.isub, 1) by decide +kernel)) <|
  fa_cons (ok_istore_n (show decode (am_mB y_Evener_costOfSheet) 12 = .ok (.istore_n 3, 1) by decide +kernel) rfl (by decide +kernel)) <|
  fa_cons (ok_iload_n (show decode (am_mB y_Evener_costOfSheet) 13 = .ok (.iload_n 3, 1) by decide +kernel) rfl) <|
  fa_cons (ok_if_ge (show decode (am_mB y_Evener_costOfSheet) 14 = .ok (.ifCond .ge 10, 3) by decide +kernel) (by decide)) <|
  fa_cons (ok_sipush (show decode (am_mB y_Evener_costOfSheet) 17 = .ok (.sipush 1000, 3) by decide +kernel) (by decide +kernel)) <|
  fa_cons (ok_iload_n (show decode (am_mB y_Evener_costOfSheet) 20 = .ok (.iload_n 3, 1) by decide +kernel) rfl) <|
  fa_cons (ok_ineg (show decode (am_mB y_Evener_costOfSheet) 21 = .ok (.ineg, 1) by decide +kernel)) <|
  fa_cons (ok_imul (show decode (am_mB y_Evener_costOfSheet) 22 = .ok (.imul, 1) by decide +kernel)) <|
  fa_cons (ok_iret (show decode (am_mB y_Evener_costOfSheet) 23 = .ok (.ireturn, 1) by decide +kernel) rfl) <|
  fa_cons (ok_iload_n (show decode (am_mB y_Evener_costOfSheet) 24 = .ok (.iload_n 2, 1) by decide +kernel) rfl) <|
  fa_cons (ok_aload_n (show decode (am_mB y_Evener_costOfSheet) 25 = .ok (.aload_n 1, 1) by decide +kernel) rfl) <|
  fa_cons (ok_getI (show decode (am_mB y_Evener_costOfSheet) 26 = .ok (.getfield 31, 3) by decide +kernel) fl_Evener_31 (by decide +kernel)) <|
  fa_cons (ok_iconst (show decode (am_mB y_Evener_costOfSheet) 29 = .ok (.iconst 1, 1) by decide +kernel) rfl) <|
  fa_cons (ok_isub (show decode (am_mB y_Evener_costOfSheet) 30 = .ok (.isub, 1) by decide +kernel)) <|
  fa_cons (ok_icmp_ne (show decode (am_mB y_Evener_costOfSheet) 31 = .ok (.if_icmp .ne 7, 3) by decide +kernel) (by decide)) <|
  fa_cons (ok_iconst (show decode (am_mB y_Evener_costOfSheet) 34 = .ok (.iconst 0, 1) by decide +kernel) rfl) <|
  fa_cons (ok_goto (show decode (am_mB y_Evener_costOfSheet) 35 = .ok (.goto 6, 3) by decide +kernel) (by decide)) <|
  fa_cons (ok_iload_n (show decode (am_mB y_Evener_costOfSheet) 38 = .ok (.iload_n 3, 1) by decide +kernel) rfl) <|
  fa_cons (ok_iload_n (show decode (am_mB y_Evener_costOfSheet) 39 = .ok (.iload_n 3, 1) by decide +kernel) rfl) <|
  fa_cons (ok_imul (show decode (am_mB y_Evener_costOfSheet) 40 = .ok (.imul, 1) by decide +kernel)) <|
  fa_cons (ok_iret (show decode (am_mB y_Evener_costOfSheet) 41 = .ok (.ireturn, 1) by decide +kernel) rfl) <|
  fa_nil
set_option maxRecDepth 100000 in
theorem cq_Evener_costOfSheet (l : Launch) (d : Nat) : am_lk (co_Evener_costOfSheet l d) 0 = am_aload 1 1 ∧ am_lk (co_Evener_costOfSheet l d) 1 = am_getI 7 3 4 ∧ am_lk (co_Evener_costOfSheet l d) 4 = am_aload 0 5 ∧ am_lk (co_Evener_costOfSheet l d) 5 = am_getR 2 2 8 ∧ am_lk (co_Evener_costOfSheet l d) 8 = am_cal l d y_Sheet_needed (some 5) 1 11 0 0 0 0 ∧ am_lk (co_Evener_costOfSheet l d) 11 = am_isub 12 ∧ am_lk (co_Evener_costOfSheet l d) 12 = am_istore 3 13 ∧ am_lk (co_Evener_costOfSheet l d) 13 = am_iload 3 14 ∧ am_lk (co_Evener_costOfSheet l d) 14 = am_if_ge 17 24 ∧ am_lk (co_Evener_costOfSheet l d) 17 = am_push (vI 1000) 20 ∧ am_lk (co_Evener_costOfSheet l d) 20 = am_iload 3 21 ∧ am_lk (co_Evener_costOfSheet l d) 21 = am_ineg 22 ∧ am_lk (co_Evener_costOfSheet l d) 22 = am_imul 23 ∧ am_lk (co_Evener_costOfSheet l d) 23 = am_iret false ∧ am_lk (co_Evener_costOfSheet l d) 24 = am_iload 2 25 ∧ am_lk (co_Evener_costOfSheet l d) 25 = am_aload 1 26 ∧ am_lk (co_Evener_costOfSheet l d) 26 = am_getI 7 1 29 ∧ am_lk (co_Evener_costOfSheet l d) 29 = am_push (vI 1) 30 ∧ am_lk (co_Evener_costOfSheet l d) 30 = am_isub 31 ∧ am_lk (co_Evener_costOfSheet l d) 31 = am_icmp_ne 34 38 ∧ am_lk (co_Evener_costOfSheet l d) 34 = am_push (vI 0) 35 ∧ am_lk (co_Evener_costOfSheet l d) 35 = am_goto 41 ∧ am_lk (co_Evener_costOfSheet l d) 38 = am_iload 3 39 ∧ am_lk (co_Evener_costOfSheet l d) 39 = am_iload 3 40 ∧ am_lk (co_Evener_costOfSheet l d) 40 = am_imul 41 ∧ am_lk (co_Evener_costOfSheet l d) 41 = am_iret false := ⟨rfl, rfl, rfl, rfl, rfl, rfl, rfl, rfl, rfl, rfl, rfl, rfl, rfl, rfl, rfl, rfl, rfl, rfl, rfl, rfl, rfl, rfl, rfl, rfl, rfl, rfl⟩
theorem en_Evener_costOfSheet {l : Launch} {d : Nat} (n : Nat) {as : List am_V} {G : am_G} {I : am_I} {J : am_J} {P : am_P} (hlen : (as.map am_cat).sum ≤ 4) (h : am_go (am_lk (co_Evener_costOfSheet l d)) (am_X l (0, fun _ => 0) (d + 1) y_Evener_costOfSheet P) P n 0 (am_el 4 as) [] 0 0 G I J) : am_T l (d + 1) y_Evener_costOfSheet as G I J P :=
  am_T_of (sc := (0, fun _ => 0)) cf_Evener_costOfSheet (by decide +kernel) (by decide) (by decide +kernel) hlen (am_run (ok_lk _ (ck_Evener_costOfSheet)) n _ _ _ _ _ _ _ _ h)
theorem rn_Evener_costOfSheet {l : Launch} {sc : Nat × (Nat → Int32)} {d : Nat} {P : am_P} (n : Nat) {pc : Nat} {ls : am_L} {st : List am_V} {kc ks : Nat} {G : am_G} {I : am_I} {J : am_J} (h : am_go (am_lk (co_Evener_costOfSheet l d)) (am_X l sc (d + 1) y_Evener_costOfSheet P) P n pc ls st kc ks G I J) : am_X l sc (d + 1) y_Evener_costOfSheet P pc ls st kc ks G I J := am_run (ok_lk _ (ck_Evener_costOfSheet)) n _ _ _ _ _ _ _ _ h
def co_Evener_lastOf (l : Launch) (d : Nat) : List (Nat × am_S) := [(0, am_push (vI 0) 1), (1, am_istore 3 2), (2, am_push (vI 0) 3), (3, am_stp (am_istore 4 5)), (5, am_iload 4 7), (7, am_push (vI 24) 9), (9, am_icmp_ge 12 48), (12, am_iload 3 13), (13, am_aload 1 14), (14, am_getI 7 1 17), (17, am_icmp_ge 20 48), (20, am_aload 0 21), (21, am_getR 2 1 24), (24, am_iload 3 25), (25, am_ald 0 26), (26, am_istore 5 28), (28, am_iload 4 30), (30, am_iload 2 31), (31, am_icmp_ne 34 37), (34, am_iload 5 36), (36, am_iret false), (37, am_iload 5 39), (39, am_push (vI 1) 40), (40, am_iadd 41), (41, am_istore 3 42), (42, am_iinc 4 1 45), (45, am_stp (am_goto 5)), (48, am_push (vI (-999999)) 50), (50, am_iret false)]
theorem ck_Evener_lastOf {l : Launch} {sc : Nat × (Nat → Int32)} {d : Nat} : ∀ q ∈ co_Evener_lastOf l d, am_ok l sc (d + 1) y_Evener_lastOf q.1 q.2 :=
  fa_cons (ok_iconst (show decode (am_mB y_Evener_lastOf) 0 = .ok (.iconst 0, 1) by decide +kernel) rfl) <|
  fa_cons (ok_istore_n (show decode (am_mB y_Evener_lastOf) 1 = .ok (.istore_n 3, 1) by decide +kernel) rfl (by decide +kernel)) <|
  fa_cons (ok_iconst (show decode (am_mB y_Evener_lastOf) 2 = .ok (.iconst 0, 1) by decide +kernel) rfl) <|
  fa_cons (ok_stp (σ := am_istore 4 5) (ok_istore (show decode (am_mB y_Evener_lastOf) 3 = .ok (.istore 4, 2) by decide +kernel) (by decide +kernel))) <|
  fa_cons (ok_iload (show decode (am_mB y_Evener_lastOf) 5 = .ok (.iload 4, 2) by decide +kernel)) <|
  fa_cons (ok_bipush (show decode (am_mB y_Evener_lastOf) 7 = .ok (.bipush 24, 2) by decide +kernel) (by decide +kernel)) <|
  fa_cons (ok_icmp_ge (show decode (am_mB y_Evener_lastOf) 9 = .ok (.if_icmp .ge 39, 3) by decide +kernel) (by decide)) <|
  fa_cons (ok_iload_n (show decode (am_mB y_Evener_lastOf) 12 = .ok (.iload_n 3, 1) by decide +kernel) rfl) <|
  fa_cons (ok_aload_n (show decode (am_mB y_Evener_lastOf) 13 = .ok (.aload_n 1, 1) by decide +kernel) rfl) <|
  fa_cons (ok_getI (show decode (am_mB y_Evener_lastOf) 14 = .ok (.getfield 31, 3) by decide +kernel) fl_Evener_31 (by decide +kernel)) <|
  fa_cons (ok_icmp_ge (show decode (am_mB y_Evener_lastOf) 17 = .ok (.if_icmp .ge 31, 3) by decide +kernel) (by decide)) <|
  fa_cons (ok_aload_n (show decode (am_mB y_Evener_lastOf) 20 = .ok (.aload_n 0, 1) by decide +kernel) rfl) <|
  fa_cons (ok_getR (show decode (am_mB y_Evener_lastOf) 21 = .ok (.getfield 15, 3) by decide +kernel) fl_Evener_15 (by decide +kernel)) <|
  fa_cons (ok_iload_n (show decode (am_mB y_Evener_lastOf) 24 = .ok (.iload_n 3, 1) by decide +kernel) rfl) <|
  fa_cons (ok_iald (show decode (am_mB y_Evener_lastOf) 25 = .ok (.iaload, 1) by decide +kernel)) <|
  fa_cons (ok_istore (show decode (am_mB y_Evener_lastOf) 26 = .ok (.istore 5, 2) by decide +kernel) (by decide +kernel)) <|
  fa_cons (ok_iload (show decode (am_mB y_Evener_lastOf) 28 = .ok (.iload 4, 2) by decide +kernel)) <|
  fa_cons (ok_iload_n (show decode (am_mB y_Evener_lastOf) 30 = .ok (.iload_n 2, 1) by decide +kernel) rfl) <|
  fa_cons (ok_icmp_ne (show decode (am_mB y_Evener_lastOf) 31 = .ok (.if_icmp .ne 6, 3) by decide +kernel) (by decide)) <|
  fa_cons (ok_iload (show decode (am_mB y_Evener_lastOf) 34 = .ok (.iload 5, 2) by decide +kernel)) <|
  fa_cons (ok_iret (show decode (am_mB y_Evener_lastOf) 36 = .ok (.ireturn, 1) by decide +kernel) rfl) <|
  fa_cons (ok_iload (show decode (am_mB y_Evener_lastOf) 37 = .ok (.iload 5, 2) by decide +kernel)) <|
  fa_cons (ok_iconst (show decode (am_mB y_Evener_lastOf) 39 = .ok (.iconst 1, 1) by decide +kernel) rfl) <|
  fa_cons (ok_iadd (show decode (am_mB y_Evener_lastOf) 40 = .ok (.iadd, 1) by decide +kernel)) <|
  fa_cons (ok_istore_n (show decode (am_mB y_Evener_lastOf) 41 = .ok (.istore_n 3, 1) by decide +kernel) rfl (by decide +kernel)) <|
  fa_cons (ok_iinc (show decode (am_mB y_Evener_lastOf) 42 = .ok (.iinc 4 1, 3) by decide +kernel) (by decide +kernel) (by decide +kernel)) <|
  fa_cons (ok_stp (σ := am_goto 5) (ok_goto (show decode (am_mB y_Evener_lastOf) 45 = .ok (.goto (-40), 3) by decide +kernel) (by decide))) <|
  fa_cons (ok_ldc (show decode (am_mB y_Evener_lastOf) 48 = .ok (.ldc 60, 2) by decide +kernel) w_841) <|
  fa_cons (ok_iret (show decode (am_mB y_Evener_lastOf) 50 = .ok (.ireturn, 1) by decide +kernel) rfl) <|
  fa_nil
set_option maxRecDepth 100000 in
theorem cq_Evener_lastOf (l : Launch) (d : Nat) : am_lk (co_Evener_lastOf l d) 0 = am_push (vI 0) 1 ∧ am_lk (co_Evener_lastOf l d) 1 = am_istore 3 2 ∧ am_lk (co_Evener_lastOf l d) 2 = am_push (vI 0) 3 ∧ am_lk (co_Evener_lastOf l d) 3 = am_stp (am_istore 4 5) ∧ am_lk (co_Evener_lastOf l d) 5 = am_iload 4 7 ∧ am_lk (co_Evener_lastOf l d) 7 = am_push (vI 24) 9 ∧ am_lk (co_Evener_lastOf l d) 9 = am_icmp_ge 12 48 ∧ am_lk (co_Evener_lastOf l d) 12 = am_iload 3 13 ∧ am_lk (co_Evener_lastOf l d) 13 = am_aload 1 14 ∧ am_lk (co_Evener_lastOf l d) 14 = am_getI 7 1 17 ∧ am_lk (co_Evener_lastOf l d) 17 = am_icmp_ge 20 48 ∧ am_lk (co_Evener_lastOf l d) 20 = am_aload 0 21 ∧ am_lk (co_Evener_lastOf l d) 21 = am_getR 2 1 24 ∧ am_lk (co_Evener_lastOf l d) 24 = am_iload 3 25 ∧ am_lk (co_Evener_lastOf l d) 25 = am_ald 0 26 ∧ am_lk (co_Evener_lastOf l d) 26 = am_istore 5 28 ∧ am_lk (co_Evener_lastOf l d) 28 = am_iload 4 30 ∧ am_lk (co_Evener_lastOf l d) 30 = am_iload 2 31 ∧ am_lk (co_Evener_lastOf l d) 31 = am_icmp_ne 34 37 ∧ am_lk (co_Evener_lastOf l d) 34 = am_iload 5 36 ∧ am_lk (co_Evener_lastOf l d) 36 = am_iret false ∧ am_lk (co_Evener_lastOf l d) 37 = am_iload 5 39 ∧ am_lk (co_Evener_lastOf l d) 39 = am_push (vI 1) 40 ∧ am_lk (co_Evener_lastOf l d) 40 = am_iadd 41 ∧ am_lk (co_Evener_lastOf l d) 41 = am_istore 3 42 ∧ am_lk (co_Evener_lastOf l d) 42 = am_iinc 4 1 45 ∧ am_lk (co_Evener_lastOf l d) 45 = am_stp (am_goto 5) ∧ am_lk (co_Evener_lastOf l d) 48 = am_push (vI (-999999)) 50 ∧ am_lk (co_Evener_lastOf l d) 50 = am_iret false := ⟨rfl, rfl, rfl, rfl, rfl, rfl, rfl, rfl, rfl, rfl, rfl, rfl, rfl, rfl, rfl, rfl, rfl, rfl, rfl, rfl, rfl, rfl, rfl, rfl, rfl, rfl, rfl, rfl, rfl⟩
theorem en_Evener_lastOf {l : Launch} {d : Nat} (n : Nat) {as : List am_V} {G : am_G} {I : am_I} {J : am_J} {P : am_P} (hlen : (as.map am_cat).sum ≤ 6) (h : am_go (am_lk (co_Evener_lastOf l d)) (am_X l (0, fun _ => 0) (d + 1) y_Evener_lastOf P) P n 0 (am_el 6 as) [] 0 0 G I J) : am_T l (d + 1) y_Evener_lastOf as G I J P :=
  am_T_of (sc := (0, fun _ => 0)) cf_Evener_lastOf (by decide +kernel) (by decide) (by decide +kernel) hlen (am_run (ok_lk _ (ck_Evener_lastOf)) n _ _ _ _ _ _ _ _ h)
theorem rn_Evener_lastOf {l : Launch} {sc : Nat × (Nat → Int32)} {d : Nat} {P : am_P} (n : Nat) {pc : Nat} {ls : am_L} {st : List am_V} {kc ks : Nat} {G : am_G} {I : am_I} {J : am_J} (h : am_go (am_lk (co_Evener_lastOf l d)) (am_X l sc (d + 1) y_Evener_lastOf P) P n pc ls st kc ks G I J) : am_X l sc (d + 1) y_Evener_lastOf P pc ls st kc ks G I J := am_run (ok_lk _ (ck_Evener_lastOf)) n _ _ _ _ _ _ _ _ h
def co_History_init (l : Launch) (d : Nat) : List (Nat × am_S) := [(0, am_aload 0 1), (1, am_oinit 4), (4, am_aload 0 5), (5, am_push (vI 14) 7), (7, am_mka 4 10 127 2898), (10, am_putR 3 0 13), (13, am_push (vI 0) 14), (14, am_stp (am_istore 1 15)), (15, am_iload 1 16), (16, am_push (vI 14) 18), (18, am_icmp_ge 21 40), (21, am_aload 0 22), (22, am_getR 3 0 25), (25, am_iload 1 26), (26, am_mk 7 29 127 2898), (29, am_dup 30), (30, am_cal l d y_Table_init (some 7) 1 33 8 193 127 2898), (33, am_qast 34), (34, am_iinc 1 1 37), (37, am_stp (am_goto 15)), (40, am_vret)]
theorem ck_History_init {l : Launch} {sc : Nat × (Nat → Int32)} {d : Nat} : ∀ q ∈ co_History_init l d, am_ok l sc (d + 1) y_History_init q.1 q.2 :=
  fa_cons (ok_aload_n (show decode (am_mB y_History_init) 0 = .ok (.aload_n 0, 1) by decide +kernel) rfl) <|
  fa_cons (ok_oinit (show decode (am_mB y_History_init) 1 = .ok (.invokespecial 3, 3) by decide +kernel) w_137 w_24 w_25 (by omega)) <|
  fa_cons (ok_aload_n (show decode (am_mB y_History_init) 4 = .ok (.aload_n 0, 1) by decide +kernel) rfl) <|
  fa_cons (ok_bipush (show decode (am_mB y_History_init) 5 = .ok (.bipush 14, 2) by decide +kernel) (by decide +kernel)) <|
  fa_cons (ok_mka ⟨rfl, rfl⟩ (ok_newq (show decode (am_mB y_History_init) 7 = .ok (.anewarray 9, 3) by decide +kernel) w_138)) <|
  fa_cons (ok_putR (show decode (am_mB y_History_init) 10 = .ok (.putfield 11, 3) by decide +kernel) w_141 (by decide +kernel) (by decide +kernel)) <|
  fa_cons (ok_iconst (show decode (am_mB y_History_init) 13 = .ok (.iconst 0, 1) by decide +kernel) rfl) <|
  fa_cons (ok_stp (σ := am_istore 1 15) (ok_istore_n (show decode (am_mB y_History_init) 14 = .ok (.istore_n 1, 1) by decide +kernel) rfl (by decide +kernel))) <|
  fa_cons (ok_iload_n (show decode (am_mB y_History_init) 15 = .ok (.iload_n 1, 1) by decide +kernel) rfl) <|
  fa_cons (ok_bipush (show decode (am_mB y_History_init) 16 = .ok (.bipush 14, 2) by decide +kernel) (by decide +kernel)) <|
  fa_cons (ok_icmp_ge (show decode (am_mB y_History_init) 18 = .ok (.if_icmp .ge 22, 3) by decide +kernel) (by decide)) <|
  fa_cons (ok_aload_n (show decode (am_mB y_History_init) 21 = .ok (.aload_n 0, 1) by decide +kernel) rfl) <|
  fa_cons (ok_getR (show decode (am_mB y_History_init) 22 = .ok (.getfield 11, 3) by decide +kernel) fl_History_11 (by decide +kernel)) <|
  fa_cons (ok_iload_n (show decode (am_mB y_History_init) 25 = .ok (.iload_n 1, 1) by decide +kernel) rfl) <|
  fa_cons (ok_mk ⟨rfl, rfl⟩ (ok_new (show decode (am_mB y_History_init) 26 = .ok (.new 9, 3) by decide +kernel) w_138 (by decide))) <|
  fa_cons (ok_dup (show decode (am_mB y_History_init) 29 = .ok (.dup, 1) by decide +kernel)) <|
  fa_cons (ok_cal ⟨rfl, rfl, rfl, rfl⟩ (ok_callI (show decode (am_mB y_History_init) 30 = .ok (.invokespecial 17, 3) by decide +kernel) cf_Table_init (by decide +kernel) ml_History_17 ci_Table_init ⟨rfl, rfl⟩ (by decide) rfl ⟨by decide +kernel, rfl⟩ (Or.inl (by decide +kernel)))) <|
  fa_cons (ok_qast (show decode (am_mB y_History_init) 33 = .ok (.aastore, 1) by decide +kernel)) <|
  fa_cons (ok_iinc (show decode (am_mB y_History_init) 34 = .ok (.iinc 1 1, 3) by decide +kernel) (by decide +kernel) (by decide +kernel)) <|
  fa_cons (ok_stp (σ := am_goto 15) (ok_goto (show decode (am_mB y_History_init) 37 = .ok (.goto (-22), 3) by decide +kernel) (by decide))) <|
  fa_cons (ok_vret (show decode (am_mB y_History_init) 40 = .ok (.return_, 1) by decide +kernel) rfl (by decide +kernel)) <|
  fa_nil
set_option maxRecDepth 100000 in
theorem cq_History_init (l : Launch) (d : Nat) : am_lk (co_History_init l d) 0 = am_aload 0 1 ∧ am_lk (co_History_init l d) 1 = am_oinit 4 ∧ am_lk (co_History_init l d) 4 = am_aload 0 5 ∧ am_lk (co_History_init l d) 5 = am_push (vI 14) 7 ∧ am_lk (co_History_init l d) 7 = am_mka 4 10 127 2898 ∧ am_lk (co_History_init l d) 10 = am_putR 3 0 13 ∧ am_lk (co_History_init l d) 13 = am_push (vI 0) 14 ∧ am_lk (co_History_init l d) 14 = am_stp (am_istore 1 15) ∧ am_lk (co_History_init l d) 15 = am_iload 1 16 ∧ am_lk (co_History_init l d) 16 = am_push (vI 14) 18 ∧ am_lk (co_History_init l d) 18 = am_icmp_ge 21 40 ∧ am_lk (co_History_init l d) 21 = am_aload 0 22 ∧ am_lk (co_History_init l d) 22 = am_getR 3 0 25 ∧ am_lk (co_History_init l d) 25 = am_iload 1 26 ∧ am_lk (co_History_init l d) 26 = am_mk 7 29 127 2898 ∧ am_lk (co_History_init l d) 29 = am_dup 30 ∧ am_lk (co_History_init l d) 30 = am_cal l d y_Table_init (some 7) 1 33 8 193 127 2898 ∧ am_lk (co_History_init l d) 33 = am_qast 34 ∧ am_lk (co_History_init l d) 34 = am_iinc 1 1 37 ∧ am_lk (co_History_init l d) 37 = am_stp (am_goto 15) ∧ am_lk (co_History_init l d) 40 = am_vret := ⟨rfl, rfl, rfl, rfl, rfl, rfl, rfl, rfl, rfl, rfl, rfl, rfl, rfl, rfl, rfl, rfl, rfl, rfl, rfl, rfl, rfl⟩
theorem en_History_init {l : Launch} {d : Nat} (n : Nat) {as : List am_V} {G : am_G} {I : am_I} {J : am_J} {P : am_P} (hlen : (as.map am_cat).sum ≤ 2) (h : am_go (am_lk (co_History_init l d)) (am_X l (0, fun _ => 0) (d + 1) y_History_init P) P n 0 (am_el 2 as) [] 0 0 G I J) : am_T l (d + 1) y_History_init as G I J P :=
  am_T_of (sc := (0, fun _ => 0)) cf_History_init (by decide +kernel) (by decide) (by decide +kernel) hlen (am_run (ok_lk _ (ck_History_init)) n _ _ _ _ _ _ _ _ h)
theorem rn_History_init {l : Launch} {sc : Nat × (Nat → Int32)} {d : Nat} {P : am_P} (n : Nat) {pc : Nat} {ls : am_L} {st : List am_V} {kc ks : Nat} {G : am_G} {I : am_I} {J : am_J} (h : am_go (am_lk (co_History_init l d)) (am_X l sc (d + 1) y_History_init P) P n pc ls st kc ks G I J) : am_X l sc (d + 1) y_History_init P pc ls st kc ks G I J := am_run (ok_lk _ (ck_History_init)) n _ _ _ _ _ _ _ _ h
def co_History_forget (l : Launch) (d : Nat) : List (Nat × am_S) := [(0, am_aload 0 1), (1, am_push (vI 0) 2), (2, am_putI 3 2 5), (5, am_vret)]
theorem ck_History_forget {l : Launch} {sc : Nat × (Nat → Int32)} {d : Nat} : ∀ q ∈ co_History_forget l d, am_ok l sc (d + 1) y_History_forget q.1 q.2 :=
  fa_cons (ok_aload_n (show decode (am_mB y_History_forget) 0 = .ok (.aload_n 0, 1) by decide +kernel) rfl) <|
  fa_cons (ok_iconst (show decode (am_mB y_History_forget) 1 = .ok (.iconst 0, 1) by decide +kernel) rfl) <|
  fa_cons (ok_putI (show decode (am_mB y_History_forget) 2 = .ok (.putfield 18, 3) by decide +kernel) fl_History_18 (by decide +kernel)) <|
  fa_cons (ok_vret (show decode (am_mB y_History_forget) 5 = .ok (.return_, 1) by decide +kernel) rfl (by decide +kernel)) <|
  fa_nil
set_option maxRecDepth 100000 in
theorem cq_History_forget (l : Launch) (d : Nat) : am_lk (co_History_forget l d) 0 = am_aload 0 1 ∧ am_lk (co_History_forget l d) 1 = am_push (vI 0) 2 ∧ am_lk (co_History_forget l d) 2 = am_putI 3 2 5 ∧ am_lk (co_History_forget l d) 5 = am_vret := ⟨rfl, rfl, rfl, rfl⟩
theorem en_History_forget {l : Launch} {d : Nat} (n : Nat) {as : List am_V} {G : am_G} {I : am_I} {J : am_J} {P : am_P} (hlen : (as.map am_cat).sum ≤ 1) (h : am_go (am_lk (co_History_forget l d)) (am_X l (0, fun _ => 0) (d + 1) y_History_forget P) P n 0 (am_el 1 as) [] 0 0 G I J) : am_T l (d + 1) y_History_forget as G I J P :=
  am_T_of (sc := (0, fun _ => 0)) cf_History_forget (by decide +kernel) (by decide) (by decide +kernel) hlen (am_run (ok_lk _ (ck_History_forget)) n _ _ _ _ _ _ _ _ h)
theorem rn_History_forget {l : Launch} {sc : Nat × (Nat → Int32)} {d : Nat} {P : am_P} (n : Nat) {pc : Nat} {ls : am_L} {st : List am_V} {kc ks : Nat} {G : am_G} {I : am_I} {J : am_J} (h : am_go (am_lk (co_History_forget l d)) (am_X l sc (d + 1) y_History_forget P) P n pc ls st kc ks G I J) : am_X l sc (d + 1) y_History_forget P pc ls st kc ks G I J := am_run (ok_lk _ (ck_History_forget)) n _ _ _ _ _ _ _ _ h
def co_History_remember (l : Launch) (d : Nat) : List (Nat × am_S) := [(0, am_aload 0 1), (1, am_getR 3 0 4), (4, am_aload 0 5), (5, am_getI 3 1 8), (8, am_qald 9), (9, am_aload 1 10), (10, am_cal l d y_Table_copyFrom (some 7) 2 13 0 0 0 0), (13, am_aload 0 14), (14, am_aload 0 15), (15, am_getI 3 1 18), (18, am_push (vI 1) 19), (19, am_iadd 20), (20, am_push (vI 14) 22), (22, am_irem 23), (23, am_putI 3 1 26), (26, am_aload 0 27), (27, am_aload 0 28), (28, am_getI 3 2 31), (31, am_push (vI 1) 32), (32, am_iadd 33), (33, am_push (vI 14) 35), (35, am_mmin 38), (38, am_putI 3 2 41), (41, am_vret)]
theorem ck_History_remember {l : Launch} {sc : Nat × (Nat → Int32)} {d : Nat} : ∀ q ∈ co_History_remember l d, am_ok l sc (d + 1) y_History_remember q.1 q.2 :=
  fa_cons (ok_aload_n (show decode (am_mB y_History_remember) 0 = .ok (.aload_n 0, 1) by decide +kernel) rfl) <|
  fa_cons (ok_getR (show decode (am_mB y_History_remember) 1 = .ok (.getfield 11, 3) by decide +kernel) fl_History_11 (by decide +kernel)) <|
  fa_cons (ok_aload_n (show decode (am_mB y_History_remember) 4 = .ok (.aload_n 0, 1) by decide +kernel) rfl) <|
  fa_cons (ok_getI (show decode (am_mB y_History_remember) 5 = .ok (.getfield 22, 3) by decide +kernel) fl_History_22 (by decide +kernel)) <|
  fa_cons (ok_qald (show decode (am_mB y_History_remember) 8 = .ok (.aaload, 1) by decide +kernel)) <|
  fa_cons (ok_aload_n (show decode (am_mB y_History_remember) 9 = .ok (.aload_n 1, 1) by decide +kernel) rfl) <|
  fa_cons (ok_cal ⟨rfl, rfl, rfl, rfl⟩ (ok_callV (show decode (am_mB y_History_remember) 10 = .ok (.invokevirtual 25, 3) by decide +kernel) cf_Table_copyFrom (by decide +kernel) ml_History_25 ci_Table_copyFrom cv_Table_copyFrom ⟨by decide, rfl⟩ rfl ⟨by decide +kernel, rfl⟩ (Or.inl (by decide +kernel)))) <|
  fa_cons (ok_aload_n (show decode (am_mB y_History_remember) 13 = .ok (.aload_n 0, 1) by decide +kernel) rfl) <|
  fa_cons (ok_aload_n (show decode (am_mB y_History_remember) 14 = .ok (.aload_n 0, 1) by decide +kernel) rfl) <|
  fa_cons (ok_getI (show decode (am_mB y_History_remember) 15 = .ok (.getfield 22, 3) by decide +kernel) fl_History_22 (by decide +kernel)) <|
  fa_cons (ok_iconst (show decode (am_mB y_History_remember) 18 = .ok (.iconst 1, 1) by decide +kernel) rfl) <|
  fa_cons (ok_iadd (show decode (am_mB y_History_remember) 19 = .ok (.iadd, 1) by decide +kernel)) <|
  fa_cons (ok_bipush (show decode (am_mB y_History_remember) 20 = .ok (.bipush 14, 2) by decide +kernel) (by decide +kernel)) <|
  fa_cons (ok_irem (show decode (am_mB y_History_remember) 22 = .ok (.irem, 1) by decide +kernel)) <|
  fa_cons (ok_putI (show decode (am_mB y_History_remember) 23 = .ok (.putfield 22, 3) by decide +kernel) fl_History_22 (by decide +kernel)) <|
  fa_cons (ok_aload_n (show decode (am_mB y_History_remember) 26 = .ok (.aload_n 0, 1) by decide +kernel) rfl) <|
  fa_cons (ok_aload_n (show decode (am_mB y_History_remember) 27 = .ok (.aload_n 0, 1) by decide +kernel) rfl) <|
  fa_cons (ok_getI (show decode (am_mB y_History_remember) 28 = .ok (.getfield 18, 3) by decide +kernel) fl_History_18 (by decide +kernel)) <|
  fa_cons (ok_iconst (show decode (am_mB y_History_remember) 31 = .ok (.iconst 1, 1) by decide +kernel) rfl) <|
  fa_cons (ok_iadd (show decode (am_mB y_History_remember) 32 = .ok (.iadd, 1) by decide +kernel)) <|
  fa_cons (ok_bipush (show decode (am_mB y_History_remember) 33 = .ok (.bipush 14, 2) by decide +kernel) (by decide +kernel)) <|
  fa_cons (ok_mmin (show decode (am_mB y_History_remember) 35 = .ok (.invokestatic 29, 3) by decide +kernel) w_734 w_313 w_15 w_314 (by omega)) <|
  fa_cons (ok_putI (show decode (am_mB y_History_remember) 38 = .ok (.putfield 18, 3) by decide +kernel) fl_History_18 (by decide +kernel)) <|
  fa_cons (ok_vret (show decode (am_mB y_History_remember) 41 = .ok (.return_, 1) by decide +kernel) rfl (by decide +kernel)) <|
  fa_nil
set_option maxRecDepth 100000 in
theorem cq_History_remember (l : Launch) (d : Nat) : am_lk (co_History_remember l d) 0 = am_aload 0 1 ∧ am_lk (co_History_remember l d) 1 = am_getR 3 0 4 ∧ am_lk (co_History_remember l d) 4 = am_aload 0 5 ∧ am_lk (co_History_remember l d) 5 = am_getI 3 1 8 ∧ am_lk (co_History_remember l d) 8 = am_qald 9 ∧ am_lk (co_History_remember l d) 9 = am_aload 1 10 ∧ am_lk (co_History_remember l d) 10 = am_cal l d y_Table_copyFrom (some 7) 2 13 0 0 0 0 ∧ am_lk (co_History_remember l d) 13 = am_aload 0 14 ∧ am_lk (co_History_remember l d) 14 = am_aload 0 15 ∧ am_lk (co_History_remember l d) 15 = am_getI 3 1 18 ∧ am_lk (co_History_remember l d) 18 = am_push (vI 1) 19 ∧ am_lk (co_History_remember l d) 19 = am_iadd 20 ∧ am_lk (co_History_remember l d) 20 = am_push (vI 14) 22 ∧ am_lk (co_History_remember l d) 22 = am_irem 23 ∧ am_lk (co_History_remember l d) 23 = am_putI 3 1 26 ∧ am_lk (co_History_remember l d) 26 = am_aload 0 27 ∧ am_lk (co_History_remember l d) 27 = am_aload 0 28 ∧ am_lk (co_History_remember l d) 28 = am_getI 3 2 31 ∧ am_lk (co_History_remember l d) 31 = am_push (vI 1) 32 ∧ am_lk (co_History_remember l d) 32 = am_iadd 33 ∧ am_lk (co_History_remember l d) 33 = am_push (vI 14) 35 ∧ am_lk (co_History_remember l d) 35 = am_mmin 38 ∧ am_lk (co_History_remember l d) 38 = am_putI 3 2 41 ∧ am_lk (co_History_remember l d) 41 = am_vret := ⟨rfl, rfl, rfl, rfl, rfl, rfl, rfl, rfl, rfl, rfl, rfl, rfl, rfl, rfl, rfl, rfl, rfl, rfl, rfl, rfl, rfl, rfl, rfl, rfl⟩
theorem en_History_remember {l : Launch} {d : Nat} (n : Nat) {as : List am_V} {G : am_G} {I : am_I} {J : am_J} {P : am_P} (hlen : (as.map am_cat).sum ≤ 2) (h : am_go (am_lk (co_History_remember l d)) (am_X l (0, fun _ => 0) (d + 1) y_History_remember P) P n 0 (am_el 2 as) [] 0 0 G I J) : am_T l (d + 1) y_History_remember as G I J P :=
  am_T_of (sc := (0, fun _ => 0)) cf_History_remember (by decide +kernel) (by decide) (by decide +kernel) hlen (am_run (ok_lk _ (ck_History_remember)) n _ _ _ _ _ _ _ _ h)
theorem rn_History_remember {l : Launch} {sc : Nat × (Nat → Int32)} {d : Nat} {P : am_P} (n : Nat) {pc : Nat} {ls : am_L} {st : List am_V} {kc ks : Nat} {G : am_G} {I : am_I} {J : am_J} (h : am_go (am_lk (co_History_remember l d)) (am_X l sc (d + 1) y_History_remember P) P n pc ls st kc ks G I J) : am_X l sc (d + 1) y_History_remember P pc ls st kc ks G I J := am_run (ok_lk _ (ck_History_remember)) n _ _ _ _ _ _ _ _ h
def co_History_takeBack (l : Launch) (d : Nat) : List (Nat × am_S) := [(0, am_aload 0 1), (1, am_aload 0 2), (2, am_getI 3 1 5), (5, am_push (vI 14) 7), (7, am_iadd 8), (8, am_push (vI 1) 9), (9, am_isub 10), (10, am_push (vI 14) 12), (12, am_irem 13), (13, am_putI 3 1 16), (16, am_aload 0 17), (17, am_dup 18), (18, am_getI 3 2 21), (21, am_push (vI 1) 22), (22, am_isub 23), (23, am_putI 3 2 26), (26, am_aload 1 27), (27, am_aload 0 28), (28, am_getR 3 0 31), (31, am_aload 0 32), (32, am_getI 3 1 35), (35, am_qald 36), (36, am_cal l d y_Table_copyFrom (some 7) 2 39 0 0 0 0), (39, am_vret)]
theorem ck_History_takeBack {l : Launch} {sc : Nat × (Nat → Int32)} {d : Nat} : ∀ q ∈ co_History_takeBack l d, am_ok l sc (d + 1) y_History_takeBack q.1 q.2 :=
  fa_cons (ok_aload_n (show decode (am_mB y_History_takeBack) 0 = .ok (.aload_n 0, 1) by decide +kernel) rfl) <|
  fa_cons (ok_aload_n (show decode (am_mB y_History_takeBack) 1 = .ok (.aload_n 0, 1) by decide +kernel) rfl) <|
  fa_cons (ok_getI (show decode (am_mB y_History_takeBack) 2 = .ok (.getfield 22, 3) by decide +kernel) fl_History_22 (by decide +kernel)) <|
  fa_cons (ok_bipush (show decode (am_mB y_History_takeBack) 5 = .ok (.bipush 14, 2) by decide +kernel) (by decide +kernel)) <|
  fa_cons (ok_iadd (show decode (am_mB y_History_takeBack) 7 = .ok (.iadd, 1) by decide +kernel)) <|
  fa_cons (ok_iconst (show decode (am_mB y_History_takeBack) 8 = .ok (.iconst 1, 1) by decide +kernel) rfl) <|
  fa_cons (ok_isub (show decode (am_mB y_History_takeBack) 9 = .ok (.isub, 1) by decide +kernel)) <|
  fa_cons (ok_bipush (show decode (am_mB y_History_takeBack) 10 = .ok (.bipush 14, 2) by decide +kernel) (by decide +kernel)) <|
  fa_cons (ok_irem (show decode (am_mB y_History_takeBack) 12 = .ok (.irem, 1) by decide +kernel)) <|
  fa_cons (ok_putI (show decode (am_mB y_History_takeBack) 13 = .ok (.putfield 22, 3) by decide +kernel) fl_History_22 (by decide +kernel)) <|
  fa_cons (ok_aload_n (show decode (am_mB y_History_takeBack) 16 = .ok (.aload_n 0, 1) by decide +kernel) rfl) <|
  fa_cons (ok_dup (show decode (am_mB y_History_takeBack) 17 = .ok (.dup, 1) by decide +kernel)) <|
  fa_cons (ok_getI (show decode (am_mB y_History_takeBack) 18 = .ok (.getfield 18, 3) by decide +kernel) fl_History_18 (by decide +kernel)) <|
  fa_cons (ok_iconst (show decode (am_mB y_History_takeBack) 21 = .ok (.iconst 1, 1) by decide +kernel) rfl) <|
  fa_cons (ok_isub (show decode (am_mB y_History_takeBack) 22 = .ok (.isub, 1) by decide +kernel)) <|
  fa_cons (ok_putI (show decode (am_mB y_History_takeBack) 23 = .ok (.putfield 18, 3) by decide +kernel) fl_History_18 (by decide +kernel)) <|
  fa_cons (ok_aload_n (show decode (am_mB y_History_takeBack) 26 = .ok (.aload_n 1, 1) by decide +kernel) rfl) <|
  fa_cons (ok_aload_n (show decode (am_mB y_History_takeBack) 27 = .ok (.aload_n 0, 1) by decide +kernel) rfl) <|
  fa_cons (ok_getR (show decode (am_mB y_History_takeBack) 28 = .ok (.getfield 11, 3) by decide +kernel) fl_History_11 (by decide +kernel)) <|
  fa_cons (ok_aload_n (show decode (am_mB y_History_takeBack) 31 = .ok (.aload_n 0, 1) by decide +kernel) rfl) <|
  fa_cons (ok_getI (show decode (am_mB y_History_takeBack) 32 = .ok (.getfield 22, 3) by decide +kernel) fl_History_22 (by decide +kernel)) <|
  fa_cons (ok_qald (show decode (am_mB y_History_takeBack) 35 = .ok (.aaload, 1) by decide +kernel)) <|
  fa_cons (ok_cal ⟨rfl, rfl, rfl, rfl⟩ (ok_callV (show decode (am_mB y_History_takeBack) 36 = .ok (.invokevirtual 25, 3) by decide +kernel) cf_Table_copyFrom (by decide +kernel) ml_History_25 ci_Table_copyFrom cv_Table_copyFrom ⟨by decide, rfl⟩ rfl ⟨by decide +kernel, rfl⟩ (Or.inl (by decide +kernel)))) <|
  fa_cons (ok_vret (show decode (am_mB y_History_takeBack) 39 = .ok (.return_, 1) by decide +kernel) rfl (by decide +kernel)) <|
  fa_nil
set_option maxRecDepth 100000 in
theorem cq_History_takeBack (l : Launch) (d : Nat) : am_lk (co_History_takeBack l d) 0 = am_aload 0 1 ∧ am_lk (co_History_takeBack l d) 1 = am_aload 0 2 ∧ am_lk (co_History_takeBack l d) 2 = am_getI 3 1 5 ∧ am_lk (co_History_takeBack l d) 5 = am_push (vI 14) 7 ∧ am_lk (co_History_takeBack l d) 7 = am_iadd 8 ∧ am_lk (co_History_takeBack l d) 8 = am_push (vI 1) 9 ∧ am_lk (co_History_takeBack l d) 9 = am_isub 10 ∧ am_lk (co_History_takeBack l d) 10 = am_push (vI 14) 12 ∧ am_lk (co_History_takeBack l d) 12 = am_irem 13 ∧ am_lk (co_History_takeBack l d) 13 = am_putI 3 1 16 ∧ am_lk (co_History_takeBack l d) 16 = am_aload 0 17 ∧ am_lk (co_History_takeBack l d) 17 = am_dup 18 ∧ am_lk (co_History_takeBack l d) 18 = am_getI 3 2 21 ∧ am_lk (co_History_takeBack l d) 21 = am_push (vI 1) 22 ∧ am_lk (co_History_takeBack l d) 22 = am_isub 23 ∧ am_lk (co_History_takeBack l d) 23 = am_putI 3 2 26 ∧ am_lk (co_History_takeBack l d) 26 = am_aload 1 27 ∧ am_lk (co_History_takeBack l d) 27 = am_aload 0 28 ∧ am_lk (co_History_takeBack l d) 28 = am_getR 3 0 31 ∧ am_lk (co_History_takeBack l d) 31 = am_aload 0 32 ∧ am_lk (co_History_takeBack l d) 32 = am_getI 3 1 35 ∧ am_lk (co_History_takeBack l d) 35 = am_qald 36 ∧ am_lk (co_History_takeBack l d) 36 = am_cal l d y_Table_copyFrom (some 7) 2 39 0 0 0 0 ∧ am_lk (co_History_takeBack l d) 39 = am_vret := ⟨rfl, rfl, rfl, rfl, rfl, rfl, rfl, rfl, rfl, rfl, rfl, rfl, rfl, rfl, rfl, rfl, rfl, rfl, rfl, rfl, rfl, rfl, rfl, rfl⟩
theorem en_History_takeBack {l : Launch} {d : Nat} (n : Nat) {as : List am_V} {G : am_G} {I : am_I} {J : am_J} {P : am_P} (hlen : (as.map am_cat).sum ≤ 2) (h : am_go (am_lk (co_History_takeBack l d)) (am_X l (0, fun _ => 0) (d + 1) y_History_takeBack P) P n 0 (am_el 2 as) [] 0 0 G I J) : am_T l (d + 1) y_History_takeBack as G I J P :=
  am_T_of (sc := (0, fun _ => 0)) cf_History_takeBack (by decide +kernel) (by decide) (by decide +kernel) hlen (am_run (ok_lk _ (ck_History_takeBack)) n _ _ _ _ _ _ _ _ h)
theorem rn_History_takeBack {l : Launch} {sc : Nat × (Nat → Int32)} {d : Nat} {P : am_P} (n : Nat) {pc : Nat} {ls : am_L} {st : List am_V} {kc ks : Nat} {G : am_G} {I : am_I} {J : am_J} (h : am_go (am_lk (co_History_takeBack l d)) (am_X l sc (d + 1) y_History_takeBack P) P n pc ls st kc ks G I J) : am_X l sc (d + 1) y_History_takeBack P pc ls st kc ks G I J := am_run (ok_lk _ (ck_History_takeBack)) n _ _ _ _ _ _ _ _ h
def co_Layout_init (l : Launch) (d : Nat) : List (Nat × am_S) := [(0, am_aload 0 1), (1, am_oinit 4), (4, am_aload 0 5), (5, am_push (vI 24) 7), (7, am_mka 0 9 2 28), (9, am_putR 4 2 12), (12, am_aload 0 13), (13, am_mk 5 16 2 28), (16, am_dup 17), (17, am_cal l d y_Sheet_init (some 5) 1 20 0 0 2 28), (20, am_putR 4 3 23), (23, am_vret)]
theorem ck_Layout_init {l : Launch} {sc : Nat × (Nat → Int32)} {d : Nat} : ∀ q ∈ co_Layout_init l d, am_ok l sc (d + 1) y_Layout_init q.1 q.2 :=
  fa_cons (ok_aload_n (show decode (am_mB y_Layout_init) 0 = .ok (.aload_n 0, 1) by decide +kernel) rfl) <|
  fa_cons (ok_oinit (show decode (am_mB y_Layout_init) 1 = .ok (.invokespecial 3, 3) by decide +kernel) w_172 w_24 w_25 (by omega)) <|
  fa_cons (ok_aload_n (show decode (am_mB y_Layout_init) 4 = .ok (.aload_n 0, 1) by decide +kernel) rfl) <|
  fa_cons (ok_bipush (show decode (am_mB y_Layout_init) 5 = .ok (.bipush 24, 2) by decide +kernel) (by decide +kernel)) <|
  fa_cons (ok_mka ⟨rfl, rfl⟩ (ok_newa (show decode (am_mB y_Layout_init) 7 = .ok (.newarray .int, 2) by decide +kernel) w_130 (by decide +kernel))) <|
  fa_cons (ok_putR (show decode (am_mB y_Layout_init) 9 = .ok (.putfield 9, 3) by decide +kernel) w_199 (by decide +kernel) (by decide +kernel)) <|
  fa_cons (ok_aload_n (show decode (am_mB y_Layout_init) 12 = .ok (.aload_n 0, 1) by decide +kernel) rfl) <|
  fa_cons (ok_mk ⟨rfl, rfl⟩ (ok_new (show decode (am_mB y_Layout_init) 13 = .ok (.new 15, 3) by decide +kernel) w_173 (by decide))) <|
  fa_cons (ok_dup (show decode (am_mB y_Layout_init) 16 = .ok (.dup, 1) by decide +kernel)) <|
  fa_cons (ok_cal ⟨rfl, rfl, rfl, rfl⟩ (ok_callI (show decode (am_mB y_Layout_init) 17 = .ok (.invokespecial 17, 3) by decide +kernel) cf_Sheet_init (by decide +kernel) ml_Layout_17 ci_Sheet_init ⟨rfl, rfl⟩ (by decide) rfl ⟨by decide +kernel, rfl⟩ (Or.inl (by decide +kernel)))) <|
  fa_cons (ok_putR (show decode (am_mB y_Layout_init) 20 = .ok (.putfield 18, 3) by decide +kernel) w_200 (by decide +kernel) (by decide +kernel)) <|
  fa_cons (ok_vret (show decode (am_mB y_Layout_init) 23 = .ok (.return_, 1) by decide +kernel) rfl (by decide +kernel)) <|
  fa_nil
set_option maxRecDepth 100000 in
theorem cq_Layout_init (l : Launch) (d : Nat) : am_lk (co_Layout_init l d) 0 = am_aload 0 1 ∧ am_lk (co_Layout_init l d) 1 = am_oinit 4 ∧ am_lk (co_Layout_init l d) 4 = am_aload 0 5 ∧ am_lk (co_Layout_init l d) 5 = am_push (vI 24) 7 ∧ am_lk (co_Layout_init l d) 7 = am_mka 0 9 2 28 ∧ am_lk (co_Layout_init l d) 9 = am_putR 4 2 12 ∧ am_lk (co_Layout_init l d) 12 = am_aload 0 13 ∧ am_lk (co_Layout_init l d) 13 = am_mk 5 16 2 28 ∧ am_lk (co_Layout_init l d) 16 = am_dup 17 ∧ am_lk (co_Layout_init l d) 17 = am_cal l d y_Sheet_init (some 5) 1 20 0 0 2 28 ∧ am_lk (co_Layout_init l d) 20 = am_putR 4 3 23 ∧ am_lk (co_Layout_init l d) 23 = am_vret := ⟨rfl, rfl, rfl, rfl, rfl, rfl, rfl, rfl, rfl, rfl, rfl, rfl⟩
theorem en_Layout_init {l : Launch} {d : Nat} (n : Nat) {as : List am_V} {G : am_G} {I : am_I} {J : am_J} {P : am_P} (hlen : (as.map am_cat).sum ≤ 1) (h : am_go (am_lk (co_Layout_init l d)) (am_X l (0, fun _ => 0) (d + 1) y_Layout_init P) P n 0 (am_el 1 as) [] 0 0 G I J) : am_T l (d + 1) y_Layout_init as G I J P :=
  am_T_of (sc := (0, fun _ => 0)) cf_Layout_init (by decide +kernel) (by decide) (by decide +kernel) hlen (am_run (ok_lk _ (ck_Layout_init)) n _ _ _ _ _ _ _ _ h)
theorem rn_Layout_init {l : Launch} {sc : Nat × (Nat → Int32)} {d : Nat} {P : am_P} (n : Nat) {pc : Nat} {ls : am_L} {st : List am_V} {kc ks : Nat} {G : am_G} {I : am_I} {J : am_J} (h : am_go (am_lk (co_Layout_init l d)) (am_X l sc (d + 1) y_Layout_init P) P n pc ls st kc ks G I J) : am_X l sc (d + 1) y_Layout_init P pc ls st kc ks G I J := am_run (ok_lk _ (ck_Layout_init)) n _ _ _ _ _ _ _ _ h
def co_Layout_lay (l : Launch) (d : Nat) : List (Nat × am_S) := [(0, am_aload 1 1), (1, am_cal l d y_Table_endRows (some 7) 1 4 0 0 0 0), (4, am_istore 3 5), (5, am_aload 0 6), (6, am_push (vI 0) 7), (7, am_putI 4 0 10), (10, am_aload 0 11), (11, am_push (vI 0) 12), (12, am_putI 4 1 15), (15, am_push (vI 0) 16), (16, am_stp (am_istore 4 18)), (18, am_iload 4 20), (20, am_aload 1 21), (21, am_getI 7 1 24), (24, am_icmp_ge 27 102), (27, am_aload 0 28), (28, am_getI 4 0 31), (31, am_push (vI 24) 33), (33, am_icmp_ge 36 102), (36, am_aload 0 37), (37, am_aload 1 38), (38, am_iload 4 40), (40, am_iload 3 41), (41, am_iload 2 42), (42, am_cal l d y_Layout_lastThatFits (some 4) 5 45 0 0 0 0), (45, am_istore 5 47), (47, am_iload 5 49), (49, am_push (vI (-999999)) 51), (51, am_icmp_ne 54 72), (54, am_iload 3 55), (55, am_iload 4 57), (57, am_cal l d y_Layout_firstEnd none 2 60 0 0 0 0), (60, am_istore 5 62), (62, am_aload 0 63), (63, am_dup 64), (64, am_getI 4 1 67), (67, am_push (vI 1) 68), (68, am_iadd 69), (69, am_putI 4 1 72), (72, am_aload 0 73), (73, am_getR 4 2 76), (76, am_aload 0 77), (77, am_getI 4 0 80), (80, am_iload 5 82), (82, am_ast 0 (fun x => x) 83), (83, am_aload 0 84), (84, am_dup 85), (85, am_getI 4 0 88), (88, am_push (vI 1) 89), (89, am_iadd 90), (90, am_putI 4 0 93), (93, am_iload 5 95), (95, am_push (vI 1) 96), (96, am_iadd 97), (97, am_istore 4 99), (99, am_stp (am_goto 18)), (102, am_vret)]
theorem ck_Layout_lay {l : Launch} {sc : Nat × (Nat → Int32)} {d : Nat} : ∀ q ∈ co_Layout_lay l d, am_ok l sc (d + 1) y_Layout_lay q.1 q.2 :=
  fa_cons (ok_aload_n (show decode (am_mB y_Layout_lay) 0 = .ok (.aload_n 1, 1) by decide +kernel) rfl) <|
  fa_cons (ok_cal ⟨rfl, rfl, rfl, rfl⟩ (ok_callV (show decode (am_mB y_Layout_lay) 1 = .ok (.invokevirtual 22, 3) by decide +kernel) cf_Table_endRows (by decide +kernel) ml_Layout_22 ci_Table_endRows cv_Table_endRows ⟨by decide, rfl⟩ rfl ⟨by decide +kernel, rfl⟩ (Or.inl (by decide +kernel)))) <|
  fa_cons (ok_istore_n (show decode (am_mB y_Layout_lay) 4 = .ok (.istore_n 3, 1) by decide +kernel) rfl (by decide +kernel)) <|
  fa_cons (ok_aload_n (show decode (am_mB y_Layout_lay) 5 = .ok (.aload_n 0, 1) by decide +kernel) rfl) <|
  fa_cons (ok_iconst (show decode (am_mB y_Layout_lay) 6 = .ok (.iconst 0, 1) by decide +kernel) rfl) <|
  fa_cons (ok_putI (show decode (am_mB y_Layout_lay) 7 = .ok (.putfield 28, 3) by decide +kernel) fl_Layout_28 (by decide +kernel)) <|
  fa_cons (ok_aload_n (show decode (am_mB y_Layout_lay) 10 = .ok (.aload_n 0, 1) by decide +kernel) rfl) <|
  fa_cons (ok_iconst (show decode (am_mB y_Layout_lay) 11 = .ok (.iconst 0, 1) by decide +kernel) rfl) <|
  fa_cons (ok_putI (show decode (am_mB y_Layout_lay) 12 = .ok (.putfield 32, 3) by decide +kernel) fl_Layout_32 (by decide +kernel)) <|
  fa_cons (ok_iconst (show decode (am_mB y_Layout_lay) 15 = .ok (.iconst 0, 1) by decide +kernel) rfl) <|
  fa_cons (ok_stp (σ := am_istore 4 18) (ok_istore (show decode (am_mB y_Layout_lay) 16 = .ok (.istore 4, 2) by decide +kernel) (by decide +kernel))) <|
  fa_cons (ok_iload (show decode (am_mB y_Layout_lay) 18 = .ok (.iload 4, 2) by decide +kernel)) <|
  fa_cons (ok_aload_n (show decode (am_mB y_Layout_lay) 20 = .ok (.aload_n 1, 1) by decide +kernel) rfl) <|
  fa_cons (ok_getI (show decode (am_mB y_Layout_lay) 21 = .ok (.getfield 35, 3) by decide +kernel) fl_Layout_35 (by decide +kernel)) <|
  fa_cons (ok_icmp_ge (show decode (am_mB y_Layout_lay) 24 = .ok (.if_icmp .ge 78, 3) by decide +kernel) (by decide)) <|
  fa_cons (ok_aload_n (show decode (am_mB y_Layout_lay) 27 = .ok (.aload_n 0, 1) by decide +kernel) rfl) <|
  fa_cons (ok_getI (show decode (am_mB y_Layout_lay) 28 = .ok (.getfield 28, 3) by decide +kernel) fl_Layout_28 (by decide +kernel)) <|
  fa_cons (ok_bipush (show decode (am_mB y_Layout_lay) 31 = .ok (.bipush 24, 2) by decide +kernel) (by decide +kernel)) <|
  fa_cons (ok_icmp_ge (show decode (am_mB y_Layout_lay) 33 = .ok (.if_icmp .ge 69, 3) by decide +kernel) (by decide)) <|
  fa_cons (ok_aload_n (show decode (am_mB y_Layout_lay) 36 = .ok (.aload_n 0, 1) by decide +kernel) rfl) <|
  fa_cons (ok_aload_n (show decode (am_mB y_Layout_lay) 37 = .ok (.aload_n 1, 1) by decide +kernel) rfl) <|
  fa_cons (ok_iload (show decode (am_mB y_Layout_lay) 38 = .ok (.iload 4, 2) by decide +kernel)) <|
  fa_cons (ok_iload_n (show decode (am_mB y_Layout_lay) 40 = .ok (.iload_n 3, 1) by decide +kernel) rfl) <|
  fa_cons (ok_iload_n (show decode (am_mB y_Layout_lay) 41 = .ok (.iload_n 2, 1) by decide +kernel) rfl) <|
  fa_cons (ok_cal ⟨rfl, rfl, rfl, rfl⟩ (ok_callV (show decode (am_mB y_Layout_lay) 42 = .ok (.invokevirtual 38, 3) by decide +kernel) cf_Layout_lastThatFits (by decide +kernel) ml_Layout_38 ci_Layout_lastThatFits cv_Layout_lastThatFits ⟨by decide, rfl⟩ rfl ⟨by decide +kernel, rfl⟩ (Or.inl (by decide +kernel)))) <|
  fa_cons (ok_istore (show decode (am_mB y_Layout_lay) 45 = .ok (.istore 5, 2) by decide +kernel) (by decide +kernel)) <|
  fa_cons (ok_iload (show decode (am_mB y_Layout_lay) 47 = .ok (.iload 5, 2) by decide +kernel)) <|
  fa_cons (ok_ldc (show decode (am_mB y_Layout_lay) 49 = .ok (.ldc 42, 2) by decide +kernel) w_534) <|
  fa_cons (ok_icmp_ne (show decode (am_mB y_Layout_lay) 51 = .ok (.if_icmp .ne 21, 3) by decide +kernel) (by decide)) <|
  fa_cons (ok_iload_n (show decode (am_mB y_Layout_lay) 54 = .ok (.iload_n 3, 1) by decide +kernel) rfl) <|
  fa_cons (ok_iload (show decode (am_mB y_Layout_lay) 55 = .ok (.iload 4, 2) by decide +kernel)) <|
  fa_cons (ok_cal ⟨rfl, rfl, rfl, rfl⟩ (ok_callS (show decode (am_mB y_Layout_lay) 57 = .ok (.invokestatic 43, 3) by decide +kernel) cf_Layout_firstEnd (by decide +kernel) ml_Layout_43 cs_Layout_firstEnd rfl ⟨by decide +kernel, rfl⟩ (Or.inl (by decide +kernel)))) <|
  fa_cons (ok_istore (show decode (am_mB y_Layout_lay) 60 = .ok (.istore 5, 2) by decide +kernel) (by decide +kernel)) <|
  fa_cons (ok_aload_n (show decode (am_mB y_Layout_lay) 62 = .ok (.aload_n 0, 1) by decide +kernel) rfl) <|
  fa_cons (ok_dup (show decode (am_mB y_Layout_lay) 63 = .ok (.dup, 1) by decide +kernel)) <|
  fa_cons (ok_getI (show decode (am_mB y_Layout_lay) 64 = .ok (.getfield 32, 3) by decide +kernel) fl_Layout_32 (by decide +kernel)) <|
  fa_cons (ok_iconst (show decode (am_mB y_Layout_lay) 67 = .ok (.iconst 1, 1) by decide +kernel) rfl) <|
  fa_cons (ok_iadd (show decode (am_mB y_Layout_lay) 68 = .ok (.iadd, 1) by decide +kernel)) <|
  fa_cons (ok_putI (show decode (am_mB y_Layout_lay) 69 = .ok (.putfield 32, 3) by decide +kernel) fl_Layout_32 (by decide +kernel)) <|
  fa_cons (ok_aload_n (show decode (am_mB y_Layout_lay) 72 = .ok (.aload_n 0, 1) by decide +kernel) rfl) <|
  fa_cons (ok_getR (show decode (am_mB y_Layout_lay) 73 = .ok (.getfield 9, 3) by decide +kernel) fl_Layout_9 (by decide +kernel)) <|
  fa_cons (ok_aload_n (show decode (am_mB y_Layout_lay) 76 = .ok (.aload_n 0, 1) by decide +kernel) rfl) <|
  fa_cons (ok_getI (show decode (am_mB y_Layout_lay) 77 = .ok (.getfield 28, 3) by decide +kernel) fl_Layout_28 (by decide +kernel)) <|
  fa_cons (ok_iload (show decode (am_mB y_Layout_lay) 80 = .ok (.iload 5, 2) by decide +kernel)) <|
  fa_cons (ok_iast (show decode (am_mB y_Layout_lay) 82 = .ok (.iastore, 1) by decide +kernel)) <|
  fa_cons (ok_aload_n (show decode (am_mB y_Layout_lay) 83 = .ok (.aload_n 0, 1) by decide +kernel) rfl) <|
  fa_cons (ok_dup (show decode (am_mB y_Layout_lay) 84 = .ok (.dup, 1) by decide +kernel)) <|
  fa_cons (ok_getI (show decode (am_mB y_Layout_lay) 85 = .ok (.getfield 28, 3) by decide +kernel) fl_Layout_28 (by decide +kernel)) <|
  fa_cons (ok_iconst (show decode (am_mB y_Layout_lay) 88 = .ok (.iconst 1, 1) by decide +kernel) rfl) <|
  fa_cons (ok_iadd (show decode (am_mB y_Layout_lay) 89 = .ok (.iadd, 1) by decide +kernel)) <|
  fa_cons (ok_putI (show decode (am_mB y_Layout_lay) 90 = .ok (.putfield 28, 3) by decide +kernel) fl_Layout_28 (by decide +kernel)) <|
  fa_cons (ok_iload (show decode (am_mB y_Layout_lay) 93 = .ok (.iload 5, 2) by decide +kernel)) <|
  fa_cons (ok_iconst (show decode (am_mB y_Layout_lay) 95 = .ok (.iconst 1, 1) by decide +kernel) rfl) <|
  fa_cons (ok_iadd (show decode (am_mB y_Layout_lay) 96 = .ok (.iadd, 1) by decide +kernel)) <|
  fa_cons (ok_istore (show decode (am_mB y_Layout_lay) 97 = .ok (.istore 4, 2) by decide +kernel) (by decide +kernel)) <|
  fa_cons (ok_stp (σ := am_goto 18) (ok_goto (show decode (am_mB y_Layout_lay) 99 = .ok (.goto (-81), 3) by decide +kernel) (by decide))) <|
  fa_cons (ok_vret (show decode (am_mB y_Layout_lay) 102 = .ok (.return_, 1) by decide +kernel) rfl (by decide +kernel)) <|
  fa_nil
set_option maxRecDepth 100000 in
theorem cq_Layout_lay (l : Launch) (d : Nat) : am_lk (co_Layout_lay l d) 0 = am_aload 1 1 ∧ am_lk (co_Layout_lay l d) 1 = am_cal l d y_Table_endRows (some 7) 1 4 0 0 0 0 ∧ am_lk (co_Layout_lay l d) 4 = am_istore 3 5 ∧ am_lk (co_Layout_lay l d) 5 = am_aload 0 6 ∧ am_lk (co_Layout_lay l d) 6 = am_push (vI 0) 7 ∧ am_lk (co_Layout_lay l d) 7 = am_putI 4 0 10 ∧ am_lk (co_Layout_lay l d) 10 = am_aload 0 11 ∧ am_lk (co_Layout_lay l d) 11 = am_push (vI 0) 12 ∧ am_lk (co_Layout_lay l d) 12 = am_putI 4 1 15 ∧ am_lk (co_Layout_lay l d) 15 = am_push (vI 0) 16 ∧ am_lk (co_Layout_lay l d) 16 = am_stp (am_istore 4 18) ∧ am_lk (co_Layout_lay l d) 18 = am_iload 4 20 ∧ am_lk (co_Layout_lay l d) 20 = am_aload 1 21 ∧ am_lk (co_Layout_lay l d) 21 = am_getI 7 1 24 ∧ am_lk (co_Layout_lay l d) 24 = am_icmp_ge 27 102 ∧ am_lk (co_Layout_lay l d) 27 = am_aload 0 28 ∧ am_lk (co_Layout_lay l d) 28 = am_getI 4 0 31 ∧ am_lk (co_Layout_lay l d) 31 = am_push (vI 24) 33 ∧ am_lk (co_Layout_lay l d) 33 = am_icmp_ge 36 102 ∧ am_lk (co_Layout_lay l d) 36 = am_aload 0 37 ∧ am_lk (co_Layout_lay l d) 37 = am_aload 1 38 ∧ am_lk (co_Layout_lay l d) 38 = am_iload 4 40 ∧ am_lk (co_Layout_lay l d) 40 = am_iload 3 41 ∧ am_lk (co_Layout_lay l d) 41 = am_iload 2 42 ∧ am_lk (co_Layout_lay l d) 42 = am_cal l d y_Layout_lastThatFits (some 4) 5 45 0 0 0 0 ∧ am_lk (co_Layout_lay l d) 45 = am_istore 5 47 ∧ am_lk (co_Layout_lay l d) 47 = am_iload 5 49 ∧ am_lk (co_Layout_lay l d) 49 = am_push (vI (-999999)) 51 ∧ am_lk (co_Layout_lay l d) 51 = am_icmp_ne 54 72 ∧ am_lk (co_Layout_lay l d) 54 = am_iload 3 55 ∧ am_lk (co_Layout_lay l d) 55 = am_iload 4 57 ∧ am_lk (co_Layout_lay l d) 57 = am_cal l d y_Layout_firstEnd none 2 60 0 0 0 0 ∧ am_lk (co_Layout_lay l d) 60 = am_istore 5 62 ∧ am_lk (co_Layout_lay l d) 62 = am_aload 0 63 ∧ am_lk (co_Layout_lay l d) 63 = am_dup 64 ∧ am_lk (co_Layout_lay l d) 64 = am_getI 4 1 67 ∧ am_lk (co_Layout_lay l d) 67 = am_push (vI 1) 68 ∧ am_lk (co_Layout_lay l d) 68 = am_iadd 69 ∧ am_lk (co_Layout_lay l d) 69 = am_putI 4 1 72 ∧ am_lk (co_Layout_lay l d) 72 = am_aload 0 73 ∧ am_lk (co_Layout_lay l d) 73 = am_getR 4 2 76 ∧ am_lk (co_Layout_lay l d) 76 = am_aload 0 77 ∧ am_lk (co_Layout_lay l d) 77 = am_getI 4 0 80 ∧ am_lk (co_Layout_lay l d) 80 = am_iload 5 82 ∧ am_lk (co_Layout_lay l d) 82 = am_ast 0 (fun x => x) 83 ∧ am_lk (co_Layout_lay l d) 83 = am_aload 0 84 ∧ am_lk (co_Layout_lay l d) 84 = am_dup 85 ∧ am_lk (co_Layout_lay l d) 85 = am_getI 4 0 88 ∧ am_lk (co_Layout_lay l d) 88 = am_push (vI 1) 89 ∧ am_lk (co_Layout_lay l d) 89 = am_iadd 90 ∧ am_lk (co_Layout_lay l d) 90 = am_putI 4 0 93 ∧ am_lk (co_Layout_lay l d) 93 = am_iload 5 95 ∧ am_lk (co_Layout_lay l d) 95 = am_push (vI 1) 96 ∧ am_lk (co_Layout_lay l d) 96 = am_iadd 97 ∧ am_lk (co_Layout_lay l d) 97 = am_istore 4 99 ∧ am_lk (co_Layout_lay l d) 99 = am_stp (am_goto 18) ∧ am_lk (co_Layout_lay l d) 102 = am_vret := ⟨rfl, rfl, rfl, rfl, rfl, rfl, rfl, rfl, rfl, rfl, rfl, rfl, rfl, rfl, rfl, rfl, rfl, rfl, rfl, rfl, rfl, rfl, rfl, rfl, rfl, rfl, rfl, rfl, rfl, rfl, rfl, rfl, rfl, rfl, rfl, rfl, rfl, rfl, rfl, rfl, rfl, rfl, rfl, rfl, rfl, rfl, rfl, rfl, rfl, rfl, rfl, rfl, rfl, rfl, rfl, rfl, rfl⟩
theorem en_Layout_lay {l : Launch} {d : Nat} (n : Nat) {as : List am_V} {G : am_G} {I : am_I} {J : am_J} {P : am_P} (hlen : (as.map am_cat).sum ≤ 6) (h : am_go (am_lk (co_Layout_lay l d)) (am_X l (0, fun _ => 0) (d + 1) y_Layout_lay P) P n 0 (am_el 6 as) [] 0 0 G I J) : am_T l (d + 1) y_Layout_lay as G I J P :=
  am_T_of (sc := (0, fun _ => 0)) cf_Layout_lay (by decide +kernel) (by decide) (by decide +kernel) hlen (am_run (ok_lk _ (ck_Layout_lay)) n _ _ _ _ _ _ _ _ h)
theorem rn_Layout_lay {l : Launch} {sc : Nat × (Nat → Int32)} {d : Nat} {P : am_P} (n : Nat) {pc : Nat} {ls : am_L} {st : List am_V} {kc ks : Nat} {G : am_G} {I : am_I} {J : am_J} (h : am_go (am_lk (co_Layout_lay l d)) (am_X l sc (d + 1) y_Layout_lay P) P n pc ls st kc ks G I J) : am_X l sc (d + 1) y_Layout_lay P pc ls st kc ks G I J := am_run (ok_lk _ (ck_Layout_lay)) n _ _ _ _ _ _ _ _ h
def co_Layout_lastThatFits (l : Launch) (d : Nat) : List (Nat × am_S) := [(0, am_push (vI (-999999)) 2), (2, am_istore 5 4), (4, am_aload 0 5), (5, am_getR 4 3 8), (8, am_aload 1 9), (9, am_iload 2 10), (10, am_cal l d y_Sheet_begin (some 5) 3 13 0 0 0 0), (13, am_iload 2 14), (14, am_stp (am_istore 6 16)), (16, am_iload 6 18), (18, am_aload 1 19), (19, am_getI 7 1 22), (22, am_icmp_ge 25 69), (25, am_aload 0 26), (26, am_getR 4 3 29), (29, am_aload 1 30), (30, am_iload 6 32), (32, am_cal l d y_Sheet_take (some 5) 3 35 0 0 0 0), (35, am_aload 0 36), (36, am_getR 4 3 39), (39, am_cal l d y_Sheet_needed (some 5) 1 42 0 0 0 0), (42, am_iload 4 44), (44, am_icmp_le 47 50), (47, am_goto 69), (50, am_iload 3 51), (51, am_iload 6 53), (53, am_cal l d y_P_isIn none 2 56 0 0 0 0), (56, am_if_eq 59 63), (59, am_iload 6 61), (61, am_istore 5 63), (63, am_iinc 6 1 66), (66, am_stp (am_goto 16)), (69, am_iload 5 71), (71, am_iret false)]
theorem ck_Layout_lastThatFits {l : Launch} {sc : Nat × (Nat → Int32)} {d : Nat} : ∀ q ∈ co_Layout_lastThatFits l d, am_ok l sc (d + 1) y_Layout_lastThatFits q.1 q.2 :=
  fa_cons (ok_ldc (show decode (am_mB y_Layout_lastThatFits) 0 = .ok (.ldc 42, 2) by decide +kernel) w_534) <|
  fa_cons (ok_istore (show decode (am_mB y_Layout_lastThatFits) 2 = .ok (.istore 5, 2) by decide +kernel) (by decide +kernel)) <|
  fa_cons (ok_aload_n (show decode (am_mB y_Layout_lastThatFits) 4 = .ok (.aload_n 0, 1) by decide +kernel) rfl) <|
  fa_cons (ok_getR (show decode (am_mB y_Layout_lastThatFits) 5 = .ok (.getfield 18, 3) by decide +kernel) fl_Layout_18 (by decide +kernel)) <|
  fa_cons (ok_aload_n (show decode (am_mB y_Layout_lastThatFits) 8 = .ok (.aload_n 1, 1) by decide +kernel) rfl) <|
  fa_cons (ok_iload_n (show decode (am_mB y_Layout_lastThatFits) 9 = .ok (.iload_n 2, 1) by decide +kernel) rfl) <|
  fa_cons (ok_cal ⟨rfl, rfl, rfl, rfl⟩ (ok_callV (show decode (am_mB y_Layout_lastThatFits) 10 = .ok (.invokevirtual 47, 3) by decide +kernel) cf_Sheet_begin (by decide +kernel) ml_Layout_47 ci_Sheet_begin cv_Sheet_begin ⟨by decide, rfl⟩ rfl ⟨by decide +kernel, rfl⟩ (Or.inl (by decide +kernel)))) <|
  fa_cons (ok_iload_n (show decode (am_mB y_Layout_lastThatFits) 13 = .ok (.iload_n 2, 1) by decide +kernel) rfl) <|
  fa_cons (ok_stp (σ := am_istore 6 16) (ok_istore (show decode (am_mB y_Layout_lastThatFits) 14 = .ok (.istore 6, 2) by decide +kernel) (by decide +kernel))) <|
  fa_cons (ok_iload (show decode (am_mB y_Layout_lastThatFits) 16 = .ok (.iload 6, 2) by decide +kernel)) <|
  fa_cons (ok_aload_n (show decode (am_mB y_Layout_lastThatFits) 18 = .ok (.aload_n 1, 1) by decide +kernel) rfl) <|
  fa_cons (ok_getI (show decode (am_mB y_Layout_lastThatFits) 19 = .ok (.getfield 35, 3) by decide +kernel) fl_Layout_35 (by decide +kernel)) <|
  fa_cons (ok_icmp_ge (show decode (am_mB y_Layout_lastThatFits) 22 = .ok (.if_icmp .ge 47, 3) by decide +kernel) (by decide)) <|
  fa_cons (ok_aload_n (show decode (am_mB y_Layout_lastThatFits) 25 = .ok (.aload_n 0, 1) by decide +kernel) rfl) <|
  fa_cons (ok_getR (show decode (am_mB y_Layout_lastThatFits) 26 = .ok (.getfield 18, 3) by decide +kernel) fl_Layout_18 (by decide +kernel)) <|
  fa_cons (ok_aload_n (show decode (am_mB y_Layout_lastThatFits) 29 = .ok (.aload_n 1, 1) by decide +kernel) rfl) <|
  fa_cons (ok_iload (show decode (am_mB y_Layout_lastThatFits) 30 = .ok (.iload 6, 2) by decide +kernel)) <|
  fa_cons (ok_cal ⟨rfl, rfl, rfl, rfl⟩ (ok_callV (show decode (am_mB y_Layout_lastThatFits) 32 = .ok (.invokevirtual 51, 3) by decide +kernel) cf_Sheet_take (by decide +kernel) ml_Layout_51 ci_Sheet_take cv_Sheet_take ⟨by decide, rfl⟩ rfl ⟨by decide +kernel, rfl⟩ (Or.inl (by decide +kernel)))) <|
  fa_cons (ok_aload_n (show decode (am_mB y_Layout_lastThatFits) 35 = .ok (.aload_n 0, 1) by decide +kernel) rfl) <|
  fa_cons (ok_getR (show decode (am_mB y_Layout_lastThatFits) 36 = .ok (.getfield 18, 3) by decide +kernel) fl_Layout_18 (by decide +kernel)) <|
  fa_cons (ok_cal ⟨rfl, rfl, rfl, rfl⟩ (ok_callV (show decode (am_mB y_Layout_lastThatFits) 39 = .ok (.invokevirtual 54, 3) by decide +kernel) cf_Sheet_needed (by decide +kernel) ml_Layout_54 ci_Sheet_needed cv_Sheet_needed ⟨by decide, rfl⟩ rfl ⟨by decide +kernel, rfl⟩ (Or.inl (by decide +kernel)))) <|
  fa_cons (ok_iload (show decode (am_mB y_Layout_lastThatFits) 42 = .ok (.iload 4, 2) by decide +kernel)) <|
  fa_cons (ok_icmp_le (show decode (am_mB y_Layout_lastThatFits) 44 = .ok (.if_icmp .le 6, 3) by decide +kernel) (by decide)) <|
  fa_cons (ok_goto (show decode (am_mB y_Layout_lastThatFits) 47 = .ok (.goto 22, 3) by decide +kernel) (by decide)) <|
  fa_cons (ok_iload_n (show decode (am_mB y_Layout_lastThatFits) 50 = .ok (.iload_n 3, 1) by decide +kernel) rfl) <|
  fa_cons (ok_iload (show decode (am_mB y_Layout_lastThatFits) 51 = .ok (.iload 6, 2) by decide +kernel)) <|
  fa_cons (ok_cal ⟨rfl, rfl, rfl, rfl⟩ (ok_callS (show decode (am_mB y_Layout_lastThatFits) 53 = .ok (.invokestatic 57, 3) by decide +kernel) cf_P_isIn (by decide +kernel) ml_Layout_57 cs_P_isIn rfl ⟨by decide +kernel, rfl⟩ (Or.inl (by decide +kernel)))) <|
  fa_cons (ok_if_eq (show decode (am_mB y_Layout_lastThatFits) 56 = .ok (.ifCond .eq 7, 3) by decide +kernel) (by decide)) <|
  fa_cons (ok_iload (show decode (am_mB y_Layout_lastThatFits) 59 = .ok (.iload 6, 2) by decide +kernel)) <|
  fa_cons (ok_istore (show decode (am_mB y_Layout_lastThatFits) 61 = .ok (.istore 5, 2) by decide +kernel) (by decide +kernel)) <|
  fa_cons (ok_iinc (show decode (am_mB y_Layout_lastThatFits) 63 = .ok (.iinc 6 1, 3) by decide +kernel) (by decide +kernel) (by decide +kernel)) <|
  fa_cons (ok_stp (σ := am_goto 16) (ok_goto (show decode (am_mB y_Layout_lastThatFits) 66 = .ok (.goto (-50), 3) by decide +kernel) (by decide))) <|
  fa_cons (ok_iload (show decode (am_mB y_Layout_lastThatFits) 69 = .ok (.iload 5, 2) by decide +kernel)) <|
  fa_cons (ok_iret (show decode (am_mB y_Layout_lastThatFits) 71 = .ok (.ireturn, 1) by decide +kernel) rfl) <|
  fa_nil
set_option maxRecDepth 100000 in
theorem cq_Layout_lastThatFits (l : Launch) (d : Nat) : am_lk (co_Layout_lastThatFits l d) 0 = am_push (vI (-999999)) 2 ∧ am_lk (co_Layout_lastThatFits l d) 2 = am_istore 5 4 ∧ am_lk (co_Layout_lastThatFits l d) 4 = am_aload 0 5 ∧ am_lk (co_Layout_lastThatFits l d) 5 = am_getR 4 3 8 ∧ am_lk (co_Layout_lastThatFits l d) 8 = am_aload 1 9 ∧ am_lk (co_Layout_lastThatFits l d) 9 = am_iload 2 10 ∧ am_lk (co_Layout_lastThatFits l d) 10 = am_cal l d y_Sheet_begin (some 5) 3 13 0 0 0 0 ∧ am_lk (co_Layout_lastThatFits l d) 13 = am_iload 2 14 ∧ am_lk (co_Layout_lastThatFits l d) 14 = am_stp (am_istore 6 16) ∧ am_lk (co_Layout_lastThatFits l d) 16 = am_iload 6 18 ∧ am_lk (co_Layout_lastThatFits l d) 18 = am_aload 1 19 ∧ am_lk (co_Layout_lastThatFits l d) 19 = am_getI 7 1 22 ∧ am_lk (co_Layout_lastThatFits l d) 22 = am_icmp_ge 25 69 ∧ am_lk (co_Layout_lastThatFits l d) 25 = am_aload 0 26 ∧ am_lk (co_Layout_lastThatFits l d) 26 = am_getR 4 3 29 ∧ am_lk (co_Layout_lastThatFits l d) 29 = am_aload 1 30 ∧ am_lk (co_Layout_lastThatFits l d) 30 = am_iload 6 32 ∧ am_lk (co_Layout_lastThatFits l d) 32 = am_cal l d y_Sheet_take (some 5) 3 35 0 0 0 0 ∧ am_lk (co_Layout_lastThatFits l d) 35 = am_aload 0 36 ∧ am_lk (co_Layout_lastThatFits l d) 36 = am_getR 4 3 39 ∧ am_lk (co_Layout_lastThatFits l d) 39 = am_cal l d y_Sheet_needed (some 5) 1 42 0 0 0 0 ∧ am_lk (co_Layout_lastThatFits l d) 42 = am_iload 4 44 ∧ am_lk (co_Layout_lastThatFits l d) 44 = am_icmp_le 47 50 ∧ am_lk (co_Layout_lastThatFits l d) 47 = am_goto 69 ∧ am_lk (co_Layout_lastThatFits l d) 50 = am_iload 3 51 ∧ am_lk (co_Layout_lastThatFits l d) 51 = am_iload 6 53 ∧ am_lk (co_Layout_lastThatFits l d) 53 = am_cal l d y_P_isIn none 2 56 0 0 0 0 ∧ am_lk (co_Layout_lastThatFits l d) 56 = am_if_eq 59 63 ∧ am_lk (co_Layout_lastThatFits l d) 59 = am_iload 6 61 ∧ am_lk (co_Layout_lastThatFits l d) 61 = am_istore 5 63 ∧ am_lk (co_Layout_lastThatFits l d) 63 = am_iinc 6 1 66 ∧ am_lk (co_Layout_lastThatFits l d) 66 = am_stp (am_goto 16) ∧ am_lk (co_Layout_lastThatFits l d) 69 = am_iload 5 71 ∧ am_lk (co_Layout_lastThatFits l d) 71 = am_iret false := ⟨rfl, rfl, rfl, rfl, rfl, rfl, rfl, rfl, rfl, rfl, rfl, rfl, rfl, rfl, rfl, rfl, rfl, rfl, rfl, rfl, rfl, rfl, rfl, rfl, rfl, rfl, rfl, rfl, rfl, rfl, rfl, rfl, rfl, rfl⟩
theorem en_Layout_lastThatFits {l : Launch} {d : Nat} (n : Nat) {as : List am_V} {G : am_G} {I : am_I} {J : am_J} {P : am_P} (hlen : (as.map am_cat).sum ≤ 7) (h : am_go (am_lk (co_Layout_lastThatFits l d)) (am_X l (0, fun _ => 0) (d + 1) y_Layout_lastThatFits P) P n 0 (am_el 7 as) [] 0 0 G I J) : am_T l (d + 1) y_Layout_lastThatFits as G I J P :=
  am_T_of (sc := (0, fun _ => 0)) cf_Layout_lastThatFits (by decide +kernel) (by decide) (by decide +kernel) hlen (am_run (ok_lk _ (ck_Layout_lastThatFits)) n _ _ _ _ _ _ _ _ h)
theorem rn_Layout_lastThatFits {l : Launch} {sc : Nat × (Nat → Int32)} {d : Nat} {P : am_P} (n : Nat) {pc : Nat} {ls : am_L} {st : List am_V} {kc ks : Nat} {G : am_G} {I : am_I} {J : am_J} (h : am_go (am_lk (co_Layout_lastThatFits l d)) (am_X l sc (d + 1) y_Layout_lastThatFits P) P n pc ls st kc ks G I J) : am_X l sc (d + 1) y_Layout_lastThatFits P pc ls st kc ks G I J := am_run (ok_lk _ (ck_Layout_lastThatFits)) n _ _ _ _ _ _ _ _ h
def co_Layout_firstEnd (l : Launch) (d : Nat) : List (Nat × am_S) := [(0, am_iload 1 1), (1, am_stp (am_istore 2 2)), (2, am_iload 2 3), (3, am_push (vI 23) 5), (5, am_icmp_ge 8 22), (8, am_iload 0 9), (9, am_iload 2 10), (10, am_cal l d y_P_isIn none 2 13 0 0 0 0), (13, am_if_ne 16 22), (16, am_iinc 2 1 19), (19, am_stp (am_goto 2)), (22, am_iload 2 23), (23, am_iret false)]
theorem ck_Layout_firstEnd {l : Launch} {sc : Nat × (Nat → Int32)} {d : Nat} : ∀ q ∈ co_Layout_firstEnd l d, am_ok l sc (d + 1) y_Layout_firstEnd q.1 q.2 :=
  fa_cons (ok_iload_n (show decode (am_mB y_Layout_firstEnd) 0 = .ok (.iload_n 1, 1) by decide +kernel) rfl) <|
  fa_cons (ok_stp (σ := am_istore 2 2) (ok_istore_n (show decode (am_mB y_Layout_firstEnd) 1 = .ok (.istore_n 2, 1) by decide +kernel) rfl (by decide +kernel))) <|
  fa_cons (ok_iload_n (show decode (am_mB y_Layout_firstEnd) 2 = .ok (.iload_n 2, 1) by decide +kernel) rfl) <|
  fa_cons (ok_bipush (show decode (am_mB y_Layout_firstEnd) 3 = .ok (.bipush 23, 2) by decide +kernel) (by decide +kernel)) <|
  fa_cons (ok_icmp_ge (show decode (am_mB y_Layout_firstEnd) 5 = .ok (.if_icmp .ge 17, 3) by decide +kernel) (by decide)) <|
  fa_cons (ok_iload_n (show decode (am_mB y_Layout_firstEnd) 8 = .ok (.iload_n 0, 1) by decide +kernel) rfl) <|
  fa_cons (ok_iload_n (show decode (am_mB y_Layout_firstEnd) 9 = .ok (.iload_n 2, 1) by decide +kernel) rfl) <|
  fa_cons (ok_cal ⟨rfl, rfl, rfl, rfl⟩ (ok_callS (show decode (am_mB y_Layout_firstEnd) 10 = .ok (.invokestatic 57, 3) by decide +kernel) cf_P_isIn (by decide +kernel) ml_Layout_57 cs_P_isIn rfl ⟨by decide +kernel, rfl⟩ (Or.inl (by decide +kernel)))) <|
  fa_cons (ok_if_ne (show decode (am_mB y_Layout_firstEnd) 13 = .ok (.ifCond .ne 9, 3) by decide +kernel) (by decide)) <|
  fa_cons (ok_iinc (show decode (am_mB y_Layout_firstEnd) 16 = .ok (.iinc 2 1, 3) by decide +kernel) (by decide +kernel) (by decide +kernel)) <|
  fa_cons (ok_stp (σ := am_goto 2) (ok_goto (show decode (am_mB y_Layout_firstEnd) 19 = .ok (.goto (-17), 3) by decide +kernel) (by decide))) <|
  fa_cons (ok_iload_n (show decode (am_mB y_Layout_firstEnd) 22 = .ok (.iload_n 2, 1) by decide +kernel) rfl) <|
  fa_cons (ok_iret (show decode (am_mB y_Layout_firstEnd) 23 = .ok (.ireturn, 1) by decide +kernel) rfl) <|
  fa_nil
set_option maxRecDepth 100000 in
theorem cq_Layout_firstEnd (l : Launch) (d : Nat) : am_lk (co_Layout_firstEnd l d) 0 = am_iload 1 1 ∧ am_lk (co_Layout_firstEnd l d) 1 = am_stp (am_istore 2 2) ∧ am_lk (co_Layout_firstEnd l d) 2 = am_iload 2 3 ∧ am_lk (co_Layout_firstEnd l d) 3 = am_push (vI 23) 5 ∧ am_lk (co_Layout_firstEnd l d) 5 = am_icmp_ge 8 22 ∧ am_lk (co_Layout_firstEnd l d) 8 = am_iload 0 9 ∧ am_lk (co_Layout_firstEnd l d) 9 = am_iload 2 10 ∧ am_lk (co_Layout_firstEnd l d) 10 = am_cal l d y_P_isIn none 2 13 0 0 0 0 ∧ am_lk (co_Layout_firstEnd l d) 13 = am_if_ne 16 22 ∧ am_lk (co_Layout_firstEnd l d) 16 = am_iinc 2 1 19 ∧ am_lk (co_Layout_firstEnd l d) 19 = am_stp (am_goto 2) ∧ am_lk (co_Layout_firstEnd l d) 22 = am_iload 2 23 ∧ am_lk (co_Layout_firstEnd l d) 23 = am_iret false := ⟨rfl, rfl, rfl, rfl, rfl, rfl, rfl, rfl, rfl, rfl, rfl, rfl, rfl⟩
theorem en_Layout_firstEnd {l : Launch} {d : Nat} (n : Nat) {as : List am_V} {G : am_G} {I : am_I} {J : am_J} {P : am_P} (hlen : (as.map am_cat).sum ≤ 3) (h : am_go (am_lk (co_Layout_firstEnd l d)) (am_X l (0, fun _ => 0) (d + 1) y_Layout_firstEnd P) P n 0 (am_el 3 as) [] 0 0 G I J) : am_T l (d + 1) y_Layout_firstEnd as G I J P :=
  am_T_of (sc := (0, fun _ => 0)) cf_Layout_firstEnd (by decide +kernel) (by decide) (by decide +kernel) hlen (am_run (ok_lk _ (ck_Layout_firstEnd)) n _ _ _ _ _ _ _ _ h)
theorem rn_Layout_firstEnd {l : Launch} {sc : Nat × (Nat → Int32)} {d : Nat} {P : am_P} (n : Nat) {pc : Nat} {ls : am_L} {st : List am_V} {kc ks : Nat} {G : am_G} {I : am_I} {J : am_J} (h : am_go (am_lk (co_Layout_firstEnd l d)) (am_X l sc (d + 1) y_Layout_firstEnd P) P n pc ls st kc ks G I J) : am_X l sc (d + 1) y_Layout_firstEnd P pc ls st kc ks G I J := am_run (ok_lk _ (ck_Layout_firstEnd)) n _ _ _ _ _ _ _ _ h
def co_Layout_hasPage (l : Launch) (d : Nat) : List (Nat × am_S) := [(0, am_iload 1 1), (1, am_if_lt 4 16), (4, am_iload 1 5), (5, am_aload 0 6), (6, am_getI 4 0 9), (9, am_icmp_ge 12 16), (12, am_push (vI 1) 13), (13, am_goto 17), (16, am_push (vI 0) 17), (17, am_iret true)]
theorem ck_Layout_hasPage {l : Launch} {sc : Nat × (Nat → Int32)} {d : Nat} : ∀ q ∈ co_Layout_hasPage l d, am_ok l sc (d + 1) y_Layout_hasPage q.1 q.2 :=
  fa_cons (ok_iload_n (show decode (am_mB y_Layout_hasPage) 0 = .ok (.iload_n 1, 1) by decide +kernel) rfl) <|
  fa_cons (ok_if_lt (show decode (am_mB y_Layout_hasPage) 1 = .ok (.ifCond .lt 15, 3) by decide +kernel) (by decide)) <|
  fa_cons (ok_iload_n (show decode (am_mB y_Layout_hasPage) 4 = .ok (.iload_n 1, 1) by decide +kernel) rfl) <|
  fa_cons (ok_aload_n (show decode (am_mB y_Layout_hasPage) 5 = .ok (.aload_n 0, 1) by decide +kernel) rfl) <|
  fa_cons (ok_getI (show decode (am_mB y_Layout_hasPage) 6 = .ok (.getfield 28, 3) by decide +kernel) fl_Layout_28 (by decide +kernel)) <|
  fa_cons (ok_icmp_ge (show decode (am_mB y_Layout_hasPage) 9 = .ok (.if_icmp .ge 7, 3) by decide +kernel) (by decide)) <|
  fa_cons (ok_iconst (show decode (am_mB y_Layout_hasPage) 12 = .ok (.iconst 1, 1) by decide +kernel) rfl) <|
  fa_cons (ok_goto (show decode (am_mB y_Layout_hasPage) 13 = .ok (.goto 4, 3) by decide +kernel) (by decide)) <|
  fa_cons (ok_iconst (show decode (am_mB y_Layout_hasPage) 16 = .ok (.iconst 0, 1) by decide +kernel) rfl) <|
  fa_cons (ok_iret (show decode (am_mB y_Layout_hasPage) 17 = .ok (.ireturn, 1) by decide +kernel) rfl) <|
  fa_nil
set_option maxRecDepth 100000 in
theorem cq_Layout_hasPage (l : Launch) (d : Nat) : am_lk (co_Layout_hasPage l d) 0 = am_iload 1 1 ∧ am_lk (co_Layout_hasPage l d) 1 = am_if_lt 4 16 ∧ am_lk (co_Layout_hasPage l d) 4 = am_iload 1 5 ∧ am_lk (co_Layout_hasPage l d) 5 = am_aload 0 6 ∧ am_lk (co_Layout_hasPage l d) 6 = am_getI 4 0 9 ∧ am_lk (co_Layout_hasPage l d) 9 = am_icmp_ge 12 16 ∧ am_lk (co_Layout_hasPage l d) 12 = am_push (vI 1) 13 ∧ am_lk (co_Layout_hasPage l d) 13 = am_goto 17 ∧ am_lk (co_Layout_hasPage l d) 16 = am_push (vI 0) 17 ∧ am_lk (co_Layout_hasPage l d) 17 = am_iret true := ⟨rfl, rfl, rfl, rfl, rfl, rfl, rfl, rfl, rfl, rfl⟩
theorem en_Layout_hasPage {l : Launch} {d : Nat} (n : Nat) {as : List am_V} {G : am_G} {I : am_I} {J : am_J} {P : am_P} (hlen : (as.map am_cat).sum ≤ 2) (h : am_go (am_lk (co_Layout_hasPage l d)) (am_X l (0, fun _ => 0) (d + 1) y_Layout_hasPage P) P n 0 (am_el 2 as) [] 0 0 G I J) : am_T l (d + 1) y_Layout_hasPage as G I J P :=
  am_T_of (sc := (0, fun _ => 0)) cf_Layout_hasPage (by decide +kernel) (by decide) (by decide +kernel) hlen (am_run (ok_lk _ (ck_Layout_hasPage)) n _ _ _ _ _ _ _ _ h)
theorem rn_Layout_hasPage {l : Launch} {sc : Nat × (Nat → Int32)} {d : Nat} {P : am_P} (n : Nat) {pc : Nat} {ls : am_L} {st : List am_V} {kc ks : Nat} {G : am_G} {I : am_I} {J : am_J} (h : am_go (am_lk (co_Layout_hasPage l d)) (am_X l sc (d + 1) y_Layout_hasPage P) P n pc ls st kc ks G I J) : am_X l sc (d + 1) y_Layout_hasPage P pc ls st kc ks G I J := am_run (ok_lk _ (ck_Layout_hasPage)) n _ _ _ _ _ _ _ _ h
def co_Layout_firstOf (l : Launch) (d : Nat) : List (Nat × am_S) := [(0, am_iload 1 1), (1, am_if_ne 4 8), (4, am_push (vI 0) 5), (5, am_goto 18), (8, am_aload 0 9), (9, am_getR 4 2 12), (12, am_iload 1 13), (13, am_push (vI 1) 14), (14, am_isub 15), (15, am_ald 0 16), (16, am_push (vI 1) 17), (17, am_iadd 18), (18, am_iret false)]
theorem ck_Layout_firstOf {l : Launch} {sc : Nat × (Nat → Int32)} {d : Nat} : ∀ q ∈ co_Layout_firstOf l d, am_ok l sc (d + 1) y_Layout_firstOf q.1 q.2 :=
  fa_cons (ok_iload_n (show decode (am_mB y_Layout_firstOf) 0 = .ok (.iload_n 1, 1) by decide +kernel) rfl) <|
  fa_cons (ok_if_ne (show decode (am_mB y_Layout_firstOf) 1 = .ok (.ifCond .ne 7, 3) by decide +kernel) (by decide)) <|
  fa_cons (ok_iconst (show decode (am_mB y_Layout_firstOf) 4 = .ok (.iconst 0, 1) by decide +kernel) rfl) <|
  fa_cons (ok_goto (show decode (am_mB y_Layout_firstOf) 5 = .ok (.goto 13, 3) by decide +kernel) (by decide)) <|
  fa_cons (ok_aload_n (show decode (am_mB y_Layout_firstOf) 8 = .ok (.aload_n 0, 1) by decide +kernel) rfl) <|
  fa_cons (ok_getR (show decode (am_mB y_Layout_firstOf) 9 = .ok (.getfield 9, 3) by decide +kernel) fl_Layout_9 (by decide +kernel)) <|
  fa_cons (ok_iload_n (show decode (am_mB y_Layout_firstOf) 12 = .ok (.iload_n 1, 1) by decide +kernel) rfl) <|
  fa_cons (ok_iconst (show decode (am_mB y_Layout_firstOf) 13 = .ok (.iconst 1, 1) by decide +kernel) rfl) <|
  fa_cons (ok_isub (show decode (am_mB y_Layout_firstOf) 14 = .ok (.isub, 1) by decide +kernel)) <|
  fa_cons (ok_iald (show decode (am_mB y_Layout_firstOf) 15 = .ok (.iaload, 1) by decide +kernel)) <|
  fa_cons (ok_iconst (show decode (am_mB y_Layout_firstOf) 16 = .ok (.iconst 1, 1) by decide +kernel) rfl) <|
  fa_cons (ok_iadd (show decode (am_mB y_Layout_firstOf) 17 = .ok (.iadd, 1) by decide +kernel)) <|
  fa_cons (ok_iret (show decode (am_mB y_Layout_firstOf) 18 = .ok (.ireturn, 1) by decide +kernel) rfl) <|
  fa_nil
set_option maxRecDepth 100000 in
theorem cq_Layout_firstOf (l : Launch) (d : Nat) : am_lk (co_Layout_firstOf l d) 0 = am_iload 1 1 ∧ am_lk (co_Layout_firstOf l d) 1 = am_if_ne 4 8 ∧ am_lk (co_Layout_firstOf l d) 4 = am_push (vI 0) 5 ∧ am_lk (co_Layout_firstOf l d) 5 = am_goto 18 ∧ am_lk (co_Layout_firstOf l d) 8 = am_aload 0 9 ∧ am_lk (co_Layout_firstOf l d) 9 = am_getR 4 2 12 ∧ am_lk (co_Layout_firstOf l d) 12 = am_iload 1 13 ∧ am_lk (co_Layout_firstOf l d) 13 = am_push (vI 1) 14 ∧ am_lk (co_Layout_firstOf l d) 14 = am_isub 15 ∧ am_lk (co_Layout_firstOf l d) 15 = am_ald 0 16 ∧ am_lk (co_Layout_firstOf l d) 16 = am_push (vI 1) 17 ∧ am_lk (co_Layout_firstOf l d) 17 = am_iadd 18 ∧ am_lk (co_Layout_firstOf l d) 18 = am_iret false := ⟨rfl, rfl, rfl, rfl, rfl, rfl, rfl, rfl, rfl, rfl, rfl, rfl, rfl⟩
theorem en_Layout_firstOf {l : Launch} {d : Nat} (n : Nat) {as : List am_V} {G : am_G} {I : am_I} {J : am_J} {P : am_P} (hlen : (as.map am_cat).sum ≤ 2) (h : am_go (am_lk (co_Layout_firstOf l d)) (am_X l (0, fun _ => 0) (d + 1) y_Layout_firstOf P) P n 0 (am_el 2 as) [] 0 0 G I J) : am_T l (d + 1) y_Layout_firstOf as G I J P :=
  am_T_of (sc := (0, fun _ => 0)) cf_Layout_firstOf (by decide +kernel) (by decide) (by decide +kernel) hlen (am_run (ok_lk _ (ck_Layout_firstOf)) n _ _ _ _ _ _ _ _ h)
theorem rn_Layout_firstOf {l : Launch} {sc : Nat × (Nat → Int32)} {d : Nat} {P : am_P} (n : Nat) {pc : Nat} {ls : am_L} {st : List am_V} {kc ks : Nat} {G : am_G} {I : am_I} {J : am_J} (h : am_go (am_lk (co_Layout_firstOf l d)) (am_X l sc (d + 1) y_Layout_firstOf P) P n pc ls st kc ks G I J) : am_X l sc (d + 1) y_Layout_firstOf P pc ls st kc ks G I J := am_run (ok_lk _ (ck_Layout_firstOf)) n _ _ _ _ _ _ _ _ h
def co_Layout_lastOf (l : Launch) (d : Nat) : List (Nat × am_S) := [(0, am_aload 0 1), (1, am_getR 4 2 4), (4, am_iload 1 5), (5, am_ald 0 6), (6, am_iret false)]
theorem ck_Layout_lastOf {l : Launch} {sc : Nat × (Nat → Int32)} {d : Nat} : ∀ q ∈ co_Layout_lastOf l d, am_ok l sc (d + 1) y_Layout_lastOf q.1 q.2 :=
  fa_cons (ok_aload_n (show decode (am_mB y_Layout_lastOf) 0 = .ok (.aload_n 0, 1) by decide +kernel) rfl) <|
  fa_cons (ok_getR (show decode (am_mB y_Layout_lastOf) 1 = .ok (.getfield 9, 3) by decide +kernel) fl_Layout_9 (by decide +kernel)) <|
  fa_cons (ok_iload_n (show decode (am_mB y_Layout_lastOf) 4 = .ok (.iload_n 1, 1) by decide +kernel) rfl) <|
  fa_cons (ok_iald (show decode (am_mB y_Layout_lastOf) 5 = .ok (.iaload, 1) by decide +kernel)) <|
  fa_cons (ok_iret (show decode (am_mB y_Layout_lastOf) 6 = .ok (.ireturn, 1) by decide +kernel) rfl) <|
  fa_nil
set_option maxRecDepth 100000 in
theorem cq_Layout_lastOf (l : Launch) (d : Nat) : am_lk (co_Layout_lastOf l d) 0 = am_aload 0 1 ∧ am_lk (co_Layout_lastOf l d) 1 = am_getR 4 2 4 ∧ am_lk (co_Layout_lastOf l d) 4 = am_iload 1 5 ∧ am_lk (co_Layout_lastOf l d) 5 = am_ald 0 6 ∧ am_lk (co_Layout_lastOf l d) 6 = am_iret false := ⟨rfl, rfl, rfl, rfl, rfl⟩
theorem en_Layout_lastOf {l : Launch} {d : Nat} (n : Nat) {as : List am_V} {G : am_G} {I : am_I} {J : am_J} {P : am_P} (hlen : (as.map am_cat).sum ≤ 2) (h : am_go (am_lk (co_Layout_lastOf l d)) (am_X l (0, fun _ => 0) (d + 1) y_Layout_lastOf P) P n 0 (am_el 2 as) [] 0 0 G I J) : am_T l (d + 1) y_Layout_lastOf as G I J P :=
  am_T_of (sc := (0, fun _ => 0)) cf_Layout_lastOf (by decide +kernel) (by decide) (by decide +kernel) hlen (am_run (ok_lk _ (ck_Layout_lastOf)) n _ _ _ _ _ _ _ _ h)
theorem rn_Layout_lastOf {l : Launch} {sc : Nat × (Nat → Int32)} {d : Nat} {P : am_P} (n : Nat) {pc : Nat} {ls : am_L} {st : List am_V} {kc ks : Nat} {G : am_G} {I : am_I} {J : am_J} (h : am_go (am_lk (co_Layout_lastOf l d)) (am_X l sc (d + 1) y_Layout_lastOf P) P n pc ls st kc ks G I J) : am_X l sc (d + 1) y_Layout_lastOf P pc ls st kc ks G I J := am_run (ok_lk _ (ck_Layout_lastOf)) n _ _ _ _ _ _ _ _ h
def co_Layout_pageOf (l : Launch) (d : Nat) : List (Nat × am_S) := [(0, am_push (vI 0) 1), (1, am_stp (am_istore 2 2)), (2, am_iload 2 3), (3, am_aload 0 4), (4, am_getI 4 0 7), (7, am_push (vI 1) 8), (8, am_isub 9), (9, am_icmp_ge 12 28), (12, am_aload 0 13), (13, am_getR 4 2 16), (16, am_iload 2 17), (17, am_ald 0 18), (18, am_iload 1 19), (19, am_icmp_ge 22 28), (22, am_iinc 2 1 25), (25, am_stp (am_goto 2)), (28, am_iload 2 29), (29, am_iret false)]
theorem ck_Layout_pageOf {l : Launch} {sc : Nat × (Nat → Int32)} {d : Nat} : ∀ q ∈ co_Layout_pageOf l d, am_ok l sc (d + 1) y_Layout_pageOf q.1 q.2 :=
  fa_cons (ok_iconst (show decode (am_mB y_Layout_pageOf) 0 = .ok (.iconst 0, 1) by decide +kernel) rfl) <|
  fa_cons (ok_stp (σ := am_istore 2 2) (ok_istore_n (show decode (am_mB y_Layout_pageOf) 1 = .ok (.istore_n 2, 1) by decide +kernel) rfl (by decide +kernel))) <|
  fa_cons (ok_iload_n (show decode (am_mB y_Layout_pageOf) 2 = .ok (.iload_n 2, 1) by decide +kernel) rfl) <|
  fa_cons (ok_aload_n (show decode (am_mB y_Layout_pageOf) 3 = .ok (.aload_n 0, 1) by decide +kernel) rfl) <|
  fa_cons (ok_getI (show decode (am_mB y_Layout_pageOf) 4 = .ok (.getfield 28, 3) by decide +kernel) fl_Layout_28 (by decide +kernel)) <|
  fa_cons (ok_iconst (show decode (am_mB y_Layout_pageOf) 7 = .ok (.iconst 1, 1) by decide +kernel) rfl) <|
  fa_cons (ok_isub (show decode (am_mB y_Layout_pageOf) 8 = .ok (.isub, 1) by decide +kernel)) <|
  fa_cons (ok_icmp_ge (show decode (am_mB y_Layout_pageOf) 9 = .ok (.if_icmp .ge 19, 3) by decide +kernel) (by decide)) <|
  fa_cons (ok_aload_n (show decode (am_mB y_Layout_pageOf) 12 = .ok (.aload_n 0, 1) by decide +kernel) rfl) <|
  fa_cons (ok_getR (show decode (am_mB y_Layout_pageOf) 13 = .ok (.getfield 9, 3) by decide +kernel) fl_Layout_9 (by decide +kernel)) <|
  fa_cons (ok_iload_n (show decode (am_mB y_Layout_pageOf) 16 = .ok (.iload_n 2, 1) by decide +kernel) rfl) <|
  fa_cons (ok_iald (show decode (am_mB y_Layout_pageOf) 17 = .ok (.iaload, 1) by decide +kernel)) <|
  fa_cons (ok_iload_n (show decode (am_mB y_Layout_pageOf) 18 = .ok (.iload_n 1, 1) by decide +kernel) rfl) <|
  fa_cons (ok_icmp_ge (show decode (am_mB y_Layout_pageOf) 19 = .ok (.if_icmp .ge 9, 3) by decide +kernel) (by decide)) <|
  fa_cons (ok_iinc (show decode (am_mB y_Layout_pageOf) 22 = .ok (.iinc 2 1, 3) by decide +kernel) (by decide +kernel) (by decide +kernel)) <|
  fa_cons (ok_stp (σ := am_goto 2) (ok_goto (show decode (am_mB y_Layout_pageOf) 25 = .ok (.goto (-23), 3) by decide +kernel) (by decide))) <|
  fa_cons (ok_iload_n (show decode (am_mB y_Layout_pageOf) 28 = .ok (.iload_n 2, 1) by decide +kernel) rfl) <|
  fa_cons (ok_iret (show decode (am_mB y_Layout_pageOf) 29 = .ok (.ireturn, 1) by decide +kernel) rfl) <|
  fa_nil
set_option maxRecDepth 100000 in
theorem cq_Layout_pageOf (l : Launch) (d : Nat) : am_lk (co_Layout_pageOf l d) 0 = am_push (vI 0) 1 ∧ am_lk (co_Layout_pageOf l d) 1 = am_stp (am_istore 2 2) ∧ am_lk (co_Layout_pageOf l d) 2 = am_iload 2 3 ∧ am_lk (co_Layout_pageOf l d) 3 = am_aload 0 4 ∧ am_lk (co_Layout_pageOf l d) 4 = am_getI 4 0 7 ∧ am_lk (co_Layout_pageOf l d) 7 = am_push (vI 1) 8 ∧ am_lk (co_Layout_pageOf l d) 8 = am_isub 9 ∧ am_lk (co_Layout_pageOf l d) 9 = am_icmp_ge 12 28 ∧ am_lk (co_Layout_pageOf l d) 12 = am_aload 0 13 ∧ am_lk (co_Layout_pageOf l d) 13 = am_getR 4 2 16 ∧ am_lk (co_Layout_pageOf l d) 16 = am_iload 2 17 ∧ am_lk (co_Layout_pageOf l d) 17 = am_ald 0 18 ∧ am_lk (co_Layout_pageOf l d) 18 = am_iload 1 19 ∧ am_lk (co_Layout_pageOf l d) 19 = am_icmp_ge 22 28 ∧ am_lk (co_Layout_pageOf l d) 22 = am_iinc 2 1 25 ∧ am_lk (co_Layout_pageOf l d) 25 = am_stp (am_goto 2) ∧ am_lk (co_Layout_pageOf l d) 28 = am_iload 2 29 ∧ am_lk (co_Layout_pageOf l d) 29 = am_iret false := ⟨rfl, rfl, rfl, rfl, rfl, rfl, rfl, rfl, rfl, rfl, rfl, rfl, rfl, rfl, rfl, rfl, rfl, rfl⟩
theorem en_Layout_pageOf {l : Launch} {d : Nat} (n : Nat) {as : List am_V} {G : am_G} {I : am_I} {J : am_J} {P : am_P} (hlen : (as.map am_cat).sum ≤ 3) (h : am_go (am_lk (co_Layout_pageOf l d)) (am_X l (0, fun _ => 0) (d + 1) y_Layout_pageOf P) P n 0 (am_el 3 as) [] 0 0 G I J) : am_T l (d + 1) y_Layout_pageOf as G I J P :=
  am_T_of (sc := (0, fun _ => 0)) cf_Layout_pageOf (by decide +kernel) (by decide) (by decide +kernel) hlen (am_run (ok_lk _ (ck_Layout_pageOf)) n _ _ _ _ _ _ _ _ h)
theorem rn_Layout_pageOf {l : Launch} {sc : Nat × (Nat → Int32)} {d : Nat} {P : am_P} (n : Nat) {pc : Nat} {ls : am_L} {st : List am_V} {kc ks : Nat} {G : am_G} {I : am_I} {J : am_J} (h : am_go (am_lk (co_Layout_pageOf l d)) (am_X l sc (d + 1) y_Layout_pageOf P) P n pc ls st kc ks G I J) : am_X l sc (d + 1) y_Layout_pageOf P pc ls st kc ks G I J := am_run (ok_lk _ (ck_Layout_pageOf)) n _ _ _ _ _ _ _ _ h
def co_Layout_pagesOfSpan (l : Launch) (d : Nat) : List (Nat × am_S) := [(0, am_aload 0 1), (1, am_aload 1 2), (2, am_getR 7 10 5), (5, am_iload 2 6), (6, am_ald 0 7), (7, am_cal l d y_Layout_pageOf (some 4) 2 10 0 0 0 0), (10, am_aload 0 11), (11, am_aload 1 12), (12, am_getR 7 9 15), (15, am_iload 2 16), (16, am_ald 0 17), (17, am_cal l d y_Layout_pageOf (some 4) 2 20 0 0 0 0), (20, am_isub 21), (21, am_push (vI 1) 22), (22, am_iadd 23), (23, am_iret false)]
theorem ck_Layout_pagesOfSpan {l : Launch} {sc : Nat × (Nat → Int32)} {d : Nat} : ∀ q ∈ co_Layout_pagesOfSpan l d, am_ok l sc (d + 1) y_Layout_pagesOfSpan q.1 q.2 :=
  fa_cons (ok_aload_n (show decode (am_mB y_Layout_pagesOfSpan) 0 = .ok (.aload_n 0, 1) by decide +kernel) rfl) <|
  fa_cons (ok_aload_n (show decode (am_mB y_Layout_pagesOfSpan) 1 = .ok (.aload_n 1, 1) by decide +kernel) rfl) <|
  fa_cons (ok_getR (show decode (am_mB y_Layout_pagesOfSpan) 2 = .ok (.getfield 61, 3) by decide +kernel) fl_Layout_61 (by decide +kernel)) <|
  fa_cons (ok_iload_n (show decode (am_mB y_Layout_pagesOfSpan) 5 = .ok (.iload_n 2, 1) by decide +kernel) rfl) <|
  fa_cons (ok_iald (show decode (am_mB y_Layout_pagesOfSpan) 6 = .ok (.iaload, 1) by decide +kernel)) <|
  fa_cons (ok_cal ⟨rfl, rfl, rfl, rfl⟩ (ok_callV (show decode (am_mB y_Layout_pagesOfSpan) 7 = .ok (.invokevirtual 64, 3) by decide +kernel) cf_Layout_pageOf (by decide +kernel) ml_Layout_64 ci_Layout_pageOf cv_Layout_pageOf ⟨by decide, rfl⟩ rfl ⟨by decide +kernel, rfl⟩ (Or.inl (by decide +kernel)))) <|
  fa_cons (ok_aload_n (show decode (am_mB y_Layout_pagesOfSpan) 10 = .ok (.aload_n 0, 1) by decide +kernel) rfl) <|
  fa_cons (ok_aload_n (show decode (am_mB y_Layout_pagesOfSpan) 11 = .ok (.aload_n 1, 1) by decide +kernel) rfl) <|
  fa_cons (ok_getR (show decode (am_mB y_Layout_pagesOfSpan) 12 = .ok (.getfield 68, 3) by decide +kernel) fl_Layout_68 (by decide +kernel)) <|
  fa_cons (ok_iload_n (show decode (am_mB y_Layout_pagesOfSpan) 15 = .ok (.iload_n 2, 1) by decide +kernel) rfl) <|
  fa_cons (ok_iald (show decode (am_mB y_Layout_pagesOfSpan) 16 = .ok (.iaload, 1) by decide +kernel)) <|
  fa_cons (ok_cal ⟨rfl, rfl, rfl, rfl⟩ (ok_callV (show decode (am_mB y_Layout_pagesOfSpan) 17 = .ok (.invokevirtual 64, 3) by decide +kernel) cf_Layout_pageOf (by decide +kernel) ml_Layout_64 ci_Layout_pageOf cv_Layout_pageOf ⟨by decide, rfl⟩ rfl ⟨by decide +kernel, rfl⟩ (Or.inl (by decide +kernel)))) <|
  fa_cons (ok_isub (show decode (am_mB y_Layout_pagesOfSpan) 20 = .ok (.isub, 1) by decide +kernel)) <|
  fa_cons (ok_iconst (show decode (am_mB y_Layout_pagesOfSpan) 21 = .ok (.iconst 1, 1) by decide +kernel) rfl) <|
  fa_cons (ok_iadd (show decode (am_mB y_Layout_pagesOfSpan) 22 = .ok (.iadd, 1) by decide +kernel)) <|
  fa_cons (ok_iret (show decode (am_mB y_Layout_pagesOfSpan) 23 = .ok (.ireturn, 1) by decide +kernel) rfl) <|
  fa_nil
set_option maxRecDepth 100000 in
theorem cq_Layout_pagesOfSpan (l : Launch) (d : Nat) : am_lk (co_Layout_pagesOfSpan l d) 0 = am_aload 0 1 ∧ am_lk (co_Layout_pagesOfSpan l d) 1 = am_aload 1 2 ∧ am_lk (co_Layout_pagesOfSpan l d) 2 = am_getR 7 10 5 ∧ am_lk (co_Layout_pagesOfSpan l d) 5 = am_iload 2 6 ∧ am_lk (co_Layout_pagesOfSpan l d) 6 = am_ald 0 7 ∧ am_lk (co_Layout_pagesOfSpan l d) 7 = am_cal l d y_Layout_pageOf (some 4) 2 10 0 0 0 0 ∧ am_lk (co_Layout_pagesOfSpan l d) 10 = am_aload 0 11 ∧ am_lk (co_Layout_pagesOfSpan l d) 11 = am_aload 1 12 ∧ am_lk (co_Layout_pagesOfSpan l d) 12 = am_getR 7 9 15 ∧ am_lk (co_Layout_pagesOfSpan l d) 15 = am_iload 2 16 ∧ am_lk (co_Layout_pagesOfSpan l d) 16 = am_ald 0 17 ∧ am_lk (co_Layout_pagesOfSpan l d) 17 = am_cal l d y_Layout_pageOf (some 4) 2 20 0 0 0 0 ∧ am_lk (co_Layout_pagesOfSpan l d) 20 = am_isub 21 ∧ am_lk (co_Layout_pagesOfSpan l d) 21 = am_push (vI 1) 22 ∧ am_lk (co_Layout_pagesOfSpan l d) 22 = am_iadd 23 ∧ am_lk (co_Layout_pagesOfSpan l d) 23 = am_iret false := ⟨rfl, rfl, rfl, rfl, rfl, rfl, rfl, rfl, rfl, rfl, rfl, rfl, rfl, rfl, rfl, rfl⟩
theorem en_Layout_pagesOfSpan {l : Launch} {d : Nat} (n : Nat) {as : List am_V} {G : am_G} {I : am_I} {J : am_J} {P : am_P} (hlen : (as.map am_cat).sum ≤ 3) (h : am_go (am_lk (co_Layout_pagesOfSpan l d)) (am_X l (0, fun _ => 0) (d + 1) y_Layout_pagesOfSpan P) P n 0 (am_el 3 as) [] 0 0 G I J) : am_T l (d + 1) y_Layout_pagesOfSpan as G I J P :=
  am_T_of (sc := (0, fun _ => 0)) cf_Layout_pagesOfSpan (by decide +kernel) (by decide) (by decide +kernel) hlen (am_run (ok_lk _ (ck_Layout_pagesOfSpan)) n _ _ _ _ _ _ _ _ h)
theorem rn_Layout_pagesOfSpan {l : Launch} {sc : Nat × (Nat → Int32)} {d : Nat} {P : am_P} (n : Nat) {pc : Nat} {ls : am_L} {st : List am_V} {kc ks : Nat} {G : am_G} {I : am_I} {J : am_J} (h : am_go (am_lk (co_Layout_pagesOfSpan l d)) (am_X l sc (d + 1) y_Layout_pagesOfSpan P) P n pc ls st kc ks G I J) : am_X l sc (d + 1) y_Layout_pagesOfSpan P pc ls st kc ks G I J := am_run (ok_lk _ (ck_Layout_pagesOfSpan)) n _ _ _ _ _ _ _ _ h
def co_Layout_countCutSpans (l : Launch) (d : Nat) : List (Nat × am_S) := [(0, am_push (vI 0) 1), (1, am_istore 2 2), (2, am_push (vI 0) 3), (3, am_stp (am_istore 3 4)), (4, am_iload 3 5), (5, am_aload 1 6), (6, am_getI 7 2 9), (9, am_icmp_ge 12 31), (12, am_aload 0 13), (13, am_aload 1 14), (14, am_iload 3 15), (15, am_cal l d y_Layout_pagesOfSpan (some 4) 3 18 0 0 0 0), (18, am_push (vI 1) 19), (19, am_icmp_le 22 25), (22, am_iinc 2 1 25), (25, am_iinc 3 1 28), (28, am_stp (am_goto 4)), (31, am_iload 2 32), (32, am_iret false)]
theorem ck_Layout_countCutSpans {l : Launch} {sc : Nat × (Nat → Int32)} {d : Nat} : ∀ q ∈ co_Layout_countCutSpans l d, am_ok l sc (d + 1) y_Layout_countCutSpans q.1 q.2 :=
  fa_cons (ok_iconst (show decode (am_mB y_Layout_countCutSpans) 0 = .ok (.iconst 0, 1) by decide +kernel) rfl) <|
  fa_cons (ok_istore_n (show decode (am_mB y_Layout_countCutSpans) 1 = .ok (.istore_n 2, 1) by decide +kernel) rfl (by decide +kernel)) <|
  fa_cons (ok_iconst (show decode (am_mB y_Layout_countCutSpans) 2 = .ok (.iconst 0, 1) by decide +kernel) rfl) <|
  fa_cons (ok_stp (σ := am_istore 3 4) (ok_istore_n (show decode (am_mB y_Layout_countCutSpans) 3 = .ok (.istore_n 3, 1) by decide +kernel) rfl (by decide +kernel))) <|
  fa_cons (ok_iload_n (show decode (am_mB y_Layout_countCutSpans) 4 = .ok (.iload_n 3, 1) by decide +kernel) rfl) <|
  fa_cons (ok_aload_n (show decode (am_mB y_Layout_countCutSpans) 5 = .ok (.aload_n 1, 1) by decide +kernel) rfl) <|
  fa_cons (ok_getI (show decode (am_mB y_Layout_countCutSpans) 6 = .ok (.getfield 71, 3) by decide +kernel) fl_Layout_71 (by decide +kernel)) <|
  fa_cons (ok_icmp_ge (show decode (am_mB y_Layout_countCutSpans) 9 = .ok (.if_icmp .ge 22, 3) by decide +kernel) (by decide)) <|
  fa_cons (ok_aload_n (show decode (am_mB y_Layout_countCutSpans) 12 = .ok (.aload_n 0, 1) by decide +kernel) rfl) <|
  fa_cons (ok_aload_n (show decode (am_mB y_Layout_countCutSpans) 13 = .ok (.aload_n 1, 1) by decide +kernel) rfl) <|
  fa_cons (ok_iload_n (show decode (am_mB y_Layout_countCutSpans) 14 = .ok (.iload_n 3, 1) by decide +kernel) rfl) <|
  fa_cons (ok_cal ⟨rfl, rfl, rfl, rfl⟩ (ok_callV (show decode (am_mB y_Layout_countCutSpans) 15 = .ok (.invokevirtual 74, 3) by decide +kernel) cf_Layout_pagesOfSpan (by decide +kernel) ml_Layout_74 ci_Layout_pagesOfSpan cv_Layout_pagesOfSpan ⟨by decide, rfl⟩ rfl ⟨by decide +kernel, rfl⟩ (Or.inl (by decide +kernel)))) <|
  fa_cons (ok_iconst (show decode (am_mB y_Layout_countCutSpans) 18 = .ok (.iconst 1, 1) by decide +kernel) rfl) <|
  fa_cons (ok_icmp_le (show decode (am_mB y_Layout_countCutSpans) 19 = .ok (.if_icmp .le 6, 3) by decide +kernel) (by decide)) <|
  fa_cons (ok_iinc (show decode (am_mB y_Layout_countCutSpans) 22 = .ok (.iinc 2 1, 3) by decide +kernel) (by decide +kernel) (by decide +kernel)) <|
  fa_cons (ok_iinc (show decode (am_mB y_Layout_countCutSpans) 25 = .ok (.iinc 3 1, 3) by decide +kernel) (by decide +kernel) (by decide +kernel)) <|
  fa_cons (ok_stp (σ := am_goto 4) (ok_goto (show decode (am_mB y_Layout_countCutSpans) 28 = .ok (.goto (-24), 3) by decide +kernel) (by decide))) <|
  fa_cons (ok_iload_n (show decode (am_mB y_Layout_countCutSpans) 31 = .ok (.iload_n 2, 1) by decide +kernel) rfl) <|
  fa_cons (ok_iret (show decode (am_mB y_Layout_countCutSpans) 32 = .ok (.ireturn, 1) by decide +kernel) rfl) <|
  fa_nil
set_option maxRecDepth 100000 in
theorem cq_Layout_countCutSpans (l : Launch) (d : Nat) : am_lk (co_Layout_countCutSpans l d) 0 = am_push (vI 0) 1 ∧ am_lk (co_Layout_countCutSpans l d) 1 = am_istore 2 2 ∧ am_lk (co_Layout_countCutSpans l d) 2 = am_push (vI 0) 3 ∧ am_lk (co_Layout_countCutSpans l d) 3 = am_stp (am_istore 3 4) ∧ am_lk (co_Layout_countCutSpans l d) 4 = am_iload 3 5 ∧ am_lk (co_Layout_countCutSpans l d) 5 = am_aload 1 6 ∧ am_lk (co_Layout_countCutSpans l d) 6 = am_getI 7 2 9 ∧ am_lk (co_Layout_countCutSpans l d) 9 = am_icmp_ge 12 31 ∧ am_lk (co_Layout_countCutSpans l d) 12 = am_aload 0 13 ∧ am_lk (co_Layout_countCutSpans l d) 13 = am_aload 1 14 ∧ am_lk (co_Layout_countCutSpans l d) 14 = am_iload 3 15 ∧ am_lk (co_Layout_countCutSpans l d) 15 = am_cal l d y_Layout_pagesOfSpan (some 4) 3 18 0 0 0 0 ∧ am_lk (co_Layout_countCutSpans l d) 18 = am_push (vI 1) 19 ∧ am_lk (co_Layout_countCutSpans l d) 19 = am_icmp_le 22 25 ∧ am_lk (co_Layout_countCutSpans l d) 22 = am_iinc 2 1 25 ∧ am_lk (co_Layout_countCutSpans l d) 25 = am_iinc 3 1 28 ∧ am_lk (co_Layout_countCutSpans l d) 28 = am_stp (am_goto 4) ∧ am_lk (co_Layout_countCutSpans l d) 31 = am_iload 2 32 ∧ am_lk (co_Layout_countCutSpans l d) 32 = am_iret false := ⟨rfl, rfl, rfl, rfl, rfl, rfl, rfl, rfl, rfl, rfl, rfl, rfl, rfl, rfl, rfl, rfl, rfl, rfl, rfl⟩
theorem en_Layout_countCutSpans {l : Launch} {d : Nat} (n : Nat) {as : List am_V} {G : am_G} {I : am_I} {J : am_J} {P : am_P} (hlen : (as.map am_cat).sum ≤ 4) (h : am_go (am_lk (co_Layout_countCutSpans l d)) (am_X l (0, fun _ => 0) (d + 1) y_Layout_countCutSpans P) P n 0 (am_el 4 as) [] 0 0 G I J) : am_T l (d + 1) y_Layout_countCutSpans as G I J P :=
  am_T_of (sc := (0, fun _ => 0)) cf_Layout_countCutSpans (by decide +kernel) (by decide) (by decide +kernel) hlen (am_run (ok_lk _ (ck_Layout_countCutSpans)) n _ _ _ _ _ _ _ _ h)
theorem rn_Layout_countCutSpans {l : Launch} {sc : Nat × (Nat → Int32)} {d : Nat} {P : am_P} (n : Nat) {pc : Nat} {ls : am_L} {st : List am_V} {kc ks : Nat} {G : am_G} {I : am_I} {J : am_J} (h : am_go (am_lk (co_Layout_countCutSpans l d)) (am_X l sc (d + 1) y_Layout_countCutSpans P) P n pc ls st kc ks G I J) : am_X l sc (d + 1) y_Layout_countCutSpans P pc ls st kc ks G I J := am_run (ok_lk _ (ck_Layout_countCutSpans)) n _ _ _ _ _ _ _ _ h
def co_Layout_sheetOf (l : Launch) (d : Nat) : List (Nat × am_S) := [(0, am_aload 0 1), (1, am_aload 1 2), (2, am_aload 0 3), (3, am_iload 2 4), (4, am_cal l d y_Layout_firstOf (some 4) 2 7 0 0 0 0), (7, am_aload 0 8), (8, am_iload 2 9), (9, am_cal l d y_Layout_lastOf (some 4) 2 12 0 0 0 0), (12, am_cal l d y_Layout_fill (some 4) 4 15 0 0 0 0), (15, am_aload 0 16), (16, am_getR 4 3 19), (19, am_aret)]
theorem ck_Layout_sheetOf {l : Launch} {sc : Nat × (Nat → Int32)} {d : Nat} : ∀ q ∈ co_Layout_sheetOf l d, am_ok l sc (d + 1) y_Layout_sheetOf q.1 q.2 :=
  fa_cons (ok_aload_n (show decode (am_mB y_Layout_sheetOf) 0 = .ok (.aload_n 0, 1) by decide +kernel) rfl) <|
  fa_cons (ok_aload_n (show decode (am_mB y_Layout_sheetOf) 1 = .ok (.aload_n 1, 1) by decide +kernel) rfl) <|
  fa_cons (ok_aload_n (show decode (am_mB y_Layout_sheetOf) 2 = .ok (.aload_n 0, 1) by decide +kernel) rfl) <|
  fa_cons (ok_iload_n (show decode (am_mB y_Layout_sheetOf) 3 = .ok (.iload_n 2, 1) by decide +kernel) rfl) <|
  fa_cons (ok_cal ⟨rfl, rfl, rfl, rfl⟩ (ok_callV (show decode (am_mB y_Layout_sheetOf) 4 = .ok (.invokevirtual 78, 3) by decide +kernel) cf_Layout_firstOf (by decide +kernel) ml_Layout_78 ci_Layout_firstOf cv_Layout_firstOf ⟨by decide, rfl⟩ rfl ⟨by decide +kernel, rfl⟩ (Or.inl (by decide +kernel)))) <|
  fa_cons (ok_aload_n (show decode (am_mB y_Layout_sheetOf) 7 = .ok (.aload_n 0, 1) by decide +kernel) rfl) <|
  fa_cons (ok_iload_n (show decode (am_mB y_Layout_sheetOf) 8 = .ok (.iload_n 2, 1) by decide +kernel) rfl) <|
  fa_cons (ok_cal ⟨rfl, rfl, rfl, rfl⟩ (ok_callV (show decode (am_mB y_Layout_sheetOf) 9 = .ok (.invokevirtual 81, 3) by decide +kernel) cf_Layout_lastOf (by decide +kernel) ml_Layout_81 ci_Layout_lastOf cv_Layout_lastOf ⟨by decide, rfl⟩ rfl ⟨by decide +kernel, rfl⟩ (Or.inl (by decide +kernel)))) <|
  fa_cons (ok_cal ⟨rfl, rfl, rfl, rfl⟩ (ok_callV (show decode (am_mB y_Layout_sheetOf) 12 = .ok (.invokevirtual 84, 3) by decide +kernel) cf_Layout_fill (by decide +kernel) ml_Layout_84 ci_Layout_fill cv_Layout_fill ⟨by decide, rfl⟩ rfl ⟨by decide +kernel, rfl⟩ (Or.inl (by decide +kernel)))) <|
  fa_cons (ok_aload_n (show decode (am_mB y_Layout_sheetOf) 15 = .ok (.aload_n 0, 1) by decide +kernel) rfl) <|
  fa_cons (ok_getR (show decode (am_mB y_Layout_sheetOf) 16 = .ok (.getfield 18, 3) by decide +kernel) fl_Layout_18 (by decide +kernel)) <|
  fa_cons (ok_aret (show decode (am_mB y_Layout_sheetOf) 19 = .ok (.areturn, 1) by decide +kernel) rfl (by decide +kernel)) <|
  fa_nil
set_option maxRecDepth 100000 in
theorem cq_Layout_sheetOf (l : Launch) (d : Nat) : am_lk (co_Layout_sheetOf l d) 0 = am_aload 0 1 ∧ am_lk (co_Layout_sheetOf l d) 1 = am_aload 1 2 ∧ am_lk (co_Layout_sheetOf l d) 2 = am_aload 0 3 ∧ am_lk (co_Layout_sheetOf l d) 3 = am_iload 2 4 ∧ am_lk (co_Layout_sheetOf l d) 4 = am_cal l d y_Layout_firstOf (some 4) 2 7 0 0 0 0 ∧ am_lk (co_Layout_sheetOf l d) 7 = am_aload 0 8 ∧ am_lk (co_Layout_sheetOf l d) 8 = am_iload 2 9 ∧ am_lk (co_Layout_sheetOf l d) 9 = am_cal l d y_Layout_lastOf (some 4) 2 12 0 0 0 0 ∧ am_lk (co_Layout_sheetOf l d) 12 = am_cal l d y_Layout_fill (some 4) 4 15 0 0 0 0 ∧ am_lk (co_Layout_sheetOf l d) 15 = am_aload 0 16 ∧ am_lk (co_Layout_sheetOf l d) 16 = am_getR 4 3 19 ∧ am_lk (co_Layout_sheetOf l d) 19 = am_aret := ⟨rfl, rfl, rfl, rfl, rfl, rfl, rfl, rfl, rfl, rfl, rfl, rfl⟩
theorem en_Layout_sheetOf {l : Launch} {d : Nat} (n : Nat) {as : List am_V} {G : am_G} {I : am_I} {J : am_J} {P : am_P} (hlen : (as.map am_cat).sum ≤ 3) (h : am_go (am_lk (co_Layout_sheetOf l d)) (am_X l (0, fun _ => 0) (d + 1) y_Layout_sheetOf P) P n 0 (am_el 3 as) [] 0 0 G I J) : am_T l (d + 1) y_Layout_sheetOf as G I J P :=
  am_T_of (sc := (0, fun _ => 0)) cf_Layout_sheetOf (by decide +kernel) (by decide) (by decide +kernel) hlen (am_run (ok_lk _ (ck_Layout_sheetOf)) n _ _ _ _ _ _ _ _ h)
theorem rn_Layout_sheetOf {l : Launch} {sc : Nat × (Nat → Int32)} {d : Nat} {P : am_P} (n : Nat) {pc : Nat} {ls : am_L} {st : List am_V} {kc ks : Nat} {G : am_G} {I : am_I} {J : am_J} (h : am_go (am_lk (co_Layout_sheetOf l d)) (am_X l sc (d + 1) y_Layout_sheetOf P) P n pc ls st kc ks G I J) : am_X l sc (d + 1) y_Layout_sheetOf P pc ls st kc ks G I J := am_run (ok_lk _ (ck_Layout_sheetOf)) n _ _ _ _ _ _ _ _ h
def co_Layout_emptyFromRow (l : Launch) (d : Nat) : List (Nat × am_S) := [(0, am_aload 0 1), (1, am_aload 1 2), (2, am_iload 2 3), (3, am_aload 1 4), (4, am_cal l d y_Table_endRows (some 7) 1 7 0 0 0 0), (7, am_aload 1 8), (8, am_getI 7 3 11), (11, am_cal l d y_Layout_lastThatFits (some 4) 5 14 0 0 0 0), (14, am_istore 3 15), (15, am_iload 3 16), (16, am_push (vI (-999999)) 18), (18, am_icmp_ne 21 24), (21, am_push (vI (-999999)) 23), (23, am_iret false), (24, am_aload 0 25), (25, am_aload 1 26), (26, am_iload 2 27), (27, am_iload 3 28), (28, am_cal l d y_Layout_fill (some 4) 4 31 0 0 0 0), (31, am_aload 1 32), (32, am_getI 7 3 35), (35, am_aload 0 36), (36, am_getR 4 3 39), (39, am_cal l d y_Sheet_needed (some 5) 1 42 0 0 0 0), (42, am_isub 43), (43, am_iret false)]
theorem ck_Layout_emptyFromRow {l : Launch} {sc : Nat × (Nat → Int32)} {d : Nat} : ∀ q ∈ co_Layout_emptyFromRow l d, am_ok l sc (d + 1) y_Layout_emptyFromRow q.1 q.2 :=
  fa_cons (ok_aload_n (show decode (am_mB y_Layout_emptyFromRow) 0 = .ok (.aload_n 0, 1) by decide +kernel) rfl) <|
  fa_cons (ok_aload_n (show decode (am_mB y_Layout_emptyFromRow) 1 = .ok (.aload_n 1, 1) by decide +kernel) rfl) <|
  fa_cons (ok_iload_n (show decode (am_mB y_Layout_emptyFromRow) 2 = .ok (.iload_n 2, 1) by decide +kernel) rfl) <|
  fa_cons (ok_aload_n (show decode (am_mB y_Layout_emptyFromRow) 3 = .ok (.aload_n 1, 1) by decide +kernel) rfl) <|
  fa_cons (ok_cal ⟨rfl, rfl, rfl, rfl⟩ (ok_callV (show decode (am_mB y_Layout_emptyFromRow) 4 = .ok (.invokevirtual 22, 3) by decide +kernel) cf_Table_endRows (by decide +kernel) ml_Layout_22 ci_Table_endRows cv_Table_endRows ⟨by decide, rfl⟩ rfl ⟨by decide +kernel, rfl⟩ (Or.inl (by decide +kernel)))) <|
  fa_cons (ok_aload_n (show decode (am_mB y_Layout_emptyFromRow) 7 = .ok (.aload_n 1, 1) by decide +kernel) rfl) <|
  fa_cons (ok_getI (show decode (am_mB y_Layout_emptyFromRow) 8 = .ok (.getfield 88, 3) by decide +kernel) fl_Layout_88 (by decide +kernel)) <|
  fa_cons (ok_cal ⟨rfl, rfl, rfl, rfl⟩ (ok_callV (show decode (am_mB y_Layout_emptyFromRow) 11 = .ok (.invokevirtual 38, 3) by decide +kernel) cf_Layout_lastThatFits (by decide +kernel) ml_Layout_38 ci_Layout_lastThatFits cv_Layout_lastThatFits ⟨by decide, rfl⟩ rfl ⟨by decide +kernel, rfl⟩ (Or.inl (by decide +kernel)))) <|
  fa_cons (ok_istore_n (show decode (am_mB y_Layout_emptyFromRow) 14 = .ok (.istore_n 3, 1) by decide +kernel) rfl (by decide +kernel)) <|
  fa_cons (ok_iload_n (show decode (am_mB y_Layout_emptyFromRow) 15 = .ok (.iload_n 3, 1) by decide +kernel) rfl) <|
  fa_cons (ok_ldc (show decode (am_mB y_Layout_emptyFromRow) 16 = .ok (.ldc 42, 2) by decide +kernel) w_534) <|
  fa_cons (ok_icmp_ne (show decode (am_mB y_Layout_emptyFromRow) 18 = .ok (.if_icmp .ne 6, 3) by decide +kernel) (by decide)) <|
  fa_cons (ok_ldc (show decode (am_mB y_Layout_emptyFromRow) 21 = .ok (.ldc 42, 2) by decide +kernel) w_534) <|
  fa_cons (ok_iret (show decode (am_mB y_Layout_emptyFromRow) 23 = .ok (.ireturn, 1) by decide +kernel) rfl) <|
  fa_cons (ok_aload_n (show decode (am_mB y_Layout_emptyFromRow) 24 = .ok (.aload_n 0, 1) by decide +kernel) rfl) <|
  fa_cons (ok_aload_n (show decode (am_mB y_Layout_emptyFromRow) 25 = .ok (.aload_n 1, 1) by decide +kernel) rfl) <|
  fa_cons (ok_iload_n (show decode (am_mB y_Layout_emptyFromRow) 26 = .ok (.iload_n 2, 1) by decide +kernel) rfl) <|
  fa_cons (ok_iload_n (show decode (am_mB y_Layout_emptyFromRow) 27 = .ok (.iload_n 3, 1) by decide +kernel) rfl) <|
  fa_cons (ok_cal ⟨rfl, rfl, rfl, rfl⟩ (ok_callV (show decode (am_mB y_Layout_emptyFromRow) 28 = .ok (.invokevirtual 84, 3) by decide +kernel) cf_Layout_fill (by decide +kernel) ml_Layout_84 ci_Layout_fill cv_Layout_fill ⟨by decide, rfl⟩ rfl ⟨by decide +kernel, rfl⟩ (Or.inl (by decide +kernel)))) <|
  fa_cons (ok_aload_n (show decode (am_mB y_Layout_emptyFromRow) 31 = .ok (.aload_n 1, 1) by decide +kernel) rfl) <|
  fa_cons (ok_getI (show decode (am_mB y_Layout_emptyFromRow) 32 = .ok (.getfield 88, 3) by decide +kernel) fl_Layout_88 (by decide +kernel)) <|
  fa_cons (ok_aload_n (show decode (am_mB y_Layout_emptyFromRow) 35 = .ok (.aload_n 0, 1) by decide +kernel) rfl) <|
  fa_cons (ok_getR (show decode (am_mB y_Layout_emptyFromRow) 36 = .ok (.getfield 18, 3) by decide +kernel) fl_Layout_18 (by decide +kernel)) <|
  fa_cons (ok_cal ⟨rfl, rfl, rfl, rfl⟩ (ok_callV (show decode (am_mB y_Layout_emptyFromRow) 39 = .ok (.invokevirtual 54, 3) by decide +kernel) cf_Sheet_needed (by decide +kernel) ml_Layout_54 ci_Sheet_needed cv_Sheet_needed ⟨by decide, rfl⟩ rfl ⟨by decide +kernel, rfl⟩ (Or.inl (by decide +kernel)))) <|
  fa_cons (ok_isub (show decode (am_mB y_Layout_emptyFromRow) 42 = .ok (.isub, 1) by decide +kernel)) <|
  fa_cons (ok_iret (show decode (am_mB y_Layout_emptyFromRow) 43 = .ok (.ireturn, 1) by decide +kernel) rfl) <|
  fa_nil
set_option maxRecDepth 100000 in
theorem cq_Layout_emptyFromRow (l : Launch) (d : Nat) : am_lk (co_Layout_emptyFromRow l d) 0 = am_aload 0 1 ∧ am_lk (co_Layout_emptyFromRow l d) 1 = am_aload 1 2 ∧ am_lk (co_Layout_emptyFromRow l d) 2 = am_iload 2 3 ∧ am_lk (co_Layout_emptyFromRow l d) 3 = am_aload 1 4 ∧ am_lk (co_Layout_emptyFromRow l d) 4 = am_cal l d y_Table_endRows (some 7) 1 7 0 0 0 0 ∧ am_lk (co_Layout_emptyFromRow l d) 7 = am_aload 1 8 ∧ am_lk (co_Layout_emptyFromRow l d) 8 = am_getI 7 3 11 ∧ am_lk (co_Layout_emptyFromRow l d) 11 = am_cal l d y_Layout_lastThatFits (some 4) 5 14 0 0 0 0 ∧ am_lk (co_Layout_emptyFromRow l d) 14 = am_istore 3 15 ∧ am_lk (co_Layout_emptyFromRow l d) 15 = am_iload 3 16 ∧ am_lk (co_Layout_emptyFromRow l d) 16 = am_push (vI (-999999)) 18 ∧ am_lk (co_Layout_emptyFromRow l d) 18 = am_icmp_ne 21 24 ∧ am_lk (co_Layout_emptyFromRow l d) 21 = am_push (vI (-999999)) 23 ∧ am_lk (co_Layout_emptyFromRow l d) 23 = am_iret false ∧ am_lk (co_Layout_emptyFromRow l d) 24 = am_aload 0 25 ∧ am_lk (co_Layout_emptyFromRow l d) 25 = am_aload 1 26 ∧ am_lk (co_Layout_emptyFromRow l d) 26 = am_iload 2 27 ∧ am_lk (co_Layout_emptyFromRow l d) 27 = am_iload 3 28 ∧ am_lk (co_Layout_emptyFromRow l d) 28 = am_cal l d y_Layout_fill (some 4) 4 31 0 0 0 0 ∧ am_lk (co_Layout_emptyFromRow l d) 31 = am_aload 1 32 ∧ am_lk (co_Layout_emptyFromRow l d) 32 = am_getI 7 3 35 ∧ am_lk (co_Layout_emptyFromRow l d) 35 = am_aload 0 36 ∧ am_lk (co_Layout_emptyFromRow l d) 36 = am_getR 4 3 39 ∧ am_lk (co_Layout_emptyFromRow l d) 39 = am_cal l d y_Sheet_needed (some 5) 1 42 0 0 0 0 ∧ am_lk (co_Layout_emptyFromRow l d) 42 = am_isub 43 ∧ am_lk (co_Layout_emptyFromRow l d) 43 = am_iret false := ⟨rfl, rfl, rfl, rfl, rfl, rfl, rfl, rfl, rfl, rfl, rfl, rfl, rfl, rfl, rfl, rfl, rfl, rfl, rfl, rfl, rfl, rfl, rfl, rfl, rfl, rfl⟩
theorem en_Layout_emptyFromRow {l : Launch} {d : Nat} (n : Nat) {as : List am_V} {G : am_G} {I : am_I} {J : am_J} {P : am_P} (hlen : (as.map am_cat).sum ≤ 4) (h : am_go (am_lk (co_Layout_emptyFromRow l d)) (am_X l (0, fun _ => 0) (d + 1) y_Layout_emptyFromRow P) P n 0 (am_el 4 as) [] 0 0 G I J) : am_T l (d + 1) y_Layout_emptyFromRow as G I J P :=
  am_T_of (sc := (0, fun _ => 0)) cf_Layout_emptyFromRow (by decide +kernel) (by decide) (by decide +kernel) hlen (am_run (ok_lk _ (ck_Layout_emptyFromRow)) n _ _ _ _ _ _ _ _ h)
theorem rn_Layout_emptyFromRow {l : Launch} {sc : Nat × (Nat → Int32)} {d : Nat} {P : am_P} (n : Nat) {pc : Nat} {ls : am_L} {st : List am_V} {kc ks : Nat} {G : am_G} {I : am_I} {J : am_J} (h : am_go (am_lk (co_Layout_emptyFromRow l d)) (am_X l sc (d + 1) y_Layout_emptyFromRow P) P n pc ls st kc ks G I J) : am_X l sc (d + 1) y_Layout_emptyFromRow P pc ls st kc ks G I J := am_run (ok_lk _ (ck_Layout_emptyFromRow)) n _ _ _ _ _ _ _ _ h
def co_Layout_fill (l : Launch) (d : Nat) : List (Nat × am_S) := [(0, am_aload 0 1), (1, am_getR 4 3 4), (4, am_aload 1 5), (5, am_iload 2 6), (6, am_cal l d y_Sheet_begin (some 5) 3 9 0 0 0 0), (9, am_iload 2 10), (10, am_stp (am_istore 4 12)), (12, am_iload 4 14), (14, am_iload 3 15), (15, am_icmp_gt 18 34), (18, am_aload 0 19), (19, am_getR 4 3 22), (22, am_aload 1 23), (23, am_iload 4 25), (25, am_cal l d y_Sheet_take (some 5) 3 28 0 0 0 0), (28, am_iinc 4 1 31), (31, am_stp (am_goto 12)), (34, am_vret)]
theorem ck_Layout_fill {l : Launch} {sc : Nat × (Nat → Int32)} {d : Nat} : ∀ q ∈ co_Layout_fill l d, am_ok l sc (d + 1) y_Layout_fill q.1 q.2 :=
  fa_cons (ok_aload_n (show decode (am_mB y_Layout_fill) 0 = .ok (.aload_n 0, 1) by decide +kernel) rfl) <|
  fa_cons (ok_getR (show decode (am_mB y_Layout_fill) 1 = .ok (.getfield 18, 3) by decide +kernel) fl_Layout_18 (by decide +kernel)) <|
  fa_cons (ok_aload_n (show decode (am_mB y_Layout_fill) 4 = .ok (.aload_n 1, 1) by decide +kernel) rfl) <|
  fa_cons (ok_iload_n (show decode (am_mB y_Layout_fill) 5 = .ok (.iload_n 2, 1) by decide +kernel) rfl) <|
  fa_cons (ok_cal ⟨rfl, rfl, rfl, rfl⟩ (ok_callV (show decode (am_mB y_Layout_fill) 6 = .ok (.invokevirtual 47, 3) by decide +kernel) cf_Sheet_begin (by decide +kernel) ml_Layout_47 ci_Sheet_begin cv_Sheet_begin ⟨by decide, rfl⟩ rfl ⟨by decide +kernel, rfl⟩ (Or.inl (by decide +kernel)))) <|
  fa_cons (ok_iload_n (show decode (am_mB y_Layout_fill) 9 = .ok (.iload_n 2, 1) by decide +kernel) rfl) <|
  fa_cons (ok_stp (σ := am_istore 4 12) (ok_istore (show decode (am_mB y_Layout_fill) 10 = .ok (.istore 4, 2) by decide +kernel) (by decide +kernel))) <|
  fa_cons (ok_iload (show decode (am_mB y_Layout_fill) 12 = .ok (.iload 4, 2) by decide +kernel)) <|
  fa_cons (ok_iload_n (show decode (am_mB y_Layout_fill) 14 = .ok (.iload_n 3, 1) by decide +kernel) rfl) <|
  fa_cons (ok_icmp_gt (show decode (am_mB y_Layout_fill) 15 = .ok (.if_icmp .gt 19, 3) by decide +kernel) (by decide)) <|
  fa_cons (ok_aload_n (show decode (am_mB y_Layout_fill) 18 = .ok (.aload_n 0, 1) by decide +kernel) rfl) <|
  fa_cons (ok_getR (show decode (am_mB y_Layout_fill) 19 = .ok (.getfield 18, 3) by decide +kernel) fl_Layout_18 (by decide +kernel)) <|
  fa_cons (ok_aload_n (show decode (am_mB y_Layout_fill) 22 = .ok (.aload_n 1, 1) by decide +kernel) rfl) <|
  fa_cons (ok_iload (show decode (am_mB y_Layout_fill) 23 = .ok (.iload 4, 2) by decide +kernel)) <|
  fa_cons (ok_cal ⟨rfl, rfl, rfl, rfl⟩ (ok_callV (show decode (am_mB y_Layout_fill) 25 = .ok (.invokevirtual 51, 3) by decide +kernel) cf_Sheet_take (by decide +kernel) ml_Layout_51 ci_Sheet_take cv_Sheet_take ⟨by decide, rfl⟩ rfl ⟨by decide +kernel, rfl⟩ (Or.inl (by decide +kernel)))) <|
  fa_cons (ok_iinc (show decode (am_mB y_Layout_fill) 28 = .ok (.iinc 4 1, 3) by decide +kernel) (by decide +kernel) (by decide +kernel)) <|
  fa_cons (ok_stp (σ := am_goto 12) (ok_goto (show decode (am_mB y_Layout_fill) 31 = .ok (.goto (-19), 3) by decide +kernel) (by decide))) <|
  fa_cons (ok_vret (show decode (am_mB y_Layout_fill) 34 = .ok (.return_, 1) by decide +kernel) rfl (by decide +kernel)) <|
  fa_nil
set_option maxRecDepth 100000 in
theorem cq_Layout_fill (l : Launch) (d : Nat) : am_lk (co_Layout_fill l d) 0 = am_aload 0 1 ∧ am_lk (co_Layout_fill l d) 1 = am_getR 4 3 4 ∧ am_lk (co_Layout_fill l d) 4 = am_aload 1 5 ∧ am_lk (co_Layout_fill l d) 5 = am_iload 2 6 ∧ am_lk (co_Layout_fill l d) 6 = am_cal l d y_Sheet_begin (some 5) 3 9 0 0 0 0 ∧ am_lk (co_Layout_fill l d) 9 = am_iload 2 10 ∧ am_lk (co_Layout_fill l d) 10 = am_stp (am_istore 4 12) ∧ am_lk (co_Layout_fill l d) 12 = am_iload 4 14 ∧ am_lk (co_Layout_fill l d) 14 = am_iload 3 15 ∧ am_lk (co_Layout_fill l d) 15 = am_icmp_gt 18 34 ∧ am_lk (co_Layout_fill l d) 18 = am_aload 0 19 ∧ am_lk (co_Layout_fill l d) 19 = am_getR 4 3 22 ∧ am_lk (co_Layout_fill l d) 22 = am_aload 1 23 ∧ am_lk (co_Layout_fill l d) 23 = am_iload 4 25 ∧ am_lk (co_Layout_fill l d) 25 = am_cal l d y_Sheet_take (some 5) 3 28 0 0 0 0 ∧ am_lk (co_Layout_fill l d) 28 = am_iinc 4 1 31 ∧ am_lk (co_Layout_fill l d) 31 = am_stp (am_goto 12) ∧ am_lk (co_Layout_fill l d) 34 = am_vret := ⟨rfl, rfl, rfl, rfl, rfl, rfl, rfl, rfl, rfl, rfl, rfl, rfl, rfl, rfl, rfl, rfl, rfl, rfl⟩
theorem en_Layout_fill {l : Launch} {d : Nat} (n : Nat) {as : List am_V} {G : am_G} {I : am_I} {J : am_J} {P : am_P} (hlen : (as.map am_cat).sum ≤ 5) (h : am_go (am_lk (co_Layout_fill l d)) (am_X l (0, fun _ => 0) (d + 1) y_Layout_fill P) P n 0 (am_el 5 as) [] 0 0 G I J) : am_T l (d + 1) y_Layout_fill as G I J P :=
  am_T_of (sc := (0, fun _ => 0)) cf_Layout_fill (by decide +kernel) (by decide) (by decide +kernel) hlen (am_run (ok_lk _ (ck_Layout_fill)) n _ _ _ _ _ _ _ _ h)
theorem rn_Layout_fill {l : Launch} {sc : Nat × (Nat → Int32)} {d : Nat} {P : am_P} (n : Nat) {pc : Nat} {ls : am_L} {st : List am_V} {kc ks : Nat} {G : am_G} {I : am_I} {J : am_J} (h : am_go (am_lk (co_Layout_fill l d)) (am_X l sc (d + 1) y_Layout_fill P) P n pc ls st kc ks G I J) : am_X l sc (d + 1) y_Layout_fill P pc ls st kc ks G I J := am_run (ok_lk _ (ck_Layout_fill)) n _ _ _ _ _ _ _ _ h
def co_Sheet_init (l : Launch) (d : Nat) : List (Nat × am_S) := [(0, am_aload 0 1), (1, am_oinit 4), (4, am_vret)]
theorem ck_Sheet_init {l : Launch} {sc : Nat × (Nat → Int32)} {d : Nat} : ∀ q ∈ co_Sheet_init l d, am_ok l sc (d + 1) y_Sheet_init q.1 q.2 :=
  fa_cons (ok_aload_n (show decode (am_mB y_Sheet_init) 0 = .ok (.aload_n 0, 1) by decide +kernel) rfl) <|
  fa_cons (ok_oinit (show decode (am_mB y_Sheet_init) 1 = .ok (.invokespecial 1, 3) by decide +kernel) w_178 w_24 w_25 (by omega)) <|
  fa_cons (ok_vret (show decode (am_mB y_Sheet_init) 4 = .ok (.return_, 1) by decide +kernel) rfl (by decide +kernel)) <|
  fa_nil
set_option maxRecDepth 100000 in
theorem cq_Sheet_init (l : Launch) (d : Nat) : am_lk (co_Sheet_init l d) 0 = am_aload 0 1 ∧ am_lk (co_Sheet_init l d) 1 = am_oinit 4 ∧ am_lk (co_Sheet_init l d) 4 = am_vret := ⟨rfl, rfl, rfl⟩
theorem en_Sheet_init {l : Launch} {d : Nat} (n : Nat) {as : List am_V} {G : am_G} {I : am_I} {J : am_J} {P : am_P} (hlen : (as.map am_cat).sum ≤ 1) (h : am_go (am_lk (co_Sheet_init l d)) (am_X l (0, fun _ => 0) (d + 1) y_Sheet_init P) P n 0 (am_el 1 as) [] 0 0 G I J) : am_T l (d + 1) y_Sheet_init as G I J P :=
  am_T_of (sc := (0, fun _ => 0)) cf_Sheet_init (by decide +kernel) (by decide) (by decide +kernel) hlen (am_run (ok_lk _ (ck_Sheet_init)) n _ _ _ _ _ _ _ _ h)
theorem rn_Sheet_init {l : Launch} {sc : Nat × (Nat → Int32)} {d : Nat} {P : am_P} (n : Nat) {pc : Nat} {ls : am_L} {st : List am_V} {kc ks : Nat} {G : am_G} {I : am_I} {J : am_J} (h : am_go (am_lk (co_Sheet_init l d)) (am_X l sc (d + 1) y_Sheet_init P) P n pc ls st kc ks G I J) : am_X l sc (d + 1) y_Sheet_init P pc ls st kc ks G I J := am_run (ok_lk _ (ck_Sheet_init)) n _ _ _ _ _ _ _ _ h
def co_Sheet_begin (l : Launch) (d : Nat) : List (Nat × am_S) := [(0, am_aload 0 1), (1, am_push (vI 0) 2), (2, am_putI 5 0 5), (5, am_push (vI 0) 6), (6, am_stp (am_istore 3 7)), (7, am_iload 3 8), (8, am_aload 1 9), (9, am_getI 7 2 12), (12, am_icmp_ge 15 51), (15, am_aload 1 16), (16, am_getR 7 9 19), (19, am_iload 3 20), (20, am_ald 0 21), (21, am_iload 2 22), (22, am_icmp_ge 25 45), (25, am_aload 1 26), (26, am_getR 7 10 29), (29, am_iload 3 30), (30, am_ald 0 31), (31, am_iload 2 32), (32, am_icmp_lt 35 45), (35, am_aload 0 36), (36, am_dup 37), (37, am_getI 5 0 40), (40, am_push (vI 1) 41), (41, am_iadd 42), (42, am_putI 5 0 45), (45, am_iinc 3 1 48), (48, am_stp (am_goto 7)), (51, am_aload 0 52), (52, am_push (vI 0) 53), (53, am_putI 5 1 56), (56, am_aload 0 57), (57, am_aload 1 58), (58, am_getI 7 4 61), (61, am_aload 0 62), (62, am_getI 5 0 65), (65, am_iadd 66), (66, am_iload 2 67), (67, am_if_eq 70 74), (70, am_push (vI 1) 71), (71, am_goto 75), (74, am_push (vI 0) 75), (75, am_iadd 76), (76, am_putI 5 2 79), (79, am_aload 0 80), (80, am_push (vI 0) 81), (81, am_putI 5 3 84), (84, am_vret)]
theorem ck_Sheet_begin {l : Launch} {sc : Nat × (Nat → Int32)} {d : Nat} : ∀ q ∈ co_Sheet_begin l d, am_ok l sc (d + 1) y_Sheet_begin q.1 q.2 :=
  fa_cons (ok_aload_n (show decode (am_mB y_Sheet_begin) 0 = .ok (.aload_n 0, 1) by decide +kernel) rfl) <|
  fa_cons (ok_iconst (show decode (am_mB y_Sheet_begin) 1 = .ok (.iconst 0, 1) by decide +kernel) rfl) <|
  fa_cons (ok_putI (show decode (am_mB y_Sheet_begin) 2 = .ok (.putfield 7, 3) by decide +kernel) fl_Sheet_7 (by decide +kernel)) <|
  fa_cons (ok_iconst (show decode (am_mB y_Sheet_begin) 5 = .ok (.iconst 0, 1) by decide +kernel) rfl) <|
  fa_cons (ok_stp (σ := am_istore 3 7) (ok_istore_n (show decode (am_mB y_Sheet_begin) 6 = .ok (.istore_n 3, 1) by decide +kernel) rfl (by decide +kernel))) <|
  fa_cons (ok_iload_n (show decode (am_mB y_Sheet_begin) 7 = .ok (.iload_n 3, 1) by decide +kernel) rfl) <|
  fa_cons (ok_aload_n (show decode (am_mB y_Sheet_begin) 8 = .ok (.aload_n 1, 1) by decide +kernel) rfl) <|
  fa_cons (ok_getI (show decode (am_mB y_Sheet_begin) 9 = .ok (.getfield 13, 3) by decide +kernel) fl_Sheet_13 (by decide +kernel)) <|
  fa_cons (ok_icmp_ge (show decode (am_mB y_Sheet_begin) 12 = .ok (.if_icmp .ge 39, 3) by decide +kernel) (by decide)) <|
  fa_cons (ok_aload_n (show decode (am_mB y_Sheet_begin) 15 = .ok (.aload_n 1, 1) by decide +kernel) rfl) <|
  fa_cons (ok_getR (show decode (am_mB y_Sheet_begin) 16 = .ok (.getfield 18, 3) by decide +kernel) fl_Sheet_18 (by decide +kernel)) <|
  fa_cons (ok_iload_n (show decode (am_mB y_Sheet_begin) 19 = .ok (.iload_n 3, 1) by decide +kernel) rfl) <|
  fa_cons (ok_iald (show decode (am_mB y_Sheet_begin) 20 = .ok (.iaload, 1) by decide +kernel)) <|
  fa_cons (ok_iload_n (show decode (am_mB y_Sheet_begin) 21 = .ok (.iload_n 2, 1) by decide +kernel) rfl) <|
  fa_cons (ok_icmp_ge (show decode (am_mB y_Sheet_begin) 22 = .ok (.if_icmp .ge 23, 3) by decide +kernel) (by decide)) <|
  fa_cons (ok_aload_n (show decode (am_mB y_Sheet_begin) 25 = .ok (.aload_n 1, 1) by decide +kernel) rfl) <|
  fa_cons (ok_getR (show decode (am_mB y_Sheet_begin) 26 = .ok (.getfield 22, 3) by decide +kernel) fl_Sheet_22 (by decide +kernel)) <|
  fa_cons (ok_iload_n (show decode (am_mB y_Sheet_begin) 29 = .ok (.iload_n 3, 1) by decide +kernel) rfl) <|
  fa_cons (ok_iald (show decode (am_mB y_Sheet_begin) 30 = .ok (.iaload, 1) by decide +kernel)) <|
  fa_cons (ok_iload_n (show decode (am_mB y_Sheet_begin) 31 = .ok (.iload_n 2, 1) by decide +kernel) rfl) <|
  fa_cons (ok_icmp_lt (show decode (am_mB y_Sheet_begin) 32 = .ok (.if_icmp .lt 13, 3) by decide +kernel) (by decide)) <|
  fa_cons (ok_aload_n (show decode (am_mB y_Sheet_begin) 35 = .ok (.aload_n 0, 1) by decide +kernel) rfl) <|
  fa_cons (ok_dup (show decode (am_mB y_Sheet_begin) 36 = .ok (.dup, 1) by decide +kernel)) <|
  fa_cons (ok_getI (show decode (am_mB y_Sheet_begin) 37 = .ok (.getfield 7, 3) by decide +kernel) fl_Sheet_7 (by decide +kernel)) <|
  fa_cons (ok_iconst (show decode (am_mB y_Sheet_begin) 40 = .ok (.iconst 1, 1) by decide +kernel) rfl) <|
  fa_cons (ok_iadd (show decode (am_mB y_Sheet_begin) 41 = .ok (.iadd, 1) by decide +kernel)) <|
  fa_cons (ok_putI (show decode (am_mB y_Sheet_begin) 42 = .ok (.putfield 7, 3) by decide +kernel) fl_Sheet_7 (by decide +kernel)) <|
  fa_cons (ok_iinc (show decode (am_mB y_Sheet_begin) 45 = .ok (.iinc 3 1, 3) by decide +kernel) (by decide +kernel) (by decide +kernel)) <|
  fa_cons (ok_stp (σ := am_goto 7) (ok_goto (show decode (am_mB y_Sheet_begin) 48 = .ok (.goto (-41), 3) by decide +kernel) (by decide))) <|
  fa_cons (ok_aload_n (show decode (am_mB y_Sheet_begin) 51 = .ok (.aload_n 0, 1) by decide +kernel) rfl) <|
  fa_cons (ok_iconst (show decode (am_mB y_Sheet_begin) 52 = .ok (.iconst 0, 1) by decide +kernel) rfl) <|
  fa_cons (ok_putI (show decode (am_mB y_Sheet_begin) 53 = .ok (.putfield 25, 3) by decide +kernel) fl_Sheet_25 (by decide +kernel)) <|
  fa_cons (ok_aload_n (show decode (am_mB y_Sheet_begin) 56 = .ok (.aload_n 0, 1) by decide +kernel) rfl) <|
  fa_cons (ok_aload_n (show decode (am_mB y_Sheet_begin) 57 = .ok (.aload_n 1, 1) by decide +kernel) rfl) <|
  fa_cons (ok_getI (show decode (am_mB y_Sheet_begin) 58 = .ok (.getfield 28, 3) by decide +kernel) fl_Sheet_28 (by decide +kernel)) <|
  fa_cons (ok_aload_n (show decode (am_mB y_Sheet_begin) 61 = .ok (.aload_n 0, 1) by decide +kernel) rfl) <|
  fa_cons (ok_getI (show decode (am_mB y_Sheet_begin) 62 = .ok (.getfield 7, 3) by decide +kernel) fl_Sheet_7 (by decide +kernel)) <|
  fa_cons (ok_iadd (show decode (am_mB y_Sheet_begin) 65 = .ok (.iadd, 1) by decide +kernel)) <|
  fa_cons (ok_iload_n (show decode (am_mB y_Sheet_begin) 66 = .ok (.iload_n 2, 1) by decide +kernel) rfl) <|
  fa_cons (ok_if_eq (show decode (am_mB y_Sheet_begin) 67 = .ok (.ifCond .eq 7, 3) by decide +kernel) (by decide)) <|
  fa_cons (ok_iconst (show decode (am_mB y_Sheet_begin) 70 = .ok (.iconst 1, 1) by decide +kernel) rfl) <|
  fa_cons (ok_goto (show decode (am_mB y_Sheet_begin) 71 = .ok (.goto 4, 3) by decide +kernel) (by decide)) <|
  fa_cons (ok_iconst (show decode (am_mB y_Sheet_begin) 74 = .ok (.iconst 0, 1) by decide +kernel) rfl) <|
  fa_cons (ok_iadd (show decode (am_mB y_Sheet_begin) 75 = .ok (.iadd, 1) by decide +kernel)) <|
  fa_cons (ok_putI (show decode (am_mB y_Sheet_begin) 76 = .ok (.putfield 31, 3) by decide +kernel) fl_Sheet_31 (by decide +kernel)) <|
  fa_cons (ok_aload_n (show decode (am_mB y_Sheet_begin) 79 = .ok (.aload_n 0, 1) by decide +kernel) rfl) <|
  fa_cons (ok_iconst (show decode (am_mB y_Sheet_begin) 80 = .ok (.iconst 0, 1) by decide +kernel) rfl) <|
  fa_cons (ok_putI (show decode (am_mB y_Sheet_begin) 81 = .ok (.putfield 34, 3) by decide +kernel) fl_Sheet_34 (by decide +kernel)) <|
  fa_cons (ok_vret (show decode (am_mB y_Sheet_begin) 84 = .ok (.return_, 1) by decide +kernel) rfl (by decide +kernel)) <|
  fa_nil
set_option maxRecDepth 100000 in
theorem cq_Sheet_begin (l : Launch) (d : Nat) : am_lk (co_Sheet_begin l d) 0 = am_aload 0 1 ∧ am_lk (co_Sheet_begin l d) 1 = am_push (vI 0) 2 ∧ am_lk (co_Sheet_begin l d) 2 = am_putI 5 0 5 ∧ am_lk (co_Sheet_begin l d) 5 = am_push (vI 0) 6 ∧ am_lk (co_Sheet_begin l d) 6 = am_stp (am_istore 3 7) ∧ am_lk (co_Sheet_begin l d) 7 = am_iload 3 8 ∧ am_lk (co_Sheet_begin l d) 8 = am_aload 1 9 ∧ am_lk (co_Sheet_begin l d) 9 = am_getI 7 2 12 ∧ am_lk (co_Sheet_begin l d) 12 = am_icmp_ge 15 51 ∧ am_lk (co_Sheet_begin l d) 15 = am_aload 1 16 ∧ am_lk (co_Sheet_begin l d) 16 = am_getR 7 9 19 ∧ am_lk (co_Sheet_begin l d) 19 = am_iload 3 20 ∧ am_lk (co_Sheet_begin l d) 20 = am_ald 0 21 ∧ am_lk (co_Sheet_begin l d) 21 = am_iload 2 22 ∧ am_lk (co_Sheet_begin l d) 22 = am_icmp_ge 25 45 ∧ am_lk (co_Sheet_begin l d) 25 = am_aload 1 26 ∧ am_lk (co_Sheet_begin l d) 26 = am_getR 7 10 29 ∧ am_lk (co_Sheet_begin l d) 29 = am_iload 3 30 ∧ am_lk (co_Sheet_begin l d) 30 = am_ald 0 31 ∧ am_lk (co_Sheet_begin l d) 31 = am_iload 2 32 ∧ am_lk (co_Sheet_begin l d) 32 = am_icmp_lt 35 45 ∧ am_lk (co_Sheet_begin l d) 35 = am_aload 0 36 ∧ am_lk (co_Sheet_begin l d) 36 = am_dup 37 ∧ am_lk (co_Sheet_begin l d) 37 = am_getI 5 0 40 ∧ am_lk (co_Sheet_begin l d) 40 = am_push (vI 1) 41 ∧ am_lk (co_Sheet_begin l d) 41 = am_iadd 42 ∧ am_lk (co_Sheet_begin l d) 42 = am_putI 5 0 45 ∧ am_lk (co_Sheet_begin l d) 45 = am_iinc 3 1 48 ∧ am_lk (co_Sheet_begin l d) 48 = am_stp (am_goto 7) ∧ am_lk (co_Sheet_begin l d) 51 = am_aload 0 52 ∧ am_lk (co_Sheet_begin l d) 52 = am_push (vI 0) 53 ∧ am_lk (co_Sheet_begin l d) 53 = am_putI 5 1 56 ∧ am_lk (co_Sheet_begin l d) 56 = am_aload 0 57 ∧ am_lk (co_Sheet_begin l d) 57 = am_aload 1 58 ∧ am_lk (co_Sheet_begin l d) 58 = am_getI 7 4 61 ∧ am_lk (co_Sheet_begin l d) 61 = am_aload 0 62 ∧ am_lk (co_Sheet_begin l d) 62 = am_getI 5 0 65 ∧ am_lk (co_Sheet_begin l d) 65 = am_iadd 66 ∧ am_lk (co_Sheet_begin l d) 66 = am_iload 2 67 ∧ am_lk (co_Sheet_begin l d) 67 = am_if_eq 70 74 ∧ am_lk (co_Sheet_begin l d) 70 = am_push (vI 1) 71 ∧ am_lk (co_Sheet_begin l d) 71 = am_goto 75 ∧ am_lk (co_Sheet_begin l d) 74 = am_push (vI 0) 75 ∧ am_lk (co_Sheet_begin l d) 75 = am_iadd 76 ∧ am_lk (co_Sheet_begin l d) 76 = am_putI 5 2 79 ∧ am_lk (co_Sheet_begin l d) 79 = am_aload 0 80 ∧ am_lk (co_Sheet_begin l d) 80 = am_push (vI 0) 81 ∧ am_lk (co_Sheet_begin l d) 81 = am_putI 5 3 84 ∧ am_lk (co_Sheet_begin l d) 84 = am_vret := ⟨rfl, rfl, rfl, rfl, rfl, rfl, rfl, rfl, rfl, rfl, rfl, rfl, rfl, rfl, rfl, rfl, rfl, rfl, rfl, rfl, rfl, rfl, rfl, rfl, rfl, rfl, rfl, rfl, rfl, rfl, rfl, rfl, rfl, rfl, rfl, rfl, rfl, rfl, rfl, rfl, rfl, rfl, rfl, rfl, rfl, rfl, rfl, rfl, rfl⟩
theorem en_Sheet_begin {l : Launch} {d : Nat} (n : Nat) {as : List am_V} {G : am_G} {I : am_I} {J : am_J} {P : am_P} (hlen : (as.map am_cat).sum ≤ 4) (h : am_go (am_lk (co_Sheet_begin l d)) (am_X l (0, fun _ => 0) (d + 1) y_Sheet_begin P) P n 0 (am_el 4 as) [] 0 0 G I J) : am_T l (d + 1) y_Sheet_begin as G I J P :=
  am_T_of (sc := (0, fun _ => 0)) cf_Sheet_begin (by decide +kernel) (by decide) (by decide +kernel) hlen (am_run (ok_lk _ (ck_Sheet_begin)) n _ _ _ _ _ _ _ _ h)
theorem rn_Sheet_begin {l : Launch} {sc : Nat × (Nat → Int32)} {d : Nat} {P : am_P} (n : Nat) {pc : Nat} {ls : am_L} {st : List am_V} {kc ks : Nat} {G : am_G} {I : am_I} {J : am_J} (h : am_go (am_lk (co_Sheet_begin l d)) (am_X l sc (d + 1) y_Sheet_begin P) P n pc ls st kc ks G I J) : am_X l sc (d + 1) y_Sheet_begin P pc ls st kc ks G I J := am_run (ok_lk _ (ck_Sheet_begin)) n _ _ _ _ _ _ _ _ h
def co_Sheet_take (l : Launch) (d : Nat) : List (Nat × am_S) := [(0, am_aload 0 1), (1, am_dup 2), (2, am_getI 5 2 5), (5, am_aload 1 6), (6, am_getR 7 5 9), (9, am_iload 2 10), (10, am_ald 0 11), (11, am_iadd 12), (12, am_putI 5 2 15), (15, am_aload 1 16), (16, am_getR 7 6 19), (19, am_iload 2 20), (20, am_ald 0 21), (21, am_istore 3 22), (22, am_aload 0 23), (23, am_getI 5 1 26), (26, am_iload 3 27), (27, am_cal l d y_P_isIn none 2 30 0 0 0 0), (30, am_if_ne 33 60), (33, am_aload 0 34), (34, am_dup 35), (35, am_getI 5 1 38), (38, am_push (vI 1) 39), (39, am_iload 3 40), (40, am_ishl 41), (41, am_ior 42), (42, am_putI 5 1 45), (45, am_aload 0 46), (46, am_dup 47), (47, am_getI 5 2 50), (50, am_aload 1 51), (51, am_getR 7 12 54), (54, am_iload 3 55), (55, am_ald 0 56), (56, am_iadd 57), (57, am_putI 5 2 60), (60, am_aload 0 61), (61, am_iload 2 62), (62, am_aload 1 63), (63, am_getI 7 1 66), (66, am_push (vI 1) 67), (67, am_isub 68), (68, am_icmp_eq 71 75), (71, am_push (vI 1) 72), (72, am_goto 76), (75, am_push (vI 0) 76), (76, am_putI 5 3 79), (79, am_vret)]
theorem ck_Sheet_take {l : Launch} {sc : Nat × (Nat → Int32)} {d : Nat} : ∀ q ∈ co_Sheet_take l d, am_ok l sc (d + 1) y_Sheet_take q.1 q.2 :=
  fa_cons (ok_aload_n (show decode (am_mB y_Sheet_take) 0 = .ok (.aload_n 0, 1) by decide +kernel) rfl) <|
  fa_cons (ok_dup (show decode (am_mB y_Sheet_take) 1 = .ok (.dup, 1) by decide +kernel)) <|
  fa_cons (ok_getI (show decode (am_mB y_Sheet_take) 2 = .ok (.getfield 31, 3) by decide +kernel) fl_Sheet_31 (by decide +kernel)) <|
  fa_cons (ok_aload_n (show decode (am_mB y_Sheet_take) 5 = .ok (.aload_n 1, 1) by decide +kernel) rfl) <|
  fa_cons (ok_getR (show decode (am_mB y_Sheet_take) 6 = .ok (.getfield 37, 3) by decide +kernel) fl_Sheet_37 (by decide +kernel)) <|
  fa_cons (ok_iload_n (show decode (am_mB y_Sheet_take) 9 = .ok (.iload_n 2, 1) by decide +kernel) rfl) <|
  fa_cons (ok_iald (show decode (am_mB y_Sheet_take) 10 = .ok (.iaload, 1) by decide +kernel)) <|
  fa_cons (ok_iadd (show decode (am_mB y_Sheet_take) 11 = .ok (.iadd, 1) by decide +kernel)) <|
  fa_cons (ok_putI (show decode (am_mB y_Sheet_take) 12 = .ok (.putfield 31, 3) by decide +kernel) fl_Sheet_31 (by decide +kernel)) <|
  fa_cons (ok_aload_n (show decode (am_mB y_Sheet_take) 15 = .ok (.aload_n 1, 1) by decide +kernel) rfl) <|
  fa_cons (ok_getR (show decode (am_mB y_Sheet_take) 16 = .ok (.getfield 40, 3) by decide +kernel) fl_Sheet_40 (by decide +kernel)) <|
  fa_cons (ok_iload_n (show decode (am_mB y_Sheet_take) 19 = .ok (.iload_n 2, 1) by decide +kernel) rfl) <|
  fa_cons (ok_iald (show decode (am_mB y_Sheet_take) 20 = .ok (.iaload, 1) by decide +kernel)) <|
  fa_cons (ok_istore_n (show decode (am_mB y_Sheet_take) 21 = .ok (.istore_n 3, 1) by decide +kernel) rfl (by decide +kernel)) <|
  fa_cons (ok_aload_n (show decode (am_mB y_Sheet_take) 22 = .ok (.aload_n 0, 1) by decide +kernel) rfl) <|
  fa_cons (ok_getI (show decode (am_mB y_Sheet_take) 23 = .ok (.getfield 25, 3) by decide +kernel) fl_Sheet_25 (by decide +kernel)) <|
  fa_cons (ok_iload_n (show decode (am_mB y_Sheet_take) 26 = .ok (.iload_n 3, 1) by decide +kernel) rfl) <|
  fa_cons (ok_cal ⟨rfl, rfl, rfl, rfl⟩ (ok_callS (show decode (am_mB y_Sheet_take) 27 = .ok (.invokestatic 42, 3) by decide +kernel) cf_P_isIn (by decide +kernel) ml_Sheet_42 cs_P_isIn rfl ⟨by decide +kernel, rfl⟩ (Or.inl (by decide +kernel)))) <|
  fa_cons (ok_if_ne (show decode (am_mB y_Sheet_take) 30 = .ok (.ifCond .ne 30, 3) by decide +kernel) (by decide)) <|
  fa_cons (ok_aload_n (show decode (am_mB y_Sheet_take) 33 = .ok (.aload_n 0, 1) by decide +kernel) rfl) <|
  fa_cons (ok_dup (show decode (am_mB y_Sheet_take) 34 = .ok (.dup, 1) by decide +kernel)) <|
  fa_cons (ok_getI (show decode (am_mB y_Sheet_take) 35 = .ok (.getfield 25, 3) by decide +kernel) fl_Sheet_25 (by decide +kernel)) <|
  fa_cons (ok_iconst (show decode (am_mB y_Sheet_take) 38 = .ok (.iconst 1, 1) by decide +kernel) rfl) <|
  fa_cons (ok_iload_n (show decode (am_mB y_Sheet_take) 39 = .ok (.iload_n 3, 1) by decide +kernel) rfl) <|
  fa_cons (ok_ishl (show decode (am_mB y_Sheet_take) 40 = .ok (.ishl, 1) by decide +kernel)) <|
  fa_cons (ok_ior (show decode (am_mB y_Sheet_take) 41 = .ok (.ior, 1) by decide +kernel)) <|
  fa_cons (ok_putI (show decode (am_mB y_Sheet_take) 42 = .ok (.putfield 25, 3) by decide +kernel) fl_Sheet_25 (by decide +kernel)) <|
  fa_cons (ok_aload_n (show decode (am_mB y_Sheet_take) 45 = .ok (.aload_n 0, 1) by decide +kernel) rfl) <|
  fa_cons (ok_dup (show decode (am_mB y_Sheet_take) 46 = .ok (.dup, 1) by decide +kernel)) <|
  fa_cons (ok_getI (show decode (am_mB y_Sheet_take) 47 = .ok (.getfield 31, 3) by decide +kernel) fl_Sheet_31 (by decide +kernel)) <|
  fa_cons (ok_aload_n (show decode (am_mB y_Sheet_take) 50 = .ok (.aload_n 1, 1) by decide +kernel) rfl) <|
  fa_cons (ok_getR (show decode (am_mB y_Sheet_take) 51 = .ok (.getfield 48, 3) by decide +kernel) fl_Sheet_48 (by decide +kernel)) <|
  fa_cons (ok_iload_n (show decode (am_mB y_Sheet_take) 54 = .ok (.iload_n 3, 1) by decide +kernel) rfl) <|
  fa_cons (ok_iald (show decode (am_mB y_Sheet_take) 55 = .ok (.iaload, 1) by decide +kernel)) <|
  fa_cons (ok_iadd (show decode (am_mB y_Sheet_take) 56 = .ok (.iadd, 1) by decide +kernel)) <|
  fa_cons (ok_putI (show decode (am_mB y_Sheet_take) 57 = .ok (.putfield 31, 3) by decide +kernel) fl_Sheet_31 (by decide +kernel)) <|
  fa_cons (ok_aload_n (show decode (am_mB y_Sheet_take) 60 = .ok (.aload_n 0, 1) by decide +kernel) rfl) <|
  fa_cons (ok_iload_n (show decode (am_mB y_Sheet_take) 61 = .ok (.iload_n 2, 1) by decide +kernel) rfl) <|
  fa_cons (ok_aload_n (show decode (am_mB y_Sheet_take) 62 = .ok (.aload_n 1, 1) by decide +kernel) rfl) <|
  fa_cons (ok_getI (show decode (am_mB y_Sheet_take) 63 = .ok (.getfield 51, 3) by decide +kernel) fl_Sheet_51 (by decide +kernel)) <|
  fa_cons (ok_iconst (show decode (am_mB y_Sheet_take) 66 = .ok (.iconst 1, 1) by decide +kernel) rfl) <|
  fa_cons (ok_isub (show decode (am_mB y_Sheet_take) 67 = .ok (.isub, 1) by decide +kernel)) <|
  fa_cons (ok_icmp_eq (show decode (am_mB y_Sheet_take) 68 = .ok (.if_icmp .eq 7, 3) by decide +kernel) (by decide)) <|
  fa_cons (ok_iconst (show decode (am_mB y_Sheet_take) 71 = .ok (.iconst 1, 1) by decide +kernel) rfl) <|
  fa_cons (ok_goto (show decode (am_mB y_Sheet_take) 72 = .ok (.goto 4, 3) by decide +kernel) (by decide)) <|
  fa_cons (ok_iconst (show decode (am_mB y_Sheet_take) 75 = .ok (.iconst 0, 1) by decide +kernel) rfl) <|
  fa_cons (ok_putI (show decode (am_mB y_Sheet_take) 76 = .ok (.putfield 34, 3) by decide +kernel) fl_Sheet_34 (by decide +kernel)) <|
  fa_cons (ok_vret (show decode (am_mB y_Sheet_take) 79 = .ok (.return_, 1) by decide +kernel) rfl (by decide +kernel)) <|
  fa_nil
set_option maxRecDepth 100000 in
theorem cq_Sheet_take (l : Launch) (d : Nat) : am_lk (co_Sheet_take l d) 0 = am_aload 0 1 ∧ am_lk (co_Sheet_take l d) 1 = am_dup 2 ∧ am_lk (co_Sheet_take l d) 2 = am_getI 5 2 5 ∧ am_lk (co_Sheet_take l d) 5 = am_aload 1 6 ∧ am_lk (co_Sheet_take l d) 6 = am_getR 7 5 9 ∧ am_lk (co_Sheet_take l d) 9 = am_iload 2 10 ∧ am_lk (co_Sheet_take l d) 10 = am_ald 0 11 ∧ am_lk (co_Sheet_take l d) 11 = am_iadd 12 ∧ am_lk (co_Sheet_take l d) 12 = am_putI 5 2 15 ∧ am_lk (co_Sheet_take l d) 15 = am_aload 1 16 ∧ am_lk (co_Sheet_take l d) 16 = am_getR 7 6 19 ∧ am_lk (co_Sheet_take l d) 19 = am_iload 2 20 ∧ am_lk (co_Sheet_take l d) 20 = am_ald 0 21 ∧ am_lk (co_Sheet_take l d) 21 = am_istore 3 22 ∧ am_lk (co_Sheet_take l d) 22 = am_aload 0 23 ∧ am_lk (co_Sheet_take l d) 23 = am_getI 5 1 26 ∧ am_lk (co_Sheet_take l d) 26 = am_iload 3 27 ∧ am_lk (co_Sheet_take l d) 27 = am_cal l d y_P_isIn none 2 30 0 0 0 0 ∧ am_lk (co_Sheet_take l d) 30 = am_if_ne 33 60 ∧ am_lk (co_Sheet_take l d) 33 = am_aload 0 34 ∧ am_lk (co_Sheet_take l d) 34 = am_dup 35 ∧ am_lk (co_Sheet_take l d) 35 = am_getI 5 1 38 ∧ am_lk (co_Sheet_take l d) 38 = am_push (vI 1) 39 ∧ am_lk (co_Sheet_take l d) 39 = am_iload 3 40 ∧ am_lk (co_Sheet_take l d) 40 = am_ishl 41 ∧ am_lk (co_Sheet_take l d) 41 = am_ior 42 ∧ am_lk (co_Sheet_take l d) 42 = am_putI 5 1 45 ∧ am_lk (co_Sheet_take l d) 45 = am_aload 0 46 ∧ am_lk (co_Sheet_take l d) 46 = am_dup 47 ∧ am_lk (co_Sheet_take l d) 47 = am_getI 5 2 50 ∧ am_lk (co_Sheet_take l d) 50 = am_aload 1 51 ∧ am_lk (co_Sheet_take l d) 51 = am_getR 7 12 54 ∧ am_lk (co_Sheet_take l d) 54 = am_iload 3 55 ∧ am_lk (co_Sheet_take l d) 55 = am_ald 0 56 ∧ am_lk (co_Sheet_take l d) 56 = am_iadd 57 ∧ am_lk (co_Sheet_take l d) 57 = am_putI 5 2 60 ∧ am_lk (co_Sheet_take l d) 60 = am_aload 0 61 ∧ am_lk (co_Sheet_take l d) 61 = am_iload 2 62 ∧ am_lk (co_Sheet_take l d) 62 = am_aload 1 63 ∧ am_lk (co_Sheet_take l d) 63 = am_getI 7 1 66 ∧ am_lk (co_Sheet_take l d) 66 = am_push (vI 1) 67 ∧ am_lk (co_Sheet_take l d) 67 = am_isub 68 ∧ am_lk (co_Sheet_take l d) 68 = am_icmp_eq 71 75 ∧ am_lk (co_Sheet_take l d) 71 = am_push (vI 1) 72 ∧ am_lk (co_Sheet_take l d) 72 = am_goto 76 ∧ am_lk (co_Sheet_take l d) 75 = am_push (vI 0) 76 ∧ am_lk (co_Sheet_take l d) 76 = am_putI 5 3 79 ∧ am_lk (co_Sheet_take l d) 79 = am_vret := ⟨rfl, rfl, rfl, rfl, rfl, rfl, rfl, rfl, rfl, rfl, rfl, rfl, rfl, rfl, rfl, rfl, rfl, rfl, rfl, rfl, rfl, rfl, rfl, rfl, rfl, rfl, rfl, rfl, rfl, rfl, rfl, rfl, rfl, rfl, rfl, rfl, rfl, rfl, rfl, rfl, rfl, rfl, rfl, rfl, rfl, rfl, rfl, rfl⟩
theorem en_Sheet_take {l : Launch} {d : Nat} (n : Nat) {as : List am_V} {G : am_G} {I : am_I} {J : am_J} {P : am_P} (hlen : (as.map am_cat).sum ≤ 4) (h : am_go (am_lk (co_Sheet_take l d)) (am_X l (0, fun _ => 0) (d + 1) y_Sheet_take P) P n 0 (am_el 4 as) [] 0 0 G I J) : am_T l (d + 1) y_Sheet_take as G I J P :=
  am_T_of (sc := (0, fun _ => 0)) cf_Sheet_take (by decide +kernel) (by decide) (by decide +kernel) hlen (am_run (ok_lk _ (ck_Sheet_take)) n _ _ _ _ _ _ _ _ h)
theorem rn_Sheet_take {l : Launch} {sc : Nat × (Nat → Int32)} {d : Nat} {P : am_P} (n : Nat) {pc : Nat} {ls : am_L} {st : List am_V} {kc ks : Nat} {G : am_G} {I : am_I} {J : am_J} (h : am_go (am_lk (co_Sheet_take l d)) (am_X l sc (d + 1) y_Sheet_take P) P n pc ls st kc ks G I J) : am_X l sc (d + 1) y_Sheet_take P pc ls st kc ks G I J := am_run (ok_lk _ (ck_Sheet_take)) n _ _ _ _ _ _ _ _ h
def co_Sheet_needed (l : Launch) (d : Nat) : List (Nat × am_S) := [(0, am_aload 0 1), (1, am_getI 5 2 4), (4, am_aload 0 5), (5, am_getI 5 3 8), (8, am_iadd 9), (9, am_iret false)]
theorem ck_Sheet_needed {l : Launch} {sc : Nat × (Nat → Int32)} {d : Nat} : ∀ q ∈ co_Sheet_needed l d, am_ok l sc (d + 1) y_Sheet_needed q.1 q.2 :=
  fa_cons (ok_aload_n (show decode (am_mB y_Sheet_needed) 0 = .ok (.aload_n 0, 1) by decide +kernel) rfl) <|
  fa_cons (ok_getI (show decode (am_mB y_Sheet_needed) 1 = .ok (.getfield 31, 3) by decide +kernel) fl_Sheet_31 (by decide +kernel)) <|
  fa_cons (ok_aload_n (show decode (am_mB y_Sheet_needed) 4 = .ok (.aload_n 0, 1) by decide +kernel) rfl) <|
  fa_cons (ok_getI (show decode (am_mB y_Sheet_needed) 5 = .ok (.getfield 34, 3) by decide +kernel) fl_Sheet_34 (by decide +kernel)) <|
  fa_cons (ok_iadd (show decode (am_mB y_Sheet_needed) 8 = .ok (.iadd, 1) by decide +kernel)) <|
  fa_cons (ok_iret (show decode (am_mB y_Sheet_needed) 9 = .ok (.ireturn, 1) by decide +kernel) rfl) <|
  fa_nil
set_option maxRecDepth 100000 in
theorem cq_Sheet_needed (l : Launch) (d : Nat) : am_lk (co_Sheet_needed l d) 0 = am_aload 0 1 ∧ am_lk (co_Sheet_needed l d) 1 = am_getI 5 2 4 ∧ am_lk (co_Sheet_needed l d) 4 = am_aload 0 5 ∧ am_lk (co_Sheet_needed l d) 5 = am_getI 5 3 8 ∧ am_lk (co_Sheet_needed l d) 8 = am_iadd 9 ∧ am_lk (co_Sheet_needed l d) 9 = am_iret false := ⟨rfl, rfl, rfl, rfl, rfl, rfl⟩
theorem en_Sheet_needed {l : Launch} {d : Nat} (n : Nat) {as : List am_V} {G : am_G} {I : am_I} {J : am_J} {P : am_P} (hlen : (as.map am_cat).sum ≤ 1) (h : am_go (am_lk (co_Sheet_needed l d)) (am_X l (0, fun _ => 0) (d + 1) y_Sheet_needed P) P n 0 (am_el 1 as) [] 0 0 G I J) : am_T l (d + 1) y_Sheet_needed as G I J P :=
  am_T_of (sc := (0, fun _ => 0)) cf_Sheet_needed (by decide +kernel) (by decide) (by decide +kernel) hlen (am_run (ok_lk _ (ck_Sheet_needed)) n _ _ _ _ _ _ _ _ h)
theorem rn_Sheet_needed {l : Launch} {sc : Nat × (Nat → Int32)} {d : Nat} {P : am_P} (n : Nat) {pc : Nat} {ls : am_L} {st : List am_V} {kc ks : Nat} {G : am_G} {I : am_I} {J : am_J} (h : am_go (am_lk (co_Sheet_needed l d)) (am_X l sc (d + 1) y_Sheet_needed P) P n pc ls st kc ks G I J) : am_X l sc (d + 1) y_Sheet_needed P pc ls st kc ks G I J := am_run (ok_lk _ (ck_Sheet_needed)) n _ _ _ _ _ _ _ _ h
def co_Sheet_noteBits (l : Launch) (d : Nat) : List (Nat × am_S) := [(0, am_aload 0 1), (1, am_getI 5 1 4), (4, am_push (vI 1) 5), (5, am_iushr 6), (6, am_iret false)]
theorem ck_Sheet_noteBits {l : Launch} {sc : Nat × (Nat → Int32)} {d : Nat} : ∀ q ∈ co_Sheet_noteBits l d, am_ok l sc (d + 1) y_Sheet_noteBits q.1 q.2 :=
  fa_cons (ok_aload_n (show decode (am_mB y_Sheet_noteBits) 0 = .ok (.aload_n 0, 1) by decide +kernel) rfl) <|
  fa_cons (ok_getI (show decode (am_mB y_Sheet_noteBits) 1 = .ok (.getfield 25, 3) by decide +kernel) fl_Sheet_25 (by decide +kernel)) <|
  fa_cons (ok_iconst (show decode (am_mB y_Sheet_noteBits) 4 = .ok (.iconst 1, 1) by decide +kernel) rfl) <|
  fa_cons (ok_iushr (show decode (am_mB y_Sheet_noteBits) 5 = .ok (.iushr, 1) by decide +kernel)) <|
  fa_cons (ok_iret (show decode (am_mB y_Sheet_noteBits) 6 = .ok (.ireturn, 1) by decide +kernel) rfl) <|
  fa_nil
set_option maxRecDepth 100000 in
theorem cq_Sheet_noteBits (l : Launch) (d : Nat) : am_lk (co_Sheet_noteBits l d) 0 = am_aload 0 1 ∧ am_lk (co_Sheet_noteBits l d) 1 = am_getI 5 1 4 ∧ am_lk (co_Sheet_noteBits l d) 4 = am_push (vI 1) 5 ∧ am_lk (co_Sheet_noteBits l d) 5 = am_iushr 6 ∧ am_lk (co_Sheet_noteBits l d) 6 = am_iret false := ⟨rfl, rfl, rfl, rfl, rfl⟩
theorem en_Sheet_noteBits {l : Launch} {d : Nat} (n : Nat) {as : List am_V} {G : am_G} {I : am_I} {J : am_J} {P : am_P} (hlen : (as.map am_cat).sum ≤ 1) (h : am_go (am_lk (co_Sheet_noteBits l d)) (am_X l (0, fun _ => 0) (d + 1) y_Sheet_noteBits P) P n 0 (am_el 1 as) [] 0 0 G I J) : am_T l (d + 1) y_Sheet_noteBits as G I J P :=
  am_T_of (sc := (0, fun _ => 0)) cf_Sheet_noteBits (by decide +kernel) (by decide) (by decide +kernel) hlen (am_run (ok_lk _ (ck_Sheet_noteBits)) n _ _ _ _ _ _ _ _ h)
theorem rn_Sheet_noteBits {l : Launch} {sc : Nat × (Nat → Int32)} {d : Nat} {P : am_P} (n : Nat) {pc : Nat} {ls : am_L} {st : List am_V} {kc ks : Nat} {G : am_G} {I : am_I} {J : am_J} (h : am_go (am_lk (co_Sheet_noteBits l d)) (am_X l sc (d + 1) y_Sheet_noteBits P) P n pc ls st kc ks G I J) : am_X l sc (d + 1) y_Sheet_noteBits P pc ls st kc ks G I J := am_run (ok_lk _ (ck_Sheet_noteBits)) n _ _ _ _ _ _ _ _ h
def co_Slots_init (l : Launch) (d : Nat) : List (Nat × am_S) := [(0, am_aload 0 1), (1, am_oinit 4), (4, am_aload 0 5), (5, am_push (vI 2) 6), (6, am_mka 4 9 20 416), (9, am_putR 6 0 12), (12, am_aload 0 13), (13, am_push (vI 2) 14), (14, am_mka 1 16 20 416), (16, am_putR 6 1 19), (19, am_push (vI 0) 20), (20, am_stp (am_istore 1 21)), (21, am_iload 1 22), (22, am_push (vI 2) 23), (23, am_icmp_ge 26 45), (26, am_aload 0 27), (27, am_getR 6 0 30), (30, am_iload 1 31), (31, am_mk 7 34 20 416), (34, am_dup 35), (35, am_cal l d y_Table_init (some 7) 1 38 8 193 20 416), (38, am_qast 39), (39, am_iinc 1 1 42), (42, am_stp (am_goto 21)), (45, am_vret)]
theorem ck_Slots_init {l : Launch} {sc : Nat × (Nat → Int32)} {d : Nat} : ∀ q ∈ co_Slots_init l d, am_ok l sc (d + 1) y_Slots_init q.1 q.2 :=
  fa_cons (ok_aload_n (show decode (am_mB y_Slots_init) 0 = .ok (.aload_n 0, 1) by decide +kernel) rfl) <|
  fa_cons (ok_oinit (show decode (am_mB y_Slots_init) 1 = .ok (.invokespecial 3, 3) by decide +kernel) w_157 w_24 w_25 (by omega)) <|
  fa_cons (ok_aload_n (show decode (am_mB y_Slots_init) 4 = .ok (.aload_n 0, 1) by decide +kernel) rfl) <|
  fa_cons (ok_iconst (show decode (am_mB y_Slots_init) 5 = .ok (.iconst 2, 1) by decide +kernel) rfl) <|
  fa_cons (ok_mka ⟨rfl, rfl⟩ (ok_newq (show decode (am_mB y_Slots_init) 6 = .ok (.anewarray 9, 3) by decide +kernel) w_158)) <|
  fa_cons (ok_putR (show decode (am_mB y_Slots_init) 9 = .ok (.putfield 11, 3) by decide +kernel) w_160 (by decide +kernel) (by decide +kernel)) <|
  fa_cons (ok_aload_n (show decode (am_mB y_Slots_init) 12 = .ok (.aload_n 0, 1) by decide +kernel) rfl) <|
  fa_cons (ok_iconst (show decode (am_mB y_Slots_init) 13 = .ok (.iconst 2, 1) by decide +kernel) rfl) <|
  fa_cons (ok_mka ⟨rfl, rfl⟩ (ok_newa (show decode (am_mB y_Slots_init) 14 = .ok (.newarray .boolean, 2) by decide +kernel) w_131 (by decide +kernel))) <|
  fa_cons (ok_putR (show decode (am_mB y_Slots_init) 16 = .ok (.putfield 17, 3) by decide +kernel) w_161 (by decide +kernel) (by decide +kernel)) <|
  fa_cons (ok_iconst (show decode (am_mB y_Slots_init) 19 = .ok (.iconst 0, 1) by decide +kernel) rfl) <|
  fa_cons (ok_stp (σ := am_istore 1 21) (ok_istore_n (show decode (am_mB y_Slots_init) 20 = .ok (.istore_n 1, 1) by decide +kernel) rfl (by decide +kernel))) <|
  fa_cons (ok_iload_n (show decode (am_mB y_Slots_init) 21 = .ok (.iload_n 1, 1) by decide +kernel) rfl) <|
  fa_cons (ok_iconst (show decode (am_mB y_Slots_init) 22 = .ok (.iconst 2, 1) by decide +kernel) rfl) <|
  fa_cons (ok_icmp_ge (show decode (am_mB y_Slots_init) 23 = .ok (.if_icmp .ge 22, 3) by decide +kernel) (by decide)) <|
  fa_cons (ok_aload_n (show decode (am_mB y_Slots_init) 26 = .ok (.aload_n 0, 1) by decide +kernel) rfl) <|
  fa_cons (ok_getR (show decode (am_mB y_Slots_init) 27 = .ok (.getfield 11, 3) by decide +kernel) fl_Slots_11 (by decide +kernel)) <|
  fa_cons (ok_iload_n (show decode (am_mB y_Slots_init) 30 = .ok (.iload_n 1, 1) by decide +kernel) rfl) <|
  fa_cons (ok_mk ⟨rfl, rfl⟩ (ok_new (show decode (am_mB y_Slots_init) 31 = .ok (.new 9, 3) by decide +kernel) w_158 (by decide))) <|
  fa_cons (ok_dup (show decode (am_mB y_Slots_init) 34 = .ok (.dup, 1) by decide +kernel)) <|
  fa_cons (ok_cal ⟨rfl, rfl, rfl, rfl⟩ (ok_callI (show decode (am_mB y_Slots_init) 35 = .ok (.invokespecial 21, 3) by decide +kernel) cf_Table_init (by decide +kernel) ml_Slots_21 ci_Table_init ⟨rfl, rfl⟩ (by decide) rfl ⟨by decide +kernel, rfl⟩ (Or.inl (by decide +kernel)))) <|
  fa_cons (ok_qast (show decode (am_mB y_Slots_init) 38 = .ok (.aastore, 1) by decide +kernel)) <|
  fa_cons (ok_iinc (show decode (am_mB y_Slots_init) 39 = .ok (.iinc 1 1, 3) by decide +kernel) (by decide +kernel) (by decide +kernel)) <|
  fa_cons (ok_stp (σ := am_goto 21) (ok_goto (show decode (am_mB y_Slots_init) 42 = .ok (.goto (-21), 3) by decide +kernel) (by decide))) <|
  fa_cons (ok_vret (show decode (am_mB y_Slots_init) 45 = .ok (.return_, 1) by decide +kernel) rfl (by decide +kernel)) <|
  fa_nil
set_option maxRecDepth 100000 in
theorem cq_Slots_init (l : Launch) (d : Nat) : am_lk (co_Slots_init l d) 0 = am_aload 0 1 ∧ am_lk (co_Slots_init l d) 1 = am_oinit 4 ∧ am_lk (co_Slots_init l d) 4 = am_aload 0 5 ∧ am_lk (co_Slots_init l d) 5 = am_push (vI 2) 6 ∧ am_lk (co_Slots_init l d) 6 = am_mka 4 9 20 416 ∧ am_lk (co_Slots_init l d) 9 = am_putR 6 0 12 ∧ am_lk (co_Slots_init l d) 12 = am_aload 0 13 ∧ am_lk (co_Slots_init l d) 13 = am_push (vI 2) 14 ∧ am_lk (co_Slots_init l d) 14 = am_mka 1 16 20 416 ∧ am_lk (co_Slots_init l d) 16 = am_putR 6 1 19 ∧ am_lk (co_Slots_init l d) 19 = am_push (vI 0) 20 ∧ am_lk (co_Slots_init l d) 20 = am_stp (am_istore 1 21) ∧ am_lk (co_Slots_init l d) 21 = am_iload 1 22 ∧ am_lk (co_Slots_init l d) 22 = am_push (vI 2) 23 ∧ am_lk (co_Slots_init l d) 23 = am_icmp_ge 26 45 ∧ am_lk (co_Slots_init l d) 26 = am_aload 0 27 ∧ am_lk (co_Slots_init l d) 27 = am_getR 6 0 30 ∧ am_lk (co_Slots_init l d) 30 = am_iload 1 31 ∧ am_lk (co_Slots_init l d) 31 = am_mk 7 34 20 416 ∧ am_lk (co_Slots_init l d) 34 = am_dup 35 ∧ am_lk (co_Slots_init l d) 35 = am_cal l d y_Table_init (some 7) 1 38 8 193 20 416 ∧ am_lk (co_Slots_init l d) 38 = am_qast 39 ∧ am_lk (co_Slots_init l d) 39 = am_iinc 1 1 42 ∧ am_lk (co_Slots_init l d) 42 = am_stp (am_goto 21) ∧ am_lk (co_Slots_init l d) 45 = am_vret := ⟨rfl, rfl, rfl, rfl, rfl, rfl, rfl, rfl, rfl, rfl, rfl, rfl, rfl, rfl, rfl, rfl, rfl, rfl, rfl, rfl, rfl, rfl, rfl, rfl, rfl⟩
theorem en_Slots_init {l : Launch} {d : Nat} (n : Nat) {as : List am_V} {G : am_G} {I : am_I} {J : am_J} {P : am_P} (hlen : (as.map am_cat).sum ≤ 2) (h : am_go (am_lk (co_Slots_init l d)) (am_X l (0, fun _ => 0) (d + 1) y_Slots_init P) P n 0 (am_el 2 as) [] 0 0 G I J) : am_T l (d + 1) y_Slots_init as G I J P :=
  am_T_of (sc := (0, fun _ => 0)) cf_Slots_init (by decide +kernel) (by decide) (by decide +kernel) hlen (am_run (ok_lk _ (ck_Slots_init)) n _ _ _ _ _ _ _ _ h)
theorem rn_Slots_init {l : Launch} {sc : Nat × (Nat → Int32)} {d : Nat} {P : am_P} (n : Nat) {pc : Nat} {ls : am_L} {st : List am_V} {kc ks : Nat} {G : am_G} {I : am_I} {J : am_J} (h : am_go (am_lk (co_Slots_init l d)) (am_X l sc (d + 1) y_Slots_init P) P n pc ls st kc ks G I J) : am_X l sc (d + 1) y_Slots_init P pc ls st kc ks G I J := am_run (ok_lk _ (ck_Slots_init)) n _ _ _ _ _ _ _ _ h
def co_Slots_empty (l : Launch) (d : Nat) : List (Nat × am_S) := [(0, am_push (vI 0) 1), (1, am_stp (am_istore 1 2)), (2, am_iload 1 3), (3, am_push (vI 2) 4), (4, am_icmp_ge 7 20), (7, am_aload 0 8), (8, am_getR 6 1 11), (11, am_iload 1 12), (12, am_push (vI 0) 13), (13, am_ast 1 (vp_nar .boolean) 14), (14, am_iinc 1 1 17), (17, am_stp (am_goto 2)), (20, am_vret)]
theorem ck_Slots_empty {l : Launch} {sc : Nat × (Nat → Int32)} {d : Nat} : ∀ q ∈ co_Slots_empty l d, am_ok l sc (d + 1) y_Slots_empty q.1 q.2 :=
  fa_cons (ok_iconst (show decode (am_mB y_Slots_empty) 0 = .ok (.iconst 0, 1) by decide +kernel) rfl) <|
  fa_cons (ok_stp (σ := am_istore 1 2) (ok_istore_n (show decode (am_mB y_Slots_empty) 1 = .ok (.istore_n 1, 1) by decide +kernel) rfl (by decide +kernel))) <|
  fa_cons (ok_iload_n (show decode (am_mB y_Slots_empty) 2 = .ok (.iload_n 1, 1) by decide +kernel) rfl) <|
  fa_cons (ok_iconst (show decode (am_mB y_Slots_empty) 3 = .ok (.iconst 2, 1) by decide +kernel) rfl) <|
  fa_cons (ok_icmp_ge (show decode (am_mB y_Slots_empty) 4 = .ok (.if_icmp .ge 16, 3) by decide +kernel) (by decide)) <|
  fa_cons (ok_aload_n (show decode (am_mB y_Slots_empty) 7 = .ok (.aload_n 0, 1) by decide +kernel) rfl) <|
  fa_cons (ok_getR (show decode (am_mB y_Slots_empty) 8 = .ok (.getfield 17, 3) by decide +kernel) fl_Slots_17 (by decide +kernel)) <|
  fa_cons (ok_iload_n (show decode (am_mB y_Slots_empty) 11 = .ok (.iload_n 1, 1) by decide +kernel) rfl) <|
  fa_cons (ok_iconst (show decode (am_mB y_Slots_empty) 12 = .ok (.iconst 0, 1) by decide +kernel) rfl) <|
  fa_cons (ok_zast (show decode (am_mB y_Slots_empty) 13 = .ok (.bastore, 1) by decide +kernel)) <|
  fa_cons (ok_iinc (show decode (am_mB y_Slots_empty) 14 = .ok (.iinc 1 1, 3) by decide +kernel) (by decide +kernel) (by decide +kernel)) <|
  fa_cons (ok_stp (σ := am_goto 2) (ok_goto (show decode (am_mB y_Slots_empty) 17 = .ok (.goto (-15), 3) by decide +kernel) (by decide))) <|
  fa_cons (ok_vret (show decode (am_mB y_Slots_empty) 20 = .ok (.return_, 1) by decide +kernel) rfl (by decide +kernel)) <|
  fa_nil
set_option maxRecDepth 100000 in
theorem cq_Slots_empty (l : Launch) (d : Nat) : am_lk (co_Slots_empty l d) 0 = am_push (vI 0) 1 ∧ am_lk (co_Slots_empty l d) 1 = am_stp (am_istore 1 2) ∧ am_lk (co_Slots_empty l d) 2 = am_iload 1 3 ∧ am_lk (co_Slots_empty l d) 3 = am_push (vI 2) 4 ∧ am_lk (co_Slots_empty l d) 4 = am_icmp_ge 7 20 ∧ am_lk (co_Slots_empty l d) 7 = am_aload 0 8 ∧ am_lk (co_Slots_empty l d) 8 = am_getR 6 1 11 ∧ am_lk (co_Slots_empty l d) 11 = am_iload 1 12 ∧ am_lk (co_Slots_empty l d) 12 = am_push (vI 0) 13 ∧ am_lk (co_Slots_empty l d) 13 = am_ast 1 (vp_nar .boolean) 14 ∧ am_lk (co_Slots_empty l d) 14 = am_iinc 1 1 17 ∧ am_lk (co_Slots_empty l d) 17 = am_stp (am_goto 2) ∧ am_lk (co_Slots_empty l d) 20 = am_vret := ⟨rfl, rfl, rfl, rfl, rfl, rfl, rfl, rfl, rfl, rfl, rfl, rfl, rfl⟩
theorem en_Slots_empty {l : Launch} {d : Nat} (n : Nat) {as : List am_V} {G : am_G} {I : am_I} {J : am_J} {P : am_P} (hlen : (as.map am_cat).sum ≤ 2) (h : am_go (am_lk (co_Slots_empty l d)) (am_X l (0, fun _ => 0) (d + 1) y_Slots_empty P) P n 0 (am_el 2 as) [] 0 0 G I J) : am_T l (d + 1) y_Slots_empty as G I J P :=
  am_T_of (sc := (0, fun _ => 0)) cf_Slots_empty (by decide +kernel) (by decide) (by decide +kernel) hlen (am_run (ok_lk _ (ck_Slots_empty)) n _ _ _ _ _ _ _ _ h)
theorem rn_Slots_empty {l : Launch} {sc : Nat × (Nat → Int32)} {d : Nat} {P : am_P} (n : Nat) {pc : Nat} {ls : am_L} {st : List am_V} {kc ks : Nat} {G : am_G} {I : am_I} {J : am_J} (h : am_go (am_lk (co_Slots_empty l d)) (am_X l sc (d + 1) y_Slots_empty P) P n pc ls st kc ks G I J) : am_X l sc (d + 1) y_Slots_empty P pc ls st kc ks G I J := am_run (ok_lk _ (ck_Slots_empty)) n _ _ _ _ _ _ _ _ h
def co_Slots_isFilled (l : Launch) (d : Nat) : List (Nat × am_S) := [(0, am_aload 0 1), (1, am_getR 6 1 4), (4, am_iload 1 5), (5, am_ald 1 6), (6, am_iret true)]
theorem ck_Slots_isFilled {l : Launch} {sc : Nat × (Nat → Int32)} {d : Nat} : ∀ q ∈ co_Slots_isFilled l d, am_ok l sc (d + 1) y_Slots_isFilled q.1 q.2 :=
  fa_cons (ok_aload_n (show decode (am_mB y_Slots_isFilled) 0 = .ok (.aload_n 0, 1) by decide +kernel) rfl) <|
  fa_cons (ok_getR (show decode (am_mB y_Slots_isFilled) 1 = .ok (.getfield 17, 3) by decide +kernel) fl_Slots_17 (by decide +kernel)) <|
  fa_cons (ok_iload_n (show decode (am_mB y_Slots_isFilled) 4 = .ok (.iload_n 1, 1) by decide +kernel) rfl) <|
  fa_cons (ok_zald (show decode (am_mB y_Slots_isFilled) 5 = .ok (.baload, 1) by decide +kernel)) <|
  fa_cons (ok_iret (show decode (am_mB y_Slots_isFilled) 6 = .ok (.ireturn, 1) by decide +kernel) rfl) <|
  fa_nil
set_option maxRecDepth 100000 in
theorem cq_Slots_isFilled (l : Launch) (d : Nat) : am_lk (co_Slots_isFilled l d) 0 = am_aload 0 1 ∧ am_lk (co_Slots_isFilled l d) 1 = am_getR 6 1 4 ∧ am_lk (co_Slots_isFilled l d) 4 = am_iload 1 5 ∧ am_lk (co_Slots_isFilled l d) 5 = am_ald 1 6 ∧ am_lk (co_Slots_isFilled l d) 6 = am_iret true := ⟨rfl, rfl, rfl, rfl, rfl⟩
theorem en_Slots_isFilled {l : Launch} {d : Nat} (n : Nat) {as : List am_V} {G : am_G} {I : am_I} {J : am_J} {P : am_P} (hlen : (as.map am_cat).sum ≤ 2) (h : am_go (am_lk (co_Slots_isFilled l d)) (am_X l (0, fun _ => 0) (d + 1) y_Slots_isFilled P) P n 0 (am_el 2 as) [] 0 0 G I J) : am_T l (d + 1) y_Slots_isFilled as G I J P :=
  am_T_of (sc := (0, fun _ => 0)) cf_Slots_isFilled (by decide +kernel) (by decide) (by decide +kernel) hlen (am_run (ok_lk _ (ck_Slots_isFilled)) n _ _ _ _ _ _ _ _ h)
theorem rn_Slots_isFilled {l : Launch} {sc : Nat × (Nat → Int32)} {d : Nat} {P : am_P} (n : Nat) {pc : Nat} {ls : am_L} {st : List am_V} {kc ks : Nat} {G : am_G} {I : am_I} {J : am_J} (h : am_go (am_lk (co_Slots_isFilled l d)) (am_X l sc (d + 1) y_Slots_isFilled P) P n pc ls st kc ks G I J) : am_X l sc (d + 1) y_Slots_isFilled P pc ls st kc ks G I J := am_run (ok_lk _ (ck_Slots_isFilled)) n _ _ _ _ _ _ _ _ h
def co_Slots_put (l : Launch) (d : Nat) : List (Nat × am_S) := [(0, am_aload 0 1), (1, am_getR 6 0 4), (4, am_iload 1 5), (5, am_qald 6), (6, am_aload 2 7), (7, am_cal l d y_Table_copyFrom (some 7) 2 10 0 0 0 0), (10, am_aload 0 11), (11, am_getR 6 1 14), (14, am_iload 1 15), (15, am_push (vI 1) 16), (16, am_ast 1 (vp_nar .boolean) 17), (17, am_vret)]
theorem ck_Slots_put {l : Launch} {sc : Nat × (Nat → Int32)} {d : Nat} : ∀ q ∈ co_Slots_put l d, am_ok l sc (d + 1) y_Slots_put q.1 q.2 :=
  fa_cons (ok_aload_n (show decode (am_mB y_Slots_put) 0 = .ok (.aload_n 0, 1) by decide +kernel) rfl) <|
  fa_cons (ok_getR (show decode (am_mB y_Slots_put) 1 = .ok (.getfield 11, 3) by decide +kernel) fl_Slots_11 (by decide +kernel)) <|
  fa_cons (ok_iload_n (show decode (am_mB y_Slots_put) 4 = .ok (.iload_n 1, 1) by decide +kernel) rfl) <|
  fa_cons (ok_qald (show decode (am_mB y_Slots_put) 5 = .ok (.aaload, 1) by decide +kernel)) <|
  fa_cons (ok_aload_n (show decode (am_mB y_Slots_put) 6 = .ok (.aload_n 2, 1) by decide +kernel) rfl) <|
  fa_cons (ok_cal ⟨rfl, rfl, rfl, rfl⟩ (ok_callV (show decode (am_mB y_Slots_put) 7 = .ok (.invokevirtual 22, 3) by decide +kernel) cf_Table_copyFrom (by decide +kernel) ml_Slots_22 ci_Table_copyFrom cv_Table_copyFrom ⟨by decide, rfl⟩ rfl ⟨by decide +kernel, rfl⟩ (Or.inl (by decide +kernel)))) <|
  fa_cons (ok_aload_n (show decode (am_mB y_Slots_put) 10 = .ok (.aload_n 0, 1) by decide +kernel) rfl) <|
  fa_cons (ok_getR (show decode (am_mB y_Slots_put) 11 = .ok (.getfield 17, 3) by decide +kernel) fl_Slots_17 (by decide +kernel)) <|
  fa_cons (ok_iload_n (show decode (am_mB y_Slots_put) 14 = .ok (.iload_n 1, 1) by decide +kernel) rfl) <|
  fa_cons (ok_iconst (show decode (am_mB y_Slots_put) 15 = .ok (.iconst 1, 1) by decide +kernel) rfl) <|
  fa_cons (ok_zast (show decode (am_mB y_Slots_put) 16 = .ok (.bastore, 1) by decide +kernel)) <|
  fa_cons (ok_vret (show decode (am_mB y_Slots_put) 17 = .ok (.return_, 1) by decide +kernel) rfl (by decide +kernel)) <|
  fa_nil
set_option maxRecDepth 100000 in
theorem cq_Slots_put (l : Launch) (d : Nat) : am_lk (co_Slots_put l d) 0 = am_aload 0 1 ∧ am_lk (co_Slots_put l d) 1 = am_getR 6 0 4 ∧ am_lk (co_Slots_put l d) 4 = am_iload 1 5 ∧ am_lk (co_Slots_put l d) 5 = am_qald 6 ∧ am_lk (co_Slots_put l d) 6 = am_aload 2 7 ∧ am_lk (co_Slots_put l d) 7 = am_cal l d y_Table_copyFrom (some 7) 2 10 0 0 0 0 ∧ am_lk (co_Slots_put l d) 10 = am_aload 0 11 ∧ am_lk (co_Slots_put l d) 11 = am_getR 6 1 14 ∧ am_lk (co_Slots_put l d) 14 = am_iload 1 15 ∧ am_lk (co_Slots_put l d) 15 = am_push (vI 1) 16 ∧ am_lk (co_Slots_put l d) 16 = am_ast 1 (vp_nar .boolean) 17 ∧ am_lk (co_Slots_put l d) 17 = am_vret := ⟨rfl, rfl, rfl, rfl, rfl, rfl, rfl, rfl, rfl, rfl, rfl, rfl⟩
theorem en_Slots_put {l : Launch} {d : Nat} (n : Nat) {as : List am_V} {G : am_G} {I : am_I} {J : am_J} {P : am_P} (hlen : (as.map am_cat).sum ≤ 3) (h : am_go (am_lk (co_Slots_put l d)) (am_X l (0, fun _ => 0) (d + 1) y_Slots_put P) P n 0 (am_el 3 as) [] 0 0 G I J) : am_T l (d + 1) y_Slots_put as G I J P :=
  am_T_of (sc := (0, fun _ => 0)) cf_Slots_put (by decide +kernel) (by decide) (by decide +kernel) hlen (am_run (ok_lk _ (ck_Slots_put)) n _ _ _ _ _ _ _ _ h)
theorem rn_Slots_put {l : Launch} {sc : Nat × (Nat → Int32)} {d : Nat} {P : am_P} (n : Nat) {pc : Nat} {ls : am_L} {st : List am_V} {kc ks : Nat} {G : am_G} {I : am_I} {J : am_J} (h : am_go (am_lk (co_Slots_put l d)) (am_X l sc (d + 1) y_Slots_put P) P n pc ls st kc ks G I J) : am_X l sc (d + 1) y_Slots_put P pc ls st kc ks G I J := am_run (ok_lk _ (ck_Slots_put)) n _ _ _ _ _ _ _ _ h
def co_Slots_copyTo (l : Launch) (d : Nat) : List (Nat × am_S) := [(0, am_aload 2 1), (1, am_aload 0 2), (2, am_getR 6 0 5), (5, am_iload 1 6), (6, am_qald 7), (7, am_cal l d y_Table_copyFrom (some 7) 2 10 0 0 0 0), (10, am_vret)]
theorem ck_Slots_copyTo {l : Launch} {sc : Nat × (Nat → Int32)} {d : Nat} : ∀ q ∈ co_Slots_copyTo l d, am_ok l sc (d + 1) y_Slots_copyTo q.1 q.2 :=
  fa_cons (ok_aload_n (show decode (am_mB y_Slots_copyTo) 0 = .ok (.aload_n 2, 1) by decide +kernel) rfl) <|
  fa_cons (ok_aload_n (show decode (am_mB y_Slots_copyTo) 1 = .ok (.aload_n 0, 1) by decide +kernel) rfl) <|
  fa_cons (ok_getR (show decode (am_mB y_Slots_copyTo) 2 = .ok (.getfield 11, 3) by decide +kernel) fl_Slots_11 (by decide +kernel)) <|
  fa_cons (ok_iload_n (show decode (am_mB y_Slots_copyTo) 5 = .ok (.iload_n 1, 1) by decide +kernel) rfl) <|
  fa_cons (ok_qald (show decode (am_mB y_Slots_copyTo) 6 = .ok (.aaload, 1) by decide +kernel)) <|
  fa_cons (ok_cal ⟨rfl, rfl, rfl, rfl⟩ (ok_callV (show decode (am_mB y_Slots_copyTo) 7 = .ok (.invokevirtual 22, 3) by decide +kernel) cf_Table_copyFrom (by decide +kernel) ml_Slots_22 ci_Table_copyFrom cv_Table_copyFrom ⟨by decide, rfl⟩ rfl ⟨by decide +kernel, rfl⟩ (Or.inl (by decide +kernel)))) <|
  fa_cons (ok_vret (show decode (am_mB y_Slots_copyTo) 10 = .ok (.return_, 1) by decide +kernel) rfl (by decide +kernel)) <|
  fa_nil
set_option maxRecDepth 100000 in
theorem cq_Slots_copyTo (l : Launch) (d : Nat) : am_lk (co_Slots_copyTo l d) 0 = am_aload 2 1 ∧ am_lk (co_Slots_copyTo l d) 1 = am_aload 0 2 ∧ am_lk (co_Slots_copyTo l d) 2 = am_getR 6 0 5 ∧ am_lk (co_Slots_copyTo l d) 5 = am_iload 1 6 ∧ am_lk (co_Slots_copyTo l d) 6 = am_qald 7 ∧ am_lk (co_Slots_copyTo l d) 7 = am_cal l d y_Table_copyFrom (some 7) 2 10 0 0 0 0 ∧ am_lk (co_Slots_copyTo l d) 10 = am_vret := ⟨rfl, rfl, rfl, rfl, rfl, rfl, rfl⟩
theorem en_Slots_copyTo {l : Launch} {d : Nat} (n : Nat) {as : List am_V} {G : am_G} {I : am_I} {J : am_J} {P : am_P} (hlen : (as.map am_cat).sum ≤ 3) (h : am_go (am_lk (co_Slots_copyTo l d)) (am_X l (0, fun _ => 0) (d + 1) y_Slots_copyTo P) P n 0 (am_el 3 as) [] 0 0 G I J) : am_T l (d + 1) y_Slots_copyTo as G I J P :=
  am_T_of (sc := (0, fun _ => 0)) cf_Slots_copyTo (by decide +kernel) (by decide) (by decide +kernel) hlen (am_run (ok_lk _ (ck_Slots_copyTo)) n _ _ _ _ _ _ _ _ h)
theorem rn_Slots_copyTo {l : Launch} {sc : Nat × (Nat → Int32)} {d : Nat} {P : am_P} (n : Nat) {pc : Nat} {ls : am_L} {st : List am_V} {kc ks : Nat} {G : am_G} {I : am_I} {J : am_J} (h : am_go (am_lk (co_Slots_copyTo l d)) (am_X l sc (d + 1) y_Slots_copyTo P) P n pc ls st kc ks G I J) : am_X l sc (d + 1) y_Slots_copyTo P pc ls st kc ks G I J := am_run (ok_lk _ (ck_Slots_copyTo)) n _ _ _ _ _ _ _ _ h
