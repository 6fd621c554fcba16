/-! written by wip/whole/gen.py: the code of Mo1 -/
def co_M_init (l : Launch) (d : Nat) : List (Nat × am_S) := [(0, am_aload 0 1), (1, am_oinit 4), (4, am_aload 0 5), (5, am_push (vI 160) 8), (8, am_mka 0 10 10 3978), (10, am_putR 9 1 13), (13, am_aload 0 14), (14, am_push (vI 197) 17), (17, am_mka 0 19 10 3978), (19, am_putR 9 5 22), (22, am_aload 0 23), (23, am_push (vI 197) 26), (26, am_mka 0 28 10 3978), (28, am_putR 9 6 31), (31, am_aload 0 32), (32, am_push (vI 197) 35), (35, am_mka 0 37 10 3978), (37, am_putR 9 7 40), (40, am_aload 0 41), (41, am_push (vI 2758) 44), (44, am_mka 0 46 10 3978), (46, am_putR 9 8 49), (49, am_aload 0 50), (50, am_push (vI 394) 53), (53, am_mka 0 55 10 3978), (55, am_putR 9 10 58), (58, am_aload 0 59), (59, am_push (vI 2) 60), (60, am_mka 1 62 10 3978), (62, am_putR 9 11 65), (65, am_aload 0 66), (66, am_push (vI 24) 68), (68, am_mka 0 70 10 3978), (70, am_putR 9 12 73), (73, am_aload 0 74), (74, am_push (vI 25) 76), (76, am_mka 0 78 10 3978), (78, am_putR 9 14 81), (81, am_aload 0 82), (82, am_push (vI 24) 84), (84, am_mka 0 86 10 3978), (86, am_putR 9 15 89), (89, am_aload 0 90), (90, am_getR 9 6 93), (93, am_cal l d y_M_clean none 1 96 0 0 10 3978), (96, am_aload 0 97), (97, am_getR 9 6 100), (100, am_push (vI 0) 101), (101, am_push (vI 1) 102), (102, am_ast 0 (fun x => x) 103), (103, am_vret)]
theorem ck_M_init {l : Launch} {sc : Nat × (Nat → Int32)} {d : Nat} : ∀ q ∈ co_M_init l d, am_ok l sc (d + 1) y_M_init q.1 q.2 :=
  fa_cons (ok_aload_n (show decode (am_mB y_M_init) 0 = .ok (.aload_n 0, 1) by decide +kernel) rfl) <|
  fa_cons (ok_oinit (show decode (am_mB y_M_init) 1 = .ok (.invokespecial 1, 3) by decide +kernel) w_964 w_25 w_26 (by omega)) <|
  fa_cons (ok_aload_n (show decode (am_mB y_M_init) 4 = .ok (.aload_n 0, 1) by decide +kernel) rfl) <|
  fa_cons (ok_sipush (show decode (am_mB y_M_init) 5 = .ok (.sipush 160, 3) by decide +kernel) (by decide +kernel)) <|
  fa_cons (ok_mka ⟨rfl, rfl⟩ (ok_newa (show decode (am_mB y_M_init) 8 = .ok (.newarray .int, 2) by decide +kernel) w_131 (by decide +kernel))) <|
  fa_cons (ok_putR (show decode (am_mB y_M_init) 10 = .ok (.putfield 7, 3) by decide +kernel) w_969 (by decide +kernel) (by decide +kernel)) <|
  fa_cons (ok_aload_n (show decode (am_mB y_M_init) 13 = .ok (.aload_n 0, 1) by decide +kernel) rfl) <|
  fa_cons (ok_sipush (show decode (am_mB y_M_init) 14 = .ok (.sipush 197, 3) by decide +kernel) (by decide +kernel)) <|
  fa_cons (ok_mka ⟨rfl, rfl⟩ (ok_newa (show decode (am_mB y_M_init) 17 = .ok (.newarray .int, 2) by decide +kernel) w_131 (by decide +kernel))) <|
  fa_cons (ok_putR (show decode (am_mB y_M_init) 19 = .ok (.putfield 13, 3) by decide +kernel) w_973 (by decide +kernel) (by decide +kernel)) <|
  fa_cons (ok_aload_n (show decode (am_mB y_M_init) 22 = .ok (.aload_n 0, 1) by decide +kernel) rfl) <|
  fa_cons (ok_sipush (show decode (am_mB y_M_init) 23 = .ok (.sipush 197, 3) by decide +kernel) (by decide +kernel)) <|
  fa_cons (ok_mka ⟨rfl, rfl⟩ (ok_newa (show decode (am_mB y_M_init) 26 = .ok (.newarray .int, 2) by decide +kernel) w_131 (by decide +kernel))) <|
  fa_cons (ok_putR (show decode (am_mB y_M_init) 28 = .ok (.putfield 16, 3) by decide +kernel) w_974 (by decide +kernel) (by decide +kernel)) <|
  fa_cons (ok_aload_n (show decode (am_mB y_M_init) 31 = .ok (.aload_n 0, 1) by decide +kernel) rfl) <|
  fa_cons (ok_sipush (show decode (am_mB y_M_init) 32 = .ok (.sipush 197, 3) by decide +kernel) (by decide +kernel)) <|
  fa_cons (ok_mka ⟨rfl, rfl⟩ (ok_newa (show decode (am_mB y_M_init) 35 = .ok (.newarray .int, 2) by decide +kernel) w_131 (by decide +kernel))) <|
  fa_cons (ok_putR (show decode (am_mB y_M_init) 37 = .ok (.putfield 19, 3) by decide +kernel) w_975 (by decide +kernel) (by decide +kernel)) <|
  fa_cons (ok_aload_n (show decode (am_mB y_M_init) 40 = .ok (.aload_n 0, 1) by decide +kernel) rfl) <|
  fa_cons (ok_sipush (show decode (am_mB y_M_init) 41 = .ok (.sipush 2758, 3) by decide +kernel) (by decide +kernel)) <|
  fa_cons (ok_mka ⟨rfl, rfl⟩ (ok_newa (show decode (am_mB y_M_init) 44 = .ok (.newarray .int, 2) by decide +kernel) w_131 (by decide +kernel))) <|
  fa_cons (ok_putR (show decode (am_mB y_M_init) 46 = .ok (.putfield 22, 3) by decide +kernel) w_976 (by decide +kernel) (by decide +kernel)) <|
  fa_cons (ok_aload_n (show decode (am_mB y_M_init) 49 = .ok (.aload_n 0, 1) by decide +kernel) rfl) <|
  fa_cons (ok_sipush (show decode (am_mB y_M_init) 50 = .ok (.sipush 394, 3) by decide +kernel) (by decide +kernel)) <|
  fa_cons (ok_mka ⟨rfl, rfl⟩ (ok_newa (show decode (am_mB y_M_init) 53 = .ok (.newarray .int, 2) by decide +kernel) w_131 (by decide +kernel))) <|
  fa_cons (ok_putR (show decode (am_mB y_M_init) 55 = .ok (.putfield 25, 3) by decide +kernel) w_978 (by decide +kernel) (by decide +kernel)) <|
  fa_cons (ok_aload_n (show decode (am_mB y_M_init) 58 = .ok (.aload_n 0, 1) by decide +kernel) rfl) <|
  fa_cons (ok_iconst (show decode (am_mB y_M_init) 59 = .ok (.iconst 2, 1) by decide +kernel) rfl) <|
  fa_cons (ok_mka ⟨rfl, rfl⟩ (ok_newa (show decode (am_mB y_M_init) 60 = .ok (.newarray .boolean, 2) by decide +kernel) w_132 (by decide +kernel))) <|
  fa_cons (ok_putR (show decode (am_mB y_M_init) 62 = .ok (.putfield 28, 3) by decide +kernel) w_979 (by decide +kernel) (by decide +kernel)) <|
  fa_cons (ok_aload_n (show decode (am_mB y_M_init) 65 = .ok (.aload_n 0, 1) by decide +kernel) rfl) <|
  fa_cons (ok_bipush (show decode (am_mB y_M_init) 66 = .ok (.bipush 24, 2) by decide +kernel) (by decide +kernel)) <|
  fa_cons (ok_mka ⟨rfl, rfl⟩ (ok_newa (show decode (am_mB y_M_init) 68 = .ok (.newarray .int, 2) by decide +kernel) w_131 (by decide +kernel))) <|
  fa_cons (ok_putR (show decode (am_mB y_M_init) 70 = .ok (.putfield 32, 3) by decide +kernel) w_980 (by decide +kernel) (by decide +kernel)) <|
  fa_cons (ok_aload_n (show decode (am_mB y_M_init) 73 = .ok (.aload_n 0, 1) by decide +kernel) rfl) <|
  fa_cons (ok_bipush (show decode (am_mB y_M_init) 74 = .ok (.bipush 25, 2) by decide +kernel) (by decide +kernel)) <|
  fa_cons (ok_mka ⟨rfl, rfl⟩ (ok_newa (show decode (am_mB y_M_init) 76 = .ok (.newarray .int, 2) by decide +kernel) w_131 (by decide +kernel))) <|
  fa_cons (ok_putR (show decode (am_mB y_M_init) 78 = .ok (.putfield 35, 3) by decide +kernel) w_982 (by decide +kernel) (by decide +kernel)) <|
  fa_cons (ok_aload_n (show decode (am_mB y_M_init) 81 = .ok (.aload_n 0, 1) by decide +kernel) rfl) <|
  fa_cons (ok_bipush (show decode (am_mB y_M_init) 82 = .ok (.bipush 24, 2) by decide +kernel) (by decide +kernel)) <|
  fa_cons (ok_mka ⟨rfl, rfl⟩ (ok_newa (show decode (am_mB y_M_init) 84 = .ok (.newarray .int, 2) by decide +kernel) w_131 (by decide +kernel))) <|
  fa_cons (ok_putR (show decode (am_mB y_M_init) 86 = .ok (.putfield 38, 3) by decide +kernel) w_983 (by decide +kernel) (by decide +kernel)) <|
  fa_cons (ok_aload_n (show decode (am_mB y_M_init) 89 = .ok (.aload_n 0, 1) by decide +kernel) rfl) <|
  fa_cons (ok_getR (show decode (am_mB y_M_init) 90 = .ok (.getfield 16, 3) by decide +kernel) fl_M_16 (by decide +kernel)) <|
  fa_cons (ok_cal ⟨rfl, rfl, rfl, rfl⟩ (ok_callS (show decode (am_mB y_M_init) 93 = .ok (.invokestatic 41, 3) by decide +kernel) cf_M_clean (by decide +kernel) ml_M_41 cs_M_clean rfl ⟨by decide +kernel, rfl⟩)) <|
  fa_cons (ok_aload_n (show decode (am_mB y_M_init) 96 = .ok (.aload_n 0, 1) by decide +kernel) rfl) <|
  fa_cons (ok_getR (show decode (am_mB y_M_init) 97 = .ok (.getfield 16, 3) by decide +kernel) fl_M_16 (by decide +kernel)) <|
  fa_cons (ok_iconst (show decode (am_mB y_M_init) 100 = .ok (.iconst 0, 1) by decide +kernel) rfl) <|
  fa_cons (ok_iconst (show decode (am_mB y_M_init) 101 = .ok (.iconst 1, 1) by decide +kernel) rfl) <|
  fa_cons (ok_iast (show decode (am_mB y_M_init) 102 = .ok (.iastore, 1) by decide +kernel)) <|
  fa_cons (ok_vret (show decode (am_mB y_M_init) 103 = .ok (.return_, 1) by decide +kernel) rfl (by decide +kernel)) <|
  fa_nil
set_option maxRecDepth 100000 in
theorem cq_M_init (l : Launch) (d : Nat) : am_lk (co_M_init l d) 0 = am_aload 0 1 ∧ am_lk (co_M_init l d) 1 = am_oinit 4 ∧ am_lk (co_M_init l d) 4 = am_aload 0 5 ∧ am_lk (co_M_init l d) 5 = am_push (vI 160) 8 ∧ am_lk (co_M_init l d) 8 = am_mka 0 10 10 3978 ∧ am_lk (co_M_init l d) 10 = am_putR 9 1 13 ∧ am_lk (co_M_init l d) 13 = am_aload 0 14 ∧ am_lk (co_M_init l d) 14 = am_push (vI 197) 17 ∧ am_lk (co_M_init l d) 17 = am_mka 0 19 10 3978 ∧ am_lk (co_M_init l d) 19 = am_putR 9 5 22 ∧ am_lk (co_M_init l d) 22 = am_aload 0 23 ∧ am_lk (co_M_init l d) 23 = am_push (vI 197) 26 ∧ am_lk (co_M_init l d) 26 = am_mka 0 28 10 3978 ∧ am_lk (co_M_init l d) 28 = am_putR 9 6 31 ∧ am_lk (co_M_init l d) 31 = am_aload 0 32 ∧ am_lk (co_M_init l d) 32 = am_push (vI 197) 35 ∧ am_lk (co_M_init l d) 35 = am_mka 0 37 10 3978 ∧ am_lk (co_M_init l d) 37 = am_putR 9 7 40 ∧ am_lk (co_M_init l d) 40 = am_aload 0 41 ∧ am_lk (co_M_init l d) 41 = am_push (vI 2758) 44 ∧ am_lk (co_M_init l d) 44 = am_mka 0 46 10 3978 ∧ am_lk (co_M_init l d) 46 = am_putR 9 8 49 ∧ am_lk (co_M_init l d) 49 = am_aload 0 50 ∧ am_lk (co_M_init l d) 50 = am_push (vI 394) 53 ∧ am_lk (co_M_init l d) 53 = am_mka 0 55 10 3978 ∧ am_lk (co_M_init l d) 55 = am_putR 9 10 58 ∧ am_lk (co_M_init l d) 58 = am_aload 0 59 ∧ am_lk (co_M_init l d) 59 = am_push (vI 2) 60 ∧ am_lk (co_M_init l d) 60 = am_mka 1 62 10 3978 ∧ am_lk (co_M_init l d) 62 = am_putR 9 11 65 ∧ am_lk (co_M_init l d) 65 = am_aload 0 66 ∧ am_lk (co_M_init l d) 66 = am_push (vI 24) 68 ∧ am_lk (co_M_init l d) 68 = am_mka 0 70 10 3978 ∧ am_lk (co_M_init l d) 70 = am_putR 9 12 73 ∧ am_lk (co_M_init l d) 73 = am_aload 0 74 ∧ am_lk (co_M_init l d) 74 = am_push (vI 25) 76 ∧ am_lk (co_M_init l d) 76 = am_mka 0 78 10 3978 ∧ am_lk (co_M_init l d) 78 = am_putR 9 14 81 ∧ am_lk (co_M_init l d) 81 = am_aload 0 82 ∧ am_lk (co_M_init l d) 82 = am_push (vI 24) 84 ∧ am_lk (co_M_init l d) 84 = am_mka 0 86 10 3978 ∧ am_lk (co_M_init l d) 86 = am_putR 9 15 89 ∧ am_lk (co_M_init l d) 89 = am_aload 0 90 ∧ am_lk (co_M_init l d) 90 = am_getR 9 6 93 ∧ am_lk (co_M_init l d) 93 = am_cal l d y_M_clean none 1 96 0 0 10 3978 ∧ am_lk (co_M_init l d) 96 = am_aload 0 97 ∧ am_lk (co_M_init l d) 97 = am_getR 9 6 100 ∧ am_lk (co_M_init l d) 100 = am_push (vI 0) 101 ∧ am_lk (co_M_init l d) 101 = am_push (vI 1) 102 ∧ am_lk (co_M_init l d) 102 = am_ast 0 (fun x => x) 103 ∧ am_lk (co_M_init l d) 103 = am_vret := ⟨rfl, rfl, rfl, rfl, rfl, rfl, rfl, rfl, rfl, rfl, rfl, rfl, rfl, rfl, rfl, rfl, rfl, rfl, rfl, rfl, rfl, rfl, rfl, rfl, rfl, rfl, rfl, rfl, rfl, rfl, rfl, rfl, rfl, rfl, rfl, rfl, rfl, rfl, rfl, rfl, rfl, rfl, rfl, rfl, rfl, rfl, rfl, rfl, rfl, rfl, rfl⟩
theorem en_M_init {l : Launch} {d : Nat} (n : Nat) {as : List am_V} {G : am_G} {I : am_I} {J : am_J} {P : am_P} (hlen : (as.map am_cat).sum ≤ 1) (h : am_go (am_lk (co_M_init l d)) (am_X l (0, fun _ => 0) (d + 1) y_M_init P) P n 0 (am_el 1 as) [] 0 0 G I J) : am_T l (d + 1) y_M_init as G I J P :=
  am_T_of (sc := (0, fun _ => 0)) cf_M_init (by decide +kernel) (by decide) (by decide +kernel) hlen (am_run (ok_lk _ (ck_M_init)) n _ _ _ _ _ _ _ _ h)
theorem rn_M_init {l : Launch} {sc : Nat × (Nat → Int32)} {d : Nat} {P : am_P} (n : Nat) {pc : Nat} {ls : am_L} {st : List am_V} {kc ks : Nat} {G : am_G} {I : am_I} {J : am_J} (h : am_go (am_lk (co_M_init l d)) (am_X l sc (d + 1) y_M_init P) P n pc ls st kc ks G I J) : am_X l sc (d + 1) y_M_init P pc ls st kc ks G I J := am_run (ok_lk _ (ck_M_init)) n _ _ _ _ _ _ _ _ h
def co_M_thrown (l : Launch) (d : Nat) : List (Nat × am_S) := [(0, am_aload 0 1), (1, am_getI 9 0 4), (4, am_iret false)]
theorem ck_M_thrown {l : Launch} {sc : Nat × (Nat → Int32)} {d : Nat} : ∀ q ∈ co_M_thrown l d, am_ok l sc (d + 1) y_M_thrown q.1 q.2 :=
  fa_cons (ok_aload_n (show decode (am_mB y_M_thrown) 0 = .ok (.aload_n 0, 1) by decide +kernel) rfl) <|
  fa_cons (ok_getI (show decode (am_mB y_M_thrown) 1 = .ok (.getfield 45, 3) by decide +kernel) fl_M_45 (by decide +kernel)) <|
  fa_cons (ok_iret (show decode (am_mB y_M_thrown) 4 = .ok (.ireturn, 1) by decide +kernel) rfl) <|
  fa_nil
set_option maxRecDepth 100000 in
theorem cq_M_thrown (l : Launch) (d : Nat) : am_lk (co_M_thrown l d) 0 = am_aload 0 1 ∧ am_lk (co_M_thrown l d) 1 = am_getI 9 0 4 ∧ am_lk (co_M_thrown l d) 4 = am_iret false := ⟨rfl, rfl, rfl⟩
theorem en_M_thrown {l : Launch} {d : Nat} (n : Nat) {as : List am_V} {G : am_G} {I : am_I} {J : am_J} {P : am_P} (hlen : (as.map am_cat).sum ≤ 1) (h : am_go (am_lk (co_M_thrown l d)) (am_X l (0, fun _ => 0) (d + 1) y_M_thrown P) P n 0 (am_el 1 as) [] 0 0 G I J) : am_T l (d + 1) y_M_thrown as G I J P :=
  am_T_of (sc := (0, fun _ => 0)) cf_M_thrown (by decide +kernel) (by decide) (by decide +kernel) hlen (am_run (ok_lk _ (ck_M_thrown)) n _ _ _ _ _ _ _ _ h)
theorem rn_M_thrown {l : Launch} {sc : Nat × (Nat → Int32)} {d : Nat} {P : am_P} (n : Nat) {pc : Nat} {ls : am_L} {st : List am_V} {kc ks : Nat} {G : am_G} {I : am_I} {J : am_J} (h : am_go (am_lk (co_M_thrown l d)) (am_X l sc (d + 1) y_M_thrown P) P n pc ls st kc ks G I J) : am_X l sc (d + 1) y_M_thrown P pc ls st kc ks G I J := am_run (ok_lk _ (ck_M_thrown)) n _ _ _ _ _ _ _ _ h
def co_M_refused (l : Launch) (d : Nat) : List (Nat × am_S) := [(0, am_aload 0 1), (1, am_iload 1 2), (2, am_putI 9 0 5), (5, am_iload 1 6), (6, am_if_le 9 13), (9, am_push (vI 1) 10), (10, am_goto 14), (13, am_push (vI 0) 14), (14, am_iret true)]
theorem ck_M_refused {l : Launch} {sc : Nat × (Nat → Int32)} {d : Nat} : ∀ q ∈ co_M_refused l d, am_ok l sc (d + 1) y_M_refused q.1 q.2 :=
  fa_cons (ok_aload_n (show decode (am_mB y_M_refused) 0 = .ok (.aload_n 0, 1) by decide +kernel) rfl) <|
  fa_cons (ok_iload_n (show decode (am_mB y_M_refused) 1 = .ok (.iload_n 1, 1) by decide +kernel) rfl) <|
  fa_cons (ok_putI (show decode (am_mB y_M_refused) 2 = .ok (.putfield 45, 3) by decide +kernel) fl_M_45 (by decide +kernel)) <|
  fa_cons (ok_iload_n (show decode (am_mB y_M_refused) 5 = .ok (.iload_n 1, 1) by decide +kernel) rfl) <|
  fa_cons (ok_if_le (show decode (am_mB y_M_refused) 6 = .ok (.ifCond .le 7, 3) by decide +kernel) (by decide)) <|
  fa_cons (ok_iconst (show decode (am_mB y_M_refused) 9 = .ok (.iconst 1, 1) by decide +kernel) rfl) <|
  fa_cons (ok_goto (show decode (am_mB y_M_refused) 10 = .ok (.goto 4, 3) by decide +kernel) (by decide)) <|
  fa_cons (ok_iconst (show decode (am_mB y_M_refused) 13 = .ok (.iconst 0, 1) by decide +kernel) rfl) <|
  fa_cons (ok_iret (show decode (am_mB y_M_refused) 14 = .ok (.ireturn, 1) by decide +kernel) rfl) <|
  fa_nil
set_option maxRecDepth 100000 in
theorem cq_M_refused (l : Launch) (d : Nat) : am_lk (co_M_refused l d) 0 = am_aload 0 1 ∧ am_lk (co_M_refused l d) 1 = am_iload 1 2 ∧ am_lk (co_M_refused l d) 2 = am_putI 9 0 5 ∧ am_lk (co_M_refused l d) 5 = am_iload 1 6 ∧ am_lk (co_M_refused l d) 6 = am_if_le 9 13 ∧ am_lk (co_M_refused l d) 9 = am_push (vI 1) 10 ∧ am_lk (co_M_refused l d) 10 = am_goto 14 ∧ am_lk (co_M_refused l d) 13 = am_push (vI 0) 14 ∧ am_lk (co_M_refused l d) 14 = am_iret true := ⟨rfl, rfl, rfl, rfl, rfl, rfl, rfl, rfl, rfl⟩
theorem en_M_refused {l : Launch} {d : Nat} (n : Nat) {as : List am_V} {G : am_G} {I : am_I} {J : am_J} {P : am_P} (hlen : (as.map am_cat).sum ≤ 2) (h : am_go (am_lk (co_M_refused l d)) (am_X l (0, fun _ => 0) (d + 1) y_M_refused P) P n 0 (am_el 2 as) [] 0 0 G I J) : am_T l (d + 1) y_M_refused as G I J P :=
  am_T_of (sc := (0, fun _ => 0)) cf_M_refused (by decide +kernel) (by decide) (by decide +kernel) hlen (am_run (ok_lk _ (ck_M_refused)) n _ _ _ _ _ _ _ _ h)
theorem rn_M_refused {l : Launch} {sc : Nat × (Nat → Int32)} {d : Nat} {P : am_P} (n : Nat) {pc : Nat} {ls : am_L} {st : List am_V} {kc ks : Nat} {G : am_G} {I : am_I} {J : am_J} (h : am_go (am_lk (co_M_refused l d)) (am_X l sc (d + 1) y_M_refused P) P n pc ls st kc ks G I J) : am_X l sc (d + 1) y_M_refused P pc ls st kc ks G I J := am_run (ok_lk _ (ck_M_refused)) n _ _ _ _ _ _ _ _ h
def co_M_in (l : Launch) (d : Nat) : List (Nat × am_S) := [(0, am_lload 0 1), (1, am_lload 2 2), (2, am_lcmp 3), (3, am_if_lt 6 17), (6, am_lload 0 7), (7, am_lload 4 9), (9, am_lcmp 10), (10, am_if_gt 13 17), (13, am_push (vI 1) 14), (14, am_goto 18), (17, am_push (vI 0) 18), (18, am_iret true)]
theorem ck_M_in {l : Launch} {sc : Nat × (Nat → Int32)} {d : Nat} : ∀ q ∈ co_M_in l d, am_ok l sc (d + 1) y_M_in q.1 q.2 :=
  fa_cons (ok_lload_n (show decode (am_mB y_M_in) 0 = .ok (.lload_n 0, 1) by decide +kernel) rfl) <|
  fa_cons (ok_lload_n (show decode (am_mB y_M_in) 1 = .ok (.lload_n 2, 1) by decide +kernel) rfl) <|
  fa_cons (ok_lcmp (show decode (am_mB y_M_in) 2 = .ok (.lcmp, 1) by decide +kernel)) <|
  fa_cons (ok_if_lt (show decode (am_mB y_M_in) 3 = .ok (.ifCond .lt 14, 3) by decide +kernel) (by decide)) <|
  fa_cons (ok_lload_n (show decode (am_mB y_M_in) 6 = .ok (.lload_n 0, 1) by decide +kernel) rfl) <|
  fa_cons (ok_lload (show decode (am_mB y_M_in) 7 = .ok (.lload 4, 2) by decide +kernel)) <|
  fa_cons (ok_lcmp (show decode (am_mB y_M_in) 9 = .ok (.lcmp, 1) by decide +kernel)) <|
  fa_cons (ok_if_gt (show decode (am_mB y_M_in) 10 = .ok (.ifCond .gt 7, 3) by decide +kernel) (by decide)) <|
  fa_cons (ok_iconst (show decode (am_mB y_M_in) 13 = .ok (.iconst 1, 1) by decide +kernel) rfl) <|
  fa_cons (ok_goto (show decode (am_mB y_M_in) 14 = .ok (.goto 4, 3) by decide +kernel) (by decide)) <|
  fa_cons (ok_iconst (show decode (am_mB y_M_in) 17 = .ok (.iconst 0, 1) by decide +kernel) rfl) <|
  fa_cons (ok_iret (show decode (am_mB y_M_in) 18 = .ok (.ireturn, 1) by decide +kernel) rfl) <|
  fa_nil
set_option maxRecDepth 100000 in
theorem cq_M_in (l : Launch) (d : Nat) : am_lk (co_M_in l d) 0 = am_lload 0 1 ∧ am_lk (co_M_in l d) 1 = am_lload 2 2 ∧ am_lk (co_M_in l d) 2 = am_lcmp 3 ∧ am_lk (co_M_in l d) 3 = am_if_lt 6 17 ∧ am_lk (co_M_in l d) 6 = am_lload 0 7 ∧ am_lk (co_M_in l d) 7 = am_lload 4 9 ∧ am_lk (co_M_in l d) 9 = am_lcmp 10 ∧ am_lk (co_M_in l d) 10 = am_if_gt 13 17 ∧ am_lk (co_M_in l d) 13 = am_push (vI 1) 14 ∧ am_lk (co_M_in l d) 14 = am_goto 18 ∧ am_lk (co_M_in l d) 17 = am_push (vI 0) 18 ∧ am_lk (co_M_in l d) 18 = am_iret true := ⟨rfl, rfl, rfl, rfl, rfl, rfl, rfl, rfl, rfl, rfl, rfl, rfl⟩
theorem en_M_in {l : Launch} {d : Nat} (n : Nat) {as : List am_V} {G : am_G} {I : am_I} {J : am_J} {P : am_P} (hlen : (as.map am_cat).sum ≤ 6) (h : am_go (am_lk (co_M_in l d)) (am_X l (0, fun _ => 0) (d + 1) y_M_in P) P n 0 (am_el 6 as) [] 0 0 G I J) : am_T l (d + 1) y_M_in as G I J P :=
  am_T_of (sc := (0, fun _ => 0)) cf_M_in (by decide +kernel) (by decide) (by decide +kernel) hlen (am_run (ok_lk _ (ck_M_in)) n _ _ _ _ _ _ _ _ h)
theorem rn_M_in {l : Launch} {sc : Nat × (Nat → Int32)} {d : Nat} {P : am_P} (n : Nat) {pc : Nat} {ls : am_L} {st : List am_V} {kc ks : Nat} {G : am_G} {I : am_I} {J : am_J} (h : am_go (am_lk (co_M_in l d)) (am_X l sc (d + 1) y_M_in P) P n pc ls st kc ks G I J) : am_X l sc (d + 1) y_M_in P pc ls st kc ks G I J := am_run (ok_lk _ (ck_M_in)) n _ _ _ _ _ _ _ _ h
def co_M_has (l : Launch) (d : Nat) : List (Nat × am_S) := [(0, am_iload 0 1), (1, am_iload 1 2), (2, am_ishr 3), (3, am_push (vI 1) 4), (4, am_iand 5), (5, am_push (vI 1) 6), (6, am_icmp_ne 9 13), (9, am_push (vI 1) 10), (10, am_goto 14), (13, am_push (vI 0) 14), (14, am_iret true)]
theorem ck_M_has {l : Launch} {sc : Nat × (Nat → Int32)} {d : Nat} : ∀ q ∈ co_M_has l d, am_ok l sc (d + 1) y_M_has q.1 q.2 :=
  fa_cons (ok_iload_n (show decode (am_mB y_M_has) 0 = .ok (.iload_n 0, 1) by decide +kernel) rfl) <|
  fa_cons (ok_iload_n (show decode (am_mB y_M_has) 1 = .ok (.iload_n 1, 1) by decide +kernel) rfl) <|
  fa_cons (ok_ishr (show decode (am_mB y_M_has) 2 = .ok (.ishr, 1) by decide +kernel)) <|
  fa_cons (ok_iconst (show decode (am_mB y_M_has) 3 = .ok (.iconst 1, 1) by decide +kernel) rfl) <|
  fa_cons (ok_iand (show decode (am_mB y_M_has) 4 = .ok (.iand, 1) by decide +kernel)) <|
  fa_cons (ok_iconst (show decode (am_mB y_M_has) 5 = .ok (.iconst 1, 1) by decide +kernel) rfl) <|
  fa_cons (ok_icmp_ne (show decode (am_mB y_M_has) 6 = .ok (.if_icmp .ne 7, 3) by decide +kernel) (by decide)) <|
  fa_cons (ok_iconst (show decode (am_mB y_M_has) 9 = .ok (.iconst 1, 1) by decide +kernel) rfl) <|
  fa_cons (ok_goto (show decode (am_mB y_M_has) 10 = .ok (.goto 4, 3) by decide +kernel) (by decide)) <|
  fa_cons (ok_iconst (show decode (am_mB y_M_has) 13 = .ok (.iconst 0, 1) by decide +kernel) rfl) <|
  fa_cons (ok_iret (show decode (am_mB y_M_has) 14 = .ok (.ireturn, 1) by decide +kernel) rfl) <|
  fa_nil
set_option maxRecDepth 100000 in
theorem cq_M_has (l : Launch) (d : Nat) : am_lk (co_M_has l d) 0 = am_iload 0 1 ∧ am_lk (co_M_has l d) 1 = am_iload 1 2 ∧ am_lk (co_M_has l d) 2 = am_ishr 3 ∧ am_lk (co_M_has l d) 3 = am_push (vI 1) 4 ∧ am_lk (co_M_has l d) 4 = am_iand 5 ∧ am_lk (co_M_has l d) 5 = am_push (vI 1) 6 ∧ am_lk (co_M_has l d) 6 = am_icmp_ne 9 13 ∧ am_lk (co_M_has l d) 9 = am_push (vI 1) 10 ∧ am_lk (co_M_has l d) 10 = am_goto 14 ∧ am_lk (co_M_has l d) 13 = am_push (vI 0) 14 ∧ am_lk (co_M_has l d) 14 = am_iret true := ⟨rfl, rfl, rfl, rfl, rfl, rfl, rfl, rfl, rfl, rfl, rfl⟩
theorem en_M_has {l : Launch} {d : Nat} (n : Nat) {as : List am_V} {G : am_G} {I : am_I} {J : am_J} {P : am_P} (hlen : (as.map am_cat).sum ≤ 2) (h : am_go (am_lk (co_M_has l d)) (am_X l (0, fun _ => 0) (d + 1) y_M_has P) P n 0 (am_el 2 as) [] 0 0 G I J) : am_T l (d + 1) y_M_has as G I J P :=
  am_T_of (sc := (0, fun _ => 0)) cf_M_has (by decide +kernel) (by decide) (by decide +kernel) hlen (am_run (ok_lk _ (ck_M_has)) n _ _ _ _ _ _ _ _ h)
theorem rn_M_has {l : Launch} {sc : Nat × (Nat → Int32)} {d : Nat} {P : am_P} (n : Nat) {pc : Nat} {ls : am_L} {st : List am_V} {kc ks : Nat} {G : am_G} {I : am_I} {J : am_J} (h : am_go (am_lk (co_M_has l d)) (am_X l sc (d + 1) y_M_has P) P n pc ls st kc ks G I J) : am_X l sc (d + 1) y_M_has P pc ls st kc ks G I J := am_run (ok_lk _ (ck_M_has)) n _ _ _ _ _ _ _ _ h
def co_M_copy (l : Launch) (d : Nat) : List (Nat × am_S) := [(0, am_push (vI 0) 1), (1, am_stp (am_istore 5 3)), (3, am_iload 5 5), (5, am_iload 4 7), (7, am_icmp_ge 10 28), (10, am_aload 2 11), (11, am_iload 3 12), (12, am_iload 5 14), (14, am_iadd 15), (15, am_aload 0 16), (16, am_iload 1 17), (17, am_iload 5 19), (19, am_iadd 20), (20, am_ald 0 21), (21, am_ast 0 (fun x => x) 22), (22, am_iinc 5 1 25), (25, am_stp (am_goto 3)), (28, am_vret)]
theorem ck_M_copy {l : Launch} {sc : Nat × (Nat → Int32)} {d : Nat} : ∀ q ∈ co_M_copy l d, am_ok l sc (d + 1) y_M_copy q.1 q.2 :=
  fa_cons (ok_iconst (show decode (am_mB y_M_copy) 0 = .ok (.iconst 0, 1) by decide +kernel) rfl) <|
  fa_cons (ok_stp (σ := am_istore 5 3) (ok_istore (show decode (am_mB y_M_copy) 1 = .ok (.istore 5, 2) by decide +kernel) (by decide +kernel))) <|
  fa_cons (ok_iload (show decode (am_mB y_M_copy) 3 = .ok (.iload 5, 2) by decide +kernel)) <|
  fa_cons (ok_iload (show decode (am_mB y_M_copy) 5 = .ok (.iload 4, 2) by decide +kernel)) <|
  fa_cons (ok_icmp_ge (show decode (am_mB y_M_copy) 7 = .ok (.if_icmp .ge 21, 3) by decide +kernel) (by decide)) <|
  fa_cons (ok_aload_n (show decode (am_mB y_M_copy) 10 = .ok (.aload_n 2, 1) by decide +kernel) rfl) <|
  fa_cons (ok_iload_n (show decode (am_mB y_M_copy) 11 = .ok (.iload_n 3, 1) by decide +kernel) rfl) <|
  fa_cons (ok_iload (show decode (am_mB y_M_copy) 12 = .ok (.iload 5, 2) by decide +kernel)) <|
  fa_cons (ok_iadd (show decode (am_mB y_M_copy) 14 = .ok (.iadd, 1) by decide +kernel)) <|
  fa_cons (ok_aload_n (show decode (am_mB y_M_copy) 15 = .ok (.aload_n 0, 1) by decide +kernel) rfl) <|
  fa_cons (ok_iload_n (show decode (am_mB y_M_copy) 16 = .ok (.iload_n 1, 1) by decide +kernel) rfl) <|
  fa_cons (ok_iload (show decode (am_mB y_M_copy) 17 = .ok (.iload 5, 2) by decide +kernel)) <|
  fa_cons (ok_iadd (show decode (am_mB y_M_copy) 19 = .ok (.iadd, 1) by decide +kernel)) <|
  fa_cons (ok_iald (show decode (am_mB y_M_copy) 20 = .ok (.iaload, 1) by decide +kernel)) <|
  fa_cons (ok_iast (show decode (am_mB y_M_copy) 21 = .ok (.iastore, 1) by decide +kernel)) <|
  fa_cons (ok_iinc (show decode (am_mB y_M_copy) 22 = .ok (.iinc 5 1, 3) by decide +kernel) (by decide +kernel) (by decide +kernel)) <|
  fa_cons (ok_stp (σ := am_goto 3) (ok_goto (show decode (am_mB y_M_copy) 25 = .ok (.goto (-22), 3) by decide +kernel) (by decide))) <|
  fa_cons (ok_vret (show decode (am_mB y_M_copy) 28 = .ok (.return_, 1) by decide +kernel) rfl (by decide +kernel)) <|
  fa_nil
set_option maxRecDepth 100000 in
theorem cq_M_copy (l : Launch) (d : Nat) : am_lk (co_M_copy l d) 0 = am_push (vI 0) 1 ∧ am_lk (co_M_copy l d) 1 = am_stp (am_istore 5 3) ∧ am_lk (co_M_copy l d) 3 = am_iload 5 5 ∧ am_lk (co_M_copy l d) 5 = am_iload 4 7 ∧ am_lk (co_M_copy l d) 7 = am_icmp_ge 10 28 ∧ am_lk (co_M_copy l d) 10 = am_aload 2 11 ∧ am_lk (co_M_copy l d) 11 = am_iload 3 12 ∧ am_lk (co_M_copy l d) 12 = am_iload 5 14 ∧ am_lk (co_M_copy l d) 14 = am_iadd 15 ∧ am_lk (co_M_copy l d) 15 = am_aload 0 16 ∧ am_lk (co_M_copy l d) 16 = am_iload 1 17 ∧ am_lk (co_M_copy l d) 17 = am_iload 5 19 ∧ am_lk (co_M_copy l d) 19 = am_iadd 20 ∧ am_lk (co_M_copy l d) 20 = am_ald 0 21 ∧ am_lk (co_M_copy l d) 21 = am_ast 0 (fun x => x) 22 ∧ am_lk (co_M_copy l d) 22 = am_iinc 5 1 25 ∧ am_lk (co_M_copy l d) 25 = am_stp (am_goto 3) ∧ am_lk (co_M_copy l d) 28 = am_vret := ⟨rfl, rfl, rfl, rfl, rfl, rfl, rfl, rfl, rfl, rfl, rfl, rfl, rfl, rfl, rfl, rfl, rfl, rfl⟩
theorem en_M_copy {l : Launch} {d : Nat} (n : Nat) {as : List am_V} {G : am_G} {I : am_I} {J : am_J} {P : am_P} (hlen : (as.map am_cat).sum ≤ 6) (h : am_go (am_lk (co_M_copy l d)) (am_X l (0, fun _ => 0) (d + 1) y_M_copy P) P n 0 (am_el 6 as) [] 0 0 G I J) : am_T l (d + 1) y_M_copy as G I J P :=
  am_T_of (sc := (0, fun _ => 0)) cf_M_copy (by decide +kernel) (by decide) (by decide +kernel) hlen (am_run (ok_lk _ (ck_M_copy)) n _ _ _ _ _ _ _ _ h)
theorem rn_M_copy {l : Launch} {sc : Nat × (Nat → Int32)} {d : Nat} {P : am_P} (n : Nat) {pc : Nat} {ls : am_L} {st : List am_V} {kc ks : Nat} {G : am_G} {I : am_I} {J : am_J} (h : am_go (am_lk (co_M_copy l d)) (am_X l sc (d + 1) y_M_copy P) P n pc ls st kc ks G I J) : am_X l sc (d + 1) y_M_copy P pc ls st kc ks G I J := am_run (ok_lk _ (ck_M_copy)) n _ _ _ _ _ _ _ _ h
def co_M_tenTo (l : Launch) (d : Nat) : List (Nat × am_S) := [(0, am_push (vL 1) 1), (1, am_lstore 1 2), (2, am_push (vI 0) 3), (3, am_stp (am_istore 3 4)), (4, am_iload 3 5), (5, am_iload 0 6), (6, am_icmp_ge 9 21), (9, am_lload 1 10), (10, am_push (vL 10) 13), (13, am_lmul 14), (14, am_lstore 1 15), (15, am_iinc 3 1 18), (18, am_stp (am_goto 4)), (21, am_lload 1 22), (22, am_lret)]
theorem ck_M_tenTo {l : Launch} {sc : Nat × (Nat → Int32)} {d : Nat} : ∀ q ∈ co_M_tenTo l d, am_ok l sc (d + 1) y_M_tenTo q.1 q.2 :=
  fa_cons (ok_lconst (show decode (am_mB y_M_tenTo) 0 = .ok (.lconst 1, 1) by decide +kernel) rfl) <|
  fa_cons (ok_lstore_n (show decode (am_mB y_M_tenTo) 1 = .ok (.lstore_n 1, 1) by decide +kernel) rfl (by decide +kernel)) <|
  fa_cons (ok_iconst (show decode (am_mB y_M_tenTo) 2 = .ok (.iconst 0, 1) by decide +kernel) rfl) <|
  fa_cons (ok_stp (σ := am_istore 3 4) (ok_istore_n (show decode (am_mB y_M_tenTo) 3 = .ok (.istore_n 3, 1) by decide +kernel) rfl (by decide +kernel))) <|
  fa_cons (ok_iload_n (show decode (am_mB y_M_tenTo) 4 = .ok (.iload_n 3, 1) by decide +kernel) rfl) <|
  fa_cons (ok_iload_n (show decode (am_mB y_M_tenTo) 5 = .ok (.iload_n 0, 1) by decide +kernel) rfl) <|
  fa_cons (ok_icmp_ge (show decode (am_mB y_M_tenTo) 6 = .ok (.if_icmp .ge 15, 3) by decide +kernel) (by decide)) <|
  fa_cons (ok_lload_n (show decode (am_mB y_M_tenTo) 9 = .ok (.lload_n 1, 1) by decide +kernel) rfl) <|
  fa_cons (ok_ldc2 (show decode (am_mB y_M_tenTo) 10 = .ok (.ldc2_w 49, 3) by decide +kernel) w_1294) <|
  fa_cons (ok_lmul (show decode (am_mB y_M_tenTo) 13 = .ok (.lmul, 1) by decide +kernel)) <|
  fa_cons (ok_lstore_n (show decode (am_mB y_M_tenTo) 14 = .ok (.lstore_n 1, 1) by decide +kernel) rfl (by decide +kernel)) <|
  fa_cons (ok_iinc (show decode (am_mB y_M_tenTo) 15 = .ok (.iinc 3 1, 3) by decide +kernel) (by decide +kernel) (by decide +kernel)) <|
  fa_cons (ok_stp (σ := am_goto 4) (ok_goto (show decode (am_mB y_M_tenTo) 18 = .ok (.goto (-14), 3) by decide +kernel) (by decide))) <|
  fa_cons (ok_lload_n (show decode (am_mB y_M_tenTo) 21 = .ok (.lload_n 1, 1) by decide +kernel) rfl) <|
  fa_cons (ok_lret (show decode (am_mB y_M_tenTo) 22 = .ok (.lreturn, 1) by decide +kernel) rfl (by decide +kernel)) <|
  fa_nil
set_option maxRecDepth 100000 in
theorem cq_M_tenTo (l : Launch) (d : Nat) : am_lk (co_M_tenTo l d) 0 = am_push (vL 1) 1 ∧ am_lk (co_M_tenTo l d) 1 = am_lstore 1 2 ∧ am_lk (co_M_tenTo l d) 2 = am_push (vI 0) 3 ∧ am_lk (co_M_tenTo l d) 3 = am_stp (am_istore 3 4) ∧ am_lk (co_M_tenTo l d) 4 = am_iload 3 5 ∧ am_lk (co_M_tenTo l d) 5 = am_iload 0 6 ∧ am_lk (co_M_tenTo l d) 6 = am_icmp_ge 9 21 ∧ am_lk (co_M_tenTo l d) 9 = am_lload 1 10 ∧ am_lk (co_M_tenTo l d) 10 = am_push (vL 10) 13 ∧ am_lk (co_M_tenTo l d) 13 = am_lmul 14 ∧ am_lk (co_M_tenTo l d) 14 = am_lstore 1 15 ∧ am_lk (co_M_tenTo l d) 15 = am_iinc 3 1 18 ∧ am_lk (co_M_tenTo l d) 18 = am_stp (am_goto 4) ∧ am_lk (co_M_tenTo l d) 21 = am_lload 1 22 ∧ am_lk (co_M_tenTo l d) 22 = am_lret := ⟨rfl, rfl, rfl, rfl, rfl, rfl, rfl, rfl, rfl, rfl, rfl, rfl, rfl, rfl, rfl⟩
theorem en_M_tenTo {l : Launch} {d : Nat} (n : Nat) {as : List am_V} {G : am_G} {I : am_I} {J : am_J} {P : am_P} (hlen : (as.map am_cat).sum ≤ 4) (h : am_go (am_lk (co_M_tenTo l d)) (am_X l (0, fun _ => 0) (d + 1) y_M_tenTo P) P n 0 (am_el 4 as) [] 0 0 G I J) : am_T l (d + 1) y_M_tenTo as G I J P :=
  am_T_of (sc := (0, fun _ => 0)) cf_M_tenTo (by decide +kernel) (by decide) (by decide +kernel) hlen (am_run (ok_lk _ (ck_M_tenTo)) n _ _ _ _ _ _ _ _ h)
theorem rn_M_tenTo {l : Launch} {sc : Nat × (Nat → Int32)} {d : Nat} {P : am_P} (n : Nat) {pc : Nat} {ls : am_L} {st : List am_V} {kc ks : Nat} {G : am_G} {I : am_I} {J : am_J} (h : am_go (am_lk (co_M_tenTo l d)) (am_X l sc (d + 1) y_M_tenTo P) P n pc ls st kc ks G I J) : am_X l sc (d + 1) y_M_tenTo P pc ls st kc ks G I J := am_run (ok_lk _ (ck_M_tenTo)) n _ _ _ _ _ _ _ _ h
def co_M_clean (l : Launch) (d : Nat) : List (Nat × am_S) := [(0, am_push (vI 0) 1), (1, am_stp (am_istore 1 2)), (2, am_iload 1 3), (3, am_push (vI 197) 6), (6, am_icmp_ge 9 19), (9, am_aload 0 10), (10, am_iload 1 11), (11, am_push (vI 0) 12), (12, am_ast 0 (fun x => x) 13), (13, am_iinc 1 1 16), (16, am_stp (am_goto 2)), (19, am_aload 0 20), (20, am_push (vI 3) 21), (21, am_push (vI 20) 23), (23, am_ast 0 (fun x => x) 24), (24, am_aload 0 25), (25, am_push (vI 4) 26), (26, am_push (vI 1) 27), (27, am_ast 0 (fun x => x) 28), (28, am_push (vI 0) 29), (29, am_stp (am_istore 1 30)), (30, am_iload 1 31), (31, am_push (vI 6) 33), (33, am_icmp_ge 36 48), (36, am_aload 0 37), (37, am_push (vI 5) 38), (38, am_iload 1 39), (39, am_iadd 40), (40, am_push (vI 1) 41), (41, am_ast 0 (fun x => x) 42), (42, am_iinc 1 1 45), (45, am_stp (am_goto 30)), (48, am_vret)]
theorem ck_M_clean {l : Launch} {sc : Nat × (Nat → Int32)} {d : Nat} : ∀ q ∈ co_M_clean l d, am_ok l sc (d + 1) y_M_clean q.1 q.2 :=
  fa_cons (ok_iconst (show decode (am_mB y_M_clean) 0 = .ok (.iconst 0, 1) by decide +kernel) rfl) <|
  fa_cons (ok_stp (σ := am_istore 1 2) (ok_istore_n (show decode (am_mB y_M_clean) 1 = .ok (.istore_n 1, 1) by decide +kernel) rfl (by decide +kernel))) <|
  fa_cons (ok_iload_n (show decode (am_mB y_M_clean) 2 = .ok (.iload_n 1, 1) by decide +kernel) rfl) <|
  fa_cons (ok_sipush (show decode (am_mB y_M_clean) 3 = .ok (.sipush 197, 3) by decide +kernel) (by decide +kernel)) <|
  fa_cons (ok_icmp_ge (show decode (am_mB y_M_clean) 6 = .ok (.if_icmp .ge 13, 3) by decide +kernel) (by decide)) <|
  fa_cons (ok_aload_n (show decode (am_mB y_M_clean) 9 = .ok (.aload_n 0, 1) by decide +kernel) rfl) <|
  fa_cons (ok_iload_n (show decode (am_mB y_M_clean) 10 = .ok (.iload_n 1, 1) by decide +kernel) rfl) <|
  fa_cons (ok_iconst (show decode (am_mB y_M_clean) 11 = .ok (.iconst 0, 1) by decide +kernel) rfl) <|
  fa_cons (ok_iast (show decode (am_mB y_M_clean) 12 = .ok (.iastore, 1) by decide +kernel)) <|
  fa_cons (ok_iinc (show decode (am_mB y_M_clean) 13 = .ok (.iinc 1 1, 3) by decide +kernel) (by decide +kernel) (by decide +kernel)) <|
  fa_cons (ok_stp (σ := am_goto 2) (ok_goto (show decode (am_mB y_M_clean) 16 = .ok (.goto (-14), 3) by decide +kernel) (by decide))) <|
  fa_cons (ok_aload_n (show decode (am_mB y_M_clean) 19 = .ok (.aload_n 0, 1) by decide +kernel) rfl) <|
  fa_cons (ok_iconst (show decode (am_mB y_M_clean) 20 = .ok (.iconst 3, 1) by decide +kernel) rfl) <|
  fa_cons (ok_bipush (show decode (am_mB y_M_clean) 21 = .ok (.bipush 20, 2) by decide +kernel) (by decide +kernel)) <|
  fa_cons (ok_iast (show decode (am_mB y_M_clean) 23 = .ok (.iastore, 1) by decide +kernel)) <|
  fa_cons (ok_aload_n (show decode (am_mB y_M_clean) 24 = .ok (.aload_n 0, 1) by decide +kernel) rfl) <|
  fa_cons (ok_iconst (show decode (am_mB y_M_clean) 25 = .ok (.iconst 4, 1) by decide +kernel) rfl) <|
  fa_cons (ok_iconst (show decode (am_mB y_M_clean) 26 = .ok (.iconst 1, 1) by decide +kernel) rfl) <|
  fa_cons (ok_iast (show decode (am_mB y_M_clean) 27 = .ok (.iastore, 1) by decide +kernel)) <|
  fa_cons (ok_iconst (show decode (am_mB y_M_clean) 28 = .ok (.iconst 0, 1) by decide +kernel) rfl) <|
  fa_cons (ok_stp (σ := am_istore 1 30) (ok_istore_n (show decode (am_mB y_M_clean) 29 = .ok (.istore_n 1, 1) by decide +kernel) rfl (by decide +kernel))) <|
  fa_cons (ok_iload_n (show decode (am_mB y_M_clean) 30 = .ok (.iload_n 1, 1) by decide +kernel) rfl) <|
  fa_cons (ok_bipush (show decode (am_mB y_M_clean) 31 = .ok (.bipush 6, 2) by decide +kernel) (by decide +kernel)) <|
  fa_cons (ok_icmp_ge (show decode (am_mB y_M_clean) 33 = .ok (.if_icmp .ge 15, 3) by decide +kernel) (by decide)) <|
  fa_cons (ok_aload_n (show decode (am_mB y_M_clean) 36 = .ok (.aload_n 0, 1) by decide +kernel) rfl) <|
  fa_cons (ok_iconst (show decode (am_mB y_M_clean) 37 = .ok (.iconst 5, 1) by decide +kernel) rfl) <|
  fa_cons (ok_iload_n (show decode (am_mB y_M_clean) 38 = .ok (.iload_n 1, 1) by decide +kernel) rfl) <|
  fa_cons (ok_iadd (show decode (am_mB y_M_clean) 39 = .ok (.iadd, 1) by decide +kernel)) <|
  fa_cons (ok_iconst (show decode (am_mB y_M_clean) 40 = .ok (.iconst 1, 1) by decide +kernel) rfl) <|
  fa_cons (ok_iast (show decode (am_mB y_M_clean) 41 = .ok (.iastore, 1) by decide +kernel)) <|
  fa_cons (ok_iinc (show decode (am_mB y_M_clean) 42 = .ok (.iinc 1 1, 3) by decide +kernel) (by decide +kernel) (by decide +kernel)) <|
  fa_cons (ok_stp (σ := am_goto 30) (ok_goto (show decode (am_mB y_M_clean) 45 = .ok (.goto (-15), 3) by decide +kernel) (by decide))) <|
  fa_cons (ok_vret (show decode (am_mB y_M_clean) 48 = .ok (.return_, 1) by decide +kernel) rfl (by decide +kernel)) <|
  fa_nil
set_option maxRecDepth 100000 in
theorem cq_M_clean (l : Launch) (d : Nat) : am_lk (co_M_clean l d) 0 = am_push (vI 0) 1 ∧ am_lk (co_M_clean l d) 1 = am_stp (am_istore 1 2) ∧ am_lk (co_M_clean l d) 2 = am_iload 1 3 ∧ am_lk (co_M_clean l d) 3 = am_push (vI 197) 6 ∧ am_lk (co_M_clean l d) 6 = am_icmp_ge 9 19 ∧ am_lk (co_M_clean l d) 9 = am_aload 0 10 ∧ am_lk (co_M_clean l d) 10 = am_iload 1 11 ∧ am_lk (co_M_clean l d) 11 = am_push (vI 0) 12 ∧ am_lk (co_M_clean l d) 12 = am_ast 0 (fun x => x) 13 ∧ am_lk (co_M_clean l d) 13 = am_iinc 1 1 16 ∧ am_lk (co_M_clean l d) 16 = am_stp (am_goto 2) ∧ am_lk (co_M_clean l d) 19 = am_aload 0 20 ∧ am_lk (co_M_clean l d) 20 = am_push (vI 3) 21 ∧ am_lk (co_M_clean l d) 21 = am_push (vI 20) 23 ∧ am_lk (co_M_clean l d) 23 = am_ast 0 (fun x => x) 24 ∧ am_lk (co_M_clean l d) 24 = am_aload 0 25 ∧ am_lk (co_M_clean l d) 25 = am_push (vI 4) 26 ∧ am_lk (co_M_clean l d) 26 = am_push (vI 1) 27 ∧ am_lk (co_M_clean l d) 27 = am_ast 0 (fun x => x) 28 ∧ am_lk (co_M_clean l d) 28 = am_push (vI 0) 29 ∧ am_lk (co_M_clean l d) 29 = am_stp (am_istore 1 30) ∧ am_lk (co_M_clean l d) 30 = am_iload 1 31 ∧ am_lk (co_M_clean l d) 31 = am_push (vI 6) 33 ∧ am_lk (co_M_clean l d) 33 = am_icmp_ge 36 48 ∧ am_lk (co_M_clean l d) 36 = am_aload 0 37 ∧ am_lk (co_M_clean l d) 37 = am_push (vI 5) 38 ∧ am_lk (co_M_clean l d) 38 = am_iload 1 39 ∧ am_lk (co_M_clean l d) 39 = am_iadd 40 ∧ am_lk (co_M_clean l d) 40 = am_push (vI 1) 41 ∧ am_lk (co_M_clean l d) 41 = am_ast 0 (fun x => x) 42 ∧ am_lk (co_M_clean l d) 42 = am_iinc 1 1 45 ∧ am_lk (co_M_clean l d) 45 = am_stp (am_goto 30) ∧ am_lk (co_M_clean l d) 48 = am_vret := ⟨rfl, rfl, rfl, rfl, rfl, rfl, rfl, rfl, rfl, rfl, rfl, rfl, rfl, rfl, rfl, rfl, rfl, rfl, rfl, rfl, rfl, rfl, rfl, rfl, rfl, rfl, rfl, rfl, rfl, rfl, rfl, rfl, rfl⟩
theorem en_M_clean {l : Launch} {d : Nat} (n : Nat) {as : List am_V} {G : am_G} {I : am_I} {J : am_J} {P : am_P} (hlen : (as.map am_cat).sum ≤ 2) (h : am_go (am_lk (co_M_clean l d)) (am_X l (0, fun _ => 0) (d + 1) y_M_clean P) P n 0 (am_el 2 as) [] 0 0 G I J) : am_T l (d + 1) y_M_clean as G I J P :=
  am_T_of (sc := (0, fun _ => 0)) cf_M_clean (by decide +kernel) (by decide) (by decide +kernel) hlen (am_run (ok_lk _ (ck_M_clean)) n _ _ _ _ _ _ _ _ h)
theorem rn_M_clean {l : Launch} {sc : Nat × (Nat → Int32)} {d : Nat} {P : am_P} (n : Nat) {pc : Nat} {ls : am_L} {st : List am_V} {kc ks : Nat} {G : am_G} {I : am_I} {J : am_J} (h : am_go (am_lk (co_M_clean l d)) (am_X l sc (d + 1) y_M_clean P) P n pc ls st kc ks G I J) : am_X l sc (d + 1) y_M_clean P pc ls st kc ks G I J := am_run (ok_lk _ (ck_M_clean)) n _ _ _ _ _ _ _ _ h
def co_M_remember (l : Launch) (d : Nat) : List (Nat × am_S) := [(0, am_aload 0 1), (1, am_getI 9 9 4), (4, am_push (vI 14) 6), (6, am_icmp_ne 9 37), (9, am_aload 0 10), (10, am_getR 9 8 13), (13, am_push (vI 197) 16), (16, am_aload 0 17), (17, am_getR 9 8 20), (20, am_push (vI 0) 21), (21, am_push (vI 2561) 24), (24, am_cal l d y_M_copy none 5 27 0 0 0 0), (27, am_aload 0 28), (28, am_dup 29), (29, am_getI 9 9 32), (32, am_push (vI 1) 33), (33, am_isub 34), (34, am_putI 9 9 37), (37, am_aload 0 38), (38, am_getR 9 6 41), (41, am_push (vI 0) 42), (42, am_aload 0 43), (43, am_getR 9 8 46), (46, am_push (vI 197) 49), (49, am_aload 0 50), (50, am_getI 9 9 53), (53, am_imul 54), (54, am_push (vI 197) 57), (57, am_cal l d y_M_copy none 5 60 0 0 0 0), (60, am_aload 0 61), (61, am_dup 62), (62, am_getI 9 9 65), (65, am_push (vI 1) 66), (66, am_iadd 67), (67, am_putI 9 9 70), (70, am_vret)]
theorem ck_M_remember {l : Launch} {sc : Nat × (Nat → Int32)} {d : Nat} : ∀ q ∈ co_M_remember l d, am_ok l sc (d + 1) y_M_remember q.1 q.2 :=
  fa_cons (ok_aload_n (show decode (am_mB y_M_remember) 0 = .ok (.aload_n 0, 1) by decide +kernel) rfl) <|
  fa_cons (ok_getI (show decode (am_mB y_M_remember) 1 = .ok (.getfield 51, 3) by decide +kernel) fl_M_51 (by decide +kernel)) <|
  fa_cons (ok_bipush (show decode (am_mB y_M_remember) 4 = .ok (.bipush 14, 2) by decide +kernel) (by decide +kernel)) <|
  fa_cons (ok_icmp_ne (show decode (am_mB y_M_remember) 6 = .ok (.if_icmp .ne 31, 3) by decide +kernel) (by decide)) <|
  fa_cons (ok_aload_n (show decode (am_mB y_M_remember) 9 = .ok (.aload_n 0, 1) by decide +kernel) rfl) <|
  fa_cons (ok_getR (show decode (am_mB y_M_remember) 10 = .ok (.getfield 22, 3) by decide +kernel) fl_M_22 (by decide +kernel)) <|
  fa_cons (ok_sipush (show decode (am_mB y_M_remember) 13 = .ok (.sipush 197, 3) by decide +kernel) (by decide +kernel)) <|
  fa_cons (ok_aload_n (show decode (am_mB y_M_remember) 16 = .ok (.aload_n 0, 1) by decide +kernel) rfl) <|
  fa_cons (ok_getR (show decode (am_mB y_M_remember) 17 = .ok (.getfield 22, 3) by decide +kernel) fl_M_22 (by decide +kernel)) <|
  fa_cons (ok_iconst (show decode (am_mB y_M_remember) 20 = .ok (.iconst 0, 1) by decide +kernel) rfl) <|
  fa_cons (ok_sipush (show decode (am_mB y_M_remember) 21 = .ok (.sipush 2561, 3) by decide +kernel) (by decide +kernel)) <|
  fa_cons (ok_cal ⟨rfl, rfl, rfl, rfl⟩ (ok_callS (show decode (am_mB y_M_remember) 24 = .ok (.invokestatic 54, 3) by decide +kernel) cf_M_copy (by decide +kernel) ml_M_54 cs_M_copy rfl ⟨by decide +kernel, rfl⟩)) <|
  fa_cons (ok_aload_n (show decode (am_mB y_M_remember) 27 = .ok (.aload_n 0, 1) by decide +kernel) rfl) <|
  fa_cons (ok_dup (show decode (am_mB y_M_remember) 28 = .ok (.dup, 1) by decide +kernel)) <|
  fa_cons (ok_getI (show decode (am_mB y_M_remember) 29 = .ok (.getfield 51, 3) by decide +kernel) fl_M_51 (by decide +kernel)) <|
  fa_cons (ok_iconst (show decode (am_mB y_M_remember) 32 = .ok (.iconst 1, 1) by decide +kernel) rfl) <|
  fa_cons (ok_isub (show decode (am_mB y_M_remember) 33 = .ok (.isub, 1) by decide +kernel)) <|
  fa_cons (ok_putI (show decode (am_mB y_M_remember) 34 = .ok (.putfield 51, 3) by decide +kernel) fl_M_51 (by decide +kernel)) <|
  fa_cons (ok_aload_n (show decode (am_mB y_M_remember) 37 = .ok (.aload_n 0, 1) by decide +kernel) rfl) <|
  fa_cons (ok_getR (show decode (am_mB y_M_remember) 38 = .ok (.getfield 16, 3) by decide +kernel) fl_M_16 (by decide +kernel)) <|
  fa_cons (ok_iconst (show decode (am_mB y_M_remember) 41 = .ok (.iconst 0, 1) by decide +kernel) rfl) <|
  fa_cons (ok_aload_n (show decode (am_mB y_M_remember) 42 = .ok (.aload_n 0, 1) by decide +kernel) rfl) <|
  fa_cons (ok_getR (show decode (am_mB y_M_remember) 43 = .ok (.getfield 22, 3) by decide +kernel) fl_M_22 (by decide +kernel)) <|
  fa_cons (ok_sipush (show decode (am_mB y_M_remember) 46 = .ok (.sipush 197, 3) by decide +kernel) (by decide +kernel)) <|
  fa_cons (ok_aload_n (show decode (am_mB y_M_remember) 49 = .ok (.aload_n 0, 1) by decide +kernel) rfl) <|
  fa_cons (ok_getI (show decode (am_mB y_M_remember) 50 = .ok (.getfield 51, 3) by decide +kernel) fl_M_51 (by decide +kernel)) <|
  fa_cons (ok_imul (show decode (am_mB y_M_remember) 53 = .ok (.imul, 1) by decide +kernel)) <|
  fa_cons (ok_sipush (show decode (am_mB y_M_remember) 54 = .ok (.sipush 197, 3) by decide +kernel) (by decide +kernel)) <|
  fa_cons (ok_cal ⟨rfl, rfl, rfl, rfl⟩ (ok_callS (show decode (am_mB y_M_remember) 57 = .ok (.invokestatic 54, 3) by decide +kernel) cf_M_copy (by decide +kernel) ml_M_54 cs_M_copy rfl ⟨by decide +kernel, rfl⟩)) <|
  fa_cons (ok_aload_n (show decode (am_mB y_M_remember) 60 = .ok (.aload_n 0, 1) by decide +kernel) rfl) <|
  fa_cons (ok_dup (show decode (am_mB y_M_remember) 61 = .ok (.dup, 1) by decide +kernel)) <|
  fa_cons (ok_getI (show decode (am_mB y_M_remember) 62 = .ok (.getfield 51, 3) by decide +kernel) fl_M_51 (by decide +kernel)) <|
  fa_cons (ok_iconst (show decode (am_mB y_M_remember) 65 = .ok (.iconst 1, 1) by decide +kernel) rfl) <|
  fa_cons (ok_iadd (show decode (am_mB y_M_remember) 66 = .ok (.iadd, 1) by decide +kernel)) <|
  fa_cons (ok_putI (show decode (am_mB y_M_remember) 67 = .ok (.putfield 51, 3) by decide +kernel) fl_M_51 (by decide +kernel)) <|
  fa_cons (ok_vret (show decode (am_mB y_M_remember) 70 = .ok (.return_, 1) by decide +kernel) rfl (by decide +kernel)) <|
  fa_nil
set_option maxRecDepth 100000 in
theorem cq_M_remember (l : Launch) (d : Nat) : am_lk (co_M_remember l d) 0 = am_aload 0 1 ∧ am_lk (co_M_remember l d) 1 = am_getI 9 9 4 ∧ am_lk (co_M_remember l d) 4 = am_push (vI 14) 6 ∧ am_lk (co_M_remember l d) 6 = am_icmp_ne 9 37 ∧ am_lk (co_M_remember l d) 9 = am_aload 0 10 ∧ am_lk (co_M_remember l d) 10 = am_getR 9 8 13 ∧ am_lk (co_M_remember l d) 13 = am_push (vI 197) 16 ∧ am_lk (co_M_remember l d) 16 = am_aload 0 17 ∧ am_lk (co_M_remember l d) 17 = am_getR 9 8 20 ∧ am_lk (co_M_remember l d) 20 = am_push (vI 0) 21 ∧ am_lk (co_M_remember l d) 21 = am_push (vI 2561) 24 ∧ am_lk (co_M_remember l d) 24 = am_cal l d y_M_copy none 5 27 0 0 0 0 ∧ am_lk (co_M_remember l d) 27 = am_aload 0 28 ∧ am_lk (co_M_remember l d) 28 = am_dup 29 ∧ am_lk (co_M_remember l d) 29 = am_getI 9 9 32 ∧ am_lk (co_M_remember l d) 32 = am_push (vI 1) 33 ∧ am_lk (co_M_remember l d) 33 = am_isub 34 ∧ am_lk (co_M_remember l d) 34 = am_putI 9 9 37 ∧ am_lk (co_M_remember l d) 37 = am_aload 0 38 ∧ am_lk (co_M_remember l d) 38 = am_getR 9 6 41 ∧ am_lk (co_M_remember l d) 41 = am_push (vI 0) 42 ∧ am_lk (co_M_remember l d) 42 = am_aload 0 43 ∧ am_lk (co_M_remember l d) 43 = am_getR 9 8 46 ∧ am_lk (co_M_remember l d) 46 = am_push (vI 197) 49 ∧ am_lk (co_M_remember l d) 49 = am_aload 0 50 ∧ am_lk (co_M_remember l d) 50 = am_getI 9 9 53 ∧ am_lk (co_M_remember l d) 53 = am_imul 54 ∧ am_lk (co_M_remember l d) 54 = am_push (vI 197) 57 ∧ am_lk (co_M_remember l d) 57 = am_cal l d y_M_copy none 5 60 0 0 0 0 ∧ am_lk (co_M_remember l d) 60 = am_aload 0 61 ∧ am_lk (co_M_remember l d) 61 = am_dup 62 ∧ am_lk (co_M_remember l d) 62 = am_getI 9 9 65 ∧ am_lk (co_M_remember l d) 65 = am_push (vI 1) 66 ∧ am_lk (co_M_remember l d) 66 = am_iadd 67 ∧ am_lk (co_M_remember l d) 67 = am_putI 9 9 70 ∧ am_lk (co_M_remember l d) 70 = am_vret := ⟨rfl, rfl, rfl, rfl, rfl, rfl, rfl, rfl, rfl, rfl, rfl, rfl, rfl, rfl, rfl, rfl, rfl, rfl, rfl, rfl, rfl, rfl, rfl, rfl, rfl, rfl, rfl, rfl, rfl, rfl, rfl, rfl, rfl, rfl, rfl, rfl⟩
theorem en_M_remember {l : Launch} {d : Nat} (n : Nat) {as : List am_V} {G : am_G} {I : am_I} {J : am_J} {P : am_P} (hlen : (as.map am_cat).sum ≤ 1) (h : am_go (am_lk (co_M_remember l d)) (am_X l (0, fun _ => 0) (d + 1) y_M_remember P) P n 0 (am_el 1 as) [] 0 0 G I J) : am_T l (d + 1) y_M_remember as G I J P :=
  am_T_of (sc := (0, fun _ => 0)) cf_M_remember (by decide +kernel) (by decide) (by decide +kernel) hlen (am_run (ok_lk _ (ck_M_remember)) n _ _ _ _ _ _ _ _ h)
theorem rn_M_remember {l : Launch} {sc : Nat × (Nat → Int32)} {d : Nat} {P : am_P} (n : Nat) {pc : Nat} {ls : am_L} {st : List am_V} {kc ks : Nat} {G : am_G} {I : am_I} {J : am_J} (h : am_go (am_lk (co_M_remember l d)) (am_X l sc (d + 1) y_M_remember P) P n pc ls st kc ks G I J) : am_X l sc (d + 1) y_M_remember P pc ls st kc ks G I J := am_run (ok_lk _ (ck_M_remember)) n _ _ _ _ _ _ _ _ h
def co_M_begin (l : Launch) (d : Nat) : List (Nat × am_S) := [(0, am_aload 0 1), (1, am_getR 9 6 4), (4, am_push (vI 0) 5), (5, am_aload 0 6), (6, am_getR 9 7 9), (9, am_push (vI 0) 10), (10, am_push (vI 197) 13), (13, am_cal l d y_M_copy none 5 16 0 0 0 0), (16, am_vret)]
theorem ck_M_begin {l : Launch} {sc : Nat × (Nat → Int32)} {d : Nat} : ∀ q ∈ co_M_begin l d, am_ok l sc (d + 1) y_M_begin q.1 q.2 :=
  fa_cons (ok_aload_n (show decode (am_mB y_M_begin) 0 = .ok (.aload_n 0, 1) by decide +kernel) rfl) <|
  fa_cons (ok_getR (show decode (am_mB y_M_begin) 1 = .ok (.getfield 16, 3) by decide +kernel) fl_M_16 (by decide +kernel)) <|
  fa_cons (ok_iconst (show decode (am_mB y_M_begin) 4 = .ok (.iconst 0, 1) by decide +kernel) rfl) <|
  fa_cons (ok_aload_n (show decode (am_mB y_M_begin) 5 = .ok (.aload_n 0, 1) by decide +kernel) rfl) <|
  fa_cons (ok_getR (show decode (am_mB y_M_begin) 6 = .ok (.getfield 19, 3) by decide +kernel) fl_M_19 (by decide +kernel)) <|
  fa_cons (ok_iconst (show decode (am_mB y_M_begin) 9 = .ok (.iconst 0, 1) by decide +kernel) rfl) <|
  fa_cons (ok_sipush (show decode (am_mB y_M_begin) 10 = .ok (.sipush 197, 3) by decide +kernel) (by decide +kernel)) <|
  fa_cons (ok_cal ⟨rfl, rfl, rfl, rfl⟩ (ok_callS (show decode (am_mB y_M_begin) 13 = .ok (.invokestatic 54, 3) by decide +kernel) cf_M_copy (by decide +kernel) ml_M_54 cs_M_copy rfl ⟨by decide +kernel, rfl⟩)) <|
  fa_cons (ok_vret (show decode (am_mB y_M_begin) 16 = .ok (.return_, 1) by decide +kernel) rfl (by decide +kernel)) <|
  fa_nil
set_option maxRecDepth 100000 in
theorem cq_M_begin (l : Launch) (d : Nat) : am_lk (co_M_begin l d) 0 = am_aload 0 1 ∧ am_lk (co_M_begin l d) 1 = am_getR 9 6 4 ∧ am_lk (co_M_begin l d) 4 = am_push (vI 0) 5 ∧ am_lk (co_M_begin l d) 5 = am_aload 0 6 ∧ am_lk (co_M_begin l d) 6 = am_getR 9 7 9 ∧ am_lk (co_M_begin l d) 9 = am_push (vI 0) 10 ∧ am_lk (co_M_begin l d) 10 = am_push (vI 197) 13 ∧ am_lk (co_M_begin l d) 13 = am_cal l d y_M_copy none 5 16 0 0 0 0 ∧ am_lk (co_M_begin l d) 16 = am_vret := ⟨rfl, rfl, rfl, rfl, rfl, rfl, rfl, rfl, rfl⟩
theorem en_M_begin {l : Launch} {d : Nat} (n : Nat) {as : List am_V} {G : am_G} {I : am_I} {J : am_J} {P : am_P} (hlen : (as.map am_cat).sum ≤ 1) (h : am_go (am_lk (co_M_begin l d)) (am_X l (0, fun _ => 0) (d + 1) y_M_begin P) P n 0 (am_el 1 as) [] 0 0 G I J) : am_T l (d + 1) y_M_begin as G I J P :=
  am_T_of (sc := (0, fun _ => 0)) cf_M_begin (by decide +kernel) (by decide) (by decide +kernel) hlen (am_run (ok_lk _ (ck_M_begin)) n _ _ _ _ _ _ _ _ h)
theorem rn_M_begin {l : Launch} {sc : Nat × (Nat → Int32)} {d : Nat} {P : am_P} (n : Nat) {pc : Nat} {ls : am_L} {st : List am_V} {kc ks : Nat} {G : am_G} {I : am_I} {J : am_J} (h : am_go (am_lk (co_M_begin l d)) (am_X l sc (d + 1) y_M_begin P) P n pc ls st kc ks G I J) : am_X l sc (d + 1) y_M_begin P pc ls st kc ks G I J := am_run (ok_lk _ (ck_M_begin)) n _ _ _ _ _ _ _ _ h
def co_M_cell (l : Launch) (d : Nat) : List (Nat × am_S) := [(0, am_push (vI 11) 2), (2, am_push (vI 7) 4), (4, am_iload 0 5), (5, am_imul 6), (6, am_iadd 7), (7, am_iload 1 8), (8, am_iadd 9), (9, am_iret false)]
theorem ck_M_cell {l : Launch} {sc : Nat × (Nat → Int32)} {d : Nat} : ∀ q ∈ co_M_cell l d, am_ok l sc (d + 1) y_M_cell q.1 q.2 :=
  fa_cons (ok_bipush (show decode (am_mB y_M_cell) 0 = .ok (.bipush 11, 2) by decide +kernel) (by decide +kernel)) <|
  fa_cons (ok_bipush (show decode (am_mB y_M_cell) 2 = .ok (.bipush 7, 2) by decide +kernel) (by decide +kernel)) <|
  fa_cons (ok_iload_n (show decode (am_mB y_M_cell) 4 = .ok (.iload_n 0, 1) by decide +kernel) rfl) <|
  fa_cons (ok_imul (show decode (am_mB y_M_cell) 5 = .ok (.imul, 1) by decide +kernel)) <|
  fa_cons (ok_iadd (show decode (am_mB y_M_cell) 6 = .ok (.iadd, 1) by decide +kernel)) <|
  fa_cons (ok_iload_n (show decode (am_mB y_M_cell) 7 = .ok (.iload_n 1, 1) by decide +kernel) rfl) <|
  fa_cons (ok_iadd (show decode (am_mB y_M_cell) 8 = .ok (.iadd, 1) by decide +kernel)) <|
  fa_cons (ok_iret (show decode (am_mB y_M_cell) 9 = .ok (.ireturn, 1) by decide +kernel) rfl) <|
  fa_nil
set_option maxRecDepth 100000 in
theorem cq_M_cell (l : Launch) (d : Nat) : am_lk (co_M_cell l d) 0 = am_push (vI 11) 2 ∧ am_lk (co_M_cell l d) 2 = am_push (vI 7) 4 ∧ am_lk (co_M_cell l d) 4 = am_iload 0 5 ∧ am_lk (co_M_cell l d) 5 = am_imul 6 ∧ am_lk (co_M_cell l d) 6 = am_iadd 7 ∧ am_lk (co_M_cell l d) 7 = am_iload 1 8 ∧ am_lk (co_M_cell l d) 8 = am_iadd 9 ∧ am_lk (co_M_cell l d) 9 = am_iret false := ⟨rfl, rfl, rfl, rfl, rfl, rfl, rfl, rfl⟩
theorem en_M_cell {l : Launch} {d : Nat} (n : Nat) {as : List am_V} {G : am_G} {I : am_I} {J : am_J} {P : am_P} (hlen : (as.map am_cat).sum ≤ 2) (h : am_go (am_lk (co_M_cell l d)) (am_X l (0, fun _ => 0) (d + 1) y_M_cell P) P n 0 (am_el 2 as) [] 0 0 G I J) : am_T l (d + 1) y_M_cell as G I J P :=
  am_T_of (sc := (0, fun _ => 0)) cf_M_cell (by decide +kernel) (by decide) (by decide +kernel) hlen (am_run (ok_lk _ (ck_M_cell)) n _ _ _ _ _ _ _ _ h)
theorem rn_M_cell {l : Launch} {sc : Nat × (Nat → Int32)} {d : Nat} {P : am_P} (n : Nat) {pc : Nat} {ls : am_L} {st : List am_V} {kc ks : Nat} {G : am_G} {I : am_I} {J : am_J} (h : am_go (am_lk (co_M_cell l d)) (am_X l sc (d + 1) y_M_cell P) P n pc ls st kc ks G I J) : am_X l sc (d + 1) y_M_cell P pc ls st kc ks G I J := am_run (ok_lk _ (ck_M_cell)) n _ _ _ _ _ _ _ _ h
def co_M_first (l : Launch) (d : Nat) : List (Nat × am_S) := [(0, am_aload 0 1), (1, am_push (vI 179) 4), (4, am_push (vI 3) 5), (5, am_iload 1 6), (6, am_imul 7), (7, am_iadd 8), (8, am_ald 0 9), (9, am_iret false)]
theorem ck_M_first {l : Launch} {sc : Nat × (Nat → Int32)} {d : Nat} : ∀ q ∈ co_M_first l d, am_ok l sc (d + 1) y_M_first q.1 q.2 :=
  fa_cons (ok_aload_n (show decode (am_mB y_M_first) 0 = .ok (.aload_n 0, 1) by decide +kernel) rfl) <|
  fa_cons (ok_sipush (show decode (am_mB y_M_first) 1 = .ok (.sipush 179, 3) by decide +kernel) (by decide +kernel)) <|
  fa_cons (ok_iconst (show decode (am_mB y_M_first) 4 = .ok (.iconst 3, 1) by decide +kernel) rfl) <|
  fa_cons (ok_iload_n (show decode (am_mB y_M_first) 5 = .ok (.iload_n 1, 1) by decide +kernel) rfl) <|
  fa_cons (ok_imul (show decode (am_mB y_M_first) 6 = .ok (.imul, 1) by decide +kernel)) <|
  fa_cons (ok_iadd (show decode (am_mB y_M_first) 7 = .ok (.iadd, 1) by decide +kernel)) <|
  fa_cons (ok_iald (show decode (am_mB y_M_first) 8 = .ok (.iaload, 1) by decide +kernel)) <|
  fa_cons (ok_iret (show decode (am_mB y_M_first) 9 = .ok (.ireturn, 1) by decide +kernel) rfl) <|
  fa_nil
set_option maxRecDepth 100000 in
theorem cq_M_first (l : Launch) (d : Nat) : am_lk (co_M_first l d) 0 = am_aload 0 1 ∧ am_lk (co_M_first l d) 1 = am_push (vI 179) 4 ∧ am_lk (co_M_first l d) 4 = am_push (vI 3) 5 ∧ am_lk (co_M_first l d) 5 = am_iload 1 6 ∧ am_lk (co_M_first l d) 6 = am_imul 7 ∧ am_lk (co_M_first l d) 7 = am_iadd 8 ∧ am_lk (co_M_first l d) 8 = am_ald 0 9 ∧ am_lk (co_M_first l d) 9 = am_iret false := ⟨rfl, rfl, rfl, rfl, rfl, rfl, rfl, rfl⟩
theorem en_M_first {l : Launch} {d : Nat} (n : Nat) {as : List am_V} {G : am_G} {I : am_I} {J : am_J} {P : am_P} (hlen : (as.map am_cat).sum ≤ 2) (h : am_go (am_lk (co_M_first l d)) (am_X l (0, fun _ => 0) (d + 1) y_M_first P) P n 0 (am_el 2 as) [] 0 0 G I J) : am_T l (d + 1) y_M_first as G I J P :=
  am_T_of (sc := (0, fun _ => 0)) cf_M_first (by decide +kernel) (by decide) (by decide +kernel) hlen (am_run (ok_lk _ (ck_M_first)) n _ _ _ _ _ _ _ _ h)
theorem rn_M_first {l : Launch} {sc : Nat × (Nat → Int32)} {d : Nat} {P : am_P} (n : Nat) {pc : Nat} {ls : am_L} {st : List am_V} {kc ks : Nat} {G : am_G} {I : am_I} {J : am_J} (h : am_go (am_lk (co_M_first l d)) (am_X l sc (d + 1) y_M_first P) P n pc ls st kc ks G I J) : am_X l sc (d + 1) y_M_first P pc ls st kc ks G I J := am_run (ok_lk _ (ck_M_first)) n _ _ _ _ _ _ _ _ h
def co_M_last (l : Launch) (d : Nat) : List (Nat × am_S) := [(0, am_aload 0 1), (1, am_push (vI 179) 4), (4, am_push (vI 3) 5), (5, am_iload 1 6), (6, am_imul 7), (7, am_iadd 8), (8, am_push (vI 1) 9), (9, am_iadd 10), (10, am_ald 0 11), (11, am_iret false)]
theorem ck_M_last {l : Launch} {sc : Nat × (Nat → Int32)} {d : Nat} : ∀ q ∈ co_M_last l d, am_ok l sc (d + 1) y_M_last q.1 q.2 :=
  fa_cons (ok_aload_n (show decode (am_mB y_M_last) 0 = .ok (.aload_n 0, 1) by decide +kernel) rfl) <|
  fa_cons (ok_sipush (show decode (am_mB y_M_last) 1 = .ok (.sipush 179, 3) by decide +kernel) (by decide +kernel)) <|
  fa_cons (ok_iconst (show decode (am_mB y_M_last) 4 = .ok (.iconst 3, 1) by decide +kernel) rfl) <|
  fa_cons (ok_iload_n (show decode (am_mB y_M_last) 5 = .ok (.iload_n 1, 1) by decide +kernel) rfl) <|
  fa_cons (ok_imul (show decode (am_mB y_M_last) 6 = .ok (.imul, 1) by decide +kernel)) <|
  fa_cons (ok_iadd (show decode (am_mB y_M_last) 7 = .ok (.iadd, 1) by decide +kernel)) <|
  fa_cons (ok_iconst (show decode (am_mB y_M_last) 8 = .ok (.iconst 1, 1) by decide +kernel) rfl) <|
  fa_cons (ok_iadd (show decode (am_mB y_M_last) 9 = .ok (.iadd, 1) by decide +kernel)) <|
  fa_cons (ok_iald (show decode (am_mB y_M_last) 10 = .ok (.iaload, 1) by decide +kernel)) <|
  fa_cons (ok_iret (show decode (am_mB y_M_last) 11 = .ok (.ireturn, 1) by decide +kernel) rfl) <|
  fa_nil
set_option maxRecDepth 100000 in
theorem cq_M_last (l : Launch) (d : Nat) : am_lk (co_M_last l d) 0 = am_aload 0 1 ∧ am_lk (co_M_last l d) 1 = am_push (vI 179) 4 ∧ am_lk (co_M_last l d) 4 = am_push (vI 3) 5 ∧ am_lk (co_M_last l d) 5 = am_iload 1 6 ∧ am_lk (co_M_last l d) 6 = am_imul 7 ∧ am_lk (co_M_last l d) 7 = am_iadd 8 ∧ am_lk (co_M_last l d) 8 = am_push (vI 1) 9 ∧ am_lk (co_M_last l d) 9 = am_iadd 10 ∧ am_lk (co_M_last l d) 10 = am_ald 0 11 ∧ am_lk (co_M_last l d) 11 = am_iret false := ⟨rfl, rfl, rfl, rfl, rfl, rfl, rfl, rfl, rfl, rfl⟩
theorem en_M_last {l : Launch} {d : Nat} (n : Nat) {as : List am_V} {G : am_G} {I : am_I} {J : am_J} {P : am_P} (hlen : (as.map am_cat).sum ≤ 2) (h : am_go (am_lk (co_M_last l d)) (am_X l (0, fun _ => 0) (d + 1) y_M_last P) P n 0 (am_el 2 as) [] 0 0 G I J) : am_T l (d + 1) y_M_last as G I J P :=
  am_T_of (sc := (0, fun _ => 0)) cf_M_last (by decide +kernel) (by decide) (by decide +kernel) hlen (am_run (ok_lk _ (ck_M_last)) n _ _ _ _ _ _ _ _ h)
theorem rn_M_last {l : Launch} {sc : Nat × (Nat → Int32)} {d : Nat} {P : am_P} (n : Nat) {pc : Nat} {ls : am_L} {st : List am_V} {kc ks : Nat} {G : am_G} {I : am_I} {J : am_J} (h : am_go (am_lk (co_M_last l d)) (am_X l sc (d + 1) y_M_last P) P n pc ls st kc ks G I J) : am_X l sc (d + 1) y_M_last P pc ls st kc ks G I J := am_run (ok_lk _ (ck_M_last)) n _ _ _ _ _ _ _ _ h
def co_M_mayEnd (l : Launch) (d : Nat) : List (Nat × am_S) := [(0, am_iload 1 1), (1, am_aload 0 2), (2, am_push (vI 1) 3), (3, am_ald 0 4), (4, am_push (vI 1) 5), (5, am_isub 6), (6, am_icmp_eq 9 17), (9, am_aload 0 10), (10, am_iload 1 11), (11, am_cal l d y_M_canCut none 2 14 0 0 0 0), (14, am_if_eq 17 21), (17, am_push (vI 1) 18), (18, am_goto 22), (21, am_push (vI 0) 22), (22, am_iret true)]
theorem ck_M_mayEnd {l : Launch} {sc : Nat × (Nat → Int32)} {d : Nat} : ∀ q ∈ co_M_mayEnd l d, am_ok l sc (d + 1) y_M_mayEnd q.1 q.2 :=
  fa_cons (ok_iload_n (show decode (am_mB y_M_mayEnd) 0 = .ok (.iload_n 1, 1) by decide +kernel) rfl) <|
  fa_cons (ok_aload_n (show decode (am_mB y_M_mayEnd) 1 = .ok (.aload_n 0, 1) by decide +kernel) rfl) <|
  fa_cons (ok_iconst (show decode (am_mB y_M_mayEnd) 2 = .ok (.iconst 1, 1) by decide +kernel) rfl) <|
  fa_cons (ok_iald (show decode (am_mB y_M_mayEnd) 3 = .ok (.iaload, 1) by decide +kernel)) <|
  fa_cons (ok_iconst (show decode (am_mB y_M_mayEnd) 4 = .ok (.iconst 1, 1) by decide +kernel) rfl) <|
  fa_cons (ok_isub (show decode (am_mB y_M_mayEnd) 5 = .ok (.isub, 1) by decide +kernel)) <|
  fa_cons (ok_icmp_eq (show decode (am_mB y_M_mayEnd) 6 = .ok (.if_icmp .eq 11, 3) by decide +kernel) (by decide)) <|
  fa_cons (ok_aload_n (show decode (am_mB y_M_mayEnd) 9 = .ok (.aload_n 0, 1) by decide +kernel) rfl) <|
  fa_cons (ok_iload_n (show decode (am_mB y_M_mayEnd) 10 = .ok (.iload_n 1, 1) by decide +kernel) rfl) <|
  fa_cons (ok_cal ⟨rfl, rfl, rfl, rfl⟩ (ok_callS (show decode (am_mB y_M_mayEnd) 11 = .ok (.invokestatic 58, 3) by decide +kernel) cf_M_canCut (by decide +kernel) ml_M_58 cs_M_canCut rfl ⟨by decide +kernel, rfl⟩)) <|
  fa_cons (ok_if_eq (show decode (am_mB y_M_mayEnd) 14 = .ok (.ifCond .eq 7, 3) by decide +kernel) (by decide)) <|
  fa_cons (ok_iconst (show decode (am_mB y_M_mayEnd) 17 = .ok (.iconst 1, 1) by decide +kernel) rfl) <|
  fa_cons (ok_goto (show decode (am_mB y_M_mayEnd) 18 = .ok (.goto 4, 3) by decide +kernel) (by decide)) <|
  fa_cons (ok_iconst (show decode (am_mB y_M_mayEnd) 21 = .ok (.iconst 0, 1) by decide +kernel) rfl) <|
  fa_cons (ok_iret (show decode (am_mB y_M_mayEnd) 22 = .ok (.ireturn, 1) by decide +kernel) rfl) <|
  fa_nil
set_option maxRecDepth 100000 in
theorem cq_M_mayEnd (l : Launch) (d : Nat) : am_lk (co_M_mayEnd l d) 0 = am_iload 1 1 ∧ am_lk (co_M_mayEnd l d) 1 = am_aload 0 2 ∧ am_lk (co_M_mayEnd l d) 2 = am_push (vI 1) 3 ∧ am_lk (co_M_mayEnd l d) 3 = am_ald 0 4 ∧ am_lk (co_M_mayEnd l d) 4 = am_push (vI 1) 5 ∧ am_lk (co_M_mayEnd l d) 5 = am_isub 6 ∧ am_lk (co_M_mayEnd l d) 6 = am_icmp_eq 9 17 ∧ am_lk (co_M_mayEnd l d) 9 = am_aload 0 10 ∧ am_lk (co_M_mayEnd l d) 10 = am_iload 1 11 ∧ am_lk (co_M_mayEnd l d) 11 = am_cal l d y_M_canCut none 2 14 0 0 0 0 ∧ am_lk (co_M_mayEnd l d) 14 = am_if_eq 17 21 ∧ am_lk (co_M_mayEnd l d) 17 = am_push (vI 1) 18 ∧ am_lk (co_M_mayEnd l d) 18 = am_goto 22 ∧ am_lk (co_M_mayEnd l d) 21 = am_push (vI 0) 22 ∧ am_lk (co_M_mayEnd l d) 22 = am_iret true := ⟨rfl, rfl, rfl, rfl, rfl, rfl, rfl, rfl, rfl, rfl, rfl, rfl, rfl, rfl, rfl⟩
theorem en_M_mayEnd {l : Launch} {d : Nat} (n : Nat) {as : List am_V} {G : am_G} {I : am_I} {J : am_J} {P : am_P} (hlen : (as.map am_cat).sum ≤ 2) (h : am_go (am_lk (co_M_mayEnd l d)) (am_X l (0, fun _ => 0) (d + 1) y_M_mayEnd P) P n 0 (am_el 2 as) [] 0 0 G I J) : am_T l (d + 1) y_M_mayEnd as G I J P :=
  am_T_of (sc := (0, fun _ => 0)) cf_M_mayEnd (by decide +kernel) (by decide) (by decide +kernel) hlen (am_run (ok_lk _ (ck_M_mayEnd)) n _ _ _ _ _ _ _ _ h)
theorem rn_M_mayEnd {l : Launch} {sc : Nat × (Nat → Int32)} {d : Nat} {P : am_P} (n : Nat) {pc : Nat} {ls : am_L} {st : List am_V} {kc ks : Nat} {G : am_G} {I : am_I} {J : am_J} (h : am_go (am_lk (co_M_mayEnd l d)) (am_X l sc (d + 1) y_M_mayEnd P) P n pc ls st kc ks G I J) : am_X l sc (d + 1) y_M_mayEnd P pc ls st kc ks G I J := am_run (ok_lk _ (ck_M_mayEnd)) n _ _ _ _ _ _ _ _ h
def co_M_canCut (l : Launch) (d : Nat) : List (Nat × am_S) := [(0, am_aload 0 1), (1, am_iload 1 2), (2, am_push (vI 2) 3), (3, am_cal l d y_M_cell none 2 6 0 0 0 0), (6, am_ald 0 7), (7, am_if_ne 10 14), (10, am_push (vI 1) 11), (11, am_goto 15), (14, am_push (vI 0) 15), (15, am_istore 2 16), (16, am_push (vI 0) 17), (17, am_stp (am_istore 3 18)), (18, am_iload 3 19), (19, am_aload 0 20), (20, am_push (vI 2) 21), (21, am_ald 0 22), (22, am_icmp_ge 25 74), (25, am_iload 2 26), (26, am_if_eq 29 66), (29, am_aload 0 30), (30, am_push (vI 179) 33), (33, am_push (vI 3) 34), (34, am_iload 3 35), (35, am_imul 36), (36, am_iadd 37), (37, am_push (vI 2) 38), (38, am_iadd 39), (39, am_ald 0 40), (40, am_push (vI 1) 41), (41, am_icmp_eq 44 62), (44, am_iload 1 45), (45, am_aload 0 46), (46, am_iload 3 47), (47, am_cal l d y_M_first none 2 50 0 0 0 0), (50, am_icmp_lt 53 62), (53, am_iload 1 54), (54, am_aload 0 55), (55, am_iload 3 56), (56, am_cal l d y_M_last none 2 59 0 0 0 0), (59, am_icmp_lt 62 66), (62, am_push (vI 1) 63), (63, am_goto 67), (66, am_push (vI 0) 67), (67, am_istore 2 68), (68, am_iinc 3 1 71), (71, am_stp (am_goto 18)), (74, am_iload 2 75), (75, am_iret true)]
theorem ck_M_canCut {l : Launch} {sc : Nat × (Nat → Int32)} {d : Nat} : ∀ q ∈ co_M_canCut l d, am_ok l sc (d + 1) y_M_canCut q.1 q.2 :=
  fa_cons (ok_aload_n (show decode (am_mB y_M_canCut) 0 = .ok (.aload_n 0, 1) by decide +kernel) rfl) <|
  fa_cons (ok_iload_n (show decode (am_mB y_M_canCut) 1 = .ok (.iload_n 1, 1) by decide +kernel) rfl) <|
  fa_cons (ok_iconst (show decode (am_mB y_M_canCut) 2 = .ok (.iconst 2, 1) by decide +kernel) rfl) <|
  fa_cons (ok_cal ⟨rfl, rfl, rfl, rfl⟩ (ok_callS (show decode (am_mB y_M_canCut) 3 = .ok (.invokestatic 62, 3) by decide +kernel) cf_M_cell (by decide +kernel) ml_M_62 cs_M_cell rfl ⟨by decide +kernel, rfl⟩)) <|
  fa_cons (ok_iald (show decode (am_mB y_M_canCut) 6 = .ok (.iaload, 1) by decide +kernel)) <|
  fa_cons (ok_if_ne (show decode (am_mB y_M_canCut) 7 = .ok (.ifCond .ne 7, 3) by decide +kernel) (by decide)) <|
  fa_cons (ok_iconst (show decode (am_mB y_M_canCut) 10 = .ok (.iconst 1, 1) by decide +kernel) rfl) <|
  fa_cons (ok_goto (show decode (am_mB y_M_canCut) 11 = .ok (.goto 4, 3) by decide +kernel) (by decide)) <|
  fa_cons (ok_iconst (show decode (am_mB y_M_canCut) 14 = .ok (.iconst 0, 1) by decide +kernel) rfl) <|
  fa_cons (ok_istore_n (show decode (am_mB y_M_canCut) 15 = .ok (.istore_n 2, 1) by decide +kernel) rfl (by decide +kernel)) <|
  fa_cons (ok_iconst (show decode (am_mB y_M_canCut) 16 = .ok (.iconst 0, 1) by decide +kernel) rfl) <|
  fa_cons (ok_stp (σ := am_istore 3 18) (ok_istore_n (show decode (am_mB y_M_canCut) 17 = .ok (.istore_n 3, 1) by decide +kernel) rfl (by decide +kernel))) <|
  fa_cons (ok_iload_n (show decode (am_mB y_M_canCut) 18 = .ok (.iload_n 3, 1) by decide +kernel) rfl) <|
  fa_cons (ok_aload_n (show decode (am_mB y_M_canCut) 19 = .ok (.aload_n 0, 1) by decide +kernel) rfl) <|
  fa_cons (ok_iconst (show decode (am_mB y_M_canCut) 20 = .ok (.iconst 2, 1) by decide +kernel) rfl) <|
  fa_cons (ok_iald (show decode (am_mB y_M_canCut) 21 = .ok (.iaload, 1) by decide +kernel)) <|
  fa_cons (ok_icmp_ge (show decode (am_mB y_M_canCut) 22 = .ok (.if_icmp .ge 52, 3) by decide +kernel) (by decide)) <|
  fa_cons (ok_iload_n (show decode (am_mB y_M_canCut) 25 = .ok (.iload_n 2, 1) by decide +kernel) rfl) <|
  fa_cons (ok_if_eq (show decode (am_mB y_M_canCut) 26 = .ok (.ifCond .eq 40, 3) by decide +kernel) (by decide)) <|
  fa_cons (ok_aload_n (show decode (am_mB y_M_canCut) 29 = .ok (.aload_n 0, 1) by decide +kernel) rfl) <|
  fa_cons (ok_sipush (show decode (am_mB y_M_canCut) 30 = .ok (.sipush 179, 3) by decide +kernel) (by decide +kernel)) <|
  fa_cons (ok_iconst (show decode (am_mB y_M_canCut) 33 = .ok (.iconst 3, 1) by decide +kernel) rfl) <|
  fa_cons (ok_iload_n (show decode (am_mB y_M_canCut) 34 = .ok (.iload_n 3, 1) by decide +kernel) rfl) <|
  fa_cons (ok_imul (show decode (am_mB y_M_canCut) 35 = .ok (.imul, 1) by decide +kernel)) <|
  fa_cons (ok_iadd (show decode (am_mB y_M_canCut) 36 = .ok (.iadd, 1) by decide +kernel)) <|
  fa_cons (ok_iconst (show decode (am_mB y_M_canCut) 37 = .ok (.iconst 2, 1) by decide +kernel) rfl) <|
  fa_cons (ok_iadd (show decode (am_mB y_M_canCut) 38 = .ok (.iadd, 1) by decide +kernel)) <|
  fa_cons (ok_iald (show decode (am_mB y_M_canCut) 39 = .ok (.iaload, 1) by decide +kernel)) <|
  fa_cons (ok_iconst (show decode (am_mB y_M_canCut) 40 = .ok (.iconst 1, 1) by decide +kernel) rfl) <|
  fa_cons (ok_icmp_eq (show decode (am_mB y_M_canCut) 41 = .ok (.if_icmp .eq 21, 3) by decide +kernel) (by decide)) <|
  fa_cons (ok_iload_n (show decode (am_mB y_M_canCut) 44 = .ok (.iload_n 1, 1) by decide +kernel) rfl) <|
  fa_cons (ok_aload_n (show decode (am_mB y_M_canCut) 45 = .ok (.aload_n 0, 1) by decide +kernel) rfl) <|
  fa_cons (ok_iload_n (show decode (am_mB y_M_canCut) 46 = .ok (.iload_n 3, 1) by decide +kernel) rfl) <|
  fa_cons (ok_cal ⟨rfl, rfl, rfl, rfl⟩ (ok_callS (show decode (am_mB y_M_canCut) 47 = .ok (.invokestatic 66, 3) by decide +kernel) cf_M_first (by decide +kernel) ml_M_66 cs_M_first rfl ⟨by decide +kernel, rfl⟩)) <|
  fa_cons (ok_icmp_lt (show decode (am_mB y_M_canCut) 50 = .ok (.if_icmp .lt 12, 3) by decide +kernel) (by decide)) <|
  fa_cons (ok_iload_n (show decode (am_mB y_M_canCut) 53 = .ok (.iload_n 1, 1) by decide +kernel) rfl) <|
  fa_cons (ok_aload_n (show decode (am_mB y_M_canCut) 54 = .ok (.aload_n 0, 1) by decide +kernel) rfl) <|
  fa_cons (ok_iload_n (show decode (am_mB y_M_canCut) 55 = .ok (.iload_n 3, 1) by decide +kernel) rfl) <|
  fa_cons (ok_cal ⟨rfl, rfl, rfl, rfl⟩ (ok_callS (show decode (am_mB y_M_canCut) 56 = .ok (.invokestatic 70, 3) by decide +kernel) cf_M_last (by decide +kernel) ml_M_70 cs_M_last rfl ⟨by decide +kernel, rfl⟩)) <|
  fa_cons (ok_icmp_lt (show decode (am_mB y_M_canCut) 59 = .ok (.if_icmp .lt 7, 3) by decide +kernel) (by decide)) <|
  fa_cons (ok_iconst (show decode (am_mB y_M_canCut) 62 = .ok (.iconst 1, 1) by decide +kernel) rfl) <|
  fa_cons (ok_goto (show decode (am_mB y_M_canCut) 63 = .ok (.goto 4, 3) by decide +kernel) (by decide)) <|
  fa_cons (ok_iconst (show decode (am_mB y_M_canCut) 66 = .ok (.iconst 0, 1) by decide +kernel) rfl) <|
  fa_cons (ok_istore_n (show decode (am_mB y_M_canCut) 67 = .ok (.istore_n 2, 1) by decide +kernel) rfl (by decide +kernel)) <|
  fa_cons (ok_iinc (show decode (am_mB y_M_canCut) 68 = .ok (.iinc 3 1, 3) by decide +kernel) (by decide +kernel) (by decide +kernel)) <|
  fa_cons (ok_stp (σ := am_goto 18) (ok_goto (show decode (am_mB y_M_canCut) 71 = .ok (.goto (-53), 3) by decide +kernel) (by decide))) <|
  fa_cons (ok_iload_n (show decode (am_mB y_M_canCut) 74 = .ok (.iload_n 2, 1) by decide +kernel) rfl) <|
  fa_cons (ok_iret (show decode (am_mB y_M_canCut) 75 = .ok (.ireturn, 1) by decide +kernel) rfl) <|
  fa_nil
set_option maxRecDepth 100000 in
theorem cq_M_canCut (l : Launch) (d : Nat) : am_lk (co_M_canCut l d) 0 = am_aload 0 1 ∧ am_lk (co_M_canCut l d) 1 = am_iload 1 2 ∧ am_lk (co_M_canCut l d) 2 = am_push (vI 2) 3 ∧ am_lk (co_M_canCut l d) 3 = am_cal l d y_M_cell none 2 6 0 0 0 0 ∧ am_lk (co_M_canCut l d) 6 = am_ald 0 7 ∧ am_lk (co_M_canCut l d) 7 = am_if_ne 10 14 ∧ am_lk (co_M_canCut l d) 10 = am_push (vI 1) 11 ∧ am_lk (co_M_canCut l d) 11 = am_goto 15 ∧ am_lk (co_M_canCut l d) 14 = am_push (vI 0) 15 ∧ am_lk (co_M_canCut l d) 15 = am_istore 2 16 ∧ am_lk (co_M_canCut l d) 16 = am_push (vI 0) 17 ∧ am_lk (co_M_canCut l d) 17 = am_stp (am_istore 3 18) ∧ am_lk (co_M_canCut l d) 18 = am_iload 3 19 ∧ am_lk (co_M_canCut l d) 19 = am_aload 0 20 ∧ am_lk (co_M_canCut l d) 20 = am_push (vI 2) 21 ∧ am_lk (co_M_canCut l d) 21 = am_ald 0 22 ∧ am_lk (co_M_canCut l d) 22 = am_icmp_ge 25 74 ∧ am_lk (co_M_canCut l d) 25 = am_iload 2 26 ∧ am_lk (co_M_canCut l d) 26 = am_if_eq 29 66 ∧ am_lk (co_M_canCut l d) 29 = am_aload 0 30 ∧ am_lk (co_M_canCut l d) 30 = am_push (vI 179) 33 ∧ am_lk (co_M_canCut l d) 33 = am_push (vI 3) 34 ∧ am_lk (co_M_canCut l d) 34 = am_iload 3 35 ∧ am_lk (co_M_canCut l d) 35 = am_imul 36 ∧ am_lk (co_M_canCut l d) 36 = am_iadd 37 ∧ am_lk (co_M_canCut l d) 37 = am_push (vI 2) 38 ∧ am_lk (co_M_canCut l d) 38 = am_iadd 39 ∧ am_lk (co_M_canCut l d) 39 = am_ald 0 40 ∧ am_lk (co_M_canCut l d) 40 = am_push (vI 1) 41 ∧ am_lk (co_M_canCut l d) 41 = am_icmp_eq 44 62 ∧ am_lk (co_M_canCut l d) 44 = am_iload 1 45 ∧ am_lk (co_M_canCut l d) 45 = am_aload 0 46 ∧ am_lk (co_M_canCut l d) 46 = am_iload 3 47 ∧ am_lk (co_M_canCut l d) 47 = am_cal l d y_M_first none 2 50 0 0 0 0 ∧ am_lk (co_M_canCut l d) 50 = am_icmp_lt 53 62 ∧ am_lk (co_M_canCut l d) 53 = am_iload 1 54 ∧ am_lk (co_M_canCut l d) 54 = am_aload 0 55 ∧ am_lk (co_M_canCut l d) 55 = am_iload 3 56 ∧ am_lk (co_M_canCut l d) 56 = am_cal l d y_M_last none 2 59 0 0 0 0 ∧ am_lk (co_M_canCut l d) 59 = am_icmp_lt 62 66 ∧ am_lk (co_M_canCut l d) 62 = am_push (vI 1) 63 ∧ am_lk (co_M_canCut l d) 63 = am_goto 67 ∧ am_lk (co_M_canCut l d) 66 = am_push (vI 0) 67 ∧ am_lk (co_M_canCut l d) 67 = am_istore 2 68 ∧ am_lk (co_M_canCut l d) 68 = am_iinc 3 1 71 ∧ am_lk (co_M_canCut l d) 71 = am_stp (am_goto 18) ∧ am_lk (co_M_canCut l d) 74 = am_iload 2 75 ∧ am_lk (co_M_canCut l d) 75 = am_iret true := ⟨rfl, rfl, rfl, rfl, rfl, rfl, rfl, rfl, rfl, rfl, rfl, rfl, rfl, rfl, rfl, rfl, rfl, rfl, rfl, rfl, rfl, rfl, rfl, rfl, rfl, rfl, rfl, rfl, rfl, rfl, rfl, rfl, rfl, rfl, rfl, rfl, rfl, rfl, rfl, rfl, rfl, rfl, rfl, rfl, rfl, rfl, rfl, rfl⟩
theorem en_M_canCut {l : Launch} {d : Nat} (n : Nat) {as : List am_V} {G : am_G} {I : am_I} {J : am_J} {P : am_P} (hlen : (as.map am_cat).sum ≤ 4) (h : am_go (am_lk (co_M_canCut l d)) (am_X l (0, fun _ => 0) (d + 1) y_M_canCut P) P n 0 (am_el 4 as) [] 0 0 G I J) : am_T l (d + 1) y_M_canCut as G I J P :=
  am_T_of (sc := (0, fun _ => 0)) cf_M_canCut (by decide +kernel) (by decide) (by decide +kernel) hlen (am_run (ok_lk _ (ck_M_canCut)) n _ _ _ _ _ _ _ _ h)
theorem rn_M_canCut {l : Launch} {sc : Nat × (Nat → Int32)} {d : Nat} {P : am_P} (n : Nat) {pc : Nat} {ls : am_L} {st : List am_V} {kc ks : Nat} {G : am_G} {I : am_I} {J : am_J} (h : am_go (am_lk (co_M_canCut l d)) (am_X l sc (d + 1) y_M_canCut P) P n pc ls st kc ks G I J) : am_X l sc (d + 1) y_M_canCut P pc ls st kc ks G I J := am_run (ok_lk _ (ck_M_canCut)) n _ _ _ _ _ _ _ _ h
def co_M_notes (l : Launch) (d : Nat) : List (Nat × am_S) := [(0, am_push (vI 0) 1), (1, am_istore 3 2), (2, am_iload 1 3), (3, am_stp (am_istore 4 5)), (5, am_iload 4 7), (7, am_iload 2 8), (8, am_icmp_gt 11 45), (11, am_aload 0 12), (12, am_iload 4 14), (14, am_push (vI 1) 15), (15, am_cal l d y_M_cell none 2 18 0 0 0 0), (18, am_ald 0 19), (19, am_istore 5 21), (21, am_iload 3 22), (22, am_iload 5 24), (24, am_if_le 27 36), (27, am_push (vI 1) 28), (28, am_iload 5 30), (30, am_push (vI 1) 31), (31, am_isub 32), (32, am_ishl 33), (33, am_goto 37), (36, am_push (vI 0) 37), (37, am_ior 38), (38, am_istore 3 39), (39, am_iinc 4 1 42), (42, am_stp (am_goto 5)), (45, am_iload 3 46), (46, am_iret false)]
theorem ck_M_notes {l : Launch} {sc : Nat × (Nat → Int32)} {d : Nat} : ∀ q ∈ co_M_notes l d, am_ok l sc (d + 1) y_M_notes q.1 q.2 :=
  fa_cons (ok_iconst (show decode (am_mB y_M_notes) 0 = .ok (.iconst 0, 1) by decide +kernel) rfl) <|
  fa_cons (ok_istore_n (show decode (am_mB y_M_notes) 1 = .ok (.istore_n 3, 1) by decide +kernel) rfl (by decide +kernel)) <|
  fa_cons (ok_iload_n (show decode (am_mB y_M_notes) 2 = .ok (.iload_n 1, 1) by decide +kernel) rfl) <|
  fa_cons (ok_stp (σ := am_istore 4 5) (ok_istore (show decode (am_mB y_M_notes) 3 = .ok (.istore 4, 2) by decide +kernel) (by decide +kernel))) <|
  fa_cons (ok_iload (show decode (am_mB y_M_notes) 5 = .ok (.iload 4, 2) by decide +kernel)) <|
  fa_cons (ok_iload_n (show decode (am_mB y_M_notes) 7 = .ok (.iload_n 2, 1) by decide +kernel) rfl) <|
  fa_cons (ok_icmp_gt (show decode (am_mB y_M_notes) 8 = .ok (.if_icmp .gt 37, 3) by decide +kernel) (by decide)) <|
  fa_cons (ok_aload_n (show decode (am_mB y_M_notes) 11 = .ok (.aload_n 0, 1) by decide +kernel) rfl) <|
  fa_cons (ok_iload (show decode (am_mB y_M_notes) 12 = .ok (.iload 4, 2) by decide +kernel)) <|
  fa_cons (ok_iconst (show decode (am_mB y_M_notes) 14 = .ok (.iconst 1, 1) by decide +kernel) rfl) <|
  fa_cons (ok_cal ⟨rfl, rfl, rfl, rfl⟩ (ok_callS (show decode (am_mB y_M_notes) 15 = .ok (.invokestatic 62, 3) by decide +kernel) cf_M_cell (by decide +kernel) ml_M_62 cs_M_cell rfl ⟨by decide +kernel, rfl⟩)) <|
  fa_cons (ok_iald (show decode (am_mB y_M_notes) 18 = .ok (.iaload, 1) by decide +kernel)) <|
  fa_cons (ok_istore (show decode (am_mB y_M_notes) 19 = .ok (.istore 5, 2) by decide +kernel) (by decide +kernel)) <|
  fa_cons (ok_iload_n (show decode (am_mB y_M_notes) 21 = .ok (.iload_n 3, 1) by decide +kernel) rfl) <|
  fa_cons (ok_iload (show decode (am_mB y_M_notes) 22 = .ok (.iload 5, 2) by decide +kernel)) <|
  fa_cons (ok_if_le (show decode (am_mB y_M_notes) 24 = .ok (.ifCond .le 12, 3) by decide +kernel) (by decide)) <|
  fa_cons (ok_iconst (show decode (am_mB y_M_notes) 27 = .ok (.iconst 1, 1) by decide +kernel) rfl) <|
  fa_cons (ok_iload (show decode (am_mB y_M_notes) 28 = .ok (.iload 5, 2) by decide +kernel)) <|
  fa_cons (ok_iconst (show decode (am_mB y_M_notes) 30 = .ok (.iconst 1, 1) by decide +kernel) rfl) <|
  fa_cons (ok_isub (show decode (am_mB y_M_notes) 31 = .ok (.isub, 1) by decide +kernel)) <|
  fa_cons (ok_ishl (show decode (am_mB y_M_notes) 32 = .ok (.ishl, 1) by decide +kernel)) <|
  fa_cons (ok_goto (show decode (am_mB y_M_notes) 33 = .ok (.goto 4, 3) by decide +kernel) (by decide)) <|
  fa_cons (ok_iconst (show decode (am_mB y_M_notes) 36 = .ok (.iconst 0, 1) by decide +kernel) rfl) <|
  fa_cons (ok_ior (show decode (am_mB y_M_notes) 37 = .ok (.ior, 1) by decide +kernel)) <|
  fa_cons (ok_istore_n (show decode (am_mB y_M_notes) 38 = .ok (.istore_n 3, 1) by decide +kernel) rfl (by decide +kernel)) <|
  fa_cons (ok_iinc (show decode (am_mB y_M_notes) 39 = .ok (.iinc 4 1, 3) by decide +kernel) (by decide +kernel) (by decide +kernel)) <|
  fa_cons (ok_stp (σ := am_goto 5) (ok_goto (show decode (am_mB y_M_notes) 42 = .ok (.goto (-37), 3) by decide +kernel) (by decide))) <|
  fa_cons (ok_iload_n (show decode (am_mB y_M_notes) 45 = .ok (.iload_n 3, 1) by decide +kernel) rfl) <|
  fa_cons (ok_iret (show decode (am_mB y_M_notes) 46 = .ok (.ireturn, 1) by decide +kernel) rfl) <|
  fa_nil
set_option maxRecDepth 100000 in
theorem cq_M_notes (l : Launch) (d : Nat) : am_lk (co_M_notes l d) 0 = am_push (vI 0) 1 ∧ am_lk (co_M_notes l d) 1 = am_istore 3 2 ∧ am_lk (co_M_notes l d) 2 = am_iload 1 3 ∧ am_lk (co_M_notes l d) 3 = am_stp (am_istore 4 5) ∧ am_lk (co_M_notes l d) 5 = am_iload 4 7 ∧ am_lk (co_M_notes l d) 7 = am_iload 2 8 ∧ am_lk (co_M_notes l d) 8 = am_icmp_gt 11 45 ∧ am_lk (co_M_notes l d) 11 = am_aload 0 12 ∧ am_lk (co_M_notes l d) 12 = am_iload 4 14 ∧ am_lk (co_M_notes l d) 14 = am_push (vI 1) 15 ∧ am_lk (co_M_notes l d) 15 = am_cal l d y_M_cell none 2 18 0 0 0 0 ∧ am_lk (co_M_notes l d) 18 = am_ald 0 19 ∧ am_lk (co_M_notes l d) 19 = am_istore 5 21 ∧ am_lk (co_M_notes l d) 21 = am_iload 3 22 ∧ am_lk (co_M_notes l d) 22 = am_iload 5 24 ∧ am_lk (co_M_notes l d) 24 = am_if_le 27 36 ∧ am_lk (co_M_notes l d) 27 = am_push (vI 1) 28 ∧ am_lk (co_M_notes l d) 28 = am_iload 5 30 ∧ am_lk (co_M_notes l d) 30 = am_push (vI 1) 31 ∧ am_lk (co_M_notes l d) 31 = am_isub 32 ∧ am_lk (co_M_notes l d) 32 = am_ishl 33 ∧ am_lk (co_M_notes l d) 33 = am_goto 37 ∧ am_lk (co_M_notes l d) 36 = am_push (vI 0) 37 ∧ am_lk (co_M_notes l d) 37 = am_ior 38 ∧ am_lk (co_M_notes l d) 38 = am_istore 3 39 ∧ am_lk (co_M_notes l d) 39 = am_iinc 4 1 42 ∧ am_lk (co_M_notes l d) 42 = am_stp (am_goto 5) ∧ am_lk (co_M_notes l d) 45 = am_iload 3 46 ∧ am_lk (co_M_notes l d) 46 = am_iret false := ⟨rfl, rfl, rfl, rfl, rfl, rfl, rfl, rfl, rfl, rfl, rfl, rfl, rfl, rfl, rfl, rfl, rfl, rfl, rfl, rfl, rfl, rfl, rfl, rfl, rfl, rfl, rfl, rfl, rfl⟩
theorem en_M_notes {l : Launch} {d : Nat} (n : Nat) {as : List am_V} {G : am_G} {I : am_I} {J : am_J} {P : am_P} (hlen : (as.map am_cat).sum ≤ 6) (h : am_go (am_lk (co_M_notes l d)) (am_X l (0, fun _ => 0) (d + 1) y_M_notes P) P n 0 (am_el 6 as) [] 0 0 G I J) : am_T l (d + 1) y_M_notes as G I J P :=
  am_T_of (sc := (0, fun _ => 0)) cf_M_notes (by decide +kernel) (by decide) (by decide +kernel) hlen (am_run (ok_lk _ (ck_M_notes)) n _ _ _ _ _ _ _ _ h)
theorem rn_M_notes {l : Launch} {sc : Nat × (Nat → Int32)} {d : Nat} {P : am_P} (n : Nat) {pc : Nat} {ls : am_L} {st : List am_V} {kc ks : Nat} {G : am_G} {I : am_I} {J : am_J} (h : am_go (am_lk (co_M_notes l d)) (am_X l sc (d + 1) y_M_notes P) P n pc ls st kc ks G I J) : am_X l sc (d + 1) y_M_notes P pc ls st kc ks G I J := am_run (ok_lk _ (ck_M_notes)) n _ _ _ _ _ _ _ _ h
def co_M_names (l : Launch) (d : Nat) : List (Nat × am_S) := [(0, am_push (vI 0) 1), (1, am_istore 2 2), (2, am_push (vI 0) 3), (3, am_stp (am_istore 3 4)), (4, am_iload 3 5), (5, am_aload 0 6), (6, am_push (vI 2) 7), (7, am_ald 0 8), (8, am_icmp_ge 11 43), (11, am_iload 2 12), (12, am_aload 0 13), (13, am_iload 3 14), (14, am_cal l d y_M_first none 2 17 0 0 0 0), (17, am_iload 1 18), (18, am_icmp_ge 21 34), (21, am_aload 0 22), (22, am_iload 3 23), (23, am_cal l d y_M_last none 2 26 0 0 0 0), (26, am_iload 1 27), (27, am_icmp_lt 30 34), (30, am_push (vI 1) 31), (31, am_goto 35), (34, am_push (vI 0) 35), (35, am_iadd 36), (36, am_istore 2 37), (37, am_iinc 3 1 40), (40, am_stp (am_goto 4)), (43, am_iload 2 44), (44, am_iret false)]
theorem ck_M_names {l : Launch} {sc : Nat × (Nat → Int32)} {d : Nat} : ∀ q ∈ co_M_names l d, am_ok l sc (d + 1) y_M_names q.1 q.2 :=
  fa_cons (ok_iconst (show decode (am_mB y_M_names) 0 = .ok (.iconst 0, 1) by decide +kernel) rfl) <|
  fa_cons (ok_istore_n (show decode (am_mB y_M_names) 1 = .ok (.istore_n 2, 1) by decide +kernel) rfl (by decide +kernel)) <|
  fa_cons (ok_iconst (show decode (am_mB y_M_names) 2 = .ok (.iconst 0, 1) by decide +kernel) rfl) <|
  fa_cons (ok_stp (σ := am_istore 3 4) (ok_istore_n (show decode (am_mB y_M_names) 3 = .ok (.istore_n 3, 1) by decide +kernel) rfl (by decide +kernel))) <|
  fa_cons (ok_iload_n (show decode (am_mB y_M_names) 4 = .ok (.iload_n 3, 1) by decide +kernel) rfl) <|
  fa_cons (ok_aload_n (show decode (am_mB y_M_names) 5 = .ok (.aload_n 0, 1) by decide +kernel) rfl) <|
  fa_cons (ok_iconst (show decode (am_mB y_M_names) 6 = .ok (.iconst 2, 1) by decide +kernel) rfl) <|
  fa_cons (ok_iald (show decode (am_mB y_M_names) 7 = .ok (.iaload, 1) by decide +kernel)) <|
  fa_cons (ok_icmp_ge (show decode (am_mB y_M_names) 8 = .ok (.if_icmp .ge 35, 3) by decide +kernel) (by decide)) <|
  fa_cons (ok_iload_n (show decode (am_mB y_M_names) 11 = .ok (.iload_n 2, 1) by decide +kernel) rfl) <|
  fa_cons (ok_aload_n (show decode (am_mB y_M_names) 12 = .ok (.aload_n 0, 1) by decide +kernel) rfl) <|
  fa_cons (ok_iload_n (show decode (am_mB y_M_names) 13 = .ok (.iload_n 3, 1) by decide +kernel) rfl) <|
  fa_cons (ok_cal ⟨rfl, rfl, rfl, rfl⟩ (ok_callS (show decode (am_mB y_M_names) 14 = .ok (.invokestatic 66, 3) by decide +kernel) cf_M_first (by decide +kernel) ml_M_66 cs_M_first rfl ⟨by decide +kernel, rfl⟩)) <|
  fa_cons (ok_iload_n (show decode (am_mB y_M_names) 17 = .ok (.iload_n 1, 1) by decide +kernel) rfl) <|
  fa_cons (ok_icmp_ge (show decode (am_mB y_M_names) 18 = .ok (.if_icmp .ge 16, 3) by decide +kernel) (by decide)) <|
  fa_cons (ok_aload_n (show decode (am_mB y_M_names) 21 = .ok (.aload_n 0, 1) by decide +kernel) rfl) <|
  fa_cons (ok_iload_n (show decode (am_mB y_M_names) 22 = .ok (.iload_n 3, 1) by decide +kernel) rfl) <|
  fa_cons (ok_cal ⟨rfl, rfl, rfl, rfl⟩ (ok_callS (show decode (am_mB y_M_names) 23 = .ok (.invokestatic 70, 3) by decide +kernel) cf_M_last (by decide +kernel) ml_M_70 cs_M_last rfl ⟨by decide +kernel, rfl⟩)) <|
  fa_cons (ok_iload_n (show decode (am_mB y_M_names) 26 = .ok (.iload_n 1, 1) by decide +kernel) rfl) <|
  fa_cons (ok_icmp_lt (show decode (am_mB y_M_names) 27 = .ok (.if_icmp .lt 7, 3) by decide +kernel) (by decide)) <|
  fa_cons (ok_iconst (show decode (am_mB y_M_names) 30 = .ok (.iconst 1, 1) by decide +kernel) rfl) <|
  fa_cons (ok_goto (show decode (am_mB y_M_names) 31 = .ok (.goto 4, 3) by decide +kernel) (by decide)) <|
  fa_cons (ok_iconst (show decode (am_mB y_M_names) 34 = .ok (.iconst 0, 1) by decide +kernel) rfl) <|
  fa_cons (ok_iadd (show decode (am_mB y_M_names) 35 = .ok (.iadd, 1) by decide +kernel)) <|
  fa_cons (ok_istore_n (show decode (am_mB y_M_names) 36 = .ok (.istore_n 2, 1) by decide +kernel) rfl (by decide +kernel)) <|
  fa_cons (ok_iinc (show decode (am_mB y_M_names) 37 = .ok (.iinc 3 1, 3) by decide +kernel) (by decide +kernel) (by decide +kernel)) <|
  fa_cons (ok_stp (σ := am_goto 4) (ok_goto (show decode (am_mB y_M_names) 40 = .ok (.goto (-36), 3) by decide +kernel) (by decide))) <|
  fa_cons (ok_iload_n (show decode (am_mB y_M_names) 43 = .ok (.iload_n 2, 1) by decide +kernel) rfl) <|
  fa_cons (ok_iret (show decode (am_mB y_M_names) 44 = .ok (.ireturn, 1) by decide +kernel) rfl) <|
  fa_nil
set_option maxRecDepth 100000 in
theorem cq_M_names (l : Launch) (d : Nat) : am_lk (co_M_names l d) 0 = am_push (vI 0) 1 ∧ am_lk (co_M_names l d) 1 = am_istore 2 2 ∧ am_lk (co_M_names l d) 2 = am_push (vI 0) 3 ∧ am_lk (co_M_names l d) 3 = am_stp (am_istore 3 4) ∧ am_lk (co_M_names l d) 4 = am_iload 3 5 ∧ am_lk (co_M_names l d) 5 = am_aload 0 6 ∧ am_lk (co_M_names l d) 6 = am_push (vI 2) 7 ∧ am_lk (co_M_names l d) 7 = am_ald 0 8 ∧ am_lk (co_M_names l d) 8 = am_icmp_ge 11 43 ∧ am_lk (co_M_names l d) 11 = am_iload 2 12 ∧ am_lk (co_M_names l d) 12 = am_aload 0 13 ∧ am_lk (co_M_names l d) 13 = am_iload 3 14 ∧ am_lk (co_M_names l d) 14 = am_cal l d y_M_first none 2 17 0 0 0 0 ∧ am_lk (co_M_names l d) 17 = am_iload 1 18 ∧ am_lk (co_M_names l d) 18 = am_icmp_ge 21 34 ∧ am_lk (co_M_names l d) 21 = am_aload 0 22 ∧ am_lk (co_M_names l d) 22 = am_iload 3 23 ∧ am_lk (co_M_names l d) 23 = am_cal l d y_M_last none 2 26 0 0 0 0 ∧ am_lk (co_M_names l d) 26 = am_iload 1 27 ∧ am_lk (co_M_names l d) 27 = am_icmp_lt 30 34 ∧ am_lk (co_M_names l d) 30 = am_push (vI 1) 31 ∧ am_lk (co_M_names l d) 31 = am_goto 35 ∧ am_lk (co_M_names l d) 34 = am_push (vI 0) 35 ∧ am_lk (co_M_names l d) 35 = am_iadd 36 ∧ am_lk (co_M_names l d) 36 = am_istore 2 37 ∧ am_lk (co_M_names l d) 37 = am_iinc 3 1 40 ∧ am_lk (co_M_names l d) 40 = am_stp (am_goto 4) ∧ am_lk (co_M_names l d) 43 = am_iload 2 44 ∧ am_lk (co_M_names l d) 44 = am_iret false := ⟨rfl, rfl, rfl, rfl, rfl, rfl, rfl, rfl, rfl, rfl, rfl, rfl, rfl, rfl, rfl, rfl, rfl, rfl, rfl, rfl, rfl, rfl, rfl, rfl, rfl, rfl, rfl, rfl, rfl⟩
theorem en_M_names {l : Launch} {d : Nat} (n : Nat) {as : List am_V} {G : am_G} {I : am_I} {J : am_J} {P : am_P} (hlen : (as.map am_cat).sum ≤ 4) (h : am_go (am_lk (co_M_names l d)) (am_X l (0, fun _ => 0) (d + 1) y_M_names P) P n 0 (am_el 4 as) [] 0 0 G I J) : am_T l (d + 1) y_M_names as G I J P :=
  am_T_of (sc := (0, fun _ => 0)) cf_M_names (by decide +kernel) (by decide) (by decide +kernel) hlen (am_run (ok_lk _ (ck_M_names)) n _ _ _ _ _ _ _ _ h)
theorem rn_M_names {l : Launch} {sc : Nat × (Nat → Int32)} {d : Nat} {P : am_P} (n : Nat) {pc : Nat} {ls : am_L} {st : List am_V} {kc ks : Nat} {G : am_G} {I : am_I} {J : am_J} (h : am_go (am_lk (co_M_names l d)) (am_X l sc (d + 1) y_M_names P) P n pc ls st kc ks G I J) : am_X l sc (d + 1) y_M_names P pc ls st kc ks G I J := am_run (ok_lk _ (ck_M_names)) n _ _ _ _ _ _ _ _ h
def co_M_lines (l : Launch) (d : Nat) : List (Nat × am_S) := [(0, am_aload 0 1), (1, am_push (vI 4) 2), (2, am_ald 0 3), (3, am_aload 0 4), (4, am_iload 1 5), (5, am_cal l d y_M_names none 2 8 0 0 0 0), (8, am_iadd 9), (9, am_iload 1 10), (10, am_if_le 13 17), (13, am_push (vI 1) 14), (14, am_goto 18), (17, am_push (vI 0) 18), (18, am_iadd 19), (19, am_iload 2 20), (20, am_aload 0 21), (21, am_push (vI 1) 22), (22, am_ald 0 23), (23, am_push (vI 1) 24), (24, am_isub 25), (25, am_icmp_ge 28 32), (28, am_push (vI 1) 29), (29, am_goto 33), (32, am_push (vI 0) 33), (33, am_iadd 34), (34, am_istore 3 35), (35, am_iload 1 36), (36, am_stp (am_istore 4 38)), (38, am_iload 4 40), (40, am_iload 2 41), (41, am_icmp_gt 44 61), (44, am_iload 3 45), (45, am_aload 0 46), (46, am_iload 4 48), (48, am_push (vI 0) 49), (49, am_cal l d y_M_cell none 2 52 0 0 0 0), (52, am_ald 0 53), (53, am_iadd 54), (54, am_istore 3 55), (55, am_iinc 4 1 58), (58, am_stp (am_goto 38)), (61, am_aload 0 62), (62, am_iload 1 63), (63, am_iload 2 64), (64, am_cal l d y_M_notes none 3 67 0 0 0 0), (67, am_istore 4 69), (69, am_push (vI 0) 70), (70, am_stp (am_istore 5 72)), (72, am_iload 5 74), (74, am_push (vI 6) 76), (76, am_icmp_ge 79 108), (79, am_iload 3 80), (80, am_iload 4 82), (82, am_iload 5 84), (84, am_cal l d y_M_has none 2 87 0 0 0 0), (87, am_if_eq 90 99), (90, am_aload 0 91), (91, am_push (vI 5) 92), (92, am_iload 5 94), (94, am_iadd 95), (95, am_ald 0 96), (96, am_goto 100), (99, am_push (vI 0) 100), (100, am_iadd 101), (101, am_istore 3 102), (102, am_iinc 5 1 105), (105, am_stp (am_goto 72)), (108, am_iload 3 109), (109, am_iret false)]
theorem ck_M_lines {l : Launch} {sc : Nat × (Nat → Int32)} {d : Nat} : ∀ q ∈ co_M_lines l d, am_ok l sc (d + 1) y_M_lines q.1 q.2 :=
  fa_cons (ok_aload_n (show decode (am_mB y_M_lines) 0 = .ok (.aload_n 0, 1) by decide +kernel) rfl) <|
  fa_cons (ok_iconst (show decode (am_mB y_M_lines) 1 = .ok (.iconst 4, 1) by decide +kernel) rfl) <|
  fa_cons (ok_iald (show decode (am_mB y_M_lines) 2 = .ok (.iaload, 1) by decide +kernel)) <|
  fa_cons (ok_aload_n (show decode (am_mB y_M_lines) 3 = .ok (.aload_n 0, 1) by decide +kernel) rfl) <|
  fa_cons (ok_iload_n (show decode (am_mB y_M_lines) 4 = .ok (.iload_n 1, 1) by decide +kernel) rfl) <|
  fa_cons (ok_cal ⟨rfl, rfl, rfl, rfl⟩ (ok_callS (show decode (am_mB y_M_lines) 5 = .ok (.invokestatic 73, 3) by decide +kernel) cf_M_names (by decide +kernel) ml_M_73 cs_M_names rfl ⟨by decide +kernel, rfl⟩)) <|
  fa_cons (ok_iadd (show decode (am_mB y_M_lines) 8 = .ok (.iadd, 1) by decide +kernel)) <|
  fa_cons (ok_iload_n (show decode (am_mB y_M_lines) 9 = .ok (.iload_n 1, 1) by decide +kernel) rfl) <|
  fa_cons (ok_if_le (show decode (am_mB y_M_lines) 10 = .ok (.ifCond .le 7, 3) by decide +kernel) (by decide)) <|
  fa_cons (ok_iconst (show decode (am_mB y_M_lines) 13 = .ok (.iconst 1, 1) by decide +kernel) rfl) <|
  fa_cons (ok_goto (show decode (am_mB y_M_lines) 14 = .ok (.goto 4, 3) by decide +kernel) (by decide)) <|
  fa_cons (ok_iconst (show decode (am_mB y_M_lines) 17 = .ok (.iconst 0, 1) by decide +kernel) rfl) <|
  fa_cons (ok_iadd (show decode (am_mB y_M_lines) 18 = .ok (.iadd, 1) by decide +kernel)) <|
  fa_cons (ok_iload_n (show decode (am_mB y_M_lines) 19 = .ok (.iload_n 2, 1) by decide +kernel) rfl) <|
  fa_cons (ok_aload_n (show decode (am_mB y_M_lines) 20 = .ok (.aload_n 0, 1) by decide +kernel) rfl) <|
  fa_cons (ok_iconst (show decode (am_mB y_M_lines) 21 = .ok (.iconst 1, 1) by decide +kernel) rfl) <|
  fa_cons (ok_iald (show decode (am_mB y_M_lines) 22 = .ok (.iaload, 1) by decide +kernel)) <|
  fa_cons (ok_iconst (show decode (am_mB y_M_lines) 23 = .ok (.iconst 1, 1) by decide +kernel) rfl) <|
  fa_cons (ok_isub (show decode (am_mB y_M_lines) 24 = .ok (.isub, 1) by decide +kernel)) <|
  fa_cons (ok_icmp_ge (show decode (am_mB y_M_lines) 25 = .ok (.if_icmp .ge 7, 3) by decide +kernel) (by decide)) <|
  fa_cons (ok_iconst (show decode (am_mB y_M_lines) 28 = .ok (.iconst 1, 1) by decide +kernel) rfl) <|
  fa_cons (ok_goto (show decode (am_mB y_M_lines) 29 = .ok (.goto 4, 3) by decide +kernel) (by decide)) <|
  fa_cons (ok_iconst (show decode (am_mB y_M_lines) 32 = .ok (.iconst 0, 1) by decide +kernel) rfl) <|
  fa_cons (ok_iadd (show decode (am_mB y_M_lines) 33 = .ok (.iadd, 1) by decide +kernel)) <|
  fa_cons (ok_istore_n (show decode (am_mB y_M_lines) 34 = .ok (.istore_n 3, 1) by decide +kernel) rfl (by decide +kernel)) <|
  fa_cons (ok_iload_n (show decode (am_mB y_M_lines) 35 = .ok (.iload_n 1, 1) by decide +kernel) rfl) <|
  fa_cons (ok_stp (σ := am_istore 4 38) (ok_istore (show decode (am_mB y_M_lines) 36 = .ok (.istore 4, 2) by decide +kernel) (by decide +kernel))) <|
  fa_cons (ok_iload (show decode (am_mB y_M_lines) 38 = .ok (.iload 4, 2) by decide +kernel)) <|
  fa_cons (ok_iload_n (show decode (am_mB y_M_lines) 40 = .ok (.iload_n 2, 1) by decide +kernel) rfl) <|
  fa_cons (ok_icmp_gt (show decode (am_mB y_M_lines) 41 = .ok (.if_icmp .gt 20, 3) by decide +kernel) (by decide)) <|
  fa_cons (ok_iload_n (show decode (am_mB y_M_lines) 44 = .ok (.iload_n 3, 1) by decide +kernel) rfl) <|
  fa_cons (ok_aload_n (show decode (am_mB y_M_lines) 45 = .ok (.aload_n 0, 1) by decide +kernel) rfl) <|
  fa_cons (ok_iload (show decode (am_mB y_M_lines) 46 = .ok (.iload 4, 2) by decide +kernel)) <|
  fa_cons (ok_iconst (show decode (am_mB y_M_lines) 48 = .ok (.iconst 0, 1) by decide +kernel) rfl) <|
  fa_cons (ok_cal ⟨rfl, rfl, rfl, rfl⟩ (ok_callS (show decode (am_mB y_M_lines) 49 = .ok (.invokestatic 62, 3) by decide +kernel) cf_M_cell (by decide +kernel) ml_M_62 cs_M_cell rfl ⟨by decide +kernel, rfl⟩)) <|
  fa_cons (ok_iald (show decode (am_mB y_M_lines) 52 = .ok (.iaload, 1) by decide +kernel)) <|
  fa_cons (ok_iadd (show decode (am_mB y_M_lines) 53 = .ok (.iadd, 1) by decide +kernel)) <|
  fa_cons (ok_istore_n (show decode (am_mB y_M_lines) 54 = .ok (.istore_n 3, 1) by decide +kernel) rfl (by decide +kernel)) <|
  fa_cons (ok_iinc (show decode (am_mB y_M_lines) 55 = .ok (.iinc 4 1, 3) by decide +kernel) (by decide +kernel) (by decide +kernel)) <|
  fa_cons (ok_stp (σ := am_goto 38) (ok_goto (show decode (am_mB y_M_lines) 58 = .ok (.goto (-20), 3) by decide +kernel) (by decide))) <|
  fa_cons (ok_aload_n (show decode (am_mB y_M_lines) 61 = .ok (.aload_n 0, 1) by decide +kernel) rfl) <|
  fa_cons (ok_iload_n (show decode (am_mB y_M_lines) 62 = .ok (.iload_n 1, 1) by decide +kernel) rfl) <|
  fa_cons (ok_iload_n (show decode (am_mB y_M_lines) 63 = .ok (.iload_n 2, 1) by decide +kernel) rfl) <|
  fa_cons (ok_cal ⟨rfl, rfl, rfl, rfl⟩ (ok_callS (show decode (am_mB y_M_lines) 64 = .ok (.invokestatic 76, 3) by decide +kernel) cf_M_notes (by decide +kernel) ml_M_76 cs_M_notes rfl ⟨by decide +kernel, rfl⟩)) <|
  fa_cons (ok_istore (show decode (am_mB y_M_lines) 67 = .ok (.istore 4, 2) by decide +kernel) (by decide +kernel)) <|
  fa_cons (ok_iconst (show decode (am_mB y_M_lines) 69 = .ok (.iconst 0, 1) by decide +kernel) rfl) <|
  fa_cons (ok_stp (σ := am_istore 5 72) (ok_istore (show decode (am_mB y_M_lines) 70 = .ok (.istore 5, 2) by decide +kernel) (by decide +kernel))) <|
  fa_cons (ok_iload (show decode (am_mB y_M_lines) 72 = .ok (.iload 5, 2) by decide +kernel)) <|
  fa_cons (ok_bipush (show decode (am_mB y_M_lines) 74 = .ok (.bipush 6, 2) by decide +kernel) (by decide +kernel)) <|
  fa_cons (ok_icmp_ge (show decode (am_mB y_M_lines) 76 = .ok (.if_icmp .ge 32, 3) by decide +kernel) (by decide)) <|
  fa_cons (ok_iload_n (show decode (am_mB y_M_lines) 79 = .ok (.iload_n 3, 1) by decide +kernel) rfl) <|
  fa_cons (ok_iload (show decode (am_mB y_M_lines) 80 = .ok (.iload 4, 2) by decide +kernel)) <|
  fa_cons (ok_iload (show decode (am_mB y_M_lines) 82 = .ok (.iload 5, 2) by decide +kernel)) <|
  fa_cons (ok_cal ⟨rfl, rfl, rfl, rfl⟩ (ok_callS (show decode (am_mB y_M_lines) 84 = .ok (.invokestatic 80, 3) by decide +kernel) cf_M_has (by decide +kernel) ml_M_80 cs_M_has rfl ⟨by decide +kernel, rfl⟩)) <|
  fa_cons (ok_if_eq (show decode (am_mB y_M_lines) 87 = .ok (.ifCond .eq 12, 3) by decide +kernel) (by decide)) <|
  fa_cons (ok_aload_n (show decode (am_mB y_M_lines) 90 = .ok (.aload_n 0, 1) by decide +kernel) rfl) <|
  fa_cons (ok_iconst (show decode (am_mB y_M_lines) 91 = .ok (.iconst 5, 1) by decide +kernel) rfl) <|
  fa_cons (ok_iload (show decode (am_mB y_M_lines) 92 = .ok (.iload 5, 2) by decide +kernel)) <|
  fa_cons (ok_iadd (show decode (am_mB y_M_lines) 94 = .ok (.iadd, 1) by decide +kernel)) <|
  fa_cons (ok_iald (show decode (am_mB y_M_lines) 95 = .ok (.iaload, 1) by decide +kernel)) <|
  fa_cons (ok_goto (show decode (am_mB y_M_lines) 96 = .ok (.goto 4, 3) by decide +kernel) (by decide)) <|
  fa_cons (ok_iconst (show decode (am_mB y_M_lines) 99 = .ok (.iconst 0, 1) by decide +kernel) rfl) <|
  fa_cons (ok_iadd (show decode (am_mB y_M_lines) 100 = .ok (.iadd, 1) by decide +kernel)) <|
  fa_cons (ok_istore_n (show decode (am_mB y_M_lines) 101 = .ok (.istore_n 3, 1) by decide +kernel) rfl (by decide +kernel)) <|
  fa_cons (ok_iinc (show decode (am_mB y_M_lines) 102 = .ok (.iinc 5 1, 3) by decide +kernel) (by decide +kernel) (by decide +kernel)) <|
  fa_cons (ok_stp (σ := am_goto 72) (ok_goto (show decode (am_mB y_M_lines) 105 = .ok (.goto (-33), 3) by decide +kernel) (by decide))) <|
  fa_cons (ok_iload_n (show decode (am_mB y_M_lines) 108 = .ok (.iload_n 3, 1) by decide +kernel) rfl) <|
  fa_cons (ok_iret (show decode (am_mB y_M_lines) 109 = .ok (.ireturn, 1) by decide +kernel) rfl) <|
  fa_nil
set_option maxRecDepth 100000 in
theorem cq_M_lines (l : Launch) (d : Nat) : am_lk (co_M_lines l d) 0 = am_aload 0 1 ∧ am_lk (co_M_lines l d) 1 = am_push (vI 4) 2 ∧ am_lk (co_M_lines l d) 2 = am_ald 0 3 ∧ am_lk (co_M_lines l d) 3 = am_aload 0 4 ∧ am_lk (co_M_lines l d) 4 = am_iload 1 5 ∧ am_lk (co_M_lines l d) 5 = am_cal l d y_M_names none 2 8 0 0 0 0 ∧ am_lk (co_M_lines l d) 8 = am_iadd 9 ∧ am_lk (co_M_lines l d) 9 = am_iload 1 10 ∧ am_lk (co_M_lines l d) 10 = am_if_le 13 17 ∧ am_lk (co_M_lines l d) 13 = am_push (vI 1) 14 ∧ am_lk (co_M_lines l d) 14 = am_goto 18 ∧ am_lk (co_M_lines l d) 17 = am_push (vI 0) 18 ∧ am_lk (co_M_lines l d) 18 = am_iadd 19 ∧ am_lk (co_M_lines l d) 19 = am_iload 2 20 ∧ am_lk (co_M_lines l d) 20 = am_aload 0 21 ∧ am_lk (co_M_lines l d) 21 = am_push (vI 1) 22 ∧ am_lk (co_M_lines l d) 22 = am_ald 0 23 ∧ am_lk (co_M_lines l d) 23 = am_push (vI 1) 24 ∧ am_lk (co_M_lines l d) 24 = am_isub 25 ∧ am_lk (co_M_lines l d) 25 = am_icmp_ge 28 32 ∧ am_lk (co_M_lines l d) 28 = am_push (vI 1) 29 ∧ am_lk (co_M_lines l d) 29 = am_goto 33 ∧ am_lk (co_M_lines l d) 32 = am_push (vI 0) 33 ∧ am_lk (co_M_lines l d) 33 = am_iadd 34 ∧ am_lk (co_M_lines l d) 34 = am_istore 3 35 ∧ am_lk (co_M_lines l d) 35 = am_iload 1 36 ∧ am_lk (co_M_lines l d) 36 = am_stp (am_istore 4 38) ∧ am_lk (co_M_lines l d) 38 = am_iload 4 40 ∧ am_lk (co_M_lines l d) 40 = am_iload 2 41 ∧ am_lk (co_M_lines l d) 41 = am_icmp_gt 44 61 ∧ am_lk (co_M_lines l d) 44 = am_iload 3 45 ∧ am_lk (co_M_lines l d) 45 = am_aload 0 46 ∧ am_lk (co_M_lines l d) 46 = am_iload 4 48 ∧ am_lk (co_M_lines l d) 48 = am_push (vI 0) 49 ∧ am_lk (co_M_lines l d) 49 = am_cal l d y_M_cell none 2 52 0 0 0 0 ∧ am_lk (co_M_lines l d) 52 = am_ald 0 53 ∧ am_lk (co_M_lines l d) 53 = am_iadd 54 ∧ am_lk (co_M_lines l d) 54 = am_istore 3 55 ∧ am_lk (co_M_lines l d) 55 = am_iinc 4 1 58 ∧ am_lk (co_M_lines l d) 58 = am_stp (am_goto 38) ∧ am_lk (co_M_lines l d) 61 = am_aload 0 62 ∧ am_lk (co_M_lines l d) 62 = am_iload 1 63 ∧ am_lk (co_M_lines l d) 63 = am_iload 2 64 ∧ am_lk (co_M_lines l d) 64 = am_cal l d y_M_notes none 3 67 0 0 0 0 ∧ am_lk (co_M_lines l d) 67 = am_istore 4 69 ∧ am_lk (co_M_lines l d) 69 = am_push (vI 0) 70 ∧ am_lk (co_M_lines l d) 70 = am_stp (am_istore 5 72) ∧ am_lk (co_M_lines l d) 72 = am_iload 5 74 ∧ am_lk (co_M_lines l d) 74 = am_push (vI 6) 76 ∧ am_lk (co_M_lines l d) 76 = am_icmp_ge 79 108 ∧ am_lk (co_M_lines l d) 79 = am_iload 3 80 ∧ am_lk (co_M_lines l d) 80 = am_iload 4 82 ∧ am_lk (co_M_lines l d) 82 = am_iload 5 84 ∧ am_lk (co_M_lines l d) 84 = am_cal l d y_M_has none 2 87 0 0 0 0 ∧ am_lk (co_M_lines l d) 87 = am_if_eq 90 99 ∧ am_lk (co_M_lines l d) 90 = am_aload 0 91 ∧ am_lk (co_M_lines l d) 91 = am_push (vI 5) 92 ∧ am_lk (co_M_lines l d) 92 = am_iload 5 94 ∧ am_lk (co_M_lines l d) 94 = am_iadd 95 ∧ am_lk (co_M_lines l d) 95 = am_ald 0 96 ∧ am_lk (co_M_lines l d) 96 = am_goto 100 ∧ am_lk (co_M_lines l d) 99 = am_push (vI 0) 100 ∧ am_lk (co_M_lines l d) 100 = am_iadd 101 ∧ am_lk (co_M_lines l d) 101 = am_istore 3 102 ∧ am_lk (co_M_lines l d) 102 = am_iinc 5 1 105 ∧ am_lk (co_M_lines l d) 105 = am_stp (am_goto 72) ∧ am_lk (co_M_lines l d) 108 = am_iload 3 109 ∧ am_lk (co_M_lines l d) 109 = am_iret false := ⟨rfl, rfl, rfl, rfl, rfl, rfl, rfl, rfl, rfl, rfl, rfl, rfl, rfl, rfl, rfl, rfl, rfl, rfl, rfl, rfl, rfl, rfl, rfl, rfl, rfl, rfl, rfl, rfl, rfl, rfl, rfl, rfl, rfl, rfl, rfl, rfl, rfl, rfl, rfl, rfl, rfl, rfl, rfl, rfl, rfl, rfl, rfl, rfl, rfl, rfl, rfl, rfl, rfl, rfl, rfl, rfl, rfl, rfl, rfl, rfl, rfl, rfl, rfl, rfl, rfl, rfl, rfl, rfl⟩
theorem en_M_lines {l : Launch} {d : Nat} (n : Nat) {as : List am_V} {G : am_G} {I : am_I} {J : am_J} {P : am_P} (hlen : (as.map am_cat).sum ≤ 6) (h : am_go (am_lk (co_M_lines l d)) (am_X l (0, fun _ => 0) (d + 1) y_M_lines P) P n 0 (am_el 6 as) [] 0 0 G I J) : am_T l (d + 1) y_M_lines as G I J P :=
  am_T_of (sc := (0, fun _ => 0)) cf_M_lines (by decide +kernel) (by decide) (by decide +kernel) hlen (am_run (ok_lk _ (ck_M_lines)) n _ _ _ _ _ _ _ _ h)
theorem rn_M_lines {l : Launch} {sc : Nat × (Nat → Int32)} {d : Nat} {P : am_P} (n : Nat) {pc : Nat} {ls : am_L} {st : List am_V} {kc ks : Nat} {G : am_G} {I : am_I} {J : am_J} (h : am_go (am_lk (co_M_lines l d)) (am_X l sc (d + 1) y_M_lines P) P n pc ls st kc ks G I J) : am_X l sc (d + 1) y_M_lines P pc ls st kc ks G I J := am_run (ok_lk _ (ck_M_lines)) n _ _ _ _ _ _ _ _ h
def co_M_lastFor (l : Launch) (d : Nat) : List (Nat × am_S) := [(0, am_aload 0 1), (1, am_push (vI 1) 2), (2, am_ald 0 3), (3, am_push (vI 1) 4), (4, am_isub 5), (5, am_stp (am_istore 2 6)), (6, am_iload 2 7), (7, am_iload 1 8), (8, am_icmp_lt 11 39), (11, am_aload 0 12), (12, am_iload 2 13), (13, am_cal l d y_M_mayEnd none 2 16 0 0 0 0), (16, am_if_eq 19 33), (19, am_aload 0 20), (20, am_iload 1 21), (21, am_iload 2 22), (22, am_cal l d y_M_lines none 3 25 0 0 0 0), (25, am_aload 0 26), (26, am_push (vI 3) 27), (27, am_ald 0 28), (28, am_icmp_gt 31 33), (31, am_iload 2 32), (32, am_iret false), (33, am_iinc 2 (-1) 36), (36, am_stp (am_goto 6)), (39, am_push (vI (-999999)) 41), (41, am_iret false)]
theorem ck_M_lastFor {l : Launch} {sc : Nat × (Nat → Int32)} {d : Nat} : ∀ q ∈ co_M_lastFor l d, am_ok l sc (d + 1) y_M_lastFor q.1 q.2 :=
  fa_cons (ok_aload_n (show decode (am_mB y_M_lastFor) 0 = .ok (.aload_n 0, 1) by decide +kernel) rfl) <|
  fa_cons (ok_iconst (show decode (am_mB y_M_lastFor) 1 = .ok (.iconst 1, 1) by decide +kernel) rfl) <|
  fa_cons (ok_iald (show decode (am_mB y_M_lastFor) 2 = .ok (.iaload, 1) by decide +kernel)) <|
  fa_cons (ok_iconst (show decode (am_mB y_M_lastFor) 3 = .ok (.iconst 1, 1) by decide +kernel) rfl) <|
  fa_cons (ok_isub (show decode (am_mB y_M_lastFor) 4 = .ok (.isub, 1) by decide +kernel)) <|
  fa_cons (ok_stp (σ := am_istore 2 6) (ok_istore_n (show decode (am_mB y_M_lastFor) 5 = .ok (.istore_n 2, 1) by decide +kernel) rfl (by decide +kernel))) <|
  fa_cons (ok_iload_n (show decode (am_mB y_M_lastFor) 6 = .ok (.iload_n 2, 1) by decide +kernel) rfl) <|
  fa_cons (ok_iload_n (show decode (am_mB y_M_lastFor) 7 = .ok (.iload_n 1, 1) by decide +kernel) rfl) <|
  fa_cons (ok_icmp_lt (show decode (am_mB y_M_lastFor) 8 = .ok (.if_icmp .lt 31, 3) by decide +kernel) (by decide)) <|
  fa_cons (ok_aload_n (show decode (am_mB y_M_lastFor) 11 = .ok (.aload_n 0, 1) by decide +kernel) rfl) <|
  fa_cons (ok_iload_n (show decode (am_mB y_M_lastFor) 12 = .ok (.iload_n 2, 1) by decide +kernel) rfl) <|
  fa_cons (ok_cal ⟨rfl, rfl, rfl, rfl⟩ (ok_callS (show decode (am_mB y_M_lastFor) 13 = .ok (.invokestatic 84, 3) by decide +kernel) cf_M_mayEnd (by decide +kernel) ml_M_84 cs_M_mayEnd rfl ⟨by decide +kernel, rfl⟩)) <|
  fa_cons (ok_if_eq (show decode (am_mB y_M_lastFor) 16 = .ok (.ifCond .eq 17, 3) by decide +kernel) (by decide)) <|
  fa_cons (ok_aload_n (show decode (am_mB y_M_lastFor) 19 = .ok (.aload_n 0, 1) by decide +kernel) rfl) <|
  fa_cons (ok_iload_n (show decode (am_mB y_M_lastFor) 20 = .ok (.iload_n 1, 1) by decide +kernel) rfl) <|
  fa_cons (ok_iload_n (show decode (am_mB y_M_lastFor) 21 = .ok (.iload_n 2, 1) by decide +kernel) rfl) <|
  fa_cons (ok_cal ⟨rfl, rfl, rfl, rfl⟩ (ok_callS (show decode (am_mB y_M_lastFor) 22 = .ok (.invokestatic 87, 3) by decide +kernel) cf_M_lines (by decide +kernel) ml_M_87 cs_M_lines rfl ⟨by decide +kernel, rfl⟩)) <|
  fa_cons (ok_aload_n (show decode (am_mB y_M_lastFor) 25 = .ok (.aload_n 0, 1) by decide +kernel) rfl) <|
  fa_cons (ok_iconst (show decode (am_mB y_M_lastFor) 26 = .ok (.iconst 3, 1) by decide +kernel) rfl) <|
  fa_cons (ok_iald (show decode (am_mB y_M_lastFor) 27 = .ok (.iaload, 1) by decide +kernel)) <|
  fa_cons (ok_icmp_gt (show decode (am_mB y_M_lastFor) 28 = .ok (.if_icmp .gt 5, 3) by decide +kernel) (by decide)) <|
  fa_cons (ok_iload_n (show decode (am_mB y_M_lastFor) 31 = .ok (.iload_n 2, 1) by decide +kernel) rfl) <|
  fa_cons (ok_iret (show decode (am_mB y_M_lastFor) 32 = .ok (.ireturn, 1) by decide +kernel) rfl) <|
  fa_cons (ok_iinc (show decode (am_mB y_M_lastFor) 33 = .ok (.iinc 2 (-1), 3) by decide +kernel) (by decide +kernel) (by decide +kernel)) <|
  fa_cons (ok_stp (σ := am_goto 6) (ok_goto (show decode (am_mB y_M_lastFor) 36 = .ok (.goto (-30), 3) by decide +kernel) (by decide))) <|
  fa_cons (ok_ldc (show decode (am_mB y_M_lastFor) 39 = .ok (.ldc 90, 2) by decide +kernel) w_1057) <|
  fa_cons (ok_iret (show decode (am_mB y_M_lastFor) 41 = .ok (.ireturn, 1) by decide +kernel) rfl) <|
  fa_nil
set_option maxRecDepth 100000 in
theorem cq_M_lastFor (l : Launch) (d : Nat) : am_lk (co_M_lastFor l d) 0 = am_aload 0 1 ∧ am_lk (co_M_lastFor l d) 1 = am_push (vI 1) 2 ∧ am_lk (co_M_lastFor l d) 2 = am_ald 0 3 ∧ am_lk (co_M_lastFor l d) 3 = am_push (vI 1) 4 ∧ am_lk (co_M_lastFor l d) 4 = am_isub 5 ∧ am_lk (co_M_lastFor l d) 5 = am_stp (am_istore 2 6) ∧ am_lk (co_M_lastFor l d) 6 = am_iload 2 7 ∧ am_lk (co_M_lastFor l d) 7 = am_iload 1 8 ∧ am_lk (co_M_lastFor l d) 8 = am_icmp_lt 11 39 ∧ am_lk (co_M_lastFor l d) 11 = am_aload 0 12 ∧ am_lk (co_M_lastFor l d) 12 = am_iload 2 13 ∧ am_lk (co_M_lastFor l d) 13 = am_cal l d y_M_mayEnd none 2 16 0 0 0 0 ∧ am_lk (co_M_lastFor l d) 16 = am_if_eq 19 33 ∧ am_lk (co_M_lastFor l d) 19 = am_aload 0 20 ∧ am_lk (co_M_lastFor l d) 20 = am_iload 1 21 ∧ am_lk (co_M_lastFor l d) 21 = am_iload 2 22 ∧ am_lk (co_M_lastFor l d) 22 = am_cal l d y_M_lines none 3 25 0 0 0 0 ∧ am_lk (co_M_lastFor l d) 25 = am_aload 0 26 ∧ am_lk (co_M_lastFor l d) 26 = am_push (vI 3) 27 ∧ am_lk (co_M_lastFor l d) 27 = am_ald 0 28 ∧ am_lk (co_M_lastFor l d) 28 = am_icmp_gt 31 33 ∧ am_lk (co_M_lastFor l d) 31 = am_iload 2 32 ∧ am_lk (co_M_lastFor l d) 32 = am_iret false ∧ am_lk (co_M_lastFor l d) 33 = am_iinc 2 (-1) 36 ∧ am_lk (co_M_lastFor l d) 36 = am_stp (am_goto 6) ∧ am_lk (co_M_lastFor l d) 39 = am_push (vI (-999999)) 41 ∧ am_lk (co_M_lastFor l d) 41 = am_iret false := ⟨rfl, rfl, rfl, rfl, rfl, rfl, rfl, rfl, rfl, rfl, rfl, rfl, rfl, rfl, rfl, rfl, rfl, rfl, rfl, rfl, rfl, rfl, rfl, rfl, rfl, rfl, rfl⟩
theorem en_M_lastFor {l : Launch} {d : Nat} (n : Nat) {as : List am_V} {G : am_G} {I : am_I} {J : am_J} {P : am_P} (hlen : (as.map am_cat).sum ≤ 3) (h : am_go (am_lk (co_M_lastFor l d)) (am_X l (0, fun _ => 0) (d + 1) y_M_lastFor P) P n 0 (am_el 3 as) [] 0 0 G I J) : am_T l (d + 1) y_M_lastFor as G I J P :=
  am_T_of (sc := (0, fun _ => 0)) cf_M_lastFor (by decide +kernel) (by decide) (by decide +kernel) hlen (am_run (ok_lk _ (ck_M_lastFor)) n _ _ _ _ _ _ _ _ h)
theorem rn_M_lastFor {l : Launch} {sc : Nat × (Nat → Int32)} {d : Nat} {P : am_P} (n : Nat) {pc : Nat} {ls : am_L} {st : List am_V} {kc ks : Nat} {G : am_G} {I : am_I} {J : am_J} (h : am_go (am_lk (co_M_lastFor l d)) (am_X l sc (d + 1) y_M_lastFor P) P n pc ls st kc ks G I J) : am_X l sc (d + 1) y_M_lastFor P pc ls st kc ks G I J := am_run (ok_lk _ (ck_M_lastFor)) n _ _ _ _ _ _ _ _ h
def co_M_endOf (l : Launch) (d : Nat) : List (Nat × am_S) := [(0, am_aload 0 1), (1, am_iload 1 2), (2, am_cal l d y_M_lastFor none 2 5 0 0 0 0), (5, am_istore 2 6), (6, am_iload 2 7), (7, am_push (vI (-999999)) 9), (9, am_icmp_eq 12 14), (12, am_iload 2 13), (13, am_iret false), (14, am_iload 1 15), (15, am_stp (am_istore 2 16)), (16, am_aload 0 17), (17, am_iload 2 18), (18, am_cal l d y_M_mayEnd none 2 21 0 0 0 0), (21, am_if_ne 24 30), (24, am_iinc 2 1 27), (27, am_stp (am_goto 16)), (30, am_iload 2 31), (31, am_iret false)]
theorem ck_M_endOf {l : Launch} {sc : Nat × (Nat → Int32)} {d : Nat} : ∀ q ∈ co_M_endOf l d, am_ok l sc (d + 1) y_M_endOf q.1 q.2 :=
  fa_cons (ok_aload_n (show decode (am_mB y_M_endOf) 0 = .ok (.aload_n 0, 1) by decide +kernel) rfl) <|
  fa_cons (ok_iload_n (show decode (am_mB y_M_endOf) 1 = .ok (.iload_n 1, 1) by decide +kernel) rfl) <|
  fa_cons (ok_cal ⟨rfl, rfl, rfl, rfl⟩ (ok_callS (show decode (am_mB y_M_endOf) 2 = .ok (.invokestatic 91, 3) by decide +kernel) cf_M_lastFor (by decide +kernel) ml_M_91 cs_M_lastFor rfl ⟨by decide +kernel, rfl⟩)) <|
  fa_cons (ok_istore_n (show decode (am_mB y_M_endOf) 5 = .ok (.istore_n 2, 1) by decide +kernel) rfl (by decide +kernel)) <|
  fa_cons (ok_iload_n (show decode (am_mB y_M_endOf) 6 = .ok (.iload_n 2, 1) by decide +kernel) rfl) <|
  fa_cons (ok_ldc (show decode (am_mB y_M_endOf) 7 = .ok (.ldc 90, 2) by decide +kernel) w_1057) <|
  fa_cons (ok_icmp_eq (show decode (am_mB y_M_endOf) 9 = .ok (.if_icmp .eq 5, 3) by decide +kernel) (by decide)) <|
  fa_cons (ok_iload_n (show decode (am_mB y_M_endOf) 12 = .ok (.iload_n 2, 1) by decide +kernel) rfl) <|
  fa_cons (ok_iret (show decode (am_mB y_M_endOf) 13 = .ok (.ireturn, 1) by decide +kernel) rfl) <|
  fa_cons (ok_iload_n (show decode (am_mB y_M_endOf) 14 = .ok (.iload_n 1, 1) by decide +kernel) rfl) <|
  fa_cons (ok_stp (σ := am_istore 2 16) (ok_istore_n (show decode (am_mB y_M_endOf) 15 = .ok (.istore_n 2, 1) by decide +kernel) rfl (by decide +kernel))) <|
  fa_cons (ok_aload_n (show decode (am_mB y_M_endOf) 16 = .ok (.aload_n 0, 1) by decide +kernel) rfl) <|
  fa_cons (ok_iload_n (show decode (am_mB y_M_endOf) 17 = .ok (.iload_n 2, 1) by decide +kernel) rfl) <|
  fa_cons (ok_cal ⟨rfl, rfl, rfl, rfl⟩ (ok_callS (show decode (am_mB y_M_endOf) 18 = .ok (.invokestatic 84, 3) by decide +kernel) cf_M_mayEnd (by decide +kernel) ml_M_84 cs_M_mayEnd rfl ⟨by decide +kernel, rfl⟩)) <|
  fa_cons (ok_if_ne (show decode (am_mB y_M_endOf) 21 = .ok (.ifCond .ne 9, 3) by decide +kernel) (by decide)) <|
  fa_cons (ok_iinc (show decode (am_mB y_M_endOf) 24 = .ok (.iinc 2 1, 3) by decide +kernel) (by decide +kernel) (by decide +kernel)) <|
  fa_cons (ok_stp (σ := am_goto 16) (ok_goto (show decode (am_mB y_M_endOf) 27 = .ok (.goto (-11), 3) by decide +kernel) (by decide))) <|
  fa_cons (ok_iload_n (show decode (am_mB y_M_endOf) 30 = .ok (.iload_n 2, 1) by decide +kernel) rfl) <|
  fa_cons (ok_iret (show decode (am_mB y_M_endOf) 31 = .ok (.ireturn, 1) by decide +kernel) rfl) <|
  fa_nil
set_option maxRecDepth 100000 in
theorem cq_M_endOf (l : Launch) (d : Nat) : am_lk (co_M_endOf l d) 0 = am_aload 0 1 ∧ am_lk (co_M_endOf l d) 1 = am_iload 1 2 ∧ am_lk (co_M_endOf l d) 2 = am_cal l d y_M_lastFor none 2 5 0 0 0 0 ∧ am_lk (co_M_endOf l d) 5 = am_istore 2 6 ∧ am_lk (co_M_endOf l d) 6 = am_iload 2 7 ∧ am_lk (co_M_endOf l d) 7 = am_push (vI (-999999)) 9 ∧ am_lk (co_M_endOf l d) 9 = am_icmp_eq 12 14 ∧ am_lk (co_M_endOf l d) 12 = am_iload 2 13 ∧ am_lk (co_M_endOf l d) 13 = am_iret false ∧ am_lk (co_M_endOf l d) 14 = am_iload 1 15 ∧ am_lk (co_M_endOf l d) 15 = am_stp (am_istore 2 16) ∧ am_lk (co_M_endOf l d) 16 = am_aload 0 17 ∧ am_lk (co_M_endOf l d) 17 = am_iload 2 18 ∧ am_lk (co_M_endOf l d) 18 = am_cal l d y_M_mayEnd none 2 21 0 0 0 0 ∧ am_lk (co_M_endOf l d) 21 = am_if_ne 24 30 ∧ am_lk (co_M_endOf l d) 24 = am_iinc 2 1 27 ∧ am_lk (co_M_endOf l d) 27 = am_stp (am_goto 16) ∧ am_lk (co_M_endOf l d) 30 = am_iload 2 31 ∧ am_lk (co_M_endOf l d) 31 = am_iret false := ⟨rfl, rfl, rfl, rfl, rfl, rfl, rfl, rfl, rfl, rfl, rfl, rfl, rfl, rfl, rfl, rfl, rfl, rfl, rfl⟩
theorem en_M_endOf {l : Launch} {d : Nat} (n : Nat) {as : List am_V} {G : am_G} {I : am_I} {J : am_J} {P : am_P} (hlen : (as.map am_cat).sum ≤ 3) (h : am_go (am_lk (co_M_endOf l d)) (am_X l (0, fun _ => 0) (d + 1) y_M_endOf P) P n 0 (am_el 3 as) [] 0 0 G I J) : am_T l (d + 1) y_M_endOf as G I J P :=
  am_T_of (sc := (0, fun _ => 0)) cf_M_endOf (by decide +kernel) (by decide) (by decide +kernel) hlen (am_run (ok_lk _ (ck_M_endOf)) n _ _ _ _ _ _ _ _ h)
theorem rn_M_endOf {l : Launch} {sc : Nat × (Nat → Int32)} {d : Nat} {P : am_P} (n : Nat) {pc : Nat} {ls : am_L} {st : List am_V} {kc ks : Nat} {G : am_G} {I : am_I} {J : am_J} (h : am_go (am_lk (co_M_endOf l d)) (am_X l sc (d + 1) y_M_endOf P) P n pc ls st kc ks G I J) : am_X l sc (d + 1) y_M_endOf P pc ls st kc ks G I J := am_run (ok_lk _ (ck_M_endOf)) n _ _ _ _ _ _ _ _ h
def co_M_lay (l : Launch) (d : Nat) : List (Nat × am_S) := [(0, am_aload 0 1), (1, am_push (vI 0) 2), (2, am_putI 9 13 5), (5, am_push (vI 0) 6), (6, am_stp (am_istore 2 7)), (7, am_iload 2 8), (8, am_aload 1 9), (9, am_push (vI 1) 10), (10, am_ald 0 11), (11, am_icmp_ge 14 53), (14, am_aload 0 15), (15, am_getR 9 12 18), (18, am_aload 0 19), (19, am_getI 9 13 22), (22, am_aload 1 23), (23, am_iload 2 24), (24, am_cal l d y_M_endOf none 2 27 0 0 0 0), (27, am_ast 0 (fun x => x) 28), (28, am_aload 0 29), (29, am_getR 9 12 32), (32, am_aload 0 33), (33, am_getI 9 13 36), (36, am_ald 0 37), (37, am_push (vI 1) 38), (38, am_iadd 39), (39, am_istore 2 40), (40, am_aload 0 41), (41, am_dup 42), (42, am_getI 9 13 45), (45, am_push (vI 1) 46), (46, am_iadd 47), (47, am_putI 9 13 50), (50, am_stp (am_goto 7)), (53, am_aload 0 54), (54, am_getI 9 13 57), (57, am_iret false)]
theorem ck_M_lay {l : Launch} {sc : Nat × (Nat → Int32)} {d : Nat} : ∀ q ∈ co_M_lay l d, am_ok l sc (d + 1) y_M_lay q.1 q.2 :=
  fa_cons (ok_aload_n (show decode (am_mB y_M_lay) 0 = .ok (.aload_n 0, 1) by decide +kernel) rfl) <|
  fa_cons (ok_iconst (show decode (am_mB y_M_lay) 1 = .ok (.iconst 0, 1) by decide +kernel) rfl) <|
  fa_cons (ok_putI (show decode (am_mB y_M_lay) 2 = .ok (.putfield 94, 3) by decide +kernel) fl_M_94 (by decide +kernel)) <|
  fa_cons (ok_iconst (show decode (am_mB y_M_lay) 5 = .ok (.iconst 0, 1) by decide +kernel) rfl) <|
  fa_cons (ok_stp (σ := am_istore 2 7) (ok_istore_n (show decode (am_mB y_M_lay) 6 = .ok (.istore_n 2, 1) by decide +kernel) rfl (by decide +kernel))) <|
  fa_cons (ok_iload_n (show decode (am_mB y_M_lay) 7 = .ok (.iload_n 2, 1) by decide +kernel) rfl) <|
  fa_cons (ok_aload_n (show decode (am_mB y_M_lay) 8 = .ok (.aload_n 1, 1) by decide +kernel) rfl) <|
  fa_cons (ok_iconst (show decode (am_mB y_M_lay) 9 = .ok (.iconst 1, 1) by decide +kernel) rfl) <|
  fa_cons (ok_iald (show decode (am_mB y_M_lay) 10 = .ok (.iaload, 1) by decide +kernel)) <|
  fa_cons (ok_icmp_ge (show decode (am_mB y_M_lay) 11 = .ok (.if_icmp .ge 42, 3) by decide +kernel) (by decide)) <|
  fa_cons (ok_aload_n (show decode (am_mB y_M_lay) 14 = .ok (.aload_n 0, 1) by decide +kernel) rfl) <|
  fa_cons (ok_getR (show decode (am_mB y_M_lay) 15 = .ok (.getfield 32, 3) by decide +kernel) fl_M_32 (by decide +kernel)) <|
  fa_cons (ok_aload_n (show decode (am_mB y_M_lay) 18 = .ok (.aload_n 0, 1) by decide +kernel) rfl) <|
  fa_cons (ok_getI (show decode (am_mB y_M_lay) 19 = .ok (.getfield 94, 3) by decide +kernel) fl_M_94 (by decide +kernel)) <|
  fa_cons (ok_aload_n (show decode (am_mB y_M_lay) 22 = .ok (.aload_n 1, 1) by decide +kernel) rfl) <|
  fa_cons (ok_iload_n (show decode (am_mB y_M_lay) 23 = .ok (.iload_n 2, 1) by decide +kernel) rfl) <|
  fa_cons (ok_cal ⟨rfl, rfl, rfl, rfl⟩ (ok_callS (show decode (am_mB y_M_lay) 24 = .ok (.invokestatic 97, 3) by decide +kernel) cf_M_endOf (by decide +kernel) ml_M_97 cs_M_endOf rfl ⟨by decide +kernel, rfl⟩)) <|
  fa_cons (ok_iast (show decode (am_mB y_M_lay) 27 = .ok (.iastore, 1) by decide +kernel)) <|
  fa_cons (ok_aload_n (show decode (am_mB y_M_lay) 28 = .ok (.aload_n 0, 1) by decide +kernel) rfl) <|
  fa_cons (ok_getR (show decode (am_mB y_M_lay) 29 = .ok (.getfield 32, 3) by decide +kernel) fl_M_32 (by decide +kernel)) <|
  fa_cons (ok_aload_n (show decode (am_mB y_M_lay) 32 = .ok (.aload_n 0, 1) by decide +kernel) rfl) <|
  fa_cons (ok_getI (show decode (am_mB y_M_lay) 33 = .ok (.getfield 94, 3) by decide +kernel) fl_M_94 (by decide +kernel)) <|
  fa_cons (ok_iald (show decode (am_mB y_M_lay) 36 = .ok (.iaload, 1) by decide +kernel)) <|
  fa_cons (ok_iconst (show decode (am_mB y_M_lay) 37 = .ok (.iconst 1, 1) by decide +kernel) rfl) <|
  fa_cons (ok_iadd (show decode (am_mB y_M_lay) 38 = .ok (.iadd, 1) by decide +kernel)) <|
  fa_cons (ok_istore_n (show decode (am_mB y_M_lay) 39 = .ok (.istore_n 2, 1) by decide +kernel) rfl (by decide +kernel)) <|
  fa_cons (ok_aload_n (show decode (am_mB y_M_lay) 40 = .ok (.aload_n 0, 1) by decide +kernel) rfl) <|
  fa_cons (ok_dup (show decode (am_mB y_M_lay) 41 = .ok (.dup, 1) by decide +kernel)) <|
  fa_cons (ok_getI (show decode (am_mB y_M_lay) 42 = .ok (.getfield 94, 3) by decide +kernel) fl_M_94 (by decide +kernel)) <|
  fa_cons (ok_iconst (show decode (am_mB y_M_lay) 45 = .ok (.iconst 1, 1) by decide +kernel) rfl) <|
  fa_cons (ok_iadd (show decode (am_mB y_M_lay) 46 = .ok (.iadd, 1) by decide +kernel)) <|
  fa_cons (ok_putI (show decode (am_mB y_M_lay) 47 = .ok (.putfield 94, 3) by decide +kernel) fl_M_94 (by decide +kernel)) <|
  fa_cons (ok_stp (σ := am_goto 7) (ok_goto (show decode (am_mB y_M_lay) 50 = .ok (.goto (-43), 3) by decide +kernel) (by decide))) <|
  fa_cons (ok_aload_n (show decode (am_mB y_M_lay) 53 = .ok (.aload_n 0, 1) by decide +kernel) rfl) <|
  fa_cons (ok_getI (show decode (am_mB y_M_lay) 54 = .ok (.getfield 94, 3) by decide +kernel) fl_M_94 (by decide +kernel)) <|
  fa_cons (ok_iret (show decode (am_mB y_M_lay) 57 = .ok (.ireturn, 1) by decide +kernel) rfl) <|
  fa_nil
set_option maxRecDepth 100000 in
theorem cq_M_lay (l : Launch) (d : Nat) : am_lk (co_M_lay l d) 0 = am_aload 0 1 ∧ am_lk (co_M_lay l d) 1 = am_push (vI 0) 2 ∧ am_lk (co_M_lay l d) 2 = am_putI 9 13 5 ∧ am_lk (co_M_lay l d) 5 = am_push (vI 0) 6 ∧ am_lk (co_M_lay l d) 6 = am_stp (am_istore 2 7) ∧ am_lk (co_M_lay l d) 7 = am_iload 2 8 ∧ am_lk (co_M_lay l d) 8 = am_aload 1 9 ∧ am_lk (co_M_lay l d) 9 = am_push (vI 1) 10 ∧ am_lk (co_M_lay l d) 10 = am_ald 0 11 ∧ am_lk (co_M_lay l d) 11 = am_icmp_ge 14 53 ∧ am_lk (co_M_lay l d) 14 = am_aload 0 15 ∧ am_lk (co_M_lay l d) 15 = am_getR 9 12 18 ∧ am_lk (co_M_lay l d) 18 = am_aload 0 19 ∧ am_lk (co_M_lay l d) 19 = am_getI 9 13 22 ∧ am_lk (co_M_lay l d) 22 = am_aload 1 23 ∧ am_lk (co_M_lay l d) 23 = am_iload 2 24 ∧ am_lk (co_M_lay l d) 24 = am_cal l d y_M_endOf none 2 27 0 0 0 0 ∧ am_lk (co_M_lay l d) 27 = am_ast 0 (fun x => x) 28 ∧ am_lk (co_M_lay l d) 28 = am_aload 0 29 ∧ am_lk (co_M_lay l d) 29 = am_getR 9 12 32 ∧ am_lk (co_M_lay l d) 32 = am_aload 0 33 ∧ am_lk (co_M_lay l d) 33 = am_getI 9 13 36 ∧ am_lk (co_M_lay l d) 36 = am_ald 0 37 ∧ am_lk (co_M_lay l d) 37 = am_push (vI 1) 38 ∧ am_lk (co_M_lay l d) 38 = am_iadd 39 ∧ am_lk (co_M_lay l d) 39 = am_istore 2 40 ∧ am_lk (co_M_lay l d) 40 = am_aload 0 41 ∧ am_lk (co_M_lay l d) 41 = am_dup 42 ∧ am_lk (co_M_lay l d) 42 = am_getI 9 13 45 ∧ am_lk (co_M_lay l d) 45 = am_push (vI 1) 46 ∧ am_lk (co_M_lay l d) 46 = am_iadd 47 ∧ am_lk (co_M_lay l d) 47 = am_putI 9 13 50 ∧ am_lk (co_M_lay l d) 50 = am_stp (am_goto 7) ∧ am_lk (co_M_lay l d) 53 = am_aload 0 54 ∧ am_lk (co_M_lay l d) 54 = am_getI 9 13 57 ∧ am_lk (co_M_lay l d) 57 = am_iret false := ⟨rfl, rfl, rfl, rfl, rfl, rfl, rfl, rfl, rfl, rfl, rfl, rfl, rfl, rfl, rfl, rfl, rfl, rfl, rfl, rfl, rfl, rfl, rfl, rfl, rfl, rfl, rfl, rfl, rfl, rfl, rfl, rfl, rfl, rfl, rfl, rfl⟩
theorem en_M_lay {l : Launch} {d : Nat} (n : Nat) {as : List am_V} {G : am_G} {I : am_I} {J : am_J} {P : am_P} (hlen : (as.map am_cat).sum ≤ 3) (h : am_go (am_lk (co_M_lay l d)) (am_X l (0, fun _ => 0) (d + 1) y_M_lay P) P n 0 (am_el 3 as) [] 0 0 G I J) : am_T l (d + 1) y_M_lay as G I J P :=
  am_T_of (sc := (0, fun _ => 0)) cf_M_lay (by decide +kernel) (by decide) (by decide +kernel) hlen (am_run (ok_lk _ (ck_M_lay)) n _ _ _ _ _ _ _ _ h)
theorem rn_M_lay {l : Launch} {sc : Nat × (Nat → Int32)} {d : Nat} {P : am_P} (n : Nat) {pc : Nat} {ls : am_L} {st : List am_V} {kc ks : Nat} {G : am_G} {I : am_I} {J : am_J} (h : am_go (am_lk (co_M_lay l d)) (am_X l sc (d + 1) y_M_lay P) P n pc ls st kc ks G I J) : am_X l sc (d + 1) y_M_lay P pc ls st kc ks G I J := am_run (ok_lk _ (ck_M_lay)) n _ _ _ _ _ _ _ _ h
def co_M_startOf (l : Launch) (d : Nat) : List (Nat × am_S) := [(0, am_iload 1 1), (1, am_if_ne 4 8), (4, am_push (vI 0) 5), (5, am_goto 18), (8, am_aload 0 9), (9, am_getR 9 12 12), (12, am_iload 1 13), (13, am_push (vI 1) 14), (14, am_isub 15), (15, am_ald 0 16), (16, am_push (vI 1) 17), (17, am_iadd 18), (18, am_iret false)]
theorem ck_M_startOf {l : Launch} {sc : Nat × (Nat → Int32)} {d : Nat} : ∀ q ∈ co_M_startOf l d, am_ok l sc (d + 1) y_M_startOf q.1 q.2 :=
  fa_cons (ok_iload_n (show decode (am_mB y_M_startOf) 0 = .ok (.iload_n 1, 1) by decide +kernel) rfl) <|
  fa_cons (ok_if_ne (show decode (am_mB y_M_startOf) 1 = .ok (.ifCond .ne 7, 3) by decide +kernel) (by decide)) <|
  fa_cons (ok_iconst (show decode (am_mB y_M_startOf) 4 = .ok (.iconst 0, 1) by decide +kernel) rfl) <|
  fa_cons (ok_goto (show decode (am_mB y_M_startOf) 5 = .ok (.goto 13, 3) by decide +kernel) (by decide)) <|
  fa_cons (ok_aload_n (show decode (am_mB y_M_startOf) 8 = .ok (.aload_n 0, 1) by decide +kernel) rfl) <|
  fa_cons (ok_getR (show decode (am_mB y_M_startOf) 9 = .ok (.getfield 32, 3) by decide +kernel) fl_M_32 (by decide +kernel)) <|
  fa_cons (ok_iload_n (show decode (am_mB y_M_startOf) 12 = .ok (.iload_n 1, 1) by decide +kernel) rfl) <|
  fa_cons (ok_iconst (show decode (am_mB y_M_startOf) 13 = .ok (.iconst 1, 1) by decide +kernel) rfl) <|
  fa_cons (ok_isub (show decode (am_mB y_M_startOf) 14 = .ok (.isub, 1) by decide +kernel)) <|
  fa_cons (ok_iald (show decode (am_mB y_M_startOf) 15 = .ok (.iaload, 1) by decide +kernel)) <|
  fa_cons (ok_iconst (show decode (am_mB y_M_startOf) 16 = .ok (.iconst 1, 1) by decide +kernel) rfl) <|
  fa_cons (ok_iadd (show decode (am_mB y_M_startOf) 17 = .ok (.iadd, 1) by decide +kernel)) <|
  fa_cons (ok_iret (show decode (am_mB y_M_startOf) 18 = .ok (.ireturn, 1) by decide +kernel) rfl) <|
  fa_nil
set_option maxRecDepth 100000 in
theorem cq_M_startOf (l : Launch) (d : Nat) : am_lk (co_M_startOf l d) 0 = am_iload 1 1 ∧ am_lk (co_M_startOf l d) 1 = am_if_ne 4 8 ∧ am_lk (co_M_startOf l d) 4 = am_push (vI 0) 5 ∧ am_lk (co_M_startOf l d) 5 = am_goto 18 ∧ am_lk (co_M_startOf l d) 8 = am_aload 0 9 ∧ am_lk (co_M_startOf l d) 9 = am_getR 9 12 12 ∧ am_lk (co_M_startOf l d) 12 = am_iload 1 13 ∧ am_lk (co_M_startOf l d) 13 = am_push (vI 1) 14 ∧ am_lk (co_M_startOf l d) 14 = am_isub 15 ∧ am_lk (co_M_startOf l d) 15 = am_ald 0 16 ∧ am_lk (co_M_startOf l d) 16 = am_push (vI 1) 17 ∧ am_lk (co_M_startOf l d) 17 = am_iadd 18 ∧ am_lk (co_M_startOf l d) 18 = am_iret false := ⟨rfl, rfl, rfl, rfl, rfl, rfl, rfl, rfl, rfl, rfl, rfl, rfl, rfl⟩
theorem en_M_startOf {l : Launch} {d : Nat} (n : Nat) {as : List am_V} {G : am_G} {I : am_I} {J : am_J} {P : am_P} (hlen : (as.map am_cat).sum ≤ 2) (h : am_go (am_lk (co_M_startOf l d)) (am_X l (0, fun _ => 0) (d + 1) y_M_startOf P) P n 0 (am_el 2 as) [] 0 0 G I J) : am_T l (d + 1) y_M_startOf as G I J P :=
  am_T_of (sc := (0, fun _ => 0)) cf_M_startOf (by decide +kernel) (by decide) (by decide +kernel) hlen (am_run (ok_lk _ (ck_M_startOf)) n _ _ _ _ _ _ _ _ h)
theorem rn_M_startOf {l : Launch} {sc : Nat × (Nat → Int32)} {d : Nat} {P : am_P} (n : Nat) {pc : Nat} {ls : am_L} {st : List am_V} {kc ks : Nat} {G : am_G} {I : am_I} {J : am_J} (h : am_go (am_lk (co_M_startOf l d)) (am_X l sc (d + 1) y_M_startOf P) P n pc ls st kc ks G I J) : am_X l sc (d + 1) y_M_startOf P pc ls st kc ks G I J := am_run (ok_lk _ (ck_M_startOf)) n _ _ _ _ _ _ _ _ h
def co_M_overfull (l : Launch) (d : Nat) : List (Nat × am_S) := [(0, am_push (vI 0) 1), (1, am_istore 2 2), (2, am_push (vI 0) 3), (3, am_stp (am_istore 3 4)), (4, am_iload 3 5), (5, am_aload 0 6), (6, am_getI 9 13 9), (9, am_icmp_ge 12 47), (12, am_iload 2 13), (13, am_aload 1 14), (14, am_aload 0 15), (15, am_iload 3 16), (16, am_cal l d y_M_startOf (some 9) 2 19 0 0 0 0), (19, am_aload 0 20), (20, am_getR 9 12 23), (23, am_iload 3 24), (24, am_ald 0 25), (25, am_cal l d y_M_lines none 3 28 0 0 0 0), (28, am_aload 1 29), (29, am_push (vI 3) 30), (30, am_ald 0 31), (31, am_icmp_le 34 38), (34, am_push (vI 1) 35), (35, am_goto 39), (38, am_push (vI 0) 39), (39, am_iadd 40), (40, am_istore 2 41), (41, am_iinc 3 1 44), (44, am_stp (am_goto 4)), (47, am_iload 2 48), (48, am_iret false)]
theorem ck_M_overfull {l : Launch} {sc : Nat × (Nat → Int32)} {d : Nat} : ∀ q ∈ co_M_overfull l d, am_ok l sc (d + 1) y_M_overfull q.1 q.2 :=
  fa_cons (ok_iconst (show decode (am_mB y_M_overfull) 0 = .ok (.iconst 0, 1) by decide +kernel) rfl) <|
  fa_cons (ok_istore_n (show decode (am_mB y_M_overfull) 1 = .ok (.istore_n 2, 1) by decide +kernel) rfl (by decide +kernel)) <|
  fa_cons (ok_iconst (show decode (am_mB y_M_overfull) 2 = .ok (.iconst 0, 1) by decide +kernel) rfl) <|
  fa_cons (ok_stp (σ := am_istore 3 4) (ok_istore_n (show decode (am_mB y_M_overfull) 3 = .ok (.istore_n 3, 1) by decide +kernel) rfl (by decide +kernel))) <|
  fa_cons (ok_iload_n (show decode (am_mB y_M_overfull) 4 = .ok (.iload_n 3, 1) by decide +kernel) rfl) <|
  fa_cons (ok_aload_n (show decode (am_mB y_M_overfull) 5 = .ok (.aload_n 0, 1) by decide +kernel) rfl) <|
  fa_cons (ok_getI (show decode (am_mB y_M_overfull) 6 = .ok (.getfield 94, 3) by decide +kernel) fl_M_94 (by decide +kernel)) <|
  fa_cons (ok_icmp_ge (show decode (am_mB y_M_overfull) 9 = .ok (.if_icmp .ge 38, 3) by decide +kernel) (by decide)) <|
  fa_cons (ok_iload_n (show decode (am_mB y_M_overfull) 12 = .ok (.iload_n 2, 1) by decide +kernel) rfl) <|
  fa_cons (ok_aload_n (show decode (am_mB y_M_overfull) 13 = .ok (.aload_n 1, 1) by decide +kernel) rfl) <|
  fa_cons (ok_aload_n (show decode (am_mB y_M_overfull) 14 = .ok (.aload_n 0, 1) by decide +kernel) rfl) <|
  fa_cons (ok_iload_n (show decode (am_mB y_M_overfull) 15 = .ok (.iload_n 3, 1) by decide +kernel) rfl) <|
  fa_cons (ok_cal ⟨rfl, rfl, rfl, rfl⟩ (ok_callV (show decode (am_mB y_M_overfull) 16 = .ok (.invokevirtual 100, 3) by decide +kernel) cf_M_startOf (by decide +kernel) ml_M_100 ci_M_startOf cv_M_startOf ⟨by decide, rfl⟩ rfl ⟨by decide +kernel, rfl⟩)) <|
  fa_cons (ok_aload_n (show decode (am_mB y_M_overfull) 19 = .ok (.aload_n 0, 1) by decide +kernel) rfl) <|
  fa_cons (ok_getR (show decode (am_mB y_M_overfull) 20 = .ok (.getfield 32, 3) by decide +kernel) fl_M_32 (by decide +kernel)) <|
  fa_cons (ok_iload_n (show decode (am_mB y_M_overfull) 23 = .ok (.iload_n 3, 1) by decide +kernel) rfl) <|
  fa_cons (ok_iald (show decode (am_mB y_M_overfull) 24 = .ok (.iaload, 1) by decide +kernel)) <|
  fa_cons (ok_cal ⟨rfl, rfl, rfl, rfl⟩ (ok_callS (show decode (am_mB y_M_overfull) 25 = .ok (.invokestatic 87, 3) by decide +kernel) cf_M_lines (by decide +kernel) ml_M_87 cs_M_lines rfl ⟨by decide +kernel, rfl⟩)) <|
  fa_cons (ok_aload_n (show decode (am_mB y_M_overfull) 28 = .ok (.aload_n 1, 1) by decide +kernel) rfl) <|
  fa_cons (ok_iconst (show decode (am_mB y_M_overfull) 29 = .ok (.iconst 3, 1) by decide +kernel) rfl) <|
  fa_cons (ok_iald (show decode (am_mB y_M_overfull) 30 = .ok (.iaload, 1) by decide +kernel)) <|
  fa_cons (ok_icmp_le (show decode (am_mB y_M_overfull) 31 = .ok (.if_icmp .le 7, 3) by decide +kernel) (by decide)) <|
  fa_cons (ok_iconst (show decode (am_mB y_M_overfull) 34 = .ok (.iconst 1, 1) by decide +kernel) rfl) <|
  fa_cons (ok_goto (show decode (am_mB y_M_overfull) 35 = .ok (.goto 4, 3) by decide +kernel) (by decide)) <|
  fa_cons (ok_iconst (show decode (am_mB y_M_overfull) 38 = .ok (.iconst 0, 1) by decide +kernel) rfl) <|
  fa_cons (ok_iadd (show decode (am_mB y_M_overfull) 39 = .ok (.iadd, 1) by decide +kernel)) <|
  fa_cons (ok_istore_n (show decode (am_mB y_M_overfull) 40 = .ok (.istore_n 2, 1) by decide +kernel) rfl (by decide +kernel)) <|
  fa_cons (ok_iinc (show decode (am_mB y_M_overfull) 41 = .ok (.iinc 3 1, 3) by decide +kernel) (by decide +kernel) (by decide +kernel)) <|
  fa_cons (ok_stp (σ := am_goto 4) (ok_goto (show decode (am_mB y_M_overfull) 44 = .ok (.goto (-40), 3) by decide +kernel) (by decide))) <|
  fa_cons (ok_iload_n (show decode (am_mB y_M_overfull) 47 = .ok (.iload_n 2, 1) by decide +kernel) rfl) <|
  fa_cons (ok_iret (show decode (am_mB y_M_overfull) 48 = .ok (.ireturn, 1) by decide +kernel) rfl) <|
  fa_nil
set_option maxRecDepth 100000 in
theorem cq_M_overfull (l : Launch) (d : Nat) : am_lk (co_M_overfull l d) 0 = am_push (vI 0) 1 ∧ am_lk (co_M_overfull l d) 1 = am_istore 2 2 ∧ am_lk (co_M_overfull l d) 2 = am_push (vI 0) 3 ∧ am_lk (co_M_overfull l d) 3 = am_stp (am_istore 3 4) ∧ am_lk (co_M_overfull l d) 4 = am_iload 3 5 ∧ am_lk (co_M_overfull l d) 5 = am_aload 0 6 ∧ am_lk (co_M_overfull l d) 6 = am_getI 9 13 9 ∧ am_lk (co_M_overfull l d) 9 = am_icmp_ge 12 47 ∧ am_lk (co_M_overfull l d) 12 = am_iload 2 13 ∧ am_lk (co_M_overfull l d) 13 = am_aload 1 14 ∧ am_lk (co_M_overfull l d) 14 = am_aload 0 15 ∧ am_lk (co_M_overfull l d) 15 = am_iload 3 16 ∧ am_lk (co_M_overfull l d) 16 = am_cal l d y_M_startOf (some 9) 2 19 0 0 0 0 ∧ am_lk (co_M_overfull l d) 19 = am_aload 0 20 ∧ am_lk (co_M_overfull l d) 20 = am_getR 9 12 23 ∧ am_lk (co_M_overfull l d) 23 = am_iload 3 24 ∧ am_lk (co_M_overfull l d) 24 = am_ald 0 25 ∧ am_lk (co_M_overfull l d) 25 = am_cal l d y_M_lines none 3 28 0 0 0 0 ∧ am_lk (co_M_overfull l d) 28 = am_aload 1 29 ∧ am_lk (co_M_overfull l d) 29 = am_push (vI 3) 30 ∧ am_lk (co_M_overfull l d) 30 = am_ald 0 31 ∧ am_lk (co_M_overfull l d) 31 = am_icmp_le 34 38 ∧ am_lk (co_M_overfull l d) 34 = am_push (vI 1) 35 ∧ am_lk (co_M_overfull l d) 35 = am_goto 39 ∧ am_lk (co_M_overfull l d) 38 = am_push (vI 0) 39 ∧ am_lk (co_M_overfull l d) 39 = am_iadd 40 ∧ am_lk (co_M_overfull l d) 40 = am_istore 2 41 ∧ am_lk (co_M_overfull l d) 41 = am_iinc 3 1 44 ∧ am_lk (co_M_overfull l d) 44 = am_stp (am_goto 4) ∧ am_lk (co_M_overfull l d) 47 = am_iload 2 48 ∧ am_lk (co_M_overfull l d) 48 = am_iret false := ⟨rfl, rfl, rfl, rfl, rfl, rfl, rfl, rfl, rfl, rfl, rfl, rfl, rfl, rfl, rfl, rfl, rfl, rfl, rfl, rfl, rfl, rfl, rfl, rfl, rfl, rfl, rfl, rfl, rfl, rfl, rfl⟩
theorem en_M_overfull {l : Launch} {d : Nat} (n : Nat) {as : List am_V} {G : am_G} {I : am_I} {J : am_J} {P : am_P} (hlen : (as.map am_cat).sum ≤ 4) (h : am_go (am_lk (co_M_overfull l d)) (am_X l (0, fun _ => 0) (d + 1) y_M_overfull P) P n 0 (am_el 4 as) [] 0 0 G I J) : am_T l (d + 1) y_M_overfull as G I J P :=
  am_T_of (sc := (0, fun _ => 0)) cf_M_overfull (by decide +kernel) (by decide) (by decide +kernel) hlen (am_run (ok_lk _ (ck_M_overfull)) n _ _ _ _ _ _ _ _ h)
theorem rn_M_overfull {l : Launch} {sc : Nat × (Nat → Int32)} {d : Nat} {P : am_P} (n : Nat) {pc : Nat} {ls : am_L} {st : List am_V} {kc ks : Nat} {G : am_G} {I : am_I} {J : am_J} (h : am_go (am_lk (co_M_overfull l d)) (am_X l sc (d + 1) y_M_overfull P) P n pc ls st kc ks G I J) : am_X l sc (d + 1) y_M_overfull P pc ls st kc ks G I J := am_run (ok_lk _ (ck_M_overfull)) n _ _ _ _ _ _ _ _ h
def co_M_pageOf (l : Launch) (d : Nat) : List (Nat × am_S) := [(0, am_push (vI 0) 1), (1, am_stp (am_istore 2 2)), (2, am_aload 0 3), (3, am_getR 9 12 6), (6, am_iload 2 7), (7, am_ald 0 8), (8, am_iload 1 9), (9, am_icmp_ge 12 18), (12, am_iinc 2 1 15), (15, am_stp (am_goto 2)), (18, am_iload 2 19), (19, am_iret false)]
theorem ck_M_pageOf {l : Launch} {sc : Nat × (Nat → Int32)} {d : Nat} : ∀ q ∈ co_M_pageOf l d, am_ok l sc (d + 1) y_M_pageOf q.1 q.2 :=
  fa_cons (ok_iconst (show decode (am_mB y_M_pageOf) 0 = .ok (.iconst 0, 1) by decide +kernel) rfl) <|
  fa_cons (ok_stp (σ := am_istore 2 2) (ok_istore_n (show decode (am_mB y_M_pageOf) 1 = .ok (.istore_n 2, 1) by decide +kernel) rfl (by decide +kernel))) <|
  fa_cons (ok_aload_n (show decode (am_mB y_M_pageOf) 2 = .ok (.aload_n 0, 1) by decide +kernel) rfl) <|
  fa_cons (ok_getR (show decode (am_mB y_M_pageOf) 3 = .ok (.getfield 32, 3) by decide +kernel) fl_M_32 (by decide +kernel)) <|
  fa_cons (ok_iload_n (show decode (am_mB y_M_pageOf) 6 = .ok (.iload_n 2, 1) by decide +kernel) rfl) <|
  fa_cons (ok_iald (show decode (am_mB y_M_pageOf) 7 = .ok (.iaload, 1) by decide +kernel)) <|
  fa_cons (ok_iload_n (show decode (am_mB y_M_pageOf) 8 = .ok (.iload_n 1, 1) by decide +kernel) rfl) <|
  fa_cons (ok_icmp_ge (show decode (am_mB y_M_pageOf) 9 = .ok (.if_icmp .ge 9, 3) by decide +kernel) (by decide)) <|
  fa_cons (ok_iinc (show decode (am_mB y_M_pageOf) 12 = .ok (.iinc 2 1, 3) by decide +kernel) (by decide +kernel) (by decide +kernel)) <|
  fa_cons (ok_stp (σ := am_goto 2) (ok_goto (show decode (am_mB y_M_pageOf) 15 = .ok (.goto (-13), 3) by decide +kernel) (by decide))) <|
  fa_cons (ok_iload_n (show decode (am_mB y_M_pageOf) 18 = .ok (.iload_n 2, 1) by decide +kernel) rfl) <|
  fa_cons (ok_iret (show decode (am_mB y_M_pageOf) 19 = .ok (.ireturn, 1) by decide +kernel) rfl) <|
  fa_nil
set_option maxRecDepth 100000 in
theorem cq_M_pageOf (l : Launch) (d : Nat) : am_lk (co_M_pageOf l d) 0 = am_push (vI 0) 1 ∧ am_lk (co_M_pageOf l d) 1 = am_stp (am_istore 2 2) ∧ am_lk (co_M_pageOf l d) 2 = am_aload 0 3 ∧ am_lk (co_M_pageOf l d) 3 = am_getR 9 12 6 ∧ am_lk (co_M_pageOf l d) 6 = am_iload 2 7 ∧ am_lk (co_M_pageOf l d) 7 = am_ald 0 8 ∧ am_lk (co_M_pageOf l d) 8 = am_iload 1 9 ∧ am_lk (co_M_pageOf l d) 9 = am_icmp_ge 12 18 ∧ am_lk (co_M_pageOf l d) 12 = am_iinc 2 1 15 ∧ am_lk (co_M_pageOf l d) 15 = am_stp (am_goto 2) ∧ am_lk (co_M_pageOf l d) 18 = am_iload 2 19 ∧ am_lk (co_M_pageOf l d) 19 = am_iret false := ⟨rfl, rfl, rfl, rfl, rfl, rfl, rfl, rfl, rfl, rfl, rfl, rfl⟩
theorem en_M_pageOf {l : Launch} {d : Nat} (n : Nat) {as : List am_V} {G : am_G} {I : am_I} {J : am_J} {P : am_P} (hlen : (as.map am_cat).sum ≤ 3) (h : am_go (am_lk (co_M_pageOf l d)) (am_X l (0, fun _ => 0) (d + 1) y_M_pageOf P) P n 0 (am_el 3 as) [] 0 0 G I J) : am_T l (d + 1) y_M_pageOf as G I J P :=
  am_T_of (sc := (0, fun _ => 0)) cf_M_pageOf (by decide +kernel) (by decide) (by decide +kernel) hlen (am_run (ok_lk _ (ck_M_pageOf)) n _ _ _ _ _ _ _ _ h)
theorem rn_M_pageOf {l : Launch} {sc : Nat × (Nat → Int32)} {d : Nat} {P : am_P} (n : Nat) {pc : Nat} {ls : am_L} {st : List am_V} {kc ks : Nat} {G : am_G} {I : am_I} {J : am_J} (h : am_go (am_lk (co_M_pageOf l d)) (am_X l sc (d + 1) y_M_pageOf P) P n pc ls st kc ks G I J) : am_X l sc (d + 1) y_M_pageOf P pc ls st kc ks G I J := am_run (ok_lk _ (ck_M_pageOf)) n _ _ _ _ _ _ _ _ h
def co_M_pagesOf (l : Launch) (d : Nat) : List (Nat × am_S) := [(0, am_aload 0 1), (1, am_aload 1 2), (2, am_iload 2 3), (3, am_cal l d y_M_last none 2 6 0 0 0 0), (6, am_cal l d y_M_pageOf (some 9) 2 9 0 0 0 0), (9, am_aload 0 10), (10, am_aload 1 11), (11, am_iload 2 12), (12, am_cal l d y_M_first none 2 15 0 0 0 0), (15, am_cal l d y_M_pageOf (some 9) 2 18 0 0 0 0), (18, am_isub 19), (19, am_push (vI 1) 20), (20, am_iadd 21), (21, am_iret false)]
theorem ck_M_pagesOf {l : Launch} {sc : Nat × (Nat → Int32)} {d : Nat} : ∀ q ∈ co_M_pagesOf l d, am_ok l sc (d + 1) y_M_pagesOf q.1 q.2 :=
  fa_cons (ok_aload_n (show decode (am_mB y_M_pagesOf) 0 = .ok (.aload_n 0, 1) by decide +kernel) rfl) <|
  fa_cons (ok_aload_n (show decode (am_mB y_M_pagesOf) 1 = .ok (.aload_n 1, 1) by decide +kernel) rfl) <|
  fa_cons (ok_iload_n (show decode (am_mB y_M_pagesOf) 2 = .ok (.iload_n 2, 1) by decide +kernel) rfl) <|
  fa_cons (ok_cal ⟨rfl, rfl, rfl, rfl⟩ (ok_callS (show decode (am_mB y_M_pagesOf) 3 = .ok (.invokestatic 70, 3) by decide +kernel) cf_M_last (by decide +kernel) ml_M_70 cs_M_last rfl ⟨by decide +kernel, rfl⟩)) <|
  fa_cons (ok_cal ⟨rfl, rfl, rfl, rfl⟩ (ok_callV (show decode (am_mB y_M_pagesOf) 6 = .ok (.invokevirtual 104, 3) by decide +kernel) cf_M_pageOf (by decide +kernel) ml_M_104 ci_M_pageOf cv_M_pageOf ⟨by decide, rfl⟩ rfl ⟨by decide +kernel, rfl⟩)) <|
  fa_cons (ok_aload_n (show decode (am_mB y_M_pagesOf) 9 = .ok (.aload_n 0, 1) by decide +kernel) rfl) <|
  fa_cons (ok_aload_n (show decode (am_mB y_M_pagesOf) 10 = .ok (.aload_n 1, 1) by decide +kernel) rfl) <|
  fa_cons (ok_iload_n (show decode (am_mB y_M_pagesOf) 11 = .ok (.iload_n 2, 1) by decide +kernel) rfl) <|
  fa_cons (ok_cal ⟨rfl, rfl, rfl, rfl⟩ (ok_callS (show decode (am_mB y_M_pagesOf) 12 = .ok (.invokestatic 66, 3) by decide +kernel) cf_M_first (by decide +kernel) ml_M_66 cs_M_first rfl ⟨by decide +kernel, rfl⟩)) <|
  fa_cons (ok_cal ⟨rfl, rfl, rfl, rfl⟩ (ok_callV (show decode (am_mB y_M_pagesOf) 15 = .ok (.invokevirtual 104, 3) by decide +kernel) cf_M_pageOf (by decide +kernel) ml_M_104 ci_M_pageOf cv_M_pageOf ⟨by decide, rfl⟩ rfl ⟨by decide +kernel, rfl⟩)) <|
  fa_cons (ok_isub (show decode (am_mB y_M_pagesOf) 18 = .ok (.isub, 1) by decide +kernel)) <|
  fa_cons (ok_iconst (show decode (am_mB y_M_pagesOf) 19 = .ok (.iconst 1, 1) by decide +kernel) rfl) <|
  fa_cons (ok_iadd (show decode (am_mB y_M_pagesOf) 20 = .ok (.iadd, 1) by decide +kernel)) <|
  fa_cons (ok_iret (show decode (am_mB y_M_pagesOf) 21 = .ok (.ireturn, 1) by decide +kernel) rfl) <|
  fa_nil
set_option maxRecDepth 100000 in
theorem cq_M_pagesOf (l : Launch) (d : Nat) : am_lk (co_M_pagesOf l d) 0 = am_aload 0 1 ∧ am_lk (co_M_pagesOf l d) 1 = am_aload 1 2 ∧ am_lk (co_M_pagesOf l d) 2 = am_iload 2 3 ∧ am_lk (co_M_pagesOf l d) 3 = am_cal l d y_M_last none 2 6 0 0 0 0 ∧ am_lk (co_M_pagesOf l d) 6 = am_cal l d y_M_pageOf (some 9) 2 9 0 0 0 0 ∧ am_lk (co_M_pagesOf l d) 9 = am_aload 0 10 ∧ am_lk (co_M_pagesOf l d) 10 = am_aload 1 11 ∧ am_lk (co_M_pagesOf l d) 11 = am_iload 2 12 ∧ am_lk (co_M_pagesOf l d) 12 = am_cal l d y_M_first none 2 15 0 0 0 0 ∧ am_lk (co_M_pagesOf l d) 15 = am_cal l d y_M_pageOf (some 9) 2 18 0 0 0 0 ∧ am_lk (co_M_pagesOf l d) 18 = am_isub 19 ∧ am_lk (co_M_pagesOf l d) 19 = am_push (vI 1) 20 ∧ am_lk (co_M_pagesOf l d) 20 = am_iadd 21 ∧ am_lk (co_M_pagesOf l d) 21 = am_iret false := ⟨rfl, rfl, rfl, rfl, rfl, rfl, rfl, rfl, rfl, rfl, rfl, rfl, rfl, rfl⟩
theorem en_M_pagesOf {l : Launch} {d : Nat} (n : Nat) {as : List am_V} {G : am_G} {I : am_I} {J : am_J} {P : am_P} (hlen : (as.map am_cat).sum ≤ 3) (h : am_go (am_lk (co_M_pagesOf l d)) (am_X l (0, fun _ => 0) (d + 1) y_M_pagesOf P) P n 0 (am_el 3 as) [] 0 0 G I J) : am_T l (d + 1) y_M_pagesOf as G I J P :=
  am_T_of (sc := (0, fun _ => 0)) cf_M_pagesOf (by decide +kernel) (by decide) (by decide +kernel) hlen (am_run (ok_lk _ (ck_M_pagesOf)) n _ _ _ _ _ _ _ _ h)
theorem rn_M_pagesOf {l : Launch} {sc : Nat × (Nat → Int32)} {d : Nat} {P : am_P} (n : Nat) {pc : Nat} {ls : am_L} {st : List am_V} {kc ks : Nat} {G : am_G} {I : am_I} {J : am_J} (h : am_go (am_lk (co_M_pagesOf l d)) (am_X l sc (d + 1) y_M_pagesOf P) P n pc ls st kc ks G I J) : am_X l sc (d + 1) y_M_pagesOf P pc ls st kc ks G I J := am_run (ok_lk _ (ck_M_pagesOf)) n _ _ _ _ _ _ _ _ h
def co_M_addTo (l : Launch) (d : Nat) : List (Nat × am_S) := [(0, am_aload 0 1), (1, am_push (vI 1) 2), (2, am_ald 0 3), (3, am_istore 3 4), (4, am_push (vI 0) 5), (5, am_stp (am_istore 4 7)), (7, am_iload 4 9), (9, am_push (vI 7) 11), (11, am_icmp_ge 14 29), (14, am_aload 0 15), (15, am_iload 3 16), (16, am_iload 4 18), (18, am_cal l d y_M_cell none 2 21 0 0 0 0), (21, am_push (vI 0) 22), (22, am_ast 0 (fun x => x) 23), (23, am_iinc 4 1 26), (26, am_stp (am_goto 7)), (29, am_aload 0 30), (30, am_iload 3 31), (31, am_push (vI 0) 32), (32, am_cal l d y_M_cell none 2 35 0 0 0 0), (35, am_iload 1 36), (36, am_ast 0 (fun x => x) 37), (37, am_aload 0 38), (38, am_iload 3 39), (39, am_push (vI 1) 40), (40, am_cal l d y_M_cell none 2 43 0 0 0 0), (43, am_iload 2 44), (44, am_ast 0 (fun x => x) 45), (45, am_aload 0 46), (46, am_push (vI 1) 47), (47, am_dup2 48), (48, am_ald 0 49), (49, am_push (vI 1) 50), (50, am_iadd 51), (51, am_ast 0 (fun x => x) 52), (52, am_vret)]
theorem ck_M_addTo {l : Launch} {sc : Nat × (Nat → Int32)} {d : Nat} : ∀ q ∈ co_M_addTo l d, am_ok l sc (d + 1) y_M_addTo q.1 q.2 :=
  fa_cons (ok_aload_n (show decode (am_mB y_M_addTo) 0 = .ok (.aload_n 0, 1) by decide +kernel) rfl) <|
  fa_cons (ok_iconst (show decode (am_mB y_M_addTo) 1 = .ok (.iconst 1, 1) by decide +kernel) rfl) <|
  fa_cons (ok_iald (show decode (am_mB y_M_addTo) 2 = .ok (.iaload, 1) by decide +kernel)) <|
  fa_cons (ok_istore_n (show decode (am_mB y_M_addTo) 3 = .ok (.istore_n 3, 1) by decide +kernel) rfl (by decide +kernel)) <|
  fa_cons (ok_iconst (show decode (am_mB y_M_addTo) 4 = .ok (.iconst 0, 1) by decide +kernel) rfl) <|
  fa_cons (ok_stp (σ := am_istore 4 7) (ok_istore (show decode (am_mB y_M_addTo) 5 = .ok (.istore 4, 2) by decide +kernel) (by decide +kernel))) <|
  fa_cons (ok_iload (show decode (am_mB y_M_addTo) 7 = .ok (.iload 4, 2) by decide +kernel)) <|
  fa_cons (ok_bipush (show decode (am_mB y_M_addTo) 9 = .ok (.bipush 7, 2) by decide +kernel) (by decide +kernel)) <|
  fa_cons (ok_icmp_ge (show decode (am_mB y_M_addTo) 11 = .ok (.if_icmp .ge 18, 3) by decide +kernel) (by decide)) <|
  fa_cons (ok_aload_n (show decode (am_mB y_M_addTo) 14 = .ok (.aload_n 0, 1) by decide +kernel) rfl) <|
  fa_cons (ok_iload_n (show decode (am_mB y_M_addTo) 15 = .ok (.iload_n 3, 1) by decide +kernel) rfl) <|
  fa_cons (ok_iload (show decode (am_mB y_M_addTo) 16 = .ok (.iload 4, 2) by decide +kernel)) <|
  fa_cons (ok_cal ⟨rfl, rfl, rfl, rfl⟩ (ok_callS (show decode (am_mB y_M_addTo) 18 = .ok (.invokestatic 62, 3) by decide +kernel) cf_M_cell (by decide +kernel) ml_M_62 cs_M_cell rfl ⟨by decide +kernel, rfl⟩)) <|
  fa_cons (ok_iconst (show decode (am_mB y_M_addTo) 21 = .ok (.iconst 0, 1) by decide +kernel) rfl) <|
  fa_cons (ok_iast (show decode (am_mB y_M_addTo) 22 = .ok (.iastore, 1) by decide +kernel)) <|
  fa_cons (ok_iinc (show decode (am_mB y_M_addTo) 23 = .ok (.iinc 4 1, 3) by decide +kernel) (by decide +kernel) (by decide +kernel)) <|
  fa_cons (ok_stp (σ := am_goto 7) (ok_goto (show decode (am_mB y_M_addTo) 26 = .ok (.goto (-19), 3) by decide +kernel) (by decide))) <|
  fa_cons (ok_aload_n (show decode (am_mB y_M_addTo) 29 = .ok (.aload_n 0, 1) by decide +kernel) rfl) <|
  fa_cons (ok_iload_n (show decode (am_mB y_M_addTo) 30 = .ok (.iload_n 3, 1) by decide +kernel) rfl) <|
  fa_cons (ok_iconst (show decode (am_mB y_M_addTo) 31 = .ok (.iconst 0, 1) by decide +kernel) rfl) <|
  fa_cons (ok_cal ⟨rfl, rfl, rfl, rfl⟩ (ok_callS (show decode (am_mB y_M_addTo) 32 = .ok (.invokestatic 62, 3) by decide +kernel) cf_M_cell (by decide +kernel) ml_M_62 cs_M_cell rfl ⟨by decide +kernel, rfl⟩)) <|
  fa_cons (ok_iload_n (show decode (am_mB y_M_addTo) 35 = .ok (.iload_n 1, 1) by decide +kernel) rfl) <|
  fa_cons (ok_iast (show decode (am_mB y_M_addTo) 36 = .ok (.iastore, 1) by decide +kernel)) <|
  fa_cons (ok_aload_n (show decode (am_mB y_M_addTo) 37 = .ok (.aload_n 0, 1) by decide +kernel) rfl) <|
  fa_cons (ok_iload_n (show decode (am_mB y_M_addTo) 38 = .ok (.iload_n 3, 1) by decide +kernel) rfl) <|
  fa_cons (ok_iconst (show decode (am_mB y_M_addTo) 39 = .ok (.iconst 1, 1) by decide +kernel) rfl) <|
  fa_cons (ok_cal ⟨rfl, rfl, rfl, rfl⟩ (ok_callS (show decode (am_mB y_M_addTo) 40 = .ok (.invokestatic 62, 3) by decide +kernel) cf_M_cell (by decide +kernel) ml_M_62 cs_M_cell rfl ⟨by decide +kernel, rfl⟩)) <|
  fa_cons (ok_iload_n (show decode (am_mB y_M_addTo) 43 = .ok (.iload_n 2, 1) by decide +kernel) rfl) <|
  fa_cons (ok_iast (show decode (am_mB y_M_addTo) 44 = .ok (.iastore, 1) by decide +kernel)) <|
  fa_cons (ok_aload_n (show decode (am_mB y_M_addTo) 45 = .ok (.aload_n 0, 1) by decide +kernel) rfl) <|
  fa_cons (ok_iconst (show decode (am_mB y_M_addTo) 46 = .ok (.iconst 1, 1) by decide +kernel) rfl) <|
  fa_cons (ok_dup2 (show decode (am_mB y_M_addTo) 47 = .ok (.dup2, 1) by decide +kernel)) <|
  fa_cons (ok_iald (show decode (am_mB y_M_addTo) 48 = .ok (.iaload, 1) by decide +kernel)) <|
  fa_cons (ok_iconst (show decode (am_mB y_M_addTo) 49 = .ok (.iconst 1, 1) by decide +kernel) rfl) <|
  fa_cons (ok_iadd (show decode (am_mB y_M_addTo) 50 = .ok (.iadd, 1) by decide +kernel)) <|
  fa_cons (ok_iast (show decode (am_mB y_M_addTo) 51 = .ok (.iastore, 1) by decide +kernel)) <|
  fa_cons (ok_vret (show decode (am_mB y_M_addTo) 52 = .ok (.return_, 1) by decide +kernel) rfl (by decide +kernel)) <|
  fa_nil
set_option maxRecDepth 100000 in
theorem cq_M_addTo (l : Launch) (d : Nat) : am_lk (co_M_addTo l d) 0 = am_aload 0 1 ∧ am_lk (co_M_addTo l d) 1 = am_push (vI 1) 2 ∧ am_lk (co_M_addTo l d) 2 = am_ald 0 3 ∧ am_lk (co_M_addTo l d) 3 = am_istore 3 4 ∧ am_lk (co_M_addTo l d) 4 = am_push (vI 0) 5 ∧ am_lk (co_M_addTo l d) 5 = am_stp (am_istore 4 7) ∧ am_lk (co_M_addTo l d) 7 = am_iload 4 9 ∧ am_lk (co_M_addTo l d) 9 = am_push (vI 7) 11 ∧ am_lk (co_M_addTo l d) 11 = am_icmp_ge 14 29 ∧ am_lk (co_M_addTo l d) 14 = am_aload 0 15 ∧ am_lk (co_M_addTo l d) 15 = am_iload 3 16 ∧ am_lk (co_M_addTo l d) 16 = am_iload 4 18 ∧ am_lk (co_M_addTo l d) 18 = am_cal l d y_M_cell none 2 21 0 0 0 0 ∧ am_lk (co_M_addTo l d) 21 = am_push (vI 0) 22 ∧ am_lk (co_M_addTo l d) 22 = am_ast 0 (fun x => x) 23 ∧ am_lk (co_M_addTo l d) 23 = am_iinc 4 1 26 ∧ am_lk (co_M_addTo l d) 26 = am_stp (am_goto 7) ∧ am_lk (co_M_addTo l d) 29 = am_aload 0 30 ∧ am_lk (co_M_addTo l d) 30 = am_iload 3 31 ∧ am_lk (co_M_addTo l d) 31 = am_push (vI 0) 32 ∧ am_lk (co_M_addTo l d) 32 = am_cal l d y_M_cell none 2 35 0 0 0 0 ∧ am_lk (co_M_addTo l d) 35 = am_iload 1 36 ∧ am_lk (co_M_addTo l d) 36 = am_ast 0 (fun x => x) 37 ∧ am_lk (co_M_addTo l d) 37 = am_aload 0 38 ∧ am_lk (co_M_addTo l d) 38 = am_iload 3 39 ∧ am_lk (co_M_addTo l d) 39 = am_push (vI 1) 40 ∧ am_lk (co_M_addTo l d) 40 = am_cal l d y_M_cell none 2 43 0 0 0 0 ∧ am_lk (co_M_addTo l d) 43 = am_iload 2 44 ∧ am_lk (co_M_addTo l d) 44 = am_ast 0 (fun x => x) 45 ∧ am_lk (co_M_addTo l d) 45 = am_aload 0 46 ∧ am_lk (co_M_addTo l d) 46 = am_push (vI 1) 47 ∧ am_lk (co_M_addTo l d) 47 = am_dup2 48 ∧ am_lk (co_M_addTo l d) 48 = am_ald 0 49 ∧ am_lk (co_M_addTo l d) 49 = am_push (vI 1) 50 ∧ am_lk (co_M_addTo l d) 50 = am_iadd 51 ∧ am_lk (co_M_addTo l d) 51 = am_ast 0 (fun x => x) 52 ∧ am_lk (co_M_addTo l d) 52 = am_vret := ⟨rfl, rfl, rfl, rfl, rfl, rfl, rfl, rfl, rfl, rfl, rfl, rfl, rfl, rfl, rfl, rfl, rfl, rfl, rfl, rfl, rfl, rfl, rfl, rfl, rfl, rfl, rfl, rfl, rfl, rfl, rfl, rfl, rfl, rfl, rfl, rfl, rfl⟩
theorem en_M_addTo {l : Launch} {d : Nat} (n : Nat) {as : List am_V} {G : am_G} {I : am_I} {J : am_J} {P : am_P} (hlen : (as.map am_cat).sum ≤ 5) (h : am_go (am_lk (co_M_addTo l d)) (am_X l (0, fun _ => 0) (d + 1) y_M_addTo P) P n 0 (am_el 5 as) [] 0 0 G I J) : am_T l (d + 1) y_M_addTo as G I J P :=
  am_T_of (sc := (0, fun _ => 0)) cf_M_addTo (by decide +kernel) (by decide) (by decide +kernel) hlen (am_run (ok_lk _ (ck_M_addTo)) n _ _ _ _ _ _ _ _ h)
theorem rn_M_addTo {l : Launch} {sc : Nat × (Nat → Int32)} {d : Nat} {P : am_P} (n : Nat) {pc : Nat} {ls : am_L} {st : List am_V} {kc ks : Nat} {G : am_G} {I : am_I} {J : am_J} (h : am_go (am_lk (co_M_addTo l d)) (am_X l sc (d + 1) y_M_addTo P) P n pc ls st kc ks G I J) : am_X l sc (d + 1) y_M_addTo P pc ls st kc ks G I J := am_run (ok_lk _ (ck_M_addTo)) n _ _ _ _ _ _ _ _ h
def co_M_putSpan (l : Launch) (d : Nat) : List (Nat × am_S) := [(0, am_push (vI 179) 3), (3, am_push (vI 3) 4), (4, am_aload 0 5), (5, am_push (vI 2) 6), (6, am_ald 0 7), (7, am_imul 8), (8, am_iadd 9), (9, am_istore 4 11), (11, am_aload 0 12), (12, am_iload 4 14), (14, am_iload 1 15), (15, am_ast 0 (fun x => x) 16), (16, am_aload 0 17), (17, am_iload 4 19), (19, am_push (vI 1) 20), (20, am_iadd 21), (21, am_iload 2 22), (22, am_ast 0 (fun x => x) 23), (23, am_aload 0 24), (24, am_iload 4 26), (26, am_push (vI 2) 27), (27, am_iadd 28), (28, am_iload 3 29), (29, am_ast 0 (fun x => x) 30), (30, am_aload 0 31), (31, am_push (vI 2) 32), (32, am_dup2 33), (33, am_ald 0 34), (34, am_push (vI 1) 35), (35, am_iadd 36), (36, am_ast 0 (fun x => x) 37), (37, am_vret)]
theorem ck_M_putSpan {l : Launch} {sc : Nat × (Nat → Int32)} {d : Nat} : ∀ q ∈ co_M_putSpan l d, am_ok l sc (d + 1) y_M_putSpan q.1 q.2 :=
  fa_cons (ok_sipush (show decode (am_mB y_M_putSpan) 0 = .ok (.sipush 179, 3) by decide +kernel) (by decide +kernel)) <|
  fa_cons (ok_iconst (show decode (am_mB y_M_putSpan) 3 = .ok (.iconst 3, 1) by decide +kernel) rfl) <|
  fa_cons (ok_aload_n (show decode (am_mB y_M_putSpan) 4 = .ok (.aload_n 0, 1) by decide +kernel) rfl) <|
  fa_cons (ok_iconst (show decode (am_mB y_M_putSpan) 5 = .ok (.iconst 2, 1) by decide +kernel) rfl) <|
  fa_cons (ok_iald (show decode (am_mB y_M_putSpan) 6 = .ok (.iaload, 1) by decide +kernel)) <|
  fa_cons (ok_imul (show decode (am_mB y_M_putSpan) 7 = .ok (.imul, 1) by decide +kernel)) <|
  fa_cons (ok_iadd (show decode (am_mB y_M_putSpan) 8 = .ok (.iadd, 1) by decide +kernel)) <|
  fa_cons (ok_istore (show decode (am_mB y_M_putSpan) 9 = .ok (.istore 4, 2) by decide +kernel) (by decide +kernel)) <|
  fa_cons (ok_aload_n (show decode (am_mB y_M_putSpan) 11 = .ok (.aload_n 0, 1) by decide +kernel) rfl) <|
  fa_cons (ok_iload (show decode (am_mB y_M_putSpan) 12 = .ok (.iload 4, 2) by decide +kernel)) <|
  fa_cons (ok_iload_n (show decode (am_mB y_M_putSpan) 14 = .ok (.iload_n 1, 1) by decide +kernel) rfl) <|
  fa_cons (ok_iast (show decode (am_mB y_M_putSpan) 15 = .ok (.iastore, 1) by decide +kernel)) <|
  fa_cons (ok_aload_n (show decode (am_mB y_M_putSpan) 16 = .ok (.aload_n 0, 1) by decide +kernel) rfl) <|
  fa_cons (ok_iload (show decode (am_mB y_M_putSpan) 17 = .ok (.iload 4, 2) by decide +kernel)) <|
  fa_cons (ok_iconst (show decode (am_mB y_M_putSpan) 19 = .ok (.iconst 1, 1) by decide +kernel) rfl) <|
  fa_cons (ok_iadd (show decode (am_mB y_M_putSpan) 20 = .ok (.iadd, 1) by decide +kernel)) <|
  fa_cons (ok_iload_n (show decode (am_mB y_M_putSpan) 21 = .ok (.iload_n 2, 1) by decide +kernel) rfl) <|
  fa_cons (ok_iast (show decode (am_mB y_M_putSpan) 22 = .ok (.iastore, 1) by decide +kernel)) <|
  fa_cons (ok_aload_n (show decode (am_mB y_M_putSpan) 23 = .ok (.aload_n 0, 1) by decide +kernel) rfl) <|
  fa_cons (ok_iload (show decode (am_mB y_M_putSpan) 24 = .ok (.iload 4, 2) by decide +kernel)) <|
  fa_cons (ok_iconst (show decode (am_mB y_M_putSpan) 26 = .ok (.iconst 2, 1) by decide +kernel) rfl) <|
  fa_cons (ok_iadd (show decode (am_mB y_M_putSpan) 27 = .ok (.iadd, 1) by decide +kernel)) <|
  fa_cons (ok_iload_n (show decode (am_mB y_M_putSpan) 28 = .ok (.iload_n 3, 1) by decide +kernel) rfl) <|
  fa_cons (ok_iast (show decode (am_mB y_M_putSpan) 29 = .ok (.iastore, 1) by decide +kernel)) <|
  fa_cons (ok_aload_n (show decode (am_mB y_M_putSpan) 30 = .ok (.aload_n 0, 1) by decide +kernel) rfl) <|
  fa_cons (ok_iconst (show decode (am_mB y_M_putSpan) 31 = .ok (.iconst 2, 1) by decide +kernel) rfl) <|
  fa_cons (ok_dup2 (show decode (am_mB y_M_putSpan) 32 = .ok (.dup2, 1) by decide +kernel)) <|
  fa_cons (ok_iald (show decode (am_mB y_M_putSpan) 33 = .ok (.iaload, 1) by decide +kernel)) <|
  fa_cons (ok_iconst (show decode (am_mB y_M_putSpan) 34 = .ok (.iconst 1, 1) by decide +kernel) rfl) <|
  fa_cons (ok_iadd (show decode (am_mB y_M_putSpan) 35 = .ok (.iadd, 1) by decide +kernel)) <|
  fa_cons (ok_iast (show decode (am_mB y_M_putSpan) 36 = .ok (.iastore, 1) by decide +kernel)) <|
  fa_cons (ok_vret (show decode (am_mB y_M_putSpan) 37 = .ok (.return_, 1) by decide +kernel) rfl (by decide +kernel)) <|
  fa_nil
set_option maxRecDepth 100000 in
theorem cq_M_putSpan (l : Launch) (d : Nat) : am_lk (co_M_putSpan l d) 0 = am_push (vI 179) 3 ∧ am_lk (co_M_putSpan l d) 3 = am_push (vI 3) 4 ∧ am_lk (co_M_putSpan l d) 4 = am_aload 0 5 ∧ am_lk (co_M_putSpan l d) 5 = am_push (vI 2) 6 ∧ am_lk (co_M_putSpan l d) 6 = am_ald 0 7 ∧ am_lk (co_M_putSpan l d) 7 = am_imul 8 ∧ am_lk (co_M_putSpan l d) 8 = am_iadd 9 ∧ am_lk (co_M_putSpan l d) 9 = am_istore 4 11 ∧ am_lk (co_M_putSpan l d) 11 = am_aload 0 12 ∧ am_lk (co_M_putSpan l d) 12 = am_iload 4 14 ∧ am_lk (co_M_putSpan l d) 14 = am_iload 1 15 ∧ am_lk (co_M_putSpan l d) 15 = am_ast 0 (fun x => x) 16 ∧ am_lk (co_M_putSpan l d) 16 = am_aload 0 17 ∧ am_lk (co_M_putSpan l d) 17 = am_iload 4 19 ∧ am_lk (co_M_putSpan l d) 19 = am_push (vI 1) 20 ∧ am_lk (co_M_putSpan l d) 20 = am_iadd 21 ∧ am_lk (co_M_putSpan l d) 21 = am_iload 2 22 ∧ am_lk (co_M_putSpan l d) 22 = am_ast 0 (fun x => x) 23 ∧ am_lk (co_M_putSpan l d) 23 = am_aload 0 24 ∧ am_lk (co_M_putSpan l d) 24 = am_iload 4 26 ∧ am_lk (co_M_putSpan l d) 26 = am_push (vI 2) 27 ∧ am_lk (co_M_putSpan l d) 27 = am_iadd 28 ∧ am_lk (co_M_putSpan l d) 28 = am_iload 3 29 ∧ am_lk (co_M_putSpan l d) 29 = am_ast 0 (fun x => x) 30 ∧ am_lk (co_M_putSpan l d) 30 = am_aload 0 31 ∧ am_lk (co_M_putSpan l d) 31 = am_push (vI 2) 32 ∧ am_lk (co_M_putSpan l d) 32 = am_dup2 33 ∧ am_lk (co_M_putSpan l d) 33 = am_ald 0 34 ∧ am_lk (co_M_putSpan l d) 34 = am_push (vI 1) 35 ∧ am_lk (co_M_putSpan l d) 35 = am_iadd 36 ∧ am_lk (co_M_putSpan l d) 36 = am_ast 0 (fun x => x) 37 ∧ am_lk (co_M_putSpan l d) 37 = am_vret := ⟨rfl, rfl, rfl, rfl, rfl, rfl, rfl, rfl, rfl, rfl, rfl, rfl, rfl, rfl, rfl, rfl, rfl, rfl, rfl, rfl, rfl, rfl, rfl, rfl, rfl, rfl, rfl, rfl, rfl, rfl, rfl, rfl⟩
theorem en_M_putSpan {l : Launch} {d : Nat} (n : Nat) {as : List am_V} {G : am_G} {I : am_I} {J : am_J} {P : am_P} (hlen : (as.map am_cat).sum ≤ 5) (h : am_go (am_lk (co_M_putSpan l d)) (am_X l (0, fun _ => 0) (d + 1) y_M_putSpan P) P n 0 (am_el 5 as) [] 0 0 G I J) : am_T l (d + 1) y_M_putSpan as G I J P :=
  am_T_of (sc := (0, fun _ => 0)) cf_M_putSpan (by decide +kernel) (by decide) (by decide +kernel) hlen (am_run (ok_lk _ (ck_M_putSpan)) n _ _ _ _ _ _ _ _ h)
theorem rn_M_putSpan {l : Launch} {sc : Nat × (Nat → Int32)} {d : Nat} {P : am_P} (n : Nat) {pc : Nat} {ls : am_L} {st : List am_V} {kc ks : Nat} {G : am_G} {I : am_I} {J : am_J} (h : am_go (am_lk (co_M_putSpan l d)) (am_X l sc (d + 1) y_M_putSpan P) P n pc ls st kc ks G I J) : am_X l sc (d + 1) y_M_putSpan P pc ls st kc ks G I J := am_run (ok_lk _ (ck_M_putSpan)) n _ _ _ _ _ _ _ _ h
def co_M_dropSpan (l : Launch) (d : Nat) : List (Nat × am_S) := [(0, am_push (vI 179) 3), (3, am_push (vI 3) 4), (4, am_iload 1 5), (5, am_imul 6), (6, am_iadd 7), (7, am_stp (am_istore 2 8)), (8, am_iload 2 9), (9, am_push (vI 194) 12), (12, am_icmp_ge 15 29), (15, am_aload 0 16), (16, am_iload 2 17), (17, am_aload 0 18), (18, am_iload 2 19), (19, am_push (vI 3) 20), (20, am_iadd 21), (21, am_ald 0 22), (22, am_ast 0 (fun x => x) 23), (23, am_iinc 2 1 26), (26, am_stp (am_goto 8)), (29, am_aload 0 30), (30, am_push (vI 2) 31), (31, am_dup2 32), (32, am_ald 0 33), (33, am_push (vI 1) 34), (34, am_isub 35), (35, am_ast 0 (fun x => x) 36), (36, am_vret)]
theorem ck_M_dropSpan {l : Launch} {sc : Nat × (Nat → Int32)} {d : Nat} : ∀ q ∈ co_M_dropSpan l d, am_ok l sc (d + 1) y_M_dropSpan q.1 q.2 :=
  fa_cons (ok_sipush (show decode (am_mB y_M_dropSpan) 0 = .ok (.sipush 179, 3) by decide +kernel) (by decide +kernel)) <|
  fa_cons (ok_iconst (show decode (am_mB y_M_dropSpan) 3 = .ok (.iconst 3, 1) by decide +kernel) rfl) <|
  fa_cons (ok_iload_n (show decode (am_mB y_M_dropSpan) 4 = .ok (.iload_n 1, 1) by decide +kernel) rfl) <|
  fa_cons (ok_imul (show decode (am_mB y_M_dropSpan) 5 = .ok (.imul, 1) by decide +kernel)) <|
  fa_cons (ok_iadd (show decode (am_mB y_M_dropSpan) 6 = .ok (.iadd, 1) by decide +kernel)) <|
  fa_cons (ok_stp (σ := am_istore 2 8) (ok_istore_n (show decode (am_mB y_M_dropSpan) 7 = .ok (.istore_n 2, 1) by decide +kernel) rfl (by decide +kernel))) <|
  fa_cons (ok_iload_n (show decode (am_mB y_M_dropSpan) 8 = .ok (.iload_n 2, 1) by decide +kernel) rfl) <|
  fa_cons (ok_sipush (show decode (am_mB y_M_dropSpan) 9 = .ok (.sipush 194, 3) by decide +kernel) (by decide +kernel)) <|
  fa_cons (ok_icmp_ge (show decode (am_mB y_M_dropSpan) 12 = .ok (.if_icmp .ge 17, 3) by decide +kernel) (by decide)) <|
  fa_cons (ok_aload_n (show decode (am_mB y_M_dropSpan) 15 = .ok (.aload_n 0, 1) by decide +kernel) rfl) <|
  fa_cons (ok_iload_n (show decode (am_mB y_M_dropSpan) 16 = .ok (.iload_n 2, 1) by decide +kernel) rfl) <|
  fa_cons (ok_aload_n (show decode (am_mB y_M_dropSpan) 17 = .ok (.aload_n 0, 1) by decide +kernel) rfl) <|
  fa_cons (ok_iload_n (show decode (am_mB y_M_dropSpan) 18 = .ok (.iload_n 2, 1) by decide +kernel) rfl) <|
  fa_cons (ok_iconst (show decode (am_mB y_M_dropSpan) 19 = .ok (.iconst 3, 1) by decide +kernel) rfl) <|
  fa_cons (ok_iadd (show decode (am_mB y_M_dropSpan) 20 = .ok (.iadd, 1) by decide +kernel)) <|
  fa_cons (ok_iald (show decode (am_mB y_M_dropSpan) 21 = .ok (.iaload, 1) by decide +kernel)) <|
  fa_cons (ok_iast (show decode (am_mB y_M_dropSpan) 22 = .ok (.iastore, 1) by decide +kernel)) <|
  fa_cons (ok_iinc (show decode (am_mB y_M_dropSpan) 23 = .ok (.iinc 2 1, 3) by decide +kernel) (by decide +kernel) (by decide +kernel)) <|
  fa_cons (ok_stp (σ := am_goto 8) (ok_goto (show decode (am_mB y_M_dropSpan) 26 = .ok (.goto (-18), 3) by decide +kernel) (by decide))) <|
  fa_cons (ok_aload_n (show decode (am_mB y_M_dropSpan) 29 = .ok (.aload_n 0, 1) by decide +kernel) rfl) <|
  fa_cons (ok_iconst (show decode (am_mB y_M_dropSpan) 30 = .ok (.iconst 2, 1) by decide +kernel) rfl) <|
  fa_cons (ok_dup2 (show decode (am_mB y_M_dropSpan) 31 = .ok (.dup2, 1) by decide +kernel)) <|
  fa_cons (ok_iald (show decode (am_mB y_M_dropSpan) 32 = .ok (.iaload, 1) by decide +kernel)) <|
  fa_cons (ok_iconst (show decode (am_mB y_M_dropSpan) 33 = .ok (.iconst 1, 1) by decide +kernel) rfl) <|
  fa_cons (ok_isub (show decode (am_mB y_M_dropSpan) 34 = .ok (.isub, 1) by decide +kernel)) <|
  fa_cons (ok_iast (show decode (am_mB y_M_dropSpan) 35 = .ok (.iastore, 1) by decide +kernel)) <|
  fa_cons (ok_vret (show decode (am_mB y_M_dropSpan) 36 = .ok (.return_, 1) by decide +kernel) rfl (by decide +kernel)) <|
  fa_nil
set_option maxRecDepth 100000 in
theorem cq_M_dropSpan (l : Launch) (d : Nat) : am_lk (co_M_dropSpan l d) 0 = am_push (vI 179) 3 ∧ am_lk (co_M_dropSpan l d) 3 = am_push (vI 3) 4 ∧ am_lk (co_M_dropSpan l d) 4 = am_iload 1 5 ∧ am_lk (co_M_dropSpan l d) 5 = am_imul 6 ∧ am_lk (co_M_dropSpan l d) 6 = am_iadd 7 ∧ am_lk (co_M_dropSpan l d) 7 = am_stp (am_istore 2 8) ∧ am_lk (co_M_dropSpan l d) 8 = am_iload 2 9 ∧ am_lk (co_M_dropSpan l d) 9 = am_push (vI 194) 12 ∧ am_lk (co_M_dropSpan l d) 12 = am_icmp_ge 15 29 ∧ am_lk (co_M_dropSpan l d) 15 = am_aload 0 16 ∧ am_lk (co_M_dropSpan l d) 16 = am_iload 2 17 ∧ am_lk (co_M_dropSpan l d) 17 = am_aload 0 18 ∧ am_lk (co_M_dropSpan l d) 18 = am_iload 2 19 ∧ am_lk (co_M_dropSpan l d) 19 = am_push (vI 3) 20 ∧ am_lk (co_M_dropSpan l d) 20 = am_iadd 21 ∧ am_lk (co_M_dropSpan l d) 21 = am_ald 0 22 ∧ am_lk (co_M_dropSpan l d) 22 = am_ast 0 (fun x => x) 23 ∧ am_lk (co_M_dropSpan l d) 23 = am_iinc 2 1 26 ∧ am_lk (co_M_dropSpan l d) 26 = am_stp (am_goto 8) ∧ am_lk (co_M_dropSpan l d) 29 = am_aload 0 30 ∧ am_lk (co_M_dropSpan l d) 30 = am_push (vI 2) 31 ∧ am_lk (co_M_dropSpan l d) 31 = am_dup2 32 ∧ am_lk (co_M_dropSpan l d) 32 = am_ald 0 33 ∧ am_lk (co_M_dropSpan l d) 33 = am_push (vI 1) 34 ∧ am_lk (co_M_dropSpan l d) 34 = am_isub 35 ∧ am_lk (co_M_dropSpan l d) 35 = am_ast 0 (fun x => x) 36 ∧ am_lk (co_M_dropSpan l d) 36 = am_vret := ⟨rfl, rfl, rfl, rfl, rfl, rfl, rfl, rfl, rfl, rfl, rfl, rfl, rfl, rfl, rfl, rfl, rfl, rfl, rfl, rfl, rfl, rfl, rfl, rfl, rfl, rfl, rfl⟩
theorem en_M_dropSpan {l : Launch} {d : Nat} (n : Nat) {as : List am_V} {G : am_G} {I : am_I} {J : am_J} {P : am_P} (hlen : (as.map am_cat).sum ≤ 3) (h : am_go (am_lk (co_M_dropSpan l d)) (am_X l (0, fun _ => 0) (d + 1) y_M_dropSpan P) P n 0 (am_el 3 as) [] 0 0 G I J) : am_T l (d + 1) y_M_dropSpan as G I J P :=
  am_T_of (sc := (0, fun _ => 0)) cf_M_dropSpan (by decide +kernel) (by decide) (by decide +kernel) hlen (am_run (ok_lk _ (ck_M_dropSpan)) n _ _ _ _ _ _ _ _ h)
theorem rn_M_dropSpan {l : Launch} {sc : Nat × (Nat → Int32)} {d : Nat} {P : am_P} (n : Nat) {pc : Nat} {ls : am_L} {st : List am_V} {kc ks : Nat} {G : am_G} {I : am_I} {J : am_J} (h : am_go (am_lk (co_M_dropSpan l d)) (am_X l sc (d + 1) y_M_dropSpan P) P n pc ls st kc ks G I J) : am_X l sc (d + 1) y_M_dropSpan P pc ls st kc ks G I J := am_run (ok_lk _ (ck_M_dropSpan)) n _ _ _ _ _ _ _ _ h
def co_M_dropRow (l : Launch) (d : Nat) : List (Nat × am_S) := [(0, am_iload 1 1), (1, am_push (vI 0) 2), (2, am_cal l d y_M_cell none 2 5 0 0 0 0), (5, am_stp (am_istore 2 6)), (6, am_iload 2 7), (7, am_push (vI 172) 10), (10, am_icmp_ge 13 28), (13, am_aload 0 14), (14, am_iload 2 15), (15, am_aload 0 16), (16, am_iload 2 17), (17, am_push (vI 7) 19), (19, am_iadd 20), (20, am_ald 0 21), (21, am_ast 0 (fun x => x) 22), (22, am_iinc 2 1 25), (25, am_stp (am_goto 6)), (28, am_aload 0 29), (29, am_push (vI 1) 30), (30, am_dup2 31), (31, am_ald 0 32), (32, am_push (vI 1) 33), (33, am_isub 34), (34, am_ast 0 (fun x => x) 35), (35, am_push (vI 0) 36), (36, am_istore 2 37), (37, am_aload 0 38), (38, am_push (vI 2) 39), (39, am_ald 0 40), (40, am_push (vI 1) 41), (41, am_isub 42), (42, am_stp (am_istore 3 43)), (43, am_iload 3 44), (44, am_if_lt 47 128), (47, am_aload 0 48), (48, am_push (vI 179) 51), (51, am_push (vI 3) 52), (52, am_iload 3 53), (53, am_imul 54), (54, am_iadd 55), (55, am_dup2 56), (56, am_ald 0 57), (57, am_aload 0 58), (58, am_iload 3 59), (59, am_cal l d y_M_first none 2 62 0 0 0 0), (62, am_iload 1 63), (63, am_icmp_le 66 70), (66, am_push (vI 1) 67), (67, am_goto 71), (70, am_push (vI 0) 71), (71, am_isub 72), (72, am_ast 0 (fun x => x) 73), (73, am_aload 0 74), (74, am_push (vI 179) 77), (77, am_push (vI 3) 78), (78, am_iload 3 79), (79, am_imul 80), (80, am_iadd 81), (81, am_push (vI 1) 82), (82, am_iadd 83), (83, am_dup2 84), (84, am_ald 0 85), (85, am_aload 0 86), (86, am_iload 3 87), (87, am_cal l d y_M_last none 2 90 0 0 0 0), (90, am_iload 1 91), (91, am_icmp_lt 94 98), (94, am_push (vI 1) 95), (95, am_goto 99), (98, am_push (vI 0) 99), (99, am_isub 100), (100, am_ast 0 (fun x => x) 101), (101, am_aload 0 102), (102, am_iload 3 103), (103, am_cal l d y_M_first none 2 106 0 0 0 0), (106, am_aload 0 107), (107, am_iload 3 108), (108, am_cal l d y_M_last none 2 111 0 0 0 0), (111, am_icmp_ne 114 122), (114, am_aload 0 115), (115, am_iload 3 116), (116, am_cal l d y_M_dropSpan none 2 119 0 0 0 0), (119, am_iinc 2 1 122), (122, am_iinc 3 (-1) 125), (125, am_stp (am_goto 43)), (128, am_iload 2 129), (129, am_iret false)]
theorem ck_M_dropRow {l : Launch} {sc : Nat × (Nat → Int32)} {d : Nat} : ∀ q ∈ co_M_dropRow l d, am_ok l sc (d + 1) y_M_dropRow q.1 q.2 :=
  fa_cons (ok_iload_n (show decode (am_mB y_M_dropRow) 0 = .ok (.iload_n 1, 1) by decide +kernel) rfl) <|
  fa_cons (ok_iconst (show decode (am_mB y_M_dropRow) 1 = .ok (.iconst 0, 1) by decide +kernel) rfl) <|
  fa_cons (ok_cal ⟨rfl, rfl, rfl, rfl⟩ (ok_callS (show decode (am_mB y_M_dropRow) 2 = .ok (.invokestatic 62, 3) by decide +kernel) cf_M_cell (by decide +kernel) ml_M_62 cs_M_cell rfl ⟨by decide +kernel, rfl⟩)) <|
  fa_cons (ok_stp (σ := am_istore 2 6) (ok_istore_n (show decode (am_mB y_M_dropRow) 5 = .ok (.istore_n 2, 1) by decide +kernel) rfl (by decide +kernel))) <|
  fa_cons (ok_iload_n (show decode (am_mB y_M_dropRow) 6 = .ok (.iload_n 2, 1) by decide +kernel) rfl) <|
  fa_cons (ok_sipush (show decode (am_mB y_M_dropRow) 7 = .ok (.sipush 172, 3) by decide +kernel) (by decide +kernel)) <|
  fa_cons (ok_icmp_ge (show decode (am_mB y_M_dropRow) 10 = .ok (.if_icmp .ge 18, 3) by decide +kernel) (by decide)) <|
  fa_cons (ok_aload_n (show decode (am_mB y_M_dropRow) 13 = .ok (.aload_n 0, 1) by decide +kernel) rfl) <|
  fa_cons (ok_iload_n (show decode (am_mB y_M_dropRow) 14 = .ok (.iload_n 2, 1) by decide +kernel) rfl) <|
  fa_cons (ok_aload_n (show decode (am_mB y_M_dropRow) 15 = .ok (.aload_n 0, 1) by decide +kernel) rfl) <|
  fa_cons (ok_iload_n (show decode (am_mB y_M_dropRow) 16 = .ok (.iload_n 2, 1) by decide +kernel) rfl) <|
  fa_cons (ok_bipush (show decode (am_mB y_M_dropRow) 17 = .ok (.bipush 7, 2) by decide +kernel) (by decide +kernel)) <|
  fa_cons (ok_iadd (show decode (am_mB y_M_dropRow) 19 = .ok (.iadd, 1) by decide +kernel)) <|
  fa_cons (ok_iald (show decode (am_mB y_M_dropRow) 20 = .ok (.iaload, 1) by decide +kernel)) <|
  fa_cons (ok_iast (show decode (am_mB y_M_dropRow) 21 = .ok (.iastore, 1) by decide +kernel)) <|
  fa_cons (ok_iinc (show decode (am_mB y_M_dropRow) 22 = .ok (.iinc 2 1, 3) by decide +kernel) (by decide +kernel) (by decide +kernel)) <|
  fa_cons (ok_stp (σ := am_goto 6) (ok_goto (show decode (am_mB y_M_dropRow) 25 = .ok (.goto (-19), 3) by decide +kernel) (by decide))) <|
  fa_cons (ok_aload_n (show decode (am_mB y_M_dropRow) 28 = .ok (.aload_n 0, 1) by decide +kernel) rfl) <|
  fa_cons (ok_iconst (show decode (am_mB y_M_dropRow) 29 = .ok (.iconst 1, 1) by decide +kernel) rfl) <|
  fa_cons (ok_dup2 (show decode (am_mB y_M_dropRow) 30 = .ok (.dup2, 1) by decide +kernel)) <|
  fa_cons (ok_iald (show decode (am_mB y_M_dropRow) 31 = .ok (.iaload, 1) by decide +kernel)) <|
  fa_cons (ok_iconst (show decode (am_mB y_M_dropRow) 32 = .ok (.iconst 1, 1) by decide +kernel) rfl) <|
  fa_cons (ok_isub (show decode (am_mB y_M_dropRow) 33 = .ok (.isub, 1) by decide +kernel)) <|
  fa_cons (ok_iast (show decode (am_mB y_M_dropRow) 34 = .ok (.iastore, 1) by decide +kernel)) <|
  fa_cons (ok_iconst (show decode (am_mB y_M_dropRow) 35 = .ok (.iconst 0, 1) by decide +kernel) rfl) <|
  fa_cons (ok_istore_n (show decode (am_mB y_M_dropRow) 36 = .ok (.istore_n 2, 1) by decide +kernel) rfl (by decide +kernel)) <|
  fa_cons (ok_aload_n (show decode (am_mB y_M_dropRow) 37 = .ok (.aload_n 0, 1) by decide +kernel) rfl) <|
  fa_cons (ok_iconst (show decode (am_mB y_M_dropRow) 38 = .ok (.iconst 2, 1) by decide +kernel) rfl) <|
  fa_cons (ok_iald (show decode (am_mB y_M_dropRow) 39 = .ok (.iaload, 1) by decide +kernel)) <|
  fa_cons (ok_iconst (show decode (am_mB y_M_dropRow) 40 = .ok (.iconst 1, 1) by decide +kernel) rfl) <|
  fa_cons (ok_isub (show decode (am_mB y_M_dropRow) 41 = .ok (.isub, 1) by decide +kernel)) <|
  fa_cons (ok_stp (σ := am_istore 3 43) (ok_istore_n (show decode (am_mB y_M_dropRow) 42 = .ok (.istore_n 3, 1) by decide +kernel) rfl (by decide +kernel))) <|
  fa_cons (ok_iload_n (show decode (am_mB y_M_dropRow) 43 = .ok (.iload_n 3, 1) by decide +kernel) rfl) <|
  fa_cons (ok_if_lt (show decode (am_mB y_M_dropRow) 44 = .ok (.ifCond .lt 84, 3) by decide +kernel) (by decide)) <|
  fa_cons (ok_aload_n (show decode (am_mB y_M_dropRow) 47 = .ok (.aload_n 0, 1) by decide +kernel) rfl) <|
  fa_cons (ok_sipush (show decode (am_mB y_M_dropRow) 48 = .ok (.sipush 179, 3) by decide +kernel) (by decide +kernel)) <|
  fa_cons (ok_iconst (show decode (am_mB y_M_dropRow) 51 = .ok (.iconst 3, 1) by decide +kernel) rfl) <|
  fa_cons (ok_iload_n (show decode (am_mB y_M_dropRow) 52 = .ok (.iload_n 3, 1) by decide +kernel) rfl) <|
  fa_cons (ok_imul (show decode (am_mB y_M_dropRow) 53 = .ok (.imul, 1) by decide +kernel)) <|
  fa_cons (ok_iadd (show decode (am_mB y_M_dropRow) 54 = .ok (.iadd, 1) by decide +kernel)) <|
  fa_cons (ok_dup2 (show decode (am_mB y_M_dropRow) 55 = .ok (.dup2, 1) by decide +kernel)) <|
  fa_cons (ok_iald (show decode (am_mB y_M_dropRow) 56 = .ok (.iaload, 1) by decide +kernel)) <|
  fa_cons (ok_aload_n (show decode (am_mB y_M_dropRow) 57 = .ok (.aload_n 0, 1) by decide +kernel) rfl) <|
  fa_cons (ok_iload_n (show decode (am_mB y_M_dropRow) 58 = .ok (.iload_n 3, 1) by decide +kernel) rfl) <|
  fa_cons (ok_cal ⟨rfl, rfl, rfl, rfl⟩ (ok_callS (show decode (am_mB y_M_dropRow) 59 = .ok (.invokestatic 66, 3) by decide +kernel) cf_M_first (by decide +kernel) ml_M_66 cs_M_first rfl ⟨by decide +kernel, rfl⟩)) <|
  fa_cons (ok_iload_n (show decode (am_mB y_M_dropRow) 62 = .ok (.iload_n 1, 1) by decide +kernel) rfl) <|
  fa_cons (ok_icmp_le (show decode (am_mB y_M_dropRow) 63 = .ok (.if_icmp .le 7, 3) by decide +kernel) (by decide)) <|
  fa_cons (ok_iconst (show decode (am_mB y_M_dropRow) 66 = .ok (.iconst 1, 1) by decide +kernel) rfl) <|
  fa_cons (ok_goto (show decode (am_mB y_M_dropRow) 67 = .ok (.goto 4, 3) by decide +kernel) (by decide)) <|
  fa_cons (ok_iconst (show decode (am_mB y_M_dropRow) 70 = .ok (.iconst 0, 1) by decide +kernel) rfl) <|
  fa_cons (ok_isub (show decode (am_mB y_M_dropRow) 71 = .ok (.isub, 1) by decide +kernel)) <|
  fa_cons (ok_iast (show decode (am_mB y_M_dropRow) 72 = .ok (.iastore, 1) by decide +kernel)) <|
  fa_cons (ok_aload_n (show decode (am_mB y_M_dropRow) 73 = .ok (.aload_n 0, 1) by decide +kernel) rfl) <|
  fa_cons (ok_sipush (show decode (am_mB y_M_dropRow) 74 = .ok (.sipush 179, 3) by decide +kernel) (by decide +kernel)) <|
  fa_cons (ok_iconst (show decode (am_mB y_M_dropRow) 77 = .ok (.iconst 3, 1) by decide +kernel) rfl) <|
  fa_cons (ok_iload_n (show decode (am_mB y_M_dropRow) 78 = .ok (.iload_n 3, 1) by decide +kernel) rfl) <|
  fa_cons (ok_imul (show decode (am_mB y_M_dropRow) 79 = .ok (.imul, 1) by decide +kernel)) <|
  fa_cons (ok_iadd (show decode (am_mB y_M_dropRow) 80 = .ok (.iadd, 1) by decide +kernel)) <|
  fa_cons (ok_iconst (show decode (am_mB y_M_dropRow) 81 = .ok (.iconst 1, 1) by decide +kernel) rfl) <|
  fa_cons (ok_iadd (show decode (am_mB y_M_dropRow) 82 = .ok (.iadd, 1) by decide +kernel)) <|
  fa_cons (ok_dup2 (show decode (am_mB y_M_dropRow) 83 = .ok (.dup2, 1) by decide +kernel)) <|
  fa_cons (ok_iald (show decode (am_mB y_M_dropRow) 84 = .ok (.iaload, 1) by decide +kernel)) <|
  fa_cons (ok_aload_n (show decode (am_mB y_M_dropRow) 85 = .ok (.aload_n 0, 1) by decide +kernel) rfl) <|
  fa_cons (ok_iload_n (show decode (am_mB y_M_dropRow) 86 = .ok (.iload_n 3, 1) by decide +kernel) rfl) <|
  fa_cons (ok_cal ⟨rfl, rfl, rfl, rfl⟩ (ok_callS (show decode (am_mB y_M_dropRow) 87 = .ok (.invokestatic 70, 3) by decide +kernel) cf_M_last (by decide +kernel) ml_M_70 cs_M_last rfl ⟨by decide +kernel, rfl⟩)) <|
  fa_cons (ok_iload_n (show decode (am_mB y_M_dropRow) 90 = .ok (.iload_n 1, 1) by decide +kernel) rfl) <|
  fa_cons (ok_icmp_lt (show decode (am_mB y_M_dropRow) 91 = .ok (.if_icmp .lt 7, 3) by decide +kernel) (by decide)) <|
  fa_cons (ok_iconst (show decode (am_mB y_M_dropRow) 94 = .ok (.iconst 1, 1) by decide +kernel) rfl) <|
  fa_cons (ok_goto (show decode (am_mB y_M_dropRow) 95 = .ok (.goto 4, 3) by decide +kernel) (by decide)) <|
  fa_cons (ok_iconst (show decode (am_mB y_M_dropRow) 98 = .ok (.iconst 0, 1) by decide +kernel) rfl) <|
  fa_cons (ok_isub (show decode (am_mB y_M_dropRow) 99 = .ok (.isub, 1) by decide +kernel)) <|
  fa_cons (ok_iast (show decode (am_mB y_M_dropRow) 100 = .ok (.iastore, 1) by decide +kernel)) <|
  fa_cons (ok_aload_n (show decode (am_mB y_M_dropRow) 101 = .ok (.aload_n 0, 1) by decide +kernel) rfl) <|
  fa_cons (ok_iload_n (show decode (am_mB y_M_dropRow) 102 = .ok (.iload_n 3, 1) by decide +kernel) rfl) <|
  fa_cons (ok_cal ⟨rfl, rfl, rfl, rfl⟩ (ok_callS (show decode (am_mB y_M_dropRow) 103 = .ok (.invokestatic 66, 3) by decide +kernel) cf_M_first (by decide +kernel) ml_M_66 cs_M_first rfl ⟨by decide +kernel, rfl⟩)) <|
  fa_cons (ok_aload_n (show decode (am_mB y_M_dropRow) 106 = .ok (.aload_n 0, 1) by decide +kernel) rfl) <|
  fa_cons (ok_iload_n (show decode (am_mB y_M_dropRow) 107 = .ok (.iload_n 3, 1) by decide +kernel) rfl) <|
  fa_cons (ok_cal ⟨rfl, rfl, rfl, rfl⟩ (ok_callS (show decode (am_mB y_M_dropRow) 108 = .ok (.invokestatic 70, 3) by decide +kernel) cf_M_last (by decide +kernel) ml_M_70 cs_M_last rfl ⟨by decide +kernel, rfl⟩)) <|
  fa_cons (ok_icmp_ne (show decode (am_mB y_M_dropRow) 111 = .ok (.if_icmp .ne 11, 3) by decide +kernel) (by decide)) <|
  fa_cons (ok_aload_n (show decode (am_mB y_M_dropRow) 114 = .ok (.aload_n 0, 1) by decide +kernel) rfl) <|
  fa_cons (ok_iload_n (show decode (am_mB y_M_dropRow) 115 = .ok (.iload_n 3, 1) by decide +kernel) rfl) <|
  fa_cons (ok_cal ⟨rfl, rfl, rfl, rfl⟩ (ok_callS (show decode (am_mB y_M_dropRow) 116 = .ok (.invokestatic 107, 3) by decide +kernel) cf_M_dropSpan (by decide +kernel) ml_M_107 cs_M_dropSpan rfl ⟨by decide +kernel, rfl⟩)) <|
  fa_cons (ok_iinc (show decode (am_mB y_M_dropRow) 119 = .ok (.iinc 2 1, 3) by decide +kernel) (by decide +kernel) (by decide +kernel)) <|
  fa_cons (ok_iinc (show decode (am_mB y_M_dropRow) 122 = .ok (.iinc 3 (-1), 3) by decide +kernel) (by decide +kernel) (by decide +kernel)) <|
  fa_cons (ok_stp (σ := am_goto 43) (ok_goto (show decode (am_mB y_M_dropRow) 125 = .ok (.goto (-82), 3) by decide +kernel) (by decide))) <|
  fa_cons (ok_iload_n (show decode (am_mB y_M_dropRow) 128 = .ok (.iload_n 2, 1) by decide +kernel) rfl) <|
  fa_cons (ok_iret (show decode (am_mB y_M_dropRow) 129 = .ok (.ireturn, 1) by decide +kernel) rfl) <|
  fa_nil
set_option maxRecDepth 100000 in
theorem cq_M_dropRow (l : Launch) (d : Nat) : am_lk (co_M_dropRow l d) 0 = am_iload 1 1 ∧ am_lk (co_M_dropRow l d) 1 = am_push (vI 0) 2 ∧ am_lk (co_M_dropRow l d) 2 = am_cal l d y_M_cell none 2 5 0 0 0 0 ∧ am_lk (co_M_dropRow l d) 5 = am_stp (am_istore 2 6) ∧ am_lk (co_M_dropRow l d) 6 = am_iload 2 7 ∧ am_lk (co_M_dropRow l d) 7 = am_push (vI 172) 10 ∧ am_lk (co_M_dropRow l d) 10 = am_icmp_ge 13 28 ∧ am_lk (co_M_dropRow l d) 13 = am_aload 0 14 ∧ am_lk (co_M_dropRow l d) 14 = am_iload 2 15 ∧ am_lk (co_M_dropRow l d) 15 = am_aload 0 16 ∧ am_lk (co_M_dropRow l d) 16 = am_iload 2 17 ∧ am_lk (co_M_dropRow l d) 17 = am_push (vI 7) 19 ∧ am_lk (co_M_dropRow l d) 19 = am_iadd 20 ∧ am_lk (co_M_dropRow l d) 20 = am_ald 0 21 ∧ am_lk (co_M_dropRow l d) 21 = am_ast 0 (fun x => x) 22 ∧ am_lk (co_M_dropRow l d) 22 = am_iinc 2 1 25 ∧ am_lk (co_M_dropRow l d) 25 = am_stp (am_goto 6) ∧ am_lk (co_M_dropRow l d) 28 = am_aload 0 29 ∧ am_lk (co_M_dropRow l d) 29 = am_push (vI 1) 30 ∧ am_lk (co_M_dropRow l d) 30 = am_dup2 31 ∧ am_lk (co_M_dropRow l d) 31 = am_ald 0 32 ∧ am_lk (co_M_dropRow l d) 32 = am_push (vI 1) 33 ∧ am_lk (co_M_dropRow l d) 33 = am_isub 34 ∧ am_lk (co_M_dropRow l d) 34 = am_ast 0 (fun x => x) 35 ∧ am_lk (co_M_dropRow l d) 35 = am_push (vI 0) 36 ∧ am_lk (co_M_dropRow l d) 36 = am_istore 2 37 ∧ am_lk (co_M_dropRow l d) 37 = am_aload 0 38 ∧ am_lk (co_M_dropRow l d) 38 = am_push (vI 2) 39 ∧ am_lk (co_M_dropRow l d) 39 = am_ald 0 40 ∧ am_lk (co_M_dropRow l d) 40 = am_push (vI 1) 41 ∧ am_lk (co_M_dropRow l d) 41 = am_isub 42 ∧ am_lk (co_M_dropRow l d) 42 = am_stp (am_istore 3 43) ∧ am_lk (co_M_dropRow l d) 43 = am_iload 3 44 ∧ am_lk (co_M_dropRow l d) 44 = am_if_lt 47 128 ∧ am_lk (co_M_dropRow l d) 47 = am_aload 0 48 ∧ am_lk (co_M_dropRow l d) 48 = am_push (vI 179) 51 ∧ am_lk (co_M_dropRow l d) 51 = am_push (vI 3) 52 ∧ am_lk (co_M_dropRow l d) 52 = am_iload 3 53 ∧ am_lk (co_M_dropRow l d) 53 = am_imul 54 ∧ am_lk (co_M_dropRow l d) 54 = am_iadd 55 ∧ am_lk (co_M_dropRow l d) 55 = am_dup2 56 ∧ am_lk (co_M_dropRow l d) 56 = am_ald 0 57 ∧ am_lk (co_M_dropRow l d) 57 = am_aload 0 58 ∧ am_lk (co_M_dropRow l d) 58 = am_iload 3 59 ∧ am_lk (co_M_dropRow l d) 59 = am_cal l d y_M_first none 2 62 0 0 0 0 ∧ am_lk (co_M_dropRow l d) 62 = am_iload 1 63 ∧ am_lk (co_M_dropRow l d) 63 = am_icmp_le 66 70 ∧ am_lk (co_M_dropRow l d) 66 = am_push (vI 1) 67 ∧ am_lk (co_M_dropRow l d) 67 = am_goto 71 ∧ am_lk (co_M_dropRow l d) 70 = am_push (vI 0) 71 ∧ am_lk (co_M_dropRow l d) 71 = am_isub 72 ∧ am_lk (co_M_dropRow l d) 72 = am_ast 0 (fun x => x) 73 ∧ am_lk (co_M_dropRow l d) 73 = am_aload 0 74 ∧ am_lk (co_M_dropRow l d) 74 = am_push (vI 179) 77 ∧ am_lk (co_M_dropRow l d) 77 = am_push (vI 3) 78 ∧ am_lk (co_M_dropRow l d) 78 = am_iload 3 79 ∧ am_lk (co_M_dropRow l d) 79 = am_imul 80 ∧ am_lk (co_M_dropRow l d) 80 = am_iadd 81 ∧ am_lk (co_M_dropRow l d) 81 = am_push (vI 1) 82 ∧ am_lk (co_M_dropRow l d) 82 = am_iadd 83 ∧ am_lk (co_M_dropRow l d) 83 = am_dup2 84 ∧ am_lk (co_M_dropRow l d) 84 = am_ald 0 85 ∧ am_lk (co_M_dropRow l d) 85 = am_aload 0 86 ∧ am_lk (co_M_dropRow l d) 86 = am_iload 3 87 ∧ am_lk (co_M_dropRow l d) 87 = am_cal l d y_M_last none 2 90 0 0 0 0 ∧ am_lk (co_M_dropRow l d) 90 = am_iload 1 91 ∧ am_lk (co_M_dropRow l d) 91 = am_icmp_lt 94 98 ∧ am_lk (co_M_dropRow l d) 94 = am_push (vI 1) 95 ∧ am_lk (co_M_dropRow l d) 95 = am_goto 99 ∧ am_lk (co_M_dropRow l d) 98 = am_push (vI 0) 99 ∧ am_lk (co_M_dropRow l d) 99 = am_isub 100 ∧ am_lk (co_M_dropRow l d) 100 = am_ast 0 (fun x => x) 101 ∧ am_lk (co_M_dropRow l d) 101 = am_aload 0 102 ∧ am_lk (co_M_dropRow l d) 102 = am_iload 3 103 ∧ am_lk (co_M_dropRow l d) 103 = am_cal l d y_M_first none 2 106 0 0 0 0 ∧ am_lk (co_M_dropRow l d) 106 = am_aload 0 107 ∧ am_lk (co_M_dropRow l d) 107 = am_iload 3 108 ∧ am_lk (co_M_dropRow l d) 108 = am_cal l d y_M_last none 2 111 0 0 0 0 ∧ am_lk (co_M_dropRow l d) 111 = am_icmp_ne 114 122 ∧ am_lk (co_M_dropRow l d) 114 = am_aload 0 115 ∧ am_lk (co_M_dropRow l d) 115 = am_iload 3 116 ∧ am_lk (co_M_dropRow l d) 116 = am_cal l d y_M_dropSpan none 2 119 0 0 0 0 ∧ am_lk (co_M_dropRow l d) 119 = am_iinc 2 1 122 ∧ am_lk (co_M_dropRow l d) 122 = am_iinc 3 (-1) 125 ∧ am_lk (co_M_dropRow l d) 125 = am_stp (am_goto 43) ∧ am_lk (co_M_dropRow l d) 128 = am_iload 2 129 ∧ am_lk (co_M_dropRow l d) 129 = am_iret false := ⟨rfl, rfl, rfl, rfl, rfl, rfl, rfl, rfl, rfl, rfl, rfl, rfl, rfl, rfl, rfl, rfl, rfl, rfl, rfl, rfl, rfl, rfl, rfl, rfl, rfl, rfl, rfl, rfl, rfl, rfl, rfl, rfl, rfl, rfl, rfl, rfl, rfl, rfl, rfl, rfl, rfl, rfl, rfl, rfl, rfl, rfl, rfl, rfl, rfl, rfl, rfl, rfl, rfl, rfl, rfl, rfl, rfl, rfl, rfl, rfl, rfl, rfl, rfl, rfl, rfl, rfl, rfl, rfl, rfl, rfl, rfl, rfl, rfl, rfl, rfl, rfl, rfl, rfl, rfl, rfl, rfl, rfl, rfl, rfl, rfl, rfl, rfl⟩
theorem en_M_dropRow {l : Launch} {d : Nat} (n : Nat) {as : List am_V} {G : am_G} {I : am_I} {J : am_J} {P : am_P} (hlen : (as.map am_cat).sum ≤ 4) (h : am_go (am_lk (co_M_dropRow l d)) (am_X l (0, fun _ => 0) (d + 1) y_M_dropRow P) P n 0 (am_el 4 as) [] 0 0 G I J) : am_T l (d + 1) y_M_dropRow as G I J P :=
  am_T_of (sc := (0, fun _ => 0)) cf_M_dropRow (by decide +kernel) (by decide) (by decide +kernel) hlen (am_run (ok_lk _ (ck_M_dropRow)) n _ _ _ _ _ _ _ _ h)
theorem rn_M_dropRow {l : Launch} {sc : Nat × (Nat → Int32)} {d : Nat} {P : am_P} (n : Nat) {pc : Nat} {ls : am_L} {st : List am_V} {kc ks : Nat} {G : am_G} {I : am_I} {J : am_J} (h : am_go (am_lk (co_M_dropRow l d)) (am_X l sc (d + 1) y_M_dropRow P) P n pc ls st kc ks G I J) : am_X l sc (d + 1) y_M_dropRow P pc ls st kc ks G I J := am_run (ok_lk _ (ck_M_dropRow)) n _ _ _ _ _ _ _ _ h
def co_M_least (l : Launch) (d : Nat) : List (Nat × am_S) := [(0, am_iload 0 1), (1, am_if_ne 4 9), (4, am_push (vI 6) 6), (6, am_goto 19), (9, am_iload 0 10), (10, am_push (vI 1) 11), (11, am_icmp_ne 14 18), (14, am_push (vI 0) 15), (15, am_goto 19), (18, am_push (vI 1) 19), (19, am_iret false)]
theorem ck_M_least {l : Launch} {sc : Nat × (Nat → Int32)} {d : Nat} : ∀ q ∈ co_M_least l d, am_ok l sc (d + 1) y_M_least q.1 q.2 :=
  fa_cons (ok_iload_n (show decode (am_mB y_M_least) 0 = .ok (.iload_n 0, 1) by decide +kernel) rfl) <|
  fa_cons (ok_if_ne (show decode (am_mB y_M_least) 1 = .ok (.ifCond .ne 8, 3) by decide +kernel) (by decide)) <|
  fa_cons (ok_bipush (show decode (am_mB y_M_least) 4 = .ok (.bipush 6, 2) by decide +kernel) (by decide +kernel)) <|
  fa_cons (ok_goto (show decode (am_mB y_M_least) 6 = .ok (.goto 13, 3) by decide +kernel) (by decide)) <|
  fa_cons (ok_iload_n (show decode (am_mB y_M_least) 9 = .ok (.iload_n 0, 1) by decide +kernel) rfl) <|
  fa_cons (ok_iconst (show decode (am_mB y_M_least) 10 = .ok (.iconst 1, 1) by decide +kernel) rfl) <|
  fa_cons (ok_icmp_ne (show decode (am_mB y_M_least) 11 = .ok (.if_icmp .ne 7, 3) by decide +kernel) (by decide)) <|
  fa_cons (ok_iconst (show decode (am_mB y_M_least) 14 = .ok (.iconst 0, 1) by decide +kernel) rfl) <|
  fa_cons (ok_goto (show decode (am_mB y_M_least) 15 = .ok (.goto 4, 3) by decide +kernel) (by decide)) <|
  fa_cons (ok_iconst (show decode (am_mB y_M_least) 18 = .ok (.iconst 1, 1) by decide +kernel) rfl) <|
  fa_cons (ok_iret (show decode (am_mB y_M_least) 19 = .ok (.ireturn, 1) by decide +kernel) rfl) <|
  fa_nil
set_option maxRecDepth 100000 in
theorem cq_M_least (l : Launch) (d : Nat) : am_lk (co_M_least l d) 0 = am_iload 0 1 ∧ am_lk (co_M_least l d) 1 = am_if_ne 4 9 ∧ am_lk (co_M_least l d) 4 = am_push (vI 6) 6 ∧ am_lk (co_M_least l d) 6 = am_goto 19 ∧ am_lk (co_M_least l d) 9 = am_iload 0 10 ∧ am_lk (co_M_least l d) 10 = am_push (vI 1) 11 ∧ am_lk (co_M_least l d) 11 = am_icmp_ne 14 18 ∧ am_lk (co_M_least l d) 14 = am_push (vI 0) 15 ∧ am_lk (co_M_least l d) 15 = am_goto 19 ∧ am_lk (co_M_least l d) 18 = am_push (vI 1) 19 ∧ am_lk (co_M_least l d) 19 = am_iret false := ⟨rfl, rfl, rfl, rfl, rfl, rfl, rfl, rfl, rfl, rfl, rfl⟩
theorem en_M_least {l : Launch} {d : Nat} (n : Nat) {as : List am_V} {G : am_G} {I : am_I} {J : am_J} {P : am_P} (hlen : (as.map am_cat).sum ≤ 1) (h : am_go (am_lk (co_M_least l d)) (am_X l (0, fun _ => 0) (d + 1) y_M_least P) P n 0 (am_el 1 as) [] 0 0 G I J) : am_T l (d + 1) y_M_least as G I J P :=
  am_T_of (sc := (0, fun _ => 0)) cf_M_least (by decide +kernel) (by decide) (by decide +kernel) hlen (am_run (ok_lk _ (ck_M_least)) n _ _ _ _ _ _ _ _ h)
theorem rn_M_least {l : Launch} {sc : Nat × (Nat → Int32)} {d : Nat} {P : am_P} (n : Nat) {pc : Nat} {ls : am_L} {st : List am_V} {kc ks : Nat} {G : am_G} {I : am_I} {J : am_J} (h : am_go (am_lk (co_M_least l d)) (am_X l sc (d + 1) y_M_least P) P n pc ls st kc ks G I J) : am_X l sc (d + 1) y_M_least P pc ls st kc ks G I J := am_run (ok_lk _ (ck_M_least)) n _ _ _ _ _ _ _ _ h
def co_M_most (l : Launch) (d : Nat) : List (Nat × am_S) := [(0, am_iload 0 1), (1, am_if_ne 4 9), (4, am_push (vI 40) 6), (6, am_goto 19), (9, am_iload 0 10), (10, am_push (vI 1) 11), (11, am_icmp_ne 14 18), (14, am_push (vI 4) 15), (15, am_goto 19), (18, am_push (vI 3) 19), (19, am_iret false)]
theorem ck_M_most {l : Launch} {sc : Nat × (Nat → Int32)} {d : Nat} : ∀ q ∈ co_M_most l d, am_ok l sc (d + 1) y_M_most q.1 q.2 :=
  fa_cons (ok_iload_n (show decode (am_mB y_M_most) 0 = .ok (.iload_n 0, 1) by decide +kernel) rfl) <|
  fa_cons (ok_if_ne (show decode (am_mB y_M_most) 1 = .ok (.ifCond .ne 8, 3) by decide +kernel) (by decide)) <|
  fa_cons (ok_bipush (show decode (am_mB y_M_most) 4 = .ok (.bipush 40, 2) by decide +kernel) (by decide +kernel)) <|
  fa_cons (ok_goto (show decode (am_mB y_M_most) 6 = .ok (.goto 13, 3) by decide +kernel) (by decide)) <|
  fa_cons (ok_iload_n (show decode (am_mB y_M_most) 9 = .ok (.iload_n 0, 1) by decide +kernel) rfl) <|
  fa_cons (ok_iconst (show decode (am_mB y_M_most) 10 = .ok (.iconst 1, 1) by decide +kernel) rfl) <|
  fa_cons (ok_icmp_ne (show decode (am_mB y_M_most) 11 = .ok (.if_icmp .ne 7, 3) by decide +kernel) (by decide)) <|
  fa_cons (ok_iconst (show decode (am_mB y_M_most) 14 = .ok (.iconst 4, 1) by decide +kernel) rfl) <|
  fa_cons (ok_goto (show decode (am_mB y_M_most) 15 = .ok (.goto 4, 3) by decide +kernel) (by decide)) <|
  fa_cons (ok_iconst (show decode (am_mB y_M_most) 18 = .ok (.iconst 3, 1) by decide +kernel) rfl) <|
  fa_cons (ok_iret (show decode (am_mB y_M_most) 19 = .ok (.ireturn, 1) by decide +kernel) rfl) <|
  fa_nil
set_option maxRecDepth 100000 in
theorem cq_M_most (l : Launch) (d : Nat) : am_lk (co_M_most l d) 0 = am_iload 0 1 ∧ am_lk (co_M_most l d) 1 = am_if_ne 4 9 ∧ am_lk (co_M_most l d) 4 = am_push (vI 40) 6 ∧ am_lk (co_M_most l d) 6 = am_goto 19 ∧ am_lk (co_M_most l d) 9 = am_iload 0 10 ∧ am_lk (co_M_most l d) 10 = am_push (vI 1) 11 ∧ am_lk (co_M_most l d) 11 = am_icmp_ne 14 18 ∧ am_lk (co_M_most l d) 14 = am_push (vI 4) 15 ∧ am_lk (co_M_most l d) 15 = am_goto 19 ∧ am_lk (co_M_most l d) 18 = am_push (vI 3) 19 ∧ am_lk (co_M_most l d) 19 = am_iret false := ⟨rfl, rfl, rfl, rfl, rfl, rfl, rfl, rfl, rfl, rfl, rfl⟩
theorem en_M_most {l : Launch} {d : Nat} (n : Nat) {as : List am_V} {G : am_G} {I : am_I} {J : am_J} {P : am_P} (hlen : (as.map am_cat).sum ≤ 1) (h : am_go (am_lk (co_M_most l d)) (am_X l (0, fun _ => 0) (d + 1) y_M_most P) P n 0 (am_el 1 as) [] 0 0 G I J) : am_T l (d + 1) y_M_most as G I J P :=
  am_T_of (sc := (0, fun _ => 0)) cf_M_most (by decide +kernel) (by decide) (by decide +kernel) hlen (am_run (ok_lk _ (ck_M_most)) n _ _ _ _ _ _ _ _ h)
theorem rn_M_most {l : Launch} {sc : Nat × (Nat → Int32)} {d : Nat} {P : am_P} (n : Nat) {pc : Nat} {ls : am_L} {st : List am_V} {kc ks : Nat} {G : am_G} {I : am_I} {J : am_J} (h : am_go (am_lk (co_M_most l d)) (am_X l sc (d + 1) y_M_most P) P n pc ls st kc ks G I J) : am_X l sc (d + 1) y_M_most P pc ls st kc ks G I J := am_run (ok_lk _ (ck_M_most)) n _ _ _ _ _ _ _ _ h
def co_M_isHeight (l : Launch) (d : Nat) : List (Nat × am_S) := [(0, am_iload 0 1), (1, am_i2l 2), (2, am_push (vL 0) 3), (3, am_push (vL 7) 6), (6, am_cal l d y_M_in none 3 9 0 0 0 0), (9, am_if_eq 12 34), (12, am_iload 1 13), (13, am_i2l 14), (14, am_iload 0 15), (15, am_cal l d y_M_least none 1 18 0 0 0 0), (18, am_i2l 19), (19, am_iload 0 20), (20, am_cal l d y_M_most none 1 23 0 0 0 0), (23, am_i2l 24), (24, am_cal l d y_M_in none 3 27 0 0 0 0), (27, am_if_eq 30 34), (30, am_push (vI 1) 31), (31, am_goto 35), (34, am_push (vI 0) 35), (35, am_iret true)]
theorem ck_M_isHeight {l : Launch} {sc : Nat × (Nat → Int32)} {d : Nat} : ∀ q ∈ co_M_isHeight l d, am_ok l sc (d + 1) y_M_isHeight q.1 q.2 :=
  fa_cons (ok_iload_n (show decode (am_mB y_M_isHeight) 0 = .ok (.iload_n 0, 1) by decide +kernel) rfl) <|
  fa_cons (ok_i2l (show decode (am_mB y_M_isHeight) 1 = .ok (.i2l, 1) by decide +kernel)) <|
  fa_cons (ok_lconst (show decode (am_mB y_M_isHeight) 2 = .ok (.lconst 0, 1) by decide +kernel) rfl) <|
  fa_cons (ok_ldc2 (show decode (am_mB y_M_isHeight) 3 = .ok (.ldc2_w 111, 3) by decide +kernel) w_1095) <|
  fa_cons (ok_cal ⟨rfl, rfl, rfl, rfl⟩ (ok_callS (show decode (am_mB y_M_isHeight) 6 = .ok (.invokestatic 113, 3) by decide +kernel) cf_M_in (by decide +kernel) ml_M_113 cs_M_in rfl ⟨by decide +kernel, rfl⟩)) <|
  fa_cons (ok_if_eq (show decode (am_mB y_M_isHeight) 9 = .ok (.ifCond .eq 25, 3) by decide +kernel) (by decide)) <|
  fa_cons (ok_iload_n (show decode (am_mB y_M_isHeight) 12 = .ok (.iload_n 1, 1) by decide +kernel) rfl) <|
  fa_cons (ok_i2l (show decode (am_mB y_M_isHeight) 13 = .ok (.i2l, 1) by decide +kernel)) <|
  fa_cons (ok_iload_n (show decode (am_mB y_M_isHeight) 14 = .ok (.iload_n 0, 1) by decide +kernel) rfl) <|
  fa_cons (ok_cal ⟨rfl, rfl, rfl, rfl⟩ (ok_callS (show decode (am_mB y_M_isHeight) 15 = .ok (.invokestatic 117, 3) by decide +kernel) cf_M_least (by decide +kernel) ml_M_117 cs_M_least rfl ⟨by decide +kernel, rfl⟩)) <|
  fa_cons (ok_i2l (show decode (am_mB y_M_isHeight) 18 = .ok (.i2l, 1) by decide +kernel)) <|
  fa_cons (ok_iload_n (show decode (am_mB y_M_isHeight) 19 = .ok (.iload_n 0, 1) by decide +kernel) rfl) <|
  fa_cons (ok_cal ⟨rfl, rfl, rfl, rfl⟩ (ok_callS (show decode (am_mB y_M_isHeight) 20 = .ok (.invokestatic 120, 3) by decide +kernel) cf_M_most (by decide +kernel) ml_M_120 cs_M_most rfl ⟨by decide +kernel, rfl⟩)) <|
  fa_cons (ok_i2l (show decode (am_mB y_M_isHeight) 23 = .ok (.i2l, 1) by decide +kernel)) <|
  fa_cons (ok_cal ⟨rfl, rfl, rfl, rfl⟩ (ok_callS (show decode (am_mB y_M_isHeight) 24 = .ok (.invokestatic 113, 3) by decide +kernel) cf_M_in (by decide +kernel) ml_M_113 cs_M_in rfl ⟨by decide +kernel, rfl⟩)) <|
  fa_cons (ok_if_eq (show decode (am_mB y_M_isHeight) 27 = .ok (.ifCond .eq 7, 3) by decide +kernel) (by decide)) <|
  fa_cons (ok_iconst (show decode (am_mB y_M_isHeight) 30 = .ok (.iconst 1, 1) by decide +kernel) rfl) <|
  fa_cons (ok_goto (show decode (am_mB y_M_isHeight) 31 = .ok (.goto 4, 3) by decide +kernel) (by decide)) <|
  fa_cons (ok_iconst (show decode (am_mB y_M_isHeight) 34 = .ok (.iconst 0, 1) by decide +kernel) rfl) <|
  fa_cons (ok_iret (show decode (am_mB y_M_isHeight) 35 = .ok (.ireturn, 1) by decide +kernel) rfl) <|
  fa_nil
set_option maxRecDepth 100000 in
theorem cq_M_isHeight (l : Launch) (d : Nat) : am_lk (co_M_isHeight l d) 0 = am_iload 0 1 ∧ am_lk (co_M_isHeight l d) 1 = am_i2l 2 ∧ am_lk (co_M_isHeight l d) 2 = am_push (vL 0) 3 ∧ am_lk (co_M_isHeight l d) 3 = am_push (vL 7) 6 ∧ am_lk (co_M_isHeight l d) 6 = am_cal l d y_M_in none 3 9 0 0 0 0 ∧ am_lk (co_M_isHeight l d) 9 = am_if_eq 12 34 ∧ am_lk (co_M_isHeight l d) 12 = am_iload 1 13 ∧ am_lk (co_M_isHeight l d) 13 = am_i2l 14 ∧ am_lk (co_M_isHeight l d) 14 = am_iload 0 15 ∧ am_lk (co_M_isHeight l d) 15 = am_cal l d y_M_least none 1 18 0 0 0 0 ∧ am_lk (co_M_isHeight l d) 18 = am_i2l 19 ∧ am_lk (co_M_isHeight l d) 19 = am_iload 0 20 ∧ am_lk (co_M_isHeight l d) 20 = am_cal l d y_M_most none 1 23 0 0 0 0 ∧ am_lk (co_M_isHeight l d) 23 = am_i2l 24 ∧ am_lk (co_M_isHeight l d) 24 = am_cal l d y_M_in none 3 27 0 0 0 0 ∧ am_lk (co_M_isHeight l d) 27 = am_if_eq 30 34 ∧ am_lk (co_M_isHeight l d) 30 = am_push (vI 1) 31 ∧ am_lk (co_M_isHeight l d) 31 = am_goto 35 ∧ am_lk (co_M_isHeight l d) 34 = am_push (vI 0) 35 ∧ am_lk (co_M_isHeight l d) 35 = am_iret true := ⟨rfl, rfl, rfl, rfl, rfl, rfl, rfl, rfl, rfl, rfl, rfl, rfl, rfl, rfl, rfl, rfl, rfl, rfl, rfl, rfl⟩
theorem en_M_isHeight {l : Launch} {d : Nat} (n : Nat) {as : List am_V} {G : am_G} {I : am_I} {J : am_J} {P : am_P} (hlen : (as.map am_cat).sum ≤ 2) (h : am_go (am_lk (co_M_isHeight l d)) (am_X l (0, fun _ => 0) (d + 1) y_M_isHeight P) P n 0 (am_el 2 as) [] 0 0 G I J) : am_T l (d + 1) y_M_isHeight as G I J P :=
  am_T_of (sc := (0, fun _ => 0)) cf_M_isHeight (by decide +kernel) (by decide) (by decide +kernel) hlen (am_run (ok_lk _ (ck_M_isHeight)) n _ _ _ _ _ _ _ _ h)
theorem rn_M_isHeight {l : Launch} {sc : Nat × (Nat → Int32)} {d : Nat} {P : am_P} (n : Nat) {pc : Nat} {ls : am_L} {st : List am_V} {kc ks : Nat} {G : am_G} {I : am_I} {J : am_J} (h : am_go (am_lk (co_M_isHeight l d)) (am_X l sc (d + 1) y_M_isHeight P) P n pc ls st kc ks G I J) : am_X l sc (d + 1) y_M_isHeight P pc ls st kc ks G I J := am_run (ok_lk _ (ck_M_isHeight)) n _ _ _ _ _ _ _ _ h
def co_M_sum (l : Launch) (d : Nat) : List (Nat × am_S) := [(0, am_push (vI 0) 1), (1, am_istore 4 3), (3, am_iload 1 4), (4, am_stp (am_istore 5 6)), (6, am_iload 5 8), (8, am_iload 2 9), (9, am_icmp_gt 12 33), (12, am_iload 4 14), (14, am_aload 0 15), (15, am_iload 5 17), (17, am_push (vI 3) 18), (18, am_iload 3 19), (19, am_iadd 20), (20, am_cal l d y_M_cell none 2 23 0 0 0 0), (23, am_ald 0 24), (24, am_iadd 25), (25, am_istore 4 27), (27, am_iinc 5 1 30), (30, am_stp (am_goto 6)), (33, am_iload 4 35), (35, am_iret false)]
theorem ck_M_sum {l : Launch} {sc : Nat × (Nat → Int32)} {d : Nat} : ∀ q ∈ co_M_sum l d, am_ok l sc (d + 1) y_M_sum q.1 q.2 :=
  fa_cons (ok_iconst (show decode (am_mB y_M_sum) 0 = .ok (.iconst 0, 1) by decide +kernel) rfl) <|
  fa_cons (ok_istore (show decode (am_mB y_M_sum) 1 = .ok (.istore 4, 2) by decide +kernel) (by decide +kernel)) <|
  fa_cons (ok_iload_n (show decode (am_mB y_M_sum) 3 = .ok (.iload_n 1, 1) by decide +kernel) rfl) <|
  fa_cons (ok_stp (σ := am_istore 5 6) (ok_istore (show decode (am_mB y_M_sum) 4 = .ok (.istore 5, 2) by decide +kernel) (by decide +kernel))) <|
  fa_cons (ok_iload (show decode (am_mB y_M_sum) 6 = .ok (.iload 5, 2) by decide +kernel)) <|
  fa_cons (ok_iload_n (show decode (am_mB y_M_sum) 8 = .ok (.iload_n 2, 1) by decide +kernel) rfl) <|
  fa_cons (ok_icmp_gt (show decode (am_mB y_M_sum) 9 = .ok (.if_icmp .gt 24, 3) by decide +kernel) (by decide)) <|
  fa_cons (ok_iload (show decode (am_mB y_M_sum) 12 = .ok (.iload 4, 2) by decide +kernel)) <|
  fa_cons (ok_aload_n (show decode (am_mB y_M_sum) 14 = .ok (.aload_n 0, 1) by decide +kernel) rfl) <|
  fa_cons (ok_iload (show decode (am_mB y_M_sum) 15 = .ok (.iload 5, 2) by decide +kernel)) <|
  fa_cons (ok_iconst (show decode (am_mB y_M_sum) 17 = .ok (.iconst 3, 1) by decide +kernel) rfl) <|
  fa_cons (ok_iload_n (show decode (am_mB y_M_sum) 18 = .ok (.iload_n 3, 1) by decide +kernel) rfl) <|
  fa_cons (ok_iadd (show decode (am_mB y_M_sum) 19 = .ok (.iadd, 1) by decide +kernel)) <|
  fa_cons (ok_cal ⟨rfl, rfl, rfl, rfl⟩ (ok_callS (show decode (am_mB y_M_sum) 20 = .ok (.invokestatic 62, 3) by decide +kernel) cf_M_cell (by decide +kernel) ml_M_62 cs_M_cell rfl ⟨by decide +kernel, rfl⟩)) <|
  fa_cons (ok_iald (show decode (am_mB y_M_sum) 23 = .ok (.iaload, 1) by decide +kernel)) <|
  fa_cons (ok_iadd (show decode (am_mB y_M_sum) 24 = .ok (.iadd, 1) by decide +kernel)) <|
  fa_cons (ok_istore (show decode (am_mB y_M_sum) 25 = .ok (.istore 4, 2) by decide +kernel) (by decide +kernel)) <|
  fa_cons (ok_iinc (show decode (am_mB y_M_sum) 27 = .ok (.iinc 5 1, 3) by decide +kernel) (by decide +kernel) (by decide +kernel)) <|
  fa_cons (ok_stp (σ := am_goto 6) (ok_goto (show decode (am_mB y_M_sum) 30 = .ok (.goto (-24), 3) by decide +kernel) (by decide))) <|
  fa_cons (ok_iload (show decode (am_mB y_M_sum) 33 = .ok (.iload 4, 2) by decide +kernel)) <|
  fa_cons (ok_iret (show decode (am_mB y_M_sum) 35 = .ok (.ireturn, 1) by decide +kernel) rfl) <|
  fa_nil
set_option maxRecDepth 100000 in
theorem cq_M_sum (l : Launch) (d : Nat) : am_lk (co_M_sum l d) 0 = am_push (vI 0) 1 ∧ am_lk (co_M_sum l d) 1 = am_istore 4 3 ∧ am_lk (co_M_sum l d) 3 = am_iload 1 4 ∧ am_lk (co_M_sum l d) 4 = am_stp (am_istore 5 6) ∧ am_lk (co_M_sum l d) 6 = am_iload 5 8 ∧ am_lk (co_M_sum l d) 8 = am_iload 2 9 ∧ am_lk (co_M_sum l d) 9 = am_icmp_gt 12 33 ∧ am_lk (co_M_sum l d) 12 = am_iload 4 14 ∧ am_lk (co_M_sum l d) 14 = am_aload 0 15 ∧ am_lk (co_M_sum l d) 15 = am_iload 5 17 ∧ am_lk (co_M_sum l d) 17 = am_push (vI 3) 18 ∧ am_lk (co_M_sum l d) 18 = am_iload 3 19 ∧ am_lk (co_M_sum l d) 19 = am_iadd 20 ∧ am_lk (co_M_sum l d) 20 = am_cal l d y_M_cell none 2 23 0 0 0 0 ∧ am_lk (co_M_sum l d) 23 = am_ald 0 24 ∧ am_lk (co_M_sum l d) 24 = am_iadd 25 ∧ am_lk (co_M_sum l d) 25 = am_istore 4 27 ∧ am_lk (co_M_sum l d) 27 = am_iinc 5 1 30 ∧ am_lk (co_M_sum l d) 30 = am_stp (am_goto 6) ∧ am_lk (co_M_sum l d) 33 = am_iload 4 35 ∧ am_lk (co_M_sum l d) 35 = am_iret false := ⟨rfl, rfl, rfl, rfl, rfl, rfl, rfl, rfl, rfl, rfl, rfl, rfl, rfl, rfl, rfl, rfl, rfl, rfl, rfl, rfl, rfl⟩
theorem en_M_sum {l : Launch} {d : Nat} (n : Nat) {as : List am_V} {G : am_G} {I : am_I} {J : am_J} {P : am_P} (hlen : (as.map am_cat).sum ≤ 6) (h : am_go (am_lk (co_M_sum l d)) (am_X l (0, fun _ => 0) (d + 1) y_M_sum P) P n 0 (am_el 6 as) [] 0 0 G I J) : am_T l (d + 1) y_M_sum as G I J P :=
  am_T_of (sc := (0, fun _ => 0)) cf_M_sum (by decide +kernel) (by decide) (by decide +kernel) hlen (am_run (ok_lk _ (ck_M_sum)) n _ _ _ _ _ _ _ _ h)
theorem rn_M_sum {l : Launch} {sc : Nat × (Nat → Int32)} {d : Nat} {P : am_P} (n : Nat) {pc : Nat} {ls : am_L} {st : List am_V} {kc ks : Nat} {G : am_G} {I : am_I} {J : am_J} (h : am_go (am_lk (co_M_sum l d)) (am_X l sc (d + 1) y_M_sum P) P n pc ls st kc ks G I J) : am_X l sc (d + 1) y_M_sum P pc ls st kc ks G I J := am_run (ok_lk _ (ck_M_sum)) n _ _ _ _ _ _ _ _ h
def co_M_append (l : Launch) (d : Nat) : List (Nat × am_S) := [(0, am_aload 0 1), (1, am_iload 1 2), (2, am_i2l 3), (3, am_push (vL 0) 4), (4, am_push (vL 255) 7), (7, am_cal l d y_M_in none 3 10 0 0 0 0), (10, am_if_ne 13 17), (13, am_push (vI 1) 14), (14, am_goto 32), (17, am_aload 0 18), (18, am_getI 9 2 21), (21, am_push (vI 160) 24), (24, am_icmp_ne 27 31), (27, am_push (vI 2) 28), (28, am_goto 32), (31, am_push (vI 0) 32), (32, am_cal l d y_M_refused (some 9) 2 35 0 0 0 0), (35, am_if_eq 38 40), (38, am_push (vI 0) 39), (39, am_iret false), (40, am_aload 0 41), (41, am_getR 9 1 44), (44, am_aload 0 45), (45, am_getI 9 2 48), (48, am_iload 1 49), (49, am_ast 0 (fun x => x) 50), (50, am_aload 0 51), (51, am_dup 52), (52, am_getI 9 2 55), (55, am_push (vI 1) 56), (56, am_iadd 57), (57, am_putI 9 2 60), (60, am_aload 0 61), (61, am_getI 9 2 64), (64, am_iret false)]
theorem ck_M_append {l : Launch} {sc : Nat × (Nat → Int32)} {d : Nat} : ∀ q ∈ co_M_append l d, am_ok l sc (d + 1) y_M_append q.1 q.2 :=
  fa_cons (ok_aload_n (show decode (am_mB y_M_append) 0 = .ok (.aload_n 0, 1) by decide +kernel) rfl) <|
  fa_cons (ok_iload_n (show decode (am_mB y_M_append) 1 = .ok (.iload_n 1, 1) by decide +kernel) rfl) <|
  fa_cons (ok_i2l (show decode (am_mB y_M_append) 2 = .ok (.i2l, 1) by decide +kernel)) <|
  fa_cons (ok_lconst (show decode (am_mB y_M_append) 3 = .ok (.lconst 0, 1) by decide +kernel) rfl) <|
  fa_cons (ok_ldc2 (show decode (am_mB y_M_append) 4 = .ok (.ldc2_w 123, 3) by decide +kernel) w_1025) <|
  fa_cons (ok_cal ⟨rfl, rfl, rfl, rfl⟩ (ok_callS (show decode (am_mB y_M_append) 7 = .ok (.invokestatic 113, 3) by decide +kernel) cf_M_in (by decide +kernel) ml_M_113 cs_M_in rfl ⟨by decide +kernel, rfl⟩)) <|
  fa_cons (ok_if_ne (show decode (am_mB y_M_append) 10 = .ok (.ifCond .ne 7, 3) by decide +kernel) (by decide)) <|
  fa_cons (ok_iconst (show decode (am_mB y_M_append) 13 = .ok (.iconst 1, 1) by decide +kernel) rfl) <|
  fa_cons (ok_goto (show decode (am_mB y_M_append) 14 = .ok (.goto 18, 3) by decide +kernel) (by decide)) <|
  fa_cons (ok_aload_n (show decode (am_mB y_M_append) 17 = .ok (.aload_n 0, 1) by decide +kernel) rfl) <|
  fa_cons (ok_getI (show decode (am_mB y_M_append) 18 = .ok (.getfield 125, 3) by decide +kernel) fl_M_125 (by decide +kernel)) <|
  fa_cons (ok_sipush (show decode (am_mB y_M_append) 21 = .ok (.sipush 160, 3) by decide +kernel) (by decide +kernel)) <|
  fa_cons (ok_icmp_ne (show decode (am_mB y_M_append) 24 = .ok (.if_icmp .ne 7, 3) by decide +kernel) (by decide)) <|
  fa_cons (ok_iconst (show decode (am_mB y_M_append) 27 = .ok (.iconst 2, 1) by decide +kernel) rfl) <|
  fa_cons (ok_goto (show decode (am_mB y_M_append) 28 = .ok (.goto 4, 3) by decide +kernel) (by decide)) <|
  fa_cons (ok_iconst (show decode (am_mB y_M_append) 31 = .ok (.iconst 0, 1) by decide +kernel) rfl) <|
  fa_cons (ok_cal ⟨rfl, rfl, rfl, rfl⟩ (ok_callV (show decode (am_mB y_M_append) 32 = .ok (.invokevirtual 128, 3) by decide +kernel) cf_M_refused (by decide +kernel) ml_M_128 ci_M_refused cv_M_refused ⟨by decide, rfl⟩ rfl ⟨by decide +kernel, rfl⟩)) <|
  fa_cons (ok_if_eq (show decode (am_mB y_M_append) 35 = .ok (.ifCond .eq 5, 3) by decide +kernel) (by decide)) <|
  fa_cons (ok_iconst (show decode (am_mB y_M_append) 38 = .ok (.iconst 0, 1) by decide +kernel) rfl) <|
  fa_cons (ok_iret (show decode (am_mB y_M_append) 39 = .ok (.ireturn, 1) by decide +kernel) rfl) <|
  fa_cons (ok_aload_n (show decode (am_mB y_M_append) 40 = .ok (.aload_n 0, 1) by decide +kernel) rfl) <|
  fa_cons (ok_getR (show decode (am_mB y_M_append) 41 = .ok (.getfield 7, 3) by decide +kernel) fl_M_7 (by decide +kernel)) <|
  fa_cons (ok_aload_n (show decode (am_mB y_M_append) 44 = .ok (.aload_n 0, 1) by decide +kernel) rfl) <|
  fa_cons (ok_getI (show decode (am_mB y_M_append) 45 = .ok (.getfield 125, 3) by decide +kernel) fl_M_125 (by decide +kernel)) <|
  fa_cons (ok_iload_n (show decode (am_mB y_M_append) 48 = .ok (.iload_n 1, 1) by decide +kernel) rfl) <|
  fa_cons (ok_iast (show decode (am_mB y_M_append) 49 = .ok (.iastore, 1) by decide +kernel)) <|
  fa_cons (ok_aload_n (show decode (am_mB y_M_append) 50 = .ok (.aload_n 0, 1) by decide +kernel) rfl) <|
  fa_cons (ok_dup (show decode (am_mB y_M_append) 51 = .ok (.dup, 1) by decide +kernel)) <|
  fa_cons (ok_getI (show decode (am_mB y_M_append) 52 = .ok (.getfield 125, 3) by decide +kernel) fl_M_125 (by decide +kernel)) <|
  fa_cons (ok_iconst (show decode (am_mB y_M_append) 55 = .ok (.iconst 1, 1) by decide +kernel) rfl) <|
  fa_cons (ok_iadd (show decode (am_mB y_M_append) 56 = .ok (.iadd, 1) by decide +kernel)) <|
  fa_cons (ok_putI (show decode (am_mB y_M_append) 57 = .ok (.putfield 125, 3) by decide +kernel) fl_M_125 (by decide +kernel)) <|
  fa_cons (ok_aload_n (show decode (am_mB y_M_append) 60 = .ok (.aload_n 0, 1) by decide +kernel) rfl) <|
  fa_cons (ok_getI (show decode (am_mB y_M_append) 61 = .ok (.getfield 125, 3) by decide +kernel) fl_M_125 (by decide +kernel)) <|
  fa_cons (ok_iret (show decode (am_mB y_M_append) 64 = .ok (.ireturn, 1) by decide +kernel) rfl) <|
  fa_nil
set_option maxRecDepth 100000 in
theorem cq_M_append (l : Launch) (d : Nat) : am_lk (co_M_append l d) 0 = am_aload 0 1 ∧ am_lk (co_M_append l d) 1 = am_iload 1 2 ∧ am_lk (co_M_append l d) 2 = am_i2l 3 ∧ am_lk (co_M_append l d) 3 = am_push (vL 0) 4 ∧ am_lk (co_M_append l d) 4 = am_push (vL 255) 7 ∧ am_lk (co_M_append l d) 7 = am_cal l d y_M_in none 3 10 0 0 0 0 ∧ am_lk (co_M_append l d) 10 = am_if_ne 13 17 ∧ am_lk (co_M_append l d) 13 = am_push (vI 1) 14 ∧ am_lk (co_M_append l d) 14 = am_goto 32 ∧ am_lk (co_M_append l d) 17 = am_aload 0 18 ∧ am_lk (co_M_append l d) 18 = am_getI 9 2 21 ∧ am_lk (co_M_append l d) 21 = am_push (vI 160) 24 ∧ am_lk (co_M_append l d) 24 = am_icmp_ne 27 31 ∧ am_lk (co_M_append l d) 27 = am_push (vI 2) 28 ∧ am_lk (co_M_append l d) 28 = am_goto 32 ∧ am_lk (co_M_append l d) 31 = am_push (vI 0) 32 ∧ am_lk (co_M_append l d) 32 = am_cal l d y_M_refused (some 9) 2 35 0 0 0 0 ∧ am_lk (co_M_append l d) 35 = am_if_eq 38 40 ∧ am_lk (co_M_append l d) 38 = am_push (vI 0) 39 ∧ am_lk (co_M_append l d) 39 = am_iret false ∧ am_lk (co_M_append l d) 40 = am_aload 0 41 ∧ am_lk (co_M_append l d) 41 = am_getR 9 1 44 ∧ am_lk (co_M_append l d) 44 = am_aload 0 45 ∧ am_lk (co_M_append l d) 45 = am_getI 9 2 48 ∧ am_lk (co_M_append l d) 48 = am_iload 1 49 ∧ am_lk (co_M_append l d) 49 = am_ast 0 (fun x => x) 50 ∧ am_lk (co_M_append l d) 50 = am_aload 0 51 ∧ am_lk (co_M_append l d) 51 = am_dup 52 ∧ am_lk (co_M_append l d) 52 = am_getI 9 2 55 ∧ am_lk (co_M_append l d) 55 = am_push (vI 1) 56 ∧ am_lk (co_M_append l d) 56 = am_iadd 57 ∧ am_lk (co_M_append l d) 57 = am_putI 9 2 60 ∧ am_lk (co_M_append l d) 60 = am_aload 0 61 ∧ am_lk (co_M_append l d) 61 = am_getI 9 2 64 ∧ am_lk (co_M_append l d) 64 = am_iret false := ⟨rfl, rfl, rfl, rfl, rfl, rfl, rfl, rfl, rfl, rfl, rfl, rfl, rfl, rfl, rfl, rfl, rfl, rfl, rfl, rfl, rfl, rfl, rfl, rfl, rfl, rfl, rfl, rfl, rfl, rfl, rfl, rfl, rfl, rfl, rfl⟩
theorem en_M_append {l : Launch} {d : Nat} (n : Nat) {as : List am_V} {G : am_G} {I : am_I} {J : am_J} {P : am_P} (hlen : (as.map am_cat).sum ≤ 2) (h : am_go (am_lk (co_M_append l d)) (am_X l (0, fun _ => 0) (d + 1) y_M_append P) P n 0 (am_el 2 as) [] 0 0 G I J) : am_T l (d + 1) y_M_append as G I J P :=
  am_T_of (sc := (0, fun _ => 0)) cf_M_append (by decide +kernel) (by decide) (by decide +kernel) hlen (am_run (ok_lk _ (ck_M_append)) n _ _ _ _ _ _ _ _ h)
theorem rn_M_append {l : Launch} {sc : Nat × (Nat → Int32)} {d : Nat} {P : am_P} (n : Nat) {pc : Nat} {ls : am_L} {st : List am_V} {kc ks : Nat} {G : am_G} {I : am_I} {J : am_J} (h : am_go (am_lk (co_M_append l d)) (am_X l sc (d + 1) y_M_append P) P n pc ls st kc ks G I J) : am_X l sc (d + 1) y_M_append P pc ls st kc ks G I J := am_run (ok_lk _ (ck_M_append)) n _ _ _ _ _ _ _ _ h
def co_M_clearText (l : Launch) (d : Nat) : List (Nat × am_S) := [(0, am_aload 0 1), (1, am_push (vI 0) 2), (2, am_putI 9 0 5), (5, am_aload 0 6), (6, am_getI 9 2 9), (9, am_istore 1 10), (10, am_aload 0 11), (11, am_push (vI 0) 12), (12, am_putI 9 2 15), (15, am_iload 1 16), (16, am_iret false)]
theorem ck_M_clearText {l : Launch} {sc : Nat × (Nat → Int32)} {d : Nat} : ∀ q ∈ co_M_clearText l d, am_ok l sc (d + 1) y_M_clearText q.1 q.2 :=
  fa_cons (ok_aload_n (show decode (am_mB y_M_clearText) 0 = .ok (.aload_n 0, 1) by decide +kernel) rfl) <|
  fa_cons (ok_iconst (show decode (am_mB y_M_clearText) 1 = .ok (.iconst 0, 1) by decide +kernel) rfl) <|
  fa_cons (ok_putI (show decode (am_mB y_M_clearText) 2 = .ok (.putfield 45, 3) by decide +kernel) fl_M_45 (by decide +kernel)) <|
  fa_cons (ok_aload_n (show decode (am_mB y_M_clearText) 5 = .ok (.aload_n 0, 1) by decide +kernel) rfl) <|
  fa_cons (ok_getI (show decode (am_mB y_M_clearText) 6 = .ok (.getfield 125, 3) by decide +kernel) fl_M_125 (by decide +kernel)) <|
  fa_cons (ok_istore_n (show decode (am_mB y_M_clearText) 9 = .ok (.istore_n 1, 1) by decide +kernel) rfl (by decide +kernel)) <|
  fa_cons (ok_aload_n (show decode (am_mB y_M_clearText) 10 = .ok (.aload_n 0, 1) by decide +kernel) rfl) <|
  fa_cons (ok_iconst (show decode (am_mB y_M_clearText) 11 = .ok (.iconst 0, 1) by decide +kernel) rfl) <|
  fa_cons (ok_putI (show decode (am_mB y_M_clearText) 12 = .ok (.putfield 125, 3) by decide +kernel) fl_M_125 (by decide +kernel)) <|
  fa_cons (ok_iload_n (show decode (am_mB y_M_clearText) 15 = .ok (.iload_n 1, 1) by decide +kernel) rfl) <|
  fa_cons (ok_iret (show decode (am_mB y_M_clearText) 16 = .ok (.ireturn, 1) by decide +kernel) rfl) <|
  fa_nil
set_option maxRecDepth 100000 in
theorem cq_M_clearText (l : Launch) (d : Nat) : am_lk (co_M_clearText l d) 0 = am_aload 0 1 ∧ am_lk (co_M_clearText l d) 1 = am_push (vI 0) 2 ∧ am_lk (co_M_clearText l d) 2 = am_putI 9 0 5 ∧ am_lk (co_M_clearText l d) 5 = am_aload 0 6 ∧ am_lk (co_M_clearText l d) 6 = am_getI 9 2 9 ∧ am_lk (co_M_clearText l d) 9 = am_istore 1 10 ∧ am_lk (co_M_clearText l d) 10 = am_aload 0 11 ∧ am_lk (co_M_clearText l d) 11 = am_push (vI 0) 12 ∧ am_lk (co_M_clearText l d) 12 = am_putI 9 2 15 ∧ am_lk (co_M_clearText l d) 15 = am_iload 1 16 ∧ am_lk (co_M_clearText l d) 16 = am_iret false := ⟨rfl, rfl, rfl, rfl, rfl, rfl, rfl, rfl, rfl, rfl, rfl⟩
theorem en_M_clearText {l : Launch} {d : Nat} (n : Nat) {as : List am_V} {G : am_G} {I : am_I} {J : am_J} {P : am_P} (hlen : (as.map am_cat).sum ≤ 2) (h : am_go (am_lk (co_M_clearText l d)) (am_X l (0, fun _ => 0) (d + 1) y_M_clearText P) P n 0 (am_el 2 as) [] 0 0 G I J) : am_T l (d + 1) y_M_clearText as G I J P :=
  am_T_of (sc := (0, fun _ => 0)) cf_M_clearText (by decide +kernel) (by decide) (by decide +kernel) hlen (am_run (ok_lk _ (ck_M_clearText)) n _ _ _ _ _ _ _ _ h)
theorem rn_M_clearText {l : Launch} {sc : Nat × (Nat → Int32)} {d : Nat} {P : am_P} (n : Nat) {pc : Nat} {ls : am_L} {st : List am_V} {kc ks : Nat} {G : am_G} {I : am_I} {J : am_J} (h : am_go (am_lk (co_M_clearText l d)) (am_X l sc (d + 1) y_M_clearText P) P n pc ls st kc ks G I J) : am_X l sc (d + 1) y_M_clearText P pc ls st kc ks G I J := am_run (ok_lk _ (ck_M_clearText)) n _ _ _ _ _ _ _ _ h
def co_M_isNext (l : Launch) (d : Nat) : List (Nat × am_S) := [(0, am_aload 0 1), (1, am_getI 9 3 4), (4, am_aload 0 5), (5, am_getI 9 2 8), (8, am_icmp_ge 11 28), (11, am_aload 0 12), (12, am_getR 9 1 15), (15, am_aload 0 16), (16, am_getI 9 3 19), (19, am_ald 0 20), (20, am_iload 1 21), (21, am_icmp_ne 24 28), (24, am_push (vI 1) 25), (25, am_goto 29), (28, am_push (vI 0) 29), (29, am_iret true)]
theorem ck_M_isNext {l : Launch} {sc : Nat × (Nat → Int32)} {d : Nat} : ∀ q ∈ co_M_isNext l d, am_ok l sc (d + 1) y_M_isNext q.1 q.2 :=
  fa_cons (ok_aload_n (show decode (am_mB y_M_isNext) 0 = .ok (.aload_n 0, 1) by decide +kernel) rfl) <|
  fa_cons (ok_getI (show decode (am_mB y_M_isNext) 1 = .ok (.getfield 132, 3) by decide +kernel) fl_M_132 (by decide +kernel)) <|
  fa_cons (ok_aload_n (show decode (am_mB y_M_isNext) 4 = .ok (.aload_n 0, 1) by decide +kernel) rfl) <|
  fa_cons (ok_getI (show decode (am_mB y_M_isNext) 5 = .ok (.getfield 125, 3) by decide +kernel) fl_M_125 (by decide +kernel)) <|
  fa_cons (ok_icmp_ge (show decode (am_mB y_M_isNext) 8 = .ok (.if_icmp .ge 20, 3) by decide +kernel) (by decide)) <|
  fa_cons (ok_aload_n (show decode (am_mB y_M_isNext) 11 = .ok (.aload_n 0, 1) by decide +kernel) rfl) <|
  fa_cons (ok_getR (show decode (am_mB y_M_isNext) 12 = .ok (.getfield 7, 3) by decide +kernel) fl_M_7 (by decide +kernel)) <|
  fa_cons (ok_aload_n (show decode (am_mB y_M_isNext) 15 = .ok (.aload_n 0, 1) by decide +kernel) rfl) <|
  fa_cons (ok_getI (show decode (am_mB y_M_isNext) 16 = .ok (.getfield 132, 3) by decide +kernel) fl_M_132 (by decide +kernel)) <|
  fa_cons (ok_iald (show decode (am_mB y_M_isNext) 19 = .ok (.iaload, 1) by decide +kernel)) <|
  fa_cons (ok_iload_n (show decode (am_mB y_M_isNext) 20 = .ok (.iload_n 1, 1) by decide +kernel) rfl) <|
  fa_cons (ok_icmp_ne (show decode (am_mB y_M_isNext) 21 = .ok (.if_icmp .ne 7, 3) by decide +kernel) (by decide)) <|
  fa_cons (ok_iconst (show decode (am_mB y_M_isNext) 24 = .ok (.iconst 1, 1) by decide +kernel) rfl) <|
  fa_cons (ok_goto (show decode (am_mB y_M_isNext) 25 = .ok (.goto 4, 3) by decide +kernel) (by decide)) <|
  fa_cons (ok_iconst (show decode (am_mB y_M_isNext) 28 = .ok (.iconst 0, 1) by decide +kernel) rfl) <|
  fa_cons (ok_iret (show decode (am_mB y_M_isNext) 29 = .ok (.ireturn, 1) by decide +kernel) rfl) <|
  fa_nil
set_option maxRecDepth 100000 in
theorem cq_M_isNext (l : Launch) (d : Nat) : am_lk (co_M_isNext l d) 0 = am_aload 0 1 ∧ am_lk (co_M_isNext l d) 1 = am_getI 9 3 4 ∧ am_lk (co_M_isNext l d) 4 = am_aload 0 5 ∧ am_lk (co_M_isNext l d) 5 = am_getI 9 2 8 ∧ am_lk (co_M_isNext l d) 8 = am_icmp_ge 11 28 ∧ am_lk (co_M_isNext l d) 11 = am_aload 0 12 ∧ am_lk (co_M_isNext l d) 12 = am_getR 9 1 15 ∧ am_lk (co_M_isNext l d) 15 = am_aload 0 16 ∧ am_lk (co_M_isNext l d) 16 = am_getI 9 3 19 ∧ am_lk (co_M_isNext l d) 19 = am_ald 0 20 ∧ am_lk (co_M_isNext l d) 20 = am_iload 1 21 ∧ am_lk (co_M_isNext l d) 21 = am_icmp_ne 24 28 ∧ am_lk (co_M_isNext l d) 24 = am_push (vI 1) 25 ∧ am_lk (co_M_isNext l d) 25 = am_goto 29 ∧ am_lk (co_M_isNext l d) 28 = am_push (vI 0) 29 ∧ am_lk (co_M_isNext l d) 29 = am_iret true := ⟨rfl, rfl, rfl, rfl, rfl, rfl, rfl, rfl, rfl, rfl, rfl, rfl, rfl, rfl, rfl, rfl⟩
theorem en_M_isNext {l : Launch} {d : Nat} (n : Nat) {as : List am_V} {G : am_G} {I : am_I} {J : am_J} {P : am_P} (hlen : (as.map am_cat).sum ≤ 2) (h : am_go (am_lk (co_M_isNext l d)) (am_X l (0, fun _ => 0) (d + 1) y_M_isNext P) P n 0 (am_el 2 as) [] 0 0 G I J) : am_T l (d + 1) y_M_isNext as G I J P :=
  am_T_of (sc := (0, fun _ => 0)) cf_M_isNext (by decide +kernel) (by decide) (by decide +kernel) hlen (am_run (ok_lk _ (ck_M_isNext)) n _ _ _ _ _ _ _ _ h)
theorem rn_M_isNext {l : Launch} {sc : Nat × (Nat → Int32)} {d : Nat} {P : am_P} (n : Nat) {pc : Nat} {ls : am_L} {st : List am_V} {kc ks : Nat} {G : am_G} {I : am_I} {J : am_J} (h : am_go (am_lk (co_M_isNext l d)) (am_X l sc (d + 1) y_M_isNext P) P n pc ls st kc ks G I J) : am_X l sc (d + 1) y_M_isNext P pc ls st kc ks G I J := am_run (ok_lk _ (ck_M_isNext)) n _ _ _ _ _ _ _ _ h
def co_M_accept (l : Launch) (d : Nat) : List (Nat × am_S) := [(0, am_aload 0 1), (1, am_aload 0 2), (2, am_getI 9 4 5), (5, am_if_eq 8 16), (8, am_iload 1 9), (9, am_if_eq 12 16), (12, am_push (vI 1) 13), (13, am_goto 17), (16, am_push (vI 0) 17), (17, am_putI 9 4 20), (20, am_aload 0 21), (21, am_dup 22), (22, am_getI 9 3 25), (25, am_aload 0 26), (26, am_getI 9 4 29), (29, am_if_eq 32 36), (32, am_push (vI 1) 33), (33, am_goto 37), (36, am_push (vI 0) 37), (37, am_iadd 38), (38, am_putI 9 3 41), (41, am_vret)]
theorem ck_M_accept {l : Launch} {sc : Nat × (Nat → Int32)} {d : Nat} : ∀ q ∈ co_M_accept l d, am_ok l sc (d + 1) y_M_accept q.1 q.2 :=
  fa_cons (ok_aload_n (show decode (am_mB y_M_accept) 0 = .ok (.aload_n 0, 1) by decide +kernel) rfl) <|
  fa_cons (ok_aload_n (show decode (am_mB y_M_accept) 1 = .ok (.aload_n 0, 1) by decide +kernel) rfl) <|
  fa_cons (ok_getI (show decode (am_mB y_M_accept) 2 = .ok (.getfield 135, 3) by decide +kernel) fl_M_135 (by decide +kernel)) <|
  fa_cons (ok_if_eq (show decode (am_mB y_M_accept) 5 = .ok (.ifCond .eq 11, 3) by decide +kernel) (by decide)) <|
  fa_cons (ok_iload_n (show decode (am_mB y_M_accept) 8 = .ok (.iload_n 1, 1) by decide +kernel) rfl) <|
  fa_cons (ok_if_eq (show decode (am_mB y_M_accept) 9 = .ok (.ifCond .eq 7, 3) by decide +kernel) (by decide)) <|
  fa_cons (ok_iconst (show decode (am_mB y_M_accept) 12 = .ok (.iconst 1, 1) by decide +kernel) rfl) <|
  fa_cons (ok_goto (show decode (am_mB y_M_accept) 13 = .ok (.goto 4, 3) by decide +kernel) (by decide)) <|
  fa_cons (ok_iconst (show decode (am_mB y_M_accept) 16 = .ok (.iconst 0, 1) by decide +kernel) rfl) <|
  fa_cons (ok_putI (show decode (am_mB y_M_accept) 17 = .ok (.putfield 135, 3) by decide +kernel) fl_M_135 (by decide +kernel)) <|
  fa_cons (ok_aload_n (show decode (am_mB y_M_accept) 20 = .ok (.aload_n 0, 1) by decide +kernel) rfl) <|
  fa_cons (ok_dup (show decode (am_mB y_M_accept) 21 = .ok (.dup, 1) by decide +kernel)) <|
  fa_cons (ok_getI (show decode (am_mB y_M_accept) 22 = .ok (.getfield 132, 3) by decide +kernel) fl_M_132 (by decide +kernel)) <|
  fa_cons (ok_aload_n (show decode (am_mB y_M_accept) 25 = .ok (.aload_n 0, 1) by decide +kernel) rfl) <|
  fa_cons (ok_getI (show decode (am_mB y_M_accept) 26 = .ok (.getfield 135, 3) by decide +kernel) fl_M_135 (by decide +kernel)) <|
  fa_cons (ok_if_eq (show decode (am_mB y_M_accept) 29 = .ok (.ifCond .eq 7, 3) by decide +kernel) (by decide)) <|
  fa_cons (ok_iconst (show decode (am_mB y_M_accept) 32 = .ok (.iconst 1, 1) by decide +kernel) rfl) <|
  fa_cons (ok_goto (show decode (am_mB y_M_accept) 33 = .ok (.goto 4, 3) by decide +kernel) (by decide)) <|
  fa_cons (ok_iconst (show decode (am_mB y_M_accept) 36 = .ok (.iconst 0, 1) by decide +kernel) rfl) <|
  fa_cons (ok_iadd (show decode (am_mB y_M_accept) 37 = .ok (.iadd, 1) by decide +kernel)) <|
  fa_cons (ok_putI (show decode (am_mB y_M_accept) 38 = .ok (.putfield 132, 3) by decide +kernel) fl_M_132 (by decide +kernel)) <|
  fa_cons (ok_vret (show decode (am_mB y_M_accept) 41 = .ok (.return_, 1) by decide +kernel) rfl (by decide +kernel)) <|
  fa_nil
set_option maxRecDepth 100000 in
theorem cq_M_accept (l : Launch) (d : Nat) : am_lk (co_M_accept l d) 0 = am_aload 0 1 ∧ am_lk (co_M_accept l d) 1 = am_aload 0 2 ∧ am_lk (co_M_accept l d) 2 = am_getI 9 4 5 ∧ am_lk (co_M_accept l d) 5 = am_if_eq 8 16 ∧ am_lk (co_M_accept l d) 8 = am_iload 1 9 ∧ am_lk (co_M_accept l d) 9 = am_if_eq 12 16 ∧ am_lk (co_M_accept l d) 12 = am_push (vI 1) 13 ∧ am_lk (co_M_accept l d) 13 = am_goto 17 ∧ am_lk (co_M_accept l d) 16 = am_push (vI 0) 17 ∧ am_lk (co_M_accept l d) 17 = am_putI 9 4 20 ∧ am_lk (co_M_accept l d) 20 = am_aload 0 21 ∧ am_lk (co_M_accept l d) 21 = am_dup 22 ∧ am_lk (co_M_accept l d) 22 = am_getI 9 3 25 ∧ am_lk (co_M_accept l d) 25 = am_aload 0 26 ∧ am_lk (co_M_accept l d) 26 = am_getI 9 4 29 ∧ am_lk (co_M_accept l d) 29 = am_if_eq 32 36 ∧ am_lk (co_M_accept l d) 32 = am_push (vI 1) 33 ∧ am_lk (co_M_accept l d) 33 = am_goto 37 ∧ am_lk (co_M_accept l d) 36 = am_push (vI 0) 37 ∧ am_lk (co_M_accept l d) 37 = am_iadd 38 ∧ am_lk (co_M_accept l d) 38 = am_putI 9 3 41 ∧ am_lk (co_M_accept l d) 41 = am_vret := ⟨rfl, rfl, rfl, rfl, rfl, rfl, rfl, rfl, rfl, rfl, rfl, rfl, rfl, rfl, rfl, rfl, rfl, rfl, rfl, rfl, rfl, rfl⟩
theorem en_M_accept {l : Launch} {d : Nat} (n : Nat) {as : List am_V} {G : am_G} {I : am_I} {J : am_J} {P : am_P} (hlen : (as.map am_cat).sum ≤ 2) (h : am_go (am_lk (co_M_accept l d)) (am_X l (0, fun _ => 0) (d + 1) y_M_accept P) P n 0 (am_el 2 as) [] 0 0 G I J) : am_T l (d + 1) y_M_accept as G I J P :=
  am_T_of (sc := (0, fun _ => 0)) cf_M_accept (by decide +kernel) (by decide) (by decide +kernel) hlen (am_run (ok_lk _ (ck_M_accept)) n _ _ _ _ _ _ _ _ h)
theorem rn_M_accept {l : Launch} {sc : Nat × (Nat → Int32)} {d : Nat} {P : am_P} (n : Nat) {pc : Nat} {ls : am_L} {st : List am_V} {kc ks : Nat} {G : am_G} {I : am_I} {J : am_J} (h : am_go (am_lk (co_M_accept l d)) (am_X l sc (d + 1) y_M_accept P) P n pc ls st kc ks G I J) : am_X l sc (d + 1) y_M_accept P pc ls st kc ks G I J := am_run (ok_lk _ (ck_M_accept)) n _ _ _ _ _ _ _ _ h
def co_M_digit (l : Launch) (d : Nat) : List (Nat × am_S) := [(0, am_aload 0 1), (1, am_getI 9 3 4), (4, am_aload 0 5), (5, am_getI 9 2 8), (8, am_icmp_ge 11 26), (11, am_aload 0 12), (12, am_getR 9 1 15), (15, am_aload 0 16), (16, am_getI 9 3 19), (19, am_ald 0 20), (20, am_push (vI 48) 22), (22, am_isub 23), (23, am_goto 28), (26, am_push (vI (-999999)) 28), (28, am_istore 3 29), (29, am_aload 0 30), (30, am_iload 3 31), (31, am_i2l 32), (32, am_push (vL 0) 33), (33, am_push (vL 9) 36), (36, am_cal l d y_M_in none 3 39 0 0 0 0), (39, am_if_eq 42 58), (42, am_iload 3 43), (43, am_i2l 44), (44, am_iload 1 45), (45, am_i2l 46), (46, am_iload 2 47), (47, am_i2l 48), (48, am_cal l d y_M_in none 3 51 0 0 0 0), (51, am_if_eq 54 58), (54, am_push (vI 1) 55), (55, am_goto 59), (58, am_push (vI 0) 59), (59, am_cal l d y_M_accept (some 9) 2 62 0 0 0 0), (62, am_aload 0 63), (63, am_getI 9 4 66), (66, am_if_eq 69 73), (69, am_iload 3 70), (70, am_goto 74), (73, am_iload 1 74), (74, am_iret false)]
theorem ck_M_digit {l : Launch} {sc : Nat × (Nat → Int32)} {d : Nat} : ∀ q ∈ co_M_digit l d, am_ok l sc (d + 1) y_M_digit q.1 q.2 :=
  fa_cons (ok_aload_n (show decode (am_mB y_M_digit) 0 = .ok (.aload_n 0, 1) by decide +kernel) rfl) <|
  fa_cons (ok_getI (show decode (am_mB y_M_digit) 1 = .ok (.getfield 132, 3) by decide +kernel) fl_M_132 (by decide +kernel)) <|
  fa_cons (ok_aload_n (show decode (am_mB y_M_digit) 4 = .ok (.aload_n 0, 1) by decide +kernel) rfl) <|
  fa_cons (ok_getI (show decode (am_mB y_M_digit) 5 = .ok (.getfield 125, 3) by decide +kernel) fl_M_125 (by decide +kernel)) <|
  fa_cons (ok_icmp_ge (show decode (am_mB y_M_digit) 8 = .ok (.if_icmp .ge 18, 3) by decide +kernel) (by decide)) <|
  fa_cons (ok_aload_n (show decode (am_mB y_M_digit) 11 = .ok (.aload_n 0, 1) by decide +kernel) rfl) <|
  fa_cons (ok_getR (show decode (am_mB y_M_digit) 12 = .ok (.getfield 7, 3) by decide +kernel) fl_M_7 (by decide +kernel)) <|
  fa_cons (ok_aload_n (show decode (am_mB y_M_digit) 15 = .ok (.aload_n 0, 1) by decide +kernel) rfl) <|
  fa_cons (ok_getI (show decode (am_mB y_M_digit) 16 = .ok (.getfield 132, 3) by decide +kernel) fl_M_132 (by decide +kernel)) <|
  fa_cons (ok_iald (show decode (am_mB y_M_digit) 19 = .ok (.iaload, 1) by decide +kernel)) <|
  fa_cons (ok_bipush (show decode (am_mB y_M_digit) 20 = .ok (.bipush 48, 2) by decide +kernel) (by decide +kernel)) <|
  fa_cons (ok_isub (show decode (am_mB y_M_digit) 22 = .ok (.isub, 1) by decide +kernel)) <|
  fa_cons (ok_goto (show decode (am_mB y_M_digit) 23 = .ok (.goto 5, 3) by decide +kernel) (by decide)) <|
  fa_cons (ok_ldc (show decode (am_mB y_M_digit) 26 = .ok (.ldc 90, 2) by decide +kernel) w_1057) <|
  fa_cons (ok_istore_n (show decode (am_mB y_M_digit) 28 = .ok (.istore_n 3, 1) by decide +kernel) rfl (by decide +kernel)) <|
  fa_cons (ok_aload_n (show decode (am_mB y_M_digit) 29 = .ok (.aload_n 0, 1) by decide +kernel) rfl) <|
  fa_cons (ok_iload_n (show decode (am_mB y_M_digit) 30 = .ok (.iload_n 3, 1) by decide +kernel) rfl) <|
  fa_cons (ok_i2l (show decode (am_mB y_M_digit) 31 = .ok (.i2l, 1) by decide +kernel)) <|
  fa_cons (ok_lconst (show decode (am_mB y_M_digit) 32 = .ok (.lconst 0, 1) by decide +kernel) rfl) <|
  fa_cons (ok_ldc2 (show decode (am_mB y_M_digit) 33 = .ok (.ldc2_w 139, 3) by decide +kernel) w_1058) <|
  fa_cons (ok_cal ⟨rfl, rfl, rfl, rfl⟩ (ok_callS (show decode (am_mB y_M_digit) 36 = .ok (.invokestatic 113, 3) by decide +kernel) cf_M_in (by decide +kernel) ml_M_113 cs_M_in rfl ⟨by decide +kernel, rfl⟩)) <|
  fa_cons (ok_if_eq (show decode (am_mB y_M_digit) 39 = .ok (.ifCond .eq 19, 3) by decide +kernel) (by decide)) <|
  fa_cons (ok_iload_n (show decode (am_mB y_M_digit) 42 = .ok (.iload_n 3, 1) by decide +kernel) rfl) <|
  fa_cons (ok_i2l (show decode (am_mB y_M_digit) 43 = .ok (.i2l, 1) by decide +kernel)) <|
  fa_cons (ok_iload_n (show decode (am_mB y_M_digit) 44 = .ok (.iload_n 1, 1) by decide +kernel) rfl) <|
  fa_cons (ok_i2l (show decode (am_mB y_M_digit) 45 = .ok (.i2l, 1) by decide +kernel)) <|
  fa_cons (ok_iload_n (show decode (am_mB y_M_digit) 46 = .ok (.iload_n 2, 1) by decide +kernel) rfl) <|
  fa_cons (ok_i2l (show decode (am_mB y_M_digit) 47 = .ok (.i2l, 1) by decide +kernel)) <|
  fa_cons (ok_cal ⟨rfl, rfl, rfl, rfl⟩ (ok_callS (show decode (am_mB y_M_digit) 48 = .ok (.invokestatic 113, 3) by decide +kernel) cf_M_in (by decide +kernel) ml_M_113 cs_M_in rfl ⟨by decide +kernel, rfl⟩)) <|
  fa_cons (ok_if_eq (show decode (am_mB y_M_digit) 51 = .ok (.ifCond .eq 7, 3) by decide +kernel) (by decide)) <|
  fa_cons (ok_iconst (show decode (am_mB y_M_digit) 54 = .ok (.iconst 1, 1) by decide +kernel) rfl) <|
  fa_cons (ok_goto (show decode (am_mB y_M_digit) 55 = .ok (.goto 4, 3) by decide +kernel) (by decide)) <|
  fa_cons (ok_iconst (show decode (am_mB y_M_digit) 58 = .ok (.iconst 0, 1) by decide +kernel) rfl) <|
  fa_cons (ok_cal ⟨rfl, rfl, rfl, rfl⟩ (ok_callV (show decode (am_mB y_M_digit) 59 = .ok (.invokevirtual 141, 3) by decide +kernel) cf_M_accept (by decide +kernel) ml_M_141 ci_M_accept cv_M_accept ⟨by decide, rfl⟩ rfl ⟨by decide +kernel, rfl⟩)) <|
  fa_cons (ok_aload_n (show decode (am_mB y_M_digit) 62 = .ok (.aload_n 0, 1) by decide +kernel) rfl) <|
  fa_cons (ok_getI (show decode (am_mB y_M_digit) 63 = .ok (.getfield 135, 3) by decide +kernel) fl_M_135 (by decide +kernel)) <|
  fa_cons (ok_if_eq (show decode (am_mB y_M_digit) 66 = .ok (.ifCond .eq 7, 3) by decide +kernel) (by decide)) <|
  fa_cons (ok_iload_n (show decode (am_mB y_M_digit) 69 = .ok (.iload_n 3, 1) by decide +kernel) rfl) <|
  fa_cons (ok_goto (show decode (am_mB y_M_digit) 70 = .ok (.goto 4, 3) by decide +kernel) (by decide)) <|
  fa_cons (ok_iload_n (show decode (am_mB y_M_digit) 73 = .ok (.iload_n 1, 1) by decide +kernel) rfl) <|
  fa_cons (ok_iret (show decode (am_mB y_M_digit) 74 = .ok (.ireturn, 1) by decide +kernel) rfl) <|
  fa_nil
set_option maxRecDepth 100000 in
theorem cq_M_digit (l : Launch) (d : Nat) : am_lk (co_M_digit l d) 0 = am_aload 0 1 ∧ am_lk (co_M_digit l d) 1 = am_getI 9 3 4 ∧ am_lk (co_M_digit l d) 4 = am_aload 0 5 ∧ am_lk (co_M_digit l d) 5 = am_getI 9 2 8 ∧ am_lk (co_M_digit l d) 8 = am_icmp_ge 11 26 ∧ am_lk (co_M_digit l d) 11 = am_aload 0 12 ∧ am_lk (co_M_digit l d) 12 = am_getR 9 1 15 ∧ am_lk (co_M_digit l d) 15 = am_aload 0 16 ∧ am_lk (co_M_digit l d) 16 = am_getI 9 3 19 ∧ am_lk (co_M_digit l d) 19 = am_ald 0 20 ∧ am_lk (co_M_digit l d) 20 = am_push (vI 48) 22 ∧ am_lk (co_M_digit l d) 22 = am_isub 23 ∧ am_lk (co_M_digit l d) 23 = am_goto 28 ∧ am_lk (co_M_digit l d) 26 = am_push (vI (-999999)) 28 ∧ am_lk (co_M_digit l d) 28 = am_istore 3 29 ∧ am_lk (co_M_digit l d) 29 = am_aload 0 30 ∧ am_lk (co_M_digit l d) 30 = am_iload 3 31 ∧ am_lk (co_M_digit l d) 31 = am_i2l 32 ∧ am_lk (co_M_digit l d) 32 = am_push (vL 0) 33 ∧ am_lk (co_M_digit l d) 33 = am_push (vL 9) 36 ∧ am_lk (co_M_digit l d) 36 = am_cal l d y_M_in none 3 39 0 0 0 0 ∧ am_lk (co_M_digit l d) 39 = am_if_eq 42 58 ∧ am_lk (co_M_digit l d) 42 = am_iload 3 43 ∧ am_lk (co_M_digit l d) 43 = am_i2l 44 ∧ am_lk (co_M_digit l d) 44 = am_iload 1 45 ∧ am_lk (co_M_digit l d) 45 = am_i2l 46 ∧ am_lk (co_M_digit l d) 46 = am_iload 2 47 ∧ am_lk (co_M_digit l d) 47 = am_i2l 48 ∧ am_lk (co_M_digit l d) 48 = am_cal l d y_M_in none 3 51 0 0 0 0 ∧ am_lk (co_M_digit l d) 51 = am_if_eq 54 58 ∧ am_lk (co_M_digit l d) 54 = am_push (vI 1) 55 ∧ am_lk (co_M_digit l d) 55 = am_goto 59 ∧ am_lk (co_M_digit l d) 58 = am_push (vI 0) 59 ∧ am_lk (co_M_digit l d) 59 = am_cal l d y_M_accept (some 9) 2 62 0 0 0 0 ∧ am_lk (co_M_digit l d) 62 = am_aload 0 63 ∧ am_lk (co_M_digit l d) 63 = am_getI 9 4 66 ∧ am_lk (co_M_digit l d) 66 = am_if_eq 69 73 ∧ am_lk (co_M_digit l d) 69 = am_iload 3 70 ∧ am_lk (co_M_digit l d) 70 = am_goto 74 ∧ am_lk (co_M_digit l d) 73 = am_iload 1 74 ∧ am_lk (co_M_digit l d) 74 = am_iret false := ⟨rfl, rfl, rfl, rfl, rfl, rfl, rfl, rfl, rfl, rfl, rfl, rfl, rfl, rfl, rfl, rfl, rfl, rfl, rfl, rfl, rfl, rfl, rfl, rfl, rfl, rfl, rfl, rfl, rfl, rfl, rfl, rfl, rfl, rfl, rfl, rfl, rfl, rfl, rfl, rfl, rfl⟩
theorem en_M_digit {l : Launch} {d : Nat} (n : Nat) {as : List am_V} {G : am_G} {I : am_I} {J : am_J} {P : am_P} (hlen : (as.map am_cat).sum ≤ 4) (h : am_go (am_lk (co_M_digit l d)) (am_X l (0, fun _ => 0) (d + 1) y_M_digit P) P n 0 (am_el 4 as) [] 0 0 G I J) : am_T l (d + 1) y_M_digit as G I J P :=
  am_T_of (sc := (0, fun _ => 0)) cf_M_digit (by decide +kernel) (by decide) (by decide +kernel) hlen (am_run (ok_lk _ (ck_M_digit)) n _ _ _ _ _ _ _ _ h)
theorem rn_M_digit {l : Launch} {sc : Nat × (Nat → Int32)} {d : Nat} {P : am_P} (n : Nat) {pc : Nat} {ls : am_L} {st : List am_V} {kc ks : Nat} {G : am_G} {I : am_I} {J : am_J} (h : am_go (am_lk (co_M_digit l d)) (am_X l sc (d + 1) y_M_digit P) P n pc ls st kc ks G I J) : am_X l sc (d + 1) y_M_digit P pc ls st kc ks G I J := am_run (ok_lk _ (ck_M_digit)) n _ _ _ _ _ _ _ _ h
def co_M_two (l : Launch) (d : Nat) : List (Nat × am_S) := [(0, am_aload 0 1), (1, am_iload 1 2), (2, am_push (vI 10) 4), (4, am_idiv 5), (5, am_iload 2 6), (6, am_push (vI 10) 8), (8, am_idiv 9), (9, am_cal l d y_M_digit (some 9) 3 12 0 0 0 0), (12, am_istore 3 13), (13, am_iload 1 14), (14, am_push (vI 10) 16), (16, am_iload 3 17), (17, am_imul 18), (18, am_isub 19), (19, am_istore 4 21), (21, am_iload 2 22), (22, am_push (vI 10) 24), (24, am_iload 3 25), (25, am_imul 26), (26, am_isub 27), (27, am_istore 5 29), (29, am_push (vI 10) 31), (31, am_iload 3 32), (32, am_imul 33), (33, am_aload 0 34), (34, am_iload 4 36), (36, am_if_ge 39 43), (39, am_push (vI 0) 40), (40, am_goto 45), (43, am_iload 4 45), (45, am_iload 5 47), (47, am_push (vI 9) 49), (49, am_icmp_le 52 57), (52, am_push (vI 9) 54), (54, am_goto 59), (57, am_iload 5 59), (59, am_cal l d y_M_digit (some 9) 3 62 0 0 0 0), (62, am_iadd 63), (63, am_iret false)]
theorem ck_M_two {l : Launch} {sc : Nat × (Nat → Int32)} {d : Nat} : ∀ q ∈ co_M_two l d, am_ok l sc (d + 1) y_M_two q.1 q.2 :=
  fa_cons (ok_aload_n (show decode (am_mB y_M_two) 0 = .ok (.aload_n 0, 1) by decide +kernel) rfl) <|
  fa_cons (ok_iload_n (show decode (am_mB y_M_two) 1 = .ok (.iload_n 1, 1) by decide +kernel) rfl) <|
  fa_cons (ok_bipush (show decode (am_mB y_M_two) 2 = .ok (.bipush 10, 2) by decide +kernel) (by decide +kernel)) <|
  fa_cons (ok_idiv (show decode (am_mB y_M_two) 4 = .ok (.idiv, 1) by decide +kernel)) <|
  fa_cons (ok_iload_n (show decode (am_mB y_M_two) 5 = .ok (.iload_n 2, 1) by decide +kernel) rfl) <|
  fa_cons (ok_bipush (show decode (am_mB y_M_two) 6 = .ok (.bipush 10, 2) by decide +kernel) (by decide +kernel)) <|
  fa_cons (ok_idiv (show decode (am_mB y_M_two) 8 = .ok (.idiv, 1) by decide +kernel)) <|
  fa_cons (ok_cal ⟨rfl, rfl, rfl, rfl⟩ (ok_callV (show decode (am_mB y_M_two) 9 = .ok (.invokevirtual 145, 3) by decide +kernel) cf_M_digit (by decide +kernel) ml_M_145 ci_M_digit cv_M_digit ⟨by decide, rfl⟩ rfl ⟨by decide +kernel, rfl⟩)) <|
  fa_cons (ok_istore_n (show decode (am_mB y_M_two) 12 = .ok (.istore_n 3, 1) by decide +kernel) rfl (by decide +kernel)) <|
  fa_cons (ok_iload_n (show decode (am_mB y_M_two) 13 = .ok (.iload_n 1, 1) by decide +kernel) rfl) <|
  fa_cons (ok_bipush (show decode (am_mB y_M_two) 14 = .ok (.bipush 10, 2) by decide +kernel) (by decide +kernel)) <|
  fa_cons (ok_iload_n (show decode (am_mB y_M_two) 16 = .ok (.iload_n 3, 1) by decide +kernel) rfl) <|
  fa_cons (ok_imul (show decode (am_mB y_M_two) 17 = .ok (.imul, 1) by decide +kernel)) <|
  fa_cons (ok_isub (show decode (am_mB y_M_two) 18 = .ok (.isub, 1) by decide +kernel)) <|
  fa_cons (ok_istore (show decode (am_mB y_M_two) 19 = .ok (.istore 4, 2) by decide +kernel) (by decide +kernel)) <|
  fa_cons (ok_iload_n (show decode (am_mB y_M_two) 21 = .ok (.iload_n 2, 1) by decide +kernel) rfl) <|
  fa_cons (ok_bipush (show decode (am_mB y_M_two) 22 = .ok (.bipush 10, 2) by decide +kernel) (by decide +kernel)) <|
  fa_cons (ok_iload_n (show decode (am_mB y_M_two) 24 = .ok (.iload_n 3, 1) by decide +kernel) rfl) <|
  fa_cons (ok_imul (show decode (am_mB y_M_two) 25 = .ok (.imul, 1) by decide +kernel)) <|
  fa_cons (ok_isub (show decode (am_mB y_M_two) 26 = .ok (.isub, 1) by decide +kernel)) <|
  fa_cons (ok_istore (show decode (am_mB y_M_two) 27 = .ok (.istore 5, 2) by decide +kernel) (by decide +kernel)) <|
  fa_cons (ok_bipush (show decode (am_mB y_M_two) 29 = .ok (.bipush 10, 2) by decide +kernel) (by decide +kernel)) <|
  fa_cons (ok_iload_n (show decode (am_mB y_M_two) 31 = .ok (.iload_n 3, 1) by decide +kernel) rfl) <|
  fa_cons (ok_imul (show decode (am_mB y_M_two) 32 = .ok (.imul, 1) by decide +kernel)) <|
  fa_cons (ok_aload_n (show decode (am_mB y_M_two) 33 = .ok (.aload_n 0, 1) by decide +kernel) rfl) <|
  fa_cons (ok_iload (show decode (am_mB y_M_two) 34 = .ok (.iload 4, 2) by decide +kernel)) <|
  fa_cons (ok_if_ge (show decode (am_mB y_M_two) 36 = .ok (.ifCond .ge 7, 3) by decide +kernel) (by decide)) <|
  fa_cons (ok_iconst (show decode (am_mB y_M_two) 39 = .ok (.iconst 0, 1) by decide +kernel) rfl) <|
  fa_cons (ok_goto (show decode (am_mB y_M_two) 40 = .ok (.goto 5, 3) by decide +kernel) (by decide)) <|
  fa_cons (ok_iload (show decode (am_mB y_M_two) 43 = .ok (.iload 4, 2) by decide +kernel)) <|
  fa_cons (ok_iload (show decode (am_mB y_M_two) 45 = .ok (.iload 5, 2) by decide +kernel)) <|
  fa_cons (ok_bipush (show decode (am_mB y_M_two) 47 = .ok (.bipush 9, 2) by decide +kernel) (by decide +kernel)) <|
  fa_cons (ok_icmp_le (show decode (am_mB y_M_two) 49 = .ok (.if_icmp .le 8, 3) by decide +kernel) (by decide)) <|
  fa_cons (ok_bipush (show decode (am_mB y_M_two) 52 = .ok (.bipush 9, 2) by decide +kernel) (by decide +kernel)) <|
  fa_cons (ok_goto (show decode (am_mB y_M_two) 54 = .ok (.goto 5, 3) by decide +kernel) (by decide)) <|
  fa_cons (ok_iload (show decode (am_mB y_M_two) 57 = .ok (.iload 5, 2) by decide +kernel)) <|
  fa_cons (ok_cal ⟨rfl, rfl, rfl, rfl⟩ (ok_callV (show decode (am_mB y_M_two) 59 = .ok (.invokevirtual 145, 3) by decide +kernel) cf_M_digit (by decide +kernel) ml_M_145 ci_M_digit cv_M_digit ⟨by decide, rfl⟩ rfl ⟨by decide +kernel, rfl⟩)) <|
  fa_cons (ok_iadd (show decode (am_mB y_M_two) 62 = .ok (.iadd, 1) by decide +kernel)) <|
  fa_cons (ok_iret (show decode (am_mB y_M_two) 63 = .ok (.ireturn, 1) by decide +kernel) rfl) <|
  fa_nil
set_option maxRecDepth 100000 in
theorem cq_M_two (l : Launch) (d : Nat) : am_lk (co_M_two l d) 0 = am_aload 0 1 ∧ am_lk (co_M_two l d) 1 = am_iload 1 2 ∧ am_lk (co_M_two l d) 2 = am_push (vI 10) 4 ∧ am_lk (co_M_two l d) 4 = am_idiv 5 ∧ am_lk (co_M_two l d) 5 = am_iload 2 6 ∧ am_lk (co_M_two l d) 6 = am_push (vI 10) 8 ∧ am_lk (co_M_two l d) 8 = am_idiv 9 ∧ am_lk (co_M_two l d) 9 = am_cal l d y_M_digit (some 9) 3 12 0 0 0 0 ∧ am_lk (co_M_two l d) 12 = am_istore 3 13 ∧ am_lk (co_M_two l d) 13 = am_iload 1 14 ∧ am_lk (co_M_two l d) 14 = am_push (vI 10) 16 ∧ am_lk (co_M_two l d) 16 = am_iload 3 17 ∧ am_lk (co_M_two l d) 17 = am_imul 18 ∧ am_lk (co_M_two l d) 18 = am_isub 19 ∧ am_lk (co_M_two l d) 19 = am_istore 4 21 ∧ am_lk (co_M_two l d) 21 = am_iload 2 22 ∧ am_lk (co_M_two l d) 22 = am_push (vI 10) 24 ∧ am_lk (co_M_two l d) 24 = am_iload 3 25 ∧ am_lk (co_M_two l d) 25 = am_imul 26 ∧ am_lk (co_M_two l d) 26 = am_isub 27 ∧ am_lk (co_M_two l d) 27 = am_istore 5 29 ∧ am_lk (co_M_two l d) 29 = am_push (vI 10) 31 ∧ am_lk (co_M_two l d) 31 = am_iload 3 32 ∧ am_lk (co_M_two l d) 32 = am_imul 33 ∧ am_lk (co_M_two l d) 33 = am_aload 0 34 ∧ am_lk (co_M_two l d) 34 = am_iload 4 36 ∧ am_lk (co_M_two l d) 36 = am_if_ge 39 43 ∧ am_lk (co_M_two l d) 39 = am_push (vI 0) 40 ∧ am_lk (co_M_two l d) 40 = am_goto 45 ∧ am_lk (co_M_two l d) 43 = am_iload 4 45 ∧ am_lk (co_M_two l d) 45 = am_iload 5 47 ∧ am_lk (co_M_two l d) 47 = am_push (vI 9) 49 ∧ am_lk (co_M_two l d) 49 = am_icmp_le 52 57 ∧ am_lk (co_M_two l d) 52 = am_push (vI 9) 54 ∧ am_lk (co_M_two l d) 54 = am_goto 59 ∧ am_lk (co_M_two l d) 57 = am_iload 5 59 ∧ am_lk (co_M_two l d) 59 = am_cal l d y_M_digit (some 9) 3 62 0 0 0 0 ∧ am_lk (co_M_two l d) 62 = am_iadd 63 ∧ am_lk (co_M_two l d) 63 = am_iret false := ⟨rfl, rfl, rfl, rfl, rfl, rfl, rfl, rfl, rfl, rfl, rfl, rfl, rfl, rfl, rfl, rfl, rfl, rfl, rfl, rfl, rfl, rfl, rfl, rfl, rfl, rfl, rfl, rfl, rfl, rfl, rfl, rfl, rfl, rfl, rfl, rfl, rfl, rfl, rfl⟩
theorem en_M_two {l : Launch} {d : Nat} (n : Nat) {as : List am_V} {G : am_G} {I : am_I} {J : am_J} {P : am_P} (hlen : (as.map am_cat).sum ≤ 6) (h : am_go (am_lk (co_M_two l d)) (am_X l (0, fun _ => 0) (d + 1) y_M_two P) P n 0 (am_el 6 as) [] 0 0 G I J) : am_T l (d + 1) y_M_two as G I J P :=
  am_T_of (sc := (0, fun _ => 0)) cf_M_two (by decide +kernel) (by decide) (by decide +kernel) hlen (am_run (ok_lk _ (ck_M_two)) n _ _ _ _ _ _ _ _ h)
theorem rn_M_two {l : Launch} {sc : Nat × (Nat → Int32)} {d : Nat} {P : am_P} (n : Nat) {pc : Nat} {ls : am_L} {st : List am_V} {kc ks : Nat} {G : am_G} {I : am_I} {J : am_J} (h : am_go (am_lk (co_M_two l d)) (am_X l sc (d + 1) y_M_two P) P n pc ls st kc ks G I J) : am_X l sc (d + 1) y_M_two P pc ls st kc ks G I J := am_run (ok_lk _ (ck_M_two)) n _ _ _ _ _ _ _ _ h
def co_M_readRow (l : Launch) (d : Nat) : List (Nat × am_S) := [(0, am_aload 0 1), (1, am_getR 9 5 4), (4, am_push (vI 1) 5), (5, am_ald 0 6), (6, am_istore 1 7), (7, am_aload 0 8), (8, am_iload 1 9), (9, am_push (vI 24) 11), (11, am_icmp_ge 14 18), (14, am_push (vI 1) 15), (15, am_goto 19), (18, am_push (vI 0) 19), (19, am_cal l d y_M_accept (some 9) 2 22 0 0 0 0), (22, am_aload 0 23), (23, am_push (vI 1) 24), (24, am_push (vI 6) 26), (26, am_cal l d y_M_digit (some 9) 3 29 0 0 0 0), (29, am_istore 2 30), (30, am_aload 0 31), (31, am_getI 9 4 34), (34, am_if_ne 37 38), (37, am_vret), (38, am_aload 0 39), (39, am_getR 9 5 42), (42, am_iload 2 43), (43, am_push (vI 0) 44), (44, am_cal l d y_M_addTo none 3 47 0 0 0 0), (47, am_push (vI 0) 48), (48, am_stp (am_istore 3 49)), (49, am_iload 3 50), (50, am_aload 0 51), (51, am_getR 9 5 54), (54, am_push (vI 0) 55), (55, am_ald 0 56), (56, am_icmp_ge 59 148), (59, am_aload 0 60), (60, am_getI 9 4 63), (63, am_if_eq 66 148), (66, am_aload 0 67), (67, am_push (vI 45) 69), (69, am_cal l d y_M_isNext (some 9) 2 72 0 0 0 0), (72, am_istore 4 74), (74, am_aload 0 75), (75, am_iload 4 77), (77, am_if_ne 80 89), (80, am_aload 0 81), (81, am_push (vI 43) 83), (83, am_cal l d y_M_isNext (some 9) 2 86 0 0 0 0), (86, am_if_eq 89 93), (89, am_push (vI 1) 90), (90, am_goto 94), (93, am_push (vI 0) 94), (94, am_cal l d y_M_accept (some 9) 2 97 0 0 0 0), (97, am_aload 0 98), (98, am_getI 9 4 101), (101, am_if_eq 104 114), (104, am_aload 0 105), (105, am_push (vI 0) 106), (106, am_push (vI 99) 108), (108, am_cal l d y_M_two (some 9) 3 111 0 0 0 0), (111, am_goto 115), (114, am_push (vI 0) 115), (115, am_istore 5 117), (117, am_aload 0 118), (118, am_getR 9 5 121), (121, am_iload 1 122), (122, am_push (vI 3) 123), (123, am_iload 3 124), (124, am_iadd 125), (125, am_cal l d y_M_cell none 2 128 0 0 0 0), (128, am_iload 4 130), (130, am_if_eq 133 139), (133, am_iload 5 135), (135, am_ineg 136), (136, am_goto 141), (139, am_iload 5 141), (141, am_ast 0 (fun x => x) 142), (142, am_iinc 3 1 145), (145, am_stp (am_goto 49)), (148, am_vret)]
theorem ck_M_readRow {l : Launch} {sc : Nat × (Nat → Int32)} {d : Nat} : ∀ q ∈ co_M_readRow l d, am_ok l sc (d + 1) y_M_readRow q.1 q.2 :=
  fa_cons (ok_aload_n (show decode (am_mB y_M_readRow) 0 = .ok (.aload_n 0, 1) by decide +kernel) rfl) <|
  fa_cons (ok_getR (show decode (am_mB y_M_readRow) 1 = .ok (.getfield 13, 3) by decide +kernel) fl_M_13 (by decide +kernel)) <|
  fa_cons (ok_iconst (show decode (am_mB y_M_readRow) 4 = .ok (.iconst 1, 1) by decide +kernel) rfl) <|
  fa_cons (ok_iald (show decode (am_mB y_M_readRow) 5 = .ok (.iaload, 1) by decide +kernel)) <|
  fa_cons (ok_istore_n (show decode (am_mB y_M_readRow) 6 = .ok (.istore_n 1, 1) by decide +kernel) rfl (by decide +kernel)) <|
  fa_cons (ok_aload_n (show decode (am_mB y_M_readRow) 7 = .ok (.aload_n 0, 1) by decide +kernel) rfl) <|
  fa_cons (ok_iload_n (show decode (am_mB y_M_readRow) 8 = .ok (.iload_n 1, 1) by decide +kernel) rfl) <|
  fa_cons (ok_bipush (show decode (am_mB y_M_readRow) 9 = .ok (.bipush 24, 2) by decide +kernel) (by decide +kernel)) <|
  fa_cons (ok_icmp_ge (show decode (am_mB y_M_readRow) 11 = .ok (.if_icmp .ge 7, 3) by decide +kernel) (by decide)) <|
  fa_cons (ok_iconst (show decode (am_mB y_M_readRow) 14 = .ok (.iconst 1, 1) by decide +kernel) rfl) <|
  fa_cons (ok_goto (show decode (am_mB y_M_readRow) 15 = .ok (.goto 4, 3) by decide +kernel) (by decide)) <|
  fa_cons (ok_iconst (show decode (am_mB y_M_readRow) 18 = .ok (.iconst 0, 1) by decide +kernel) rfl) <|
  fa_cons (ok_cal ⟨rfl, rfl, rfl, rfl⟩ (ok_callV (show decode (am_mB y_M_readRow) 19 = .ok (.invokevirtual 141, 3) by decide +kernel) cf_M_accept (by decide +kernel) ml_M_141 ci_M_accept cv_M_accept ⟨by decide, rfl⟩ rfl ⟨by decide +kernel, rfl⟩)) <|
  fa_cons (ok_aload_n (show decode (am_mB y_M_readRow) 22 = .ok (.aload_n 0, 1) by decide +kernel) rfl) <|
  fa_cons (ok_iconst (show decode (am_mB y_M_readRow) 23 = .ok (.iconst 1, 1) by decide +kernel) rfl) <|
  fa_cons (ok_bipush (show decode (am_mB y_M_readRow) 24 = .ok (.bipush 6, 2) by decide +kernel) (by decide +kernel)) <|
  fa_cons (ok_cal ⟨rfl, rfl, rfl, rfl⟩ (ok_callV (show decode (am_mB y_M_readRow) 26 = .ok (.invokevirtual 145, 3) by decide +kernel) cf_M_digit (by decide +kernel) ml_M_145 ci_M_digit cv_M_digit ⟨by decide, rfl⟩ rfl ⟨by decide +kernel, rfl⟩)) <|
  fa_cons (ok_istore_n (show decode (am_mB y_M_readRow) 29 = .ok (.istore_n 2, 1) by decide +kernel) rfl (by decide +kernel)) <|
  fa_cons (ok_aload_n (show decode (am_mB y_M_readRow) 30 = .ok (.aload_n 0, 1) by decide +kernel) rfl) <|
  fa_cons (ok_getI (show decode (am_mB y_M_readRow) 31 = .ok (.getfield 135, 3) by decide +kernel) fl_M_135 (by decide +kernel)) <|
  fa_cons (ok_if_ne (show decode (am_mB y_M_readRow) 34 = .ok (.ifCond .ne 4, 3) by decide +kernel) (by decide)) <|
  fa_cons (ok_vret (show decode (am_mB y_M_readRow) 37 = .ok (.return_, 1) by decide +kernel) rfl (by decide +kernel)) <|
  fa_cons (ok_aload_n (show decode (am_mB y_M_readRow) 38 = .ok (.aload_n 0, 1) by decide +kernel) rfl) <|
  fa_cons (ok_getR (show decode (am_mB y_M_readRow) 39 = .ok (.getfield 13, 3) by decide +kernel) fl_M_13 (by decide +kernel)) <|
  fa_cons (ok_iload_n (show decode (am_mB y_M_readRow) 42 = .ok (.iload_n 2, 1) by decide +kernel) rfl) <|
  fa_cons (ok_iconst (show decode (am_mB y_M_readRow) 43 = .ok (.iconst 0, 1) by decide +kernel) rfl) <|
  fa_cons (ok_cal ⟨rfl, rfl, rfl, rfl⟩ (ok_callS (show decode (am_mB y_M_readRow) 44 = .ok (.invokestatic 148, 3) by decide +kernel) cf_M_addTo (by decide +kernel) ml_M_148 cs_M_addTo rfl ⟨by decide +kernel, rfl⟩)) <|
  fa_cons (ok_iconst (show decode (am_mB y_M_readRow) 47 = .ok (.iconst 0, 1) by decide +kernel) rfl) <|
  fa_cons (ok_stp (σ := am_istore 3 49) (ok_istore_n (show decode (am_mB y_M_readRow) 48 = .ok (.istore_n 3, 1) by decide +kernel) rfl (by decide +kernel))) <|
  fa_cons (ok_iload_n (show decode (am_mB y_M_readRow) 49 = .ok (.iload_n 3, 1) by decide +kernel) rfl) <|
  fa_cons (ok_aload_n (show decode (am_mB y_M_readRow) 50 = .ok (.aload_n 0, 1) by decide +kernel) rfl) <|
  fa_cons (ok_getR (show decode (am_mB y_M_readRow) 51 = .ok (.getfield 13, 3) by decide +kernel) fl_M_13 (by decide +kernel)) <|
  fa_cons (ok_iconst (show decode (am_mB y_M_readRow) 54 = .ok (.iconst 0, 1) by decide +kernel) rfl) <|
  fa_cons (ok_iald (show decode (am_mB y_M_readRow) 55 = .ok (.iaload, 1) by decide +kernel)) <|
  fa_cons (ok_icmp_ge (show decode (am_mB y_M_readRow) 56 = .ok (.if_icmp .ge 92, 3) by decide +kernel) (by decide)) <|
  fa_cons (ok_aload_n (show decode (am_mB y_M_readRow) 59 = .ok (.aload_n 0, 1) by decide +kernel) rfl) <|
  fa_cons (ok_getI (show decode (am_mB y_M_readRow) 60 = .ok (.getfield 135, 3) by decide +kernel) fl_M_135 (by decide +kernel)) <|
  fa_cons (ok_if_eq (show decode (am_mB y_M_readRow) 63 = .ok (.ifCond .eq 85, 3) by decide +kernel) (by decide)) <|
  fa_cons (ok_aload_n (show decode (am_mB y_M_readRow) 66 = .ok (.aload_n 0, 1) by decide +kernel) rfl) <|
  fa_cons (ok_bipush (show decode (am_mB y_M_readRow) 67 = .ok (.bipush 45, 2) by decide +kernel) (by decide +kernel)) <|
  fa_cons (ok_cal ⟨rfl, rfl, rfl, rfl⟩ (ok_callV (show decode (am_mB y_M_readRow) 69 = .ok (.invokevirtual 152, 3) by decide +kernel) cf_M_isNext (by decide +kernel) ml_M_152 ci_M_isNext cv_M_isNext ⟨by decide, rfl⟩ rfl ⟨by decide +kernel, rfl⟩)) <|
  fa_cons (ok_istore (show decode (am_mB y_M_readRow) 72 = .ok (.istore 4, 2) by decide +kernel) (by decide +kernel)) <|
  fa_cons (ok_aload_n (show decode (am_mB y_M_readRow) 74 = .ok (.aload_n 0, 1) by decide +kernel) rfl) <|
  fa_cons (ok_iload (show decode (am_mB y_M_readRow) 75 = .ok (.iload 4, 2) by decide +kernel)) <|
  fa_cons (ok_if_ne (show decode (am_mB y_M_readRow) 77 = .ok (.ifCond .ne 12, 3) by decide +kernel) (by decide)) <|
  fa_cons (ok_aload_n (show decode (am_mB y_M_readRow) 80 = .ok (.aload_n 0, 1) by decide +kernel) rfl) <|
  fa_cons (ok_bipush (show decode (am_mB y_M_readRow) 81 = .ok (.bipush 43, 2) by decide +kernel) (by decide +kernel)) <|
  fa_cons (ok_cal ⟨rfl, rfl, rfl, rfl⟩ (ok_callV (show decode (am_mB y_M_readRow) 83 = .ok (.invokevirtual 152, 3) by decide +kernel) cf_M_isNext (by decide +kernel) ml_M_152 ci_M_isNext cv_M_isNext ⟨by decide, rfl⟩ rfl ⟨by decide +kernel, rfl⟩)) <|
  fa_cons (ok_if_eq (show decode (am_mB y_M_readRow) 86 = .ok (.ifCond .eq 7, 3) by decide +kernel) (by decide)) <|
  fa_cons (ok_iconst (show decode (am_mB y_M_readRow) 89 = .ok (.iconst 1, 1) by decide +kernel) rfl) <|
  fa_cons (ok_goto (show decode (am_mB y_M_readRow) 90 = .ok (.goto 4, 3) by decide +kernel) (by decide)) <|
  fa_cons (ok_iconst (show decode (am_mB y_M_readRow) 93 = .ok (.iconst 0, 1) by decide +kernel) rfl) <|
  fa_cons (ok_cal ⟨rfl, rfl, rfl, rfl⟩ (ok_callV (show decode (am_mB y_M_readRow) 94 = .ok (.invokevirtual 141, 3) by decide +kernel) cf_M_accept (by decide +kernel) ml_M_141 ci_M_accept cv_M_accept ⟨by decide, rfl⟩ rfl ⟨by decide +kernel, rfl⟩)) <|
  fa_cons (ok_aload_n (show decode (am_mB y_M_readRow) 97 = .ok (.aload_n 0, 1) by decide +kernel) rfl) <|
  fa_cons (ok_getI (show decode (am_mB y_M_readRow) 98 = .ok (.getfield 135, 3) by decide +kernel) fl_M_135 (by decide +kernel)) <|
  fa_cons (ok_if_eq (show decode (am_mB y_M_readRow) 101 = .ok (.ifCond .eq 13, 3) by decide +kernel) (by decide)) <|
  fa_cons (ok_aload_n (show decode (am_mB y_M_readRow) 104 = .ok (.aload_n 0, 1) by decide +kernel) rfl) <|
  fa_cons (ok_iconst (show decode (am_mB y_M_readRow) 105 = .ok (.iconst 0, 1) by decide +kernel) rfl) <|
  fa_cons (ok_bipush (show decode (am_mB y_M_readRow) 106 = .ok (.bipush 99, 2) by decide +kernel) (by decide +kernel)) <|
  fa_cons (ok_cal ⟨rfl, rfl, rfl, rfl⟩ (ok_callV (show decode (am_mB y_M_readRow) 108 = .ok (.invokevirtual 155, 3) by decide +kernel) cf_M_two (by decide +kernel) ml_M_155 ci_M_two cv_M_two ⟨by decide, rfl⟩ rfl ⟨by decide +kernel, rfl⟩)) <|
  fa_cons (ok_goto (show decode (am_mB y_M_readRow) 111 = .ok (.goto 4, 3) by decide +kernel) (by decide)) <|
  fa_cons (ok_iconst (show decode (am_mB y_M_readRow) 114 = .ok (.iconst 0, 1) by decide +kernel) rfl) <|
  fa_cons (ok_istore (show decode (am_mB y_M_readRow) 115 = .ok (.istore 5, 2) by decide +kernel) (by decide +kernel)) <|
  fa_cons (ok_aload_n (show decode (am_mB y_M_readRow) 117 = .ok (.aload_n 0, 1) by decide +kernel) rfl) <|
  fa_cons (ok_getR (show decode (am_mB y_M_readRow) 118 = .ok (.getfield 13, 3) by decide +kernel) fl_M_13 (by decide +kernel)) <|
  fa_cons (ok_iload_n (show decode (am_mB y_M_readRow) 121 = .ok (.iload_n 1, 1) by decide +kernel) rfl) <|
  fa_cons (ok_iconst (show decode (am_mB y_M_readRow) 122 = .ok (.iconst 3, 1) by decide +kernel) rfl) <|
  fa_cons (ok_iload_n (show decode (am_mB y_M_readRow) 123 = .ok (.iload_n 3, 1) by decide +kernel) rfl) <|
  fa_cons (ok_iadd (show decode (am_mB y_M_readRow) 124 = .ok (.iadd, 1) by decide +kernel)) <|
  fa_cons (ok_cal ⟨rfl, rfl, rfl, rfl⟩ (ok_callS (show decode (am_mB y_M_readRow) 125 = .ok (.invokestatic 62, 3) by decide +kernel) cf_M_cell (by decide +kernel) ml_M_62 cs_M_cell rfl ⟨by decide +kernel, rfl⟩)) <|
  fa_cons (ok_iload (show decode (am_mB y_M_readRow) 128 = .ok (.iload 4, 2) by decide +kernel)) <|
  fa_cons (ok_if_eq (show decode (am_mB y_M_readRow) 130 = .ok (.ifCond .eq 9, 3) by decide +kernel) (by decide)) <|
  fa_cons (ok_iload (show decode (am_mB y_M_readRow) 133 = .ok (.iload 5, 2) by decide +kernel)) <|
  fa_cons (ok_ineg (show decode (am_mB y_M_readRow) 135 = .ok (.ineg, 1) by decide +kernel)) <|
  fa_cons (ok_goto (show decode (am_mB y_M_readRow) 136 = .ok (.goto 5, 3) by decide +kernel) (by decide)) <|
  fa_cons (ok_iload (show decode (am_mB y_M_readRow) 139 = .ok (.iload 5, 2) by decide +kernel)) <|
  fa_cons (ok_iast (show decode (am_mB y_M_readRow) 141 = .ok (.iastore, 1) by decide +kernel)) <|
  fa_cons (ok_iinc (show decode (am_mB y_M_readRow) 142 = .ok (.iinc 3 1, 3) by decide +kernel) (by decide +kernel) (by decide +kernel)) <|
  fa_cons (ok_stp (σ := am_goto 49) (ok_goto (show decode (am_mB y_M_readRow) 145 = .ok (.goto (-96), 3) by decide +kernel) (by decide))) <|
  fa_cons (ok_vret (show decode (am_mB y_M_readRow) 148 = .ok (.return_, 1) by decide +kernel) rfl (by decide +kernel)) <|
  fa_nil
set_option maxRecDepth 100000 in
theorem cq_M_readRow (l : Launch) (d : Nat) : am_lk (co_M_readRow l d) 0 = am_aload 0 1 ∧ am_lk (co_M_readRow l d) 1 = am_getR 9 5 4 ∧ am_lk (co_M_readRow l d) 4 = am_push (vI 1) 5 ∧ am_lk (co_M_readRow l d) 5 = am_ald 0 6 ∧ am_lk (co_M_readRow l d) 6 = am_istore 1 7 ∧ am_lk (co_M_readRow l d) 7 = am_aload 0 8 ∧ am_lk (co_M_readRow l d) 8 = am_iload 1 9 ∧ am_lk (co_M_readRow l d) 9 = am_push (vI 24) 11 ∧ am_lk (co_M_readRow l d) 11 = am_icmp_ge 14 18 ∧ am_lk (co_M_readRow l d) 14 = am_push (vI 1) 15 ∧ am_lk (co_M_readRow l d) 15 = am_goto 19 ∧ am_lk (co_M_readRow l d) 18 = am_push (vI 0) 19 ∧ am_lk (co_M_readRow l d) 19 = am_cal l d y_M_accept (some 9) 2 22 0 0 0 0 ∧ am_lk (co_M_readRow l d) 22 = am_aload 0 23 ∧ am_lk (co_M_readRow l d) 23 = am_push (vI 1) 24 ∧ am_lk (co_M_readRow l d) 24 = am_push (vI 6) 26 ∧ am_lk (co_M_readRow l d) 26 = am_cal l d y_M_digit (some 9) 3 29 0 0 0 0 ∧ am_lk (co_M_readRow l d) 29 = am_istore 2 30 ∧ am_lk (co_M_readRow l d) 30 = am_aload 0 31 ∧ am_lk (co_M_readRow l d) 31 = am_getI 9 4 34 ∧ am_lk (co_M_readRow l d) 34 = am_if_ne 37 38 ∧ am_lk (co_M_readRow l d) 37 = am_vret ∧ am_lk (co_M_readRow l d) 38 = am_aload 0 39 ∧ am_lk (co_M_readRow l d) 39 = am_getR 9 5 42 ∧ am_lk (co_M_readRow l d) 42 = am_iload 2 43 ∧ am_lk (co_M_readRow l d) 43 = am_push (vI 0) 44 ∧ am_lk (co_M_readRow l d) 44 = am_cal l d y_M_addTo none 3 47 0 0 0 0 ∧ am_lk (co_M_readRow l d) 47 = am_push (vI 0) 48 ∧ am_lk (co_M_readRow l d) 48 = am_stp (am_istore 3 49) ∧ am_lk (co_M_readRow l d) 49 = am_iload 3 50 ∧ am_lk (co_M_readRow l d) 50 = am_aload 0 51 ∧ am_lk (co_M_readRow l d) 51 = am_getR 9 5 54 ∧ am_lk (co_M_readRow l d) 54 = am_push (vI 0) 55 ∧ am_lk (co_M_readRow l d) 55 = am_ald 0 56 ∧ am_lk (co_M_readRow l d) 56 = am_icmp_ge 59 148 ∧ am_lk (co_M_readRow l d) 59 = am_aload 0 60 ∧ am_lk (co_M_readRow l d) 60 = am_getI 9 4 63 ∧ am_lk (co_M_readRow l d) 63 = am_if_eq 66 148 ∧ am_lk (co_M_readRow l d) 66 = am_aload 0 67 ∧ am_lk (co_M_readRow l d) 67 = am_push (vI 45) 69 ∧ am_lk (co_M_readRow l d) 69 = am_cal l d y_M_isNext (some 9) 2 72 0 0 0 0 ∧ am_lk (co_M_readRow l d) 72 = am_istore 4 74 ∧ am_lk (co_M_readRow l d) 74 = am_aload 0 75 ∧ am_lk (co_M_readRow l d) 75 = am_iload 4 77 ∧ am_lk (co_M_readRow l d) 77 = am_if_ne 80 89 ∧ am_lk (co_M_readRow l d) 80 = am_aload 0 81 ∧ am_lk (co_M_readRow l d) 81 = am_push (vI 43) 83 ∧ am_lk (co_M_readRow l d) 83 = am_cal l d y_M_isNext (some 9) 2 86 0 0 0 0 ∧ am_lk (co_M_readRow l d) 86 = am_if_eq 89 93 ∧ am_lk (co_M_readRow l d) 89 = am_push (vI 1) 90 ∧ am_lk (co_M_readRow l d) 90 = am_goto 94 ∧ am_lk (co_M_readRow l d) 93 = am_push (vI 0) 94 ∧ am_lk (co_M_readRow l d) 94 = am_cal l d y_M_accept (some 9) 2 97 0 0 0 0 ∧ am_lk (co_M_readRow l d) 97 = am_aload 0 98 ∧ am_lk (co_M_readRow l d) 98 = am_getI 9 4 101 ∧ am_lk (co_M_readRow l d) 101 = am_if_eq 104 114 ∧ am_lk (co_M_readRow l d) 104 = am_aload 0 105 ∧ am_lk (co_M_readRow l d) 105 = am_push (vI 0) 106 ∧ am_lk (co_M_readRow l d) 106 = am_push (vI 99) 108 ∧ am_lk (co_M_readRow l d) 108 = am_cal l d y_M_two (some 9) 3 111 0 0 0 0 ∧ am_lk (co_M_readRow l d) 111 = am_goto 115 ∧ am_lk (co_M_readRow l d) 114 = am_push (vI 0) 115 ∧ am_lk (co_M_readRow l d) 115 = am_istore 5 117 ∧ am_lk (co_M_readRow l d) 117 = am_aload 0 118 ∧ am_lk (co_M_readRow l d) 118 = am_getR 9 5 121 ∧ am_lk (co_M_readRow l d) 121 = am_iload 1 122 ∧ am_lk (co_M_readRow l d) 122 = am_push (vI 3) 123 ∧ am_lk (co_M_readRow l d) 123 = am_iload 3 124 ∧ am_lk (co_M_readRow l d) 124 = am_iadd 125 ∧ am_lk (co_M_readRow l d) 125 = am_cal l d y_M_cell none 2 128 0 0 0 0 ∧ am_lk (co_M_readRow l d) 128 = am_iload 4 130 ∧ am_lk (co_M_readRow l d) 130 = am_if_eq 133 139 ∧ am_lk (co_M_readRow l d) 133 = am_iload 5 135 ∧ am_lk (co_M_readRow l d) 135 = am_ineg 136 ∧ am_lk (co_M_readRow l d) 136 = am_goto 141 ∧ am_lk (co_M_readRow l d) 139 = am_iload 5 141 ∧ am_lk (co_M_readRow l d) 141 = am_ast 0 (fun x => x) 142 ∧ am_lk (co_M_readRow l d) 142 = am_iinc 3 1 145 ∧ am_lk (co_M_readRow l d) 145 = am_stp (am_goto 49) ∧ am_lk (co_M_readRow l d) 148 = am_vret := ⟨rfl, rfl, rfl, rfl, rfl, rfl, rfl, rfl, rfl, rfl, rfl, rfl, rfl, rfl, rfl, rfl, rfl, rfl, rfl, rfl, rfl, rfl, rfl, rfl, rfl, rfl, rfl, rfl, rfl, rfl, rfl, rfl, rfl, rfl, rfl, rfl, rfl, rfl, rfl, rfl, rfl, rfl, rfl, rfl, rfl, rfl, rfl, rfl, rfl, rfl, rfl, rfl, rfl, rfl, rfl, rfl, rfl, rfl, rfl, rfl, rfl, rfl, rfl, rfl, rfl, rfl, rfl, rfl, rfl, rfl, rfl, rfl, rfl, rfl, rfl, rfl, rfl, rfl, rfl, rfl⟩
theorem en_M_readRow {l : Launch} {d : Nat} (n : Nat) {as : List am_V} {G : am_G} {I : am_I} {J : am_J} {P : am_P} (hlen : (as.map am_cat).sum ≤ 6) (h : am_go (am_lk (co_M_readRow l d)) (am_X l (0, fun _ => 0) (d + 1) y_M_readRow P) P n 0 (am_el 6 as) [] 0 0 G I J) : am_T l (d + 1) y_M_readRow as G I J P :=
  am_T_of (sc := (0, fun _ => 0)) cf_M_readRow (by decide +kernel) (by decide) (by decide +kernel) hlen (am_run (ok_lk _ (ck_M_readRow)) n _ _ _ _ _ _ _ _ h)
theorem rn_M_readRow {l : Launch} {sc : Nat × (Nat → Int32)} {d : Nat} {P : am_P} (n : Nat) {pc : Nat} {ls : am_L} {st : List am_V} {kc ks : Nat} {G : am_G} {I : am_I} {J : am_J} (h : am_go (am_lk (co_M_readRow l d)) (am_X l sc (d + 1) y_M_readRow P) P n pc ls st kc ks G I J) : am_X l sc (d + 1) y_M_readRow P pc ls st kc ks G I J := am_run (ok_lk _ (ck_M_readRow)) n _ _ _ _ _ _ _ _ h
def co_M_readSpan (l : Launch) (d : Nat) : List (Nat × am_S) := [(0, am_aload 0 1), (1, am_aload 0 2), (2, am_getR 9 5 5), (5, am_push (vI 1) 6), (6, am_ald 0 7), (7, am_push (vI 1) 8), (8, am_icmp_le 11 26), (11, am_aload 0 12), (12, am_getR 9 5 15), (15, am_push (vI 2) 16), (16, am_ald 0 17), (17, am_push (vI 6) 19), (19, am_icmp_ge 22 26), (22, am_push (vI 1) 23), (23, am_goto 27), (26, am_push (vI 0) 27), (27, am_cal l d y_M_accept (some 9) 2 30 0 0 0 0), (30, am_aload 0 31), (31, am_getI 9 4 34), (34, am_if_ne 37 38), (37, am_vret), (38, am_aload 0 39), (39, am_push (vI 0) 40), (40, am_aload 0 41), (41, am_getR 9 5 44), (44, am_push (vI 1) 45), (45, am_ald 0 46), (46, am_push (vI 2) 47), (47, am_isub 48), (48, am_cal l d y_M_two (some 9) 3 51 0 0 0 0), (51, am_istore 1 52), (52, am_aload 0 53), (53, am_getI 9 4 56), (56, am_if_eq 59 77), (59, am_aload 0 60), (60, am_iload 1 61), (61, am_push (vI 1) 62), (62, am_iadd 63), (63, am_aload 0 64), (64, am_getR 9 5 67), (67, am_push (vI 1) 68), (68, am_ald 0 69), (69, am_push (vI 1) 70), (70, am_isub 71), (71, am_cal l d y_M_two (some 9) 3 74 0 0 0 0), (74, am_goto 78), (77, am_push (vI 0) 78), (78, am_istore 2 79), (79, am_aload 0 80), (80, am_push (vI 0) 81), (81, am_push (vI 1) 82), (82, am_cal l d y_M_digit (some 9) 3 85 0 0 0 0), (85, am_istore 3 86), (86, am_aload 0 87), (87, am_getI 9 4 90), (90, am_if_eq 93 103), (93, am_aload 0 94), (94, am_getR 9 5 97), (97, am_iload 1 98), (98, am_iload 2 99), (99, am_iload 3 100), (100, am_cal l d y_M_putSpan none 4 103 0 0 0 0), (103, am_vret)]
theorem ck_M_readSpan {l : Launch} {sc : Nat × (Nat → Int32)} {d : Nat} : ∀ q ∈ co_M_readSpan l d, am_ok l sc (d + 1) y_M_readSpan q.1 q.2 :=
  fa_cons (ok_aload_n (show decode (am_mB y_M_readSpan) 0 = .ok (.aload_n 0, 1) by decide +kernel) rfl) <|
  fa_cons (ok_aload_n (show decode (am_mB y_M_readSpan) 1 = .ok (.aload_n 0, 1) by decide +kernel) rfl) <|
  fa_cons (ok_getR (show decode (am_mB y_M_readSpan) 2 = .ok (.getfield 13, 3) by decide +kernel) fl_M_13 (by decide +kernel)) <|
  fa_cons (ok_iconst (show decode (am_mB y_M_readSpan) 5 = .ok (.iconst 1, 1) by decide +kernel) rfl) <|
  fa_cons (ok_iald (show decode (am_mB y_M_readSpan) 6 = .ok (.iaload, 1) by decide +kernel)) <|
  fa_cons (ok_iconst (show decode (am_mB y_M_readSpan) 7 = .ok (.iconst 1, 1) by decide +kernel) rfl) <|
  fa_cons (ok_icmp_le (show decode (am_mB y_M_readSpan) 8 = .ok (.if_icmp .le 18, 3) by decide +kernel) (by decide)) <|
  fa_cons (ok_aload_n (show decode (am_mB y_M_readSpan) 11 = .ok (.aload_n 0, 1) by decide +kernel) rfl) <|
  fa_cons (ok_getR (show decode (am_mB y_M_readSpan) 12 = .ok (.getfield 13, 3) by decide +kernel) fl_M_13 (by decide +kernel)) <|
  fa_cons (ok_iconst (show decode (am_mB y_M_readSpan) 15 = .ok (.iconst 2, 1) by decide +kernel) rfl) <|
  fa_cons (ok_iald (show decode (am_mB y_M_readSpan) 16 = .ok (.iaload, 1) by decide +kernel)) <|
  fa_cons (ok_bipush (show decode (am_mB y_M_readSpan) 17 = .ok (.bipush 6, 2) by decide +kernel) (by decide +kernel)) <|
  fa_cons (ok_icmp_ge (show decode (am_mB y_M_readSpan) 19 = .ok (.if_icmp .ge 7, 3) by decide +kernel) (by decide)) <|
  fa_cons (ok_iconst (show decode (am_mB y_M_readSpan) 22 = .ok (.iconst 1, 1) by decide +kernel) rfl) <|
  fa_cons (ok_goto (show decode (am_mB y_M_readSpan) 23 = .ok (.goto 4, 3) by decide +kernel) (by decide)) <|
  fa_cons (ok_iconst (show decode (am_mB y_M_readSpan) 26 = .ok (.iconst 0, 1) by decide +kernel) rfl) <|
  fa_cons (ok_cal ⟨rfl, rfl, rfl, rfl⟩ (ok_callV (show decode (am_mB y_M_readSpan) 27 = .ok (.invokevirtual 141, 3) by decide +kernel) cf_M_accept (by decide +kernel) ml_M_141 ci_M_accept cv_M_accept ⟨by decide, rfl⟩ rfl ⟨by decide +kernel, rfl⟩)) <|
  fa_cons (ok_aload_n (show decode (am_mB y_M_readSpan) 30 = .ok (.aload_n 0, 1) by decide +kernel) rfl) <|
  fa_cons (ok_getI (show decode (am_mB y_M_readSpan) 31 = .ok (.getfield 135, 3) by decide +kernel) fl_M_135 (by decide +kernel)) <|
  fa_cons (ok_if_ne (show decode (am_mB y_M_readSpan) 34 = .ok (.ifCond .ne 4, 3) by decide +kernel) (by decide)) <|
  fa_cons (ok_vret (show decode (am_mB y_M_readSpan) 37 = .ok (.return_, 1) by decide +kernel) rfl (by decide +kernel)) <|
  fa_cons (ok_aload_n (show decode (am_mB y_M_readSpan) 38 = .ok (.aload_n 0, 1) by decide +kernel) rfl) <|
  fa_cons (ok_iconst (show decode (am_mB y_M_readSpan) 39 = .ok (.iconst 0, 1) by decide +kernel) rfl) <|
  fa_cons (ok_aload_n (show decode (am_mB y_M_readSpan) 40 = .ok (.aload_n 0, 1) by decide +kernel) rfl) <|
  fa_cons (ok_getR (show decode (am_mB y_M_readSpan) 41 = .ok (.getfield 13, 3) by decide +kernel) fl_M_13 (by decide +kernel)) <|
  fa_cons (ok_iconst (show decode (am_mB y_M_readSpan) 44 = .ok (.iconst 1, 1) by decide +kernel) rfl) <|
  fa_cons (ok_iald (show decode (am_mB y_M_readSpan) 45 = .ok (.iaload, 1) by decide +kernel)) <|
  fa_cons (ok_iconst (show decode (am_mB y_M_readSpan) 46 = .ok (.iconst 2, 1) by decide +kernel) rfl) <|
  fa_cons (ok_isub (show decode (am_mB y_M_readSpan) 47 = .ok (.isub, 1) by decide +kernel)) <|
  fa_cons (ok_cal ⟨rfl, rfl, rfl, rfl⟩ (ok_callV (show decode (am_mB y_M_readSpan) 48 = .ok (.invokevirtual 155, 3) by decide +kernel) cf_M_two (by decide +kernel) ml_M_155 ci_M_two cv_M_two ⟨by decide, rfl⟩ rfl ⟨by decide +kernel, rfl⟩)) <|
  fa_cons (ok_istore_n (show decode (am_mB y_M_readSpan) 51 = .ok (.istore_n 1, 1) by decide +kernel) rfl (by decide +kernel)) <|
  fa_cons (ok_aload_n (show decode (am_mB y_M_readSpan) 52 = .ok (.aload_n 0, 1) by decide +kernel) rfl) <|
  fa_cons (ok_getI (show decode (am_mB y_M_readSpan) 53 = .ok (.getfield 135, 3) by decide +kernel) fl_M_135 (by decide +kernel)) <|
  fa_cons (ok_if_eq (show decode (am_mB y_M_readSpan) 56 = .ok (.ifCond .eq 21, 3) by decide +kernel) (by decide)) <|
  fa_cons (ok_aload_n (show decode (am_mB y_M_readSpan) 59 = .ok (.aload_n 0, 1) by decide +kernel) rfl) <|
  fa_cons (ok_iload_n (show decode (am_mB y_M_readSpan) 60 = .ok (.iload_n 1, 1) by decide +kernel) rfl) <|
  fa_cons (ok_iconst (show decode (am_mB y_M_readSpan) 61 = .ok (.iconst 1, 1) by decide +kernel) rfl) <|
  fa_cons (ok_iadd (show decode (am_mB y_M_readSpan) 62 = .ok (.iadd, 1) by decide +kernel)) <|
  fa_cons (ok_aload_n (show decode (am_mB y_M_readSpan) 63 = .ok (.aload_n 0, 1) by decide +kernel) rfl) <|
  fa_cons (ok_getR (show decode (am_mB y_M_readSpan) 64 = .ok (.getfield 13, 3) by decide +kernel) fl_M_13 (by decide +kernel)) <|
  fa_cons (ok_iconst (show decode (am_mB y_M_readSpan) 67 = .ok (.iconst 1, 1) by decide +kernel) rfl) <|
  fa_cons (ok_iald (show decode (am_mB y_M_readSpan) 68 = .ok (.iaload, 1) by decide +kernel)) <|
  fa_cons (ok_iconst (show decode (am_mB y_M_readSpan) 69 = .ok (.iconst 1, 1) by decide +kernel) rfl) <|
  fa_cons (ok_isub (show decode (am_mB y_M_readSpan) 70 = .ok (.isub, 1) by decide +kernel)) <|
  fa_cons (ok_cal ⟨rfl, rfl, rfl, rfl⟩ (ok_callV (show decode (am_mB y_M_readSpan) 71 = .ok (.invokevirtual 155, 3) by decide +kernel) cf_M_two (by decide +kernel) ml_M_155 ci_M_two cv_M_two ⟨by decide, rfl⟩ rfl ⟨by decide +kernel, rfl⟩)) <|
  fa_cons (ok_goto (show decode (am_mB y_M_readSpan) 74 = .ok (.goto 4, 3) by decide +kernel) (by decide)) <|
  fa_cons (ok_iconst (show decode (am_mB y_M_readSpan) 77 = .ok (.iconst 0, 1) by decide +kernel) rfl) <|
  fa_cons (ok_istore_n (show decode (am_mB y_M_readSpan) 78 = .ok (.istore_n 2, 1) by decide +kernel) rfl (by decide +kernel)) <|
  fa_cons (ok_aload_n (show decode (am_mB y_M_readSpan) 79 = .ok (.aload_n 0, 1) by decide +kernel) rfl) <|
  fa_cons (ok_iconst (show decode (am_mB y_M_readSpan) 80 = .ok (.iconst 0, 1) by decide +kernel) rfl) <|
  fa_cons (ok_iconst (show decode (am_mB y_M_readSpan) 81 = .ok (.iconst 1, 1) by decide +kernel) rfl) <|
  fa_cons (ok_cal ⟨rfl, rfl, rfl, rfl⟩ (ok_callV (show decode (am_mB y_M_readSpan) 82 = .ok (.invokevirtual 145, 3) by decide +kernel) cf_M_digit (by decide +kernel) ml_M_145 ci_M_digit cv_M_digit ⟨by decide, rfl⟩ rfl ⟨by decide +kernel, rfl⟩)) <|
  fa_cons (ok_istore_n (show decode (am_mB y_M_readSpan) 85 = .ok (.istore_n 3, 1) by decide +kernel) rfl (by decide +kernel)) <|
  fa_cons (ok_aload_n (show decode (am_mB y_M_readSpan) 86 = .ok (.aload_n 0, 1) by decide +kernel) rfl) <|
  fa_cons (ok_getI (show decode (am_mB y_M_readSpan) 87 = .ok (.getfield 135, 3) by decide +kernel) fl_M_135 (by decide +kernel)) <|
  fa_cons (ok_if_eq (show decode (am_mB y_M_readSpan) 90 = .ok (.ifCond .eq 13, 3) by decide +kernel) (by decide)) <|
  fa_cons (ok_aload_n (show decode (am_mB y_M_readSpan) 93 = .ok (.aload_n 0, 1) by decide +kernel) rfl) <|
  fa_cons (ok_getR (show decode (am_mB y_M_readSpan) 94 = .ok (.getfield 13, 3) by decide +kernel) fl_M_13 (by decide +kernel)) <|
  fa_cons (ok_iload_n (show decode (am_mB y_M_readSpan) 97 = .ok (.iload_n 1, 1) by decide +kernel) rfl) <|
  fa_cons (ok_iload_n (show decode (am_mB y_M_readSpan) 98 = .ok (.iload_n 2, 1) by decide +kernel) rfl) <|
  fa_cons (ok_iload_n (show decode (am_mB y_M_readSpan) 99 = .ok (.iload_n 3, 1) by decide +kernel) rfl) <|
  fa_cons (ok_cal ⟨rfl, rfl, rfl, rfl⟩ (ok_callS (show decode (am_mB y_M_readSpan) 100 = .ok (.invokestatic 158, 3) by decide +kernel) cf_M_putSpan (by decide +kernel) ml_M_158 cs_M_putSpan rfl ⟨by decide +kernel, rfl⟩)) <|
  fa_cons (ok_vret (show decode (am_mB y_M_readSpan) 103 = .ok (.return_, 1) by decide +kernel) rfl (by decide +kernel)) <|
  fa_nil
set_option maxRecDepth 100000 in
theorem cq_M_readSpan (l : Launch) (d : Nat) : am_lk (co_M_readSpan l d) 0 = am_aload 0 1 ∧ am_lk (co_M_readSpan l d) 1 = am_aload 0 2 ∧ am_lk (co_M_readSpan l d) 2 = am_getR 9 5 5 ∧ am_lk (co_M_readSpan l d) 5 = am_push (vI 1) 6 ∧ am_lk (co_M_readSpan l d) 6 = am_ald 0 7 ∧ am_lk (co_M_readSpan l d) 7 = am_push (vI 1) 8 ∧ am_lk (co_M_readSpan l d) 8 = am_icmp_le 11 26 ∧ am_lk (co_M_readSpan l d) 11 = am_aload 0 12 ∧ am_lk (co_M_readSpan l d) 12 = am_getR 9 5 15 ∧ am_lk (co_M_readSpan l d) 15 = am_push (vI 2) 16 ∧ am_lk (co_M_readSpan l d) 16 = am_ald 0 17 ∧ am_lk (co_M_readSpan l d) 17 = am_push (vI 6) 19 ∧ am_lk (co_M_readSpan l d) 19 = am_icmp_ge 22 26 ∧ am_lk (co_M_readSpan l d) 22 = am_push (vI 1) 23 ∧ am_lk (co_M_readSpan l d) 23 = am_goto 27 ∧ am_lk (co_M_readSpan l d) 26 = am_push (vI 0) 27 ∧ am_lk (co_M_readSpan l d) 27 = am_cal l d y_M_accept (some 9) 2 30 0 0 0 0 ∧ am_lk (co_M_readSpan l d) 30 = am_aload 0 31 ∧ am_lk (co_M_readSpan l d) 31 = am_getI 9 4 34 ∧ am_lk (co_M_readSpan l d) 34 = am_if_ne 37 38 ∧ am_lk (co_M_readSpan l d) 37 = am_vret ∧ am_lk (co_M_readSpan l d) 38 = am_aload 0 39 ∧ am_lk (co_M_readSpan l d) 39 = am_push (vI 0) 40 ∧ am_lk (co_M_readSpan l d) 40 = am_aload 0 41 ∧ am_lk (co_M_readSpan l d) 41 = am_getR 9 5 44 ∧ am_lk (co_M_readSpan l d) 44 = am_push (vI 1) 45 ∧ am_lk (co_M_readSpan l d) 45 = am_ald 0 46 ∧ am_lk (co_M_readSpan l d) 46 = am_push (vI 2) 47 ∧ am_lk (co_M_readSpan l d) 47 = am_isub 48 ∧ am_lk (co_M_readSpan l d) 48 = am_cal l d y_M_two (some 9) 3 51 0 0 0 0 ∧ am_lk (co_M_readSpan l d) 51 = am_istore 1 52 ∧ am_lk (co_M_readSpan l d) 52 = am_aload 0 53 ∧ am_lk (co_M_readSpan l d) 53 = am_getI 9 4 56 ∧ am_lk (co_M_readSpan l d) 56 = am_if_eq 59 77 ∧ am_lk (co_M_readSpan l d) 59 = am_aload 0 60 ∧ am_lk (co_M_readSpan l d) 60 = am_iload 1 61 ∧ am_lk (co_M_readSpan l d) 61 = am_push (vI 1) 62 ∧ am_lk (co_M_readSpan l d) 62 = am_iadd 63 ∧ am_lk (co_M_readSpan l d) 63 = am_aload 0 64 ∧ am_lk (co_M_readSpan l d) 64 = am_getR 9 5 67 ∧ am_lk (co_M_readSpan l d) 67 = am_push (vI 1) 68 ∧ am_lk (co_M_readSpan l d) 68 = am_ald 0 69 ∧ am_lk (co_M_readSpan l d) 69 = am_push (vI 1) 70 ∧ am_lk (co_M_readSpan l d) 70 = am_isub 71 ∧ am_lk (co_M_readSpan l d) 71 = am_cal l d y_M_two (some 9) 3 74 0 0 0 0 ∧ am_lk (co_M_readSpan l d) 74 = am_goto 78 ∧ am_lk (co_M_readSpan l d) 77 = am_push (vI 0) 78 ∧ am_lk (co_M_readSpan l d) 78 = am_istore 2 79 ∧ am_lk (co_M_readSpan l d) 79 = am_aload 0 80 ∧ am_lk (co_M_readSpan l d) 80 = am_push (vI 0) 81 ∧ am_lk (co_M_readSpan l d) 81 = am_push (vI 1) 82 ∧ am_lk (co_M_readSpan l d) 82 = am_cal l d y_M_digit (some 9) 3 85 0 0 0 0 ∧ am_lk (co_M_readSpan l d) 85 = am_istore 3 86 ∧ am_lk (co_M_readSpan l d) 86 = am_aload 0 87 ∧ am_lk (co_M_readSpan l d) 87 = am_getI 9 4 90 ∧ am_lk (co_M_readSpan l d) 90 = am_if_eq 93 103 ∧ am_lk (co_M_readSpan l d) 93 = am_aload 0 94 ∧ am_lk (co_M_readSpan l d) 94 = am_getR 9 5 97 ∧ am_lk (co_M_readSpan l d) 97 = am_iload 1 98 ∧ am_lk (co_M_readSpan l d) 98 = am_iload 2 99 ∧ am_lk (co_M_readSpan l d) 99 = am_iload 3 100 ∧ am_lk (co_M_readSpan l d) 100 = am_cal l d y_M_putSpan none 4 103 0 0 0 0 ∧ am_lk (co_M_readSpan l d) 103 = am_vret := ⟨rfl, rfl, rfl, rfl, rfl, rfl, rfl, rfl, rfl, rfl, rfl, rfl, rfl, rfl, rfl, rfl, rfl, rfl, rfl, rfl, rfl, rfl, rfl, rfl, rfl, rfl, rfl, rfl, rfl, rfl, rfl, rfl, rfl, rfl, rfl, rfl, rfl, rfl, rfl, rfl, rfl, rfl, rfl, rfl, rfl, rfl, rfl, rfl, rfl, rfl, rfl, rfl, rfl, rfl, rfl, rfl, rfl, rfl, rfl, rfl, rfl, rfl, rfl⟩
theorem en_M_readSpan {l : Launch} {d : Nat} (n : Nat) {as : List am_V} {G : am_G} {I : am_I} {J : am_J} {P : am_P} (hlen : (as.map am_cat).sum ≤ 4) (h : am_go (am_lk (co_M_readSpan l d)) (am_X l (0, fun _ => 0) (d + 1) y_M_readSpan P) P n 0 (am_el 4 as) [] 0 0 G I J) : am_T l (d + 1) y_M_readSpan as G I J P :=
  am_T_of (sc := (0, fun _ => 0)) cf_M_readSpan (by decide +kernel) (by decide) (by decide +kernel) hlen (am_run (ok_lk _ (ck_M_readSpan)) n _ _ _ _ _ _ _ _ h)
theorem rn_M_readSpan {l : Launch} {sc : Nat × (Nat → Int32)} {d : Nat} {P : am_P} (n : Nat) {pc : Nat} {ls : am_L} {st : List am_V} {kc ks : Nat} {G : am_G} {I : am_I} {J : am_J} (h : am_go (am_lk (co_M_readSpan l d)) (am_X l sc (d + 1) y_M_readSpan P) P n pc ls st kc ks G I J) : am_X l sc (d + 1) y_M_readSpan P pc ls st kc ks G I J := am_run (ok_lk _ (ck_M_readSpan)) n _ _ _ _ _ _ _ _ h
def co_M_readMore (l : Launch) (d : Nat) : List (Nat × am_S) := [(0, am_aload 0 1), (1, am_getR 9 5 4), (4, am_push (vI 1) 5), (5, am_ald 0 6), (6, am_push (vI 1) 7), (7, am_isub 8), (8, am_istore 1 9), (9, am_aload 0 10), (10, am_push (vI 107) 12), (12, am_cal l d y_M_isNext (some 9) 2 15 0 0 0 0), (15, am_if_eq 18 52), (18, am_aload 0 19), (19, am_iload 1 20), (20, am_if_lt 23 27), (23, am_push (vI 1) 24), (24, am_goto 28), (27, am_push (vI 0) 28), (28, am_cal l d y_M_accept (some 9) 2 31 0 0 0 0), (31, am_aload 0 32), (32, am_getI 9 4 35), (35, am_if_eq 38 146), (38, am_aload 0 39), (39, am_getR 9 5 42), (42, am_iload 1 43), (43, am_push (vI 2) 44), (44, am_cal l d y_M_cell none 2 47 0 0 0 0), (47, am_push (vI 1) 48), (48, am_ast 0 (fun x => x) 49), (49, am_goto 146), (52, am_aload 0 53), (53, am_push (vI 110) 55), (55, am_cal l d y_M_isNext (some 9) 2 58 0 0 0 0), (58, am_if_eq 61 103), (61, am_aload 0 62), (62, am_iload 1 63), (63, am_if_lt 66 70), (66, am_push (vI 1) 67), (67, am_goto 71), (70, am_push (vI 0) 71), (71, am_cal l d y_M_accept (some 9) 2 74 0 0 0 0), (74, am_aload 0 75), (75, am_push (vI 1) 76), (76, am_push (vI 6) 78), (78, am_cal l d y_M_digit (some 9) 3 81 0 0 0 0), (81, am_istore 2 82), (82, am_aload 0 83), (83, am_getI 9 4 86), (86, am_if_eq 89 100), (89, am_aload 0 90), (90, am_getR 9 5 93), (93, am_iload 1 94), (94, am_push (vI 1) 95), (95, am_cal l d y_M_cell none 2 98 0 0 0 0), (98, am_iload 2 99), (99, am_ast 0 (fun x => x) 100), (100, am_goto 146), (103, am_aload 0 104), (104, am_aload 0 105), (105, am_push (vI 104) 107), (107, am_cal l d y_M_isNext (some 9) 2 110 0 0 0 0), (110, am_cal l d y_M_accept (some 9) 2 113 0 0 0 0), (113, am_aload 0 114), (114, am_push (vI 1) 115), (115, am_push (vI 6) 117), (117, am_cal l d y_M_digit (some 9) 3 120 0 0 0 0), (120, am_istore 2 121), (121, am_aload 0 122), (122, am_push (vI 1) 123), (123, am_push (vI 3) 124), (124, am_cal l d y_M_digit (some 9) 3 127 0 0 0 0), (127, am_istore 3 128), (128, am_aload 0 129), (129, am_getI 9 4 132), (132, am_if_eq 135 146), (135, am_aload 0 136), (136, am_getR 9 5 139), (139, am_push (vI 5) 140), (140, am_iload 2 141), (141, am_iadd 142), (142, am_push (vI 1) 143), (143, am_isub 144), (144, am_iload 3 145), (145, am_ast 0 (fun x => x) 146), (146, am_vret)]
theorem ck_M_readMore {l : Launch} {sc : Nat × (Nat → Int32)} {d : Nat} : ∀ q ∈ co_M_readMore l d, am_ok l sc (d + 1) y_M_readMore q.1 q.2 :=
  fa_cons (ok_aload_n (show decode (am_mB y_M_readMore) 0 = .ok (.aload_n 0, 1) by decide +kernel) rfl) <|
  fa_cons (ok_getR (show decode (am_mB y_M_readMore) 1 = .ok (.getfield 13, 3) by decide +kernel) fl_M_13 (by decide +kernel)) <|
  fa_cons (ok_iconst (show decode (am_mB y_M_readMore) 4 = .ok (.iconst 1, 1) by decide +kernel) rfl) <|
  fa_cons (ok_iald (show decode (am_mB y_M_readMore) 5 = .ok (.iaload, 1) by decide +kernel)) <|
  fa_cons (ok_iconst (show decode (am_mB y_M_readMore) 6 = .ok (.iconst 1, 1) by decide +kernel) rfl) <|
  fa_cons (ok_isub (show decode (am_mB y_M_readMore) 7 = .ok (.isub, 1) by decide +kernel)) <|
  fa_cons (ok_istore_n (show decode (am_mB y_M_readMore) 8 = .ok (.istore_n 1, 1) by decide +kernel) rfl (by decide +kernel)) <|
  fa_cons (ok_aload_n (show decode (am_mB y_M_readMore) 9 = .ok (.aload_n 0, 1) by decide +kernel) rfl) <|
  fa_cons (ok_bipush (show decode (am_mB y_M_readMore) 10 = .ok (.bipush 107, 2) by decide +kernel) (by decide +kernel)) <|
  fa_cons (ok_cal ⟨rfl, rfl, rfl, rfl⟩ (ok_callV (show decode (am_mB y_M_readMore) 12 = .ok (.invokevirtual 152, 3) by decide +kernel) cf_M_isNext (by decide +kernel) ml_M_152 ci_M_isNext cv_M_isNext ⟨by decide, rfl⟩ rfl ⟨by decide +kernel, rfl⟩)) <|
  fa_cons (ok_if_eq (show decode (am_mB y_M_readMore) 15 = .ok (.ifCond .eq 37, 3) by decide +kernel) (by decide)) <|
  fa_cons (ok_aload_n (show decode (am_mB y_M_readMore) 18 = .ok (.aload_n 0, 1) by decide +kernel) rfl) <|
  fa_cons (ok_iload_n (show decode (am_mB y_M_readMore) 19 = .ok (.iload_n 1, 1) by decide +kernel) rfl) <|
  fa_cons (ok_if_lt (show decode (am_mB y_M_readMore) 20 = .ok (.ifCond .lt 7, 3) by decide +kernel) (by decide)) <|
  fa_cons (ok_iconst (show decode (am_mB y_M_readMore) 23 = .ok (.iconst 1, 1) by decide +kernel) rfl) <|
  fa_cons (ok_goto (show decode (am_mB y_M_readMore) 24 = .ok (.goto 4, 3) by decide +kernel) (by decide)) <|
  fa_cons (ok_iconst (show decode (am_mB y_M_readMore) 27 = .ok (.iconst 0, 1) by decide +kernel) rfl) <|
  fa_cons (ok_cal ⟨rfl, rfl, rfl, rfl⟩ (ok_callV (show decode (am_mB y_M_readMore) 28 = .ok (.invokevirtual 141, 3) by decide +kernel) cf_M_accept (by decide +kernel) ml_M_141 ci_M_accept cv_M_accept ⟨by decide, rfl⟩ rfl ⟨by decide +kernel, rfl⟩)) <|
  fa_cons (ok_aload_n (show decode (am_mB y_M_readMore) 31 = .ok (.aload_n 0, 1) by decide +kernel) rfl) <|
  fa_cons (ok_getI (show decode (am_mB y_M_readMore) 32 = .ok (.getfield 135, 3) by decide +kernel) fl_M_135 (by decide +kernel)) <|
  fa_cons (ok_if_eq (show decode (am_mB y_M_readMore) 35 = .ok (.ifCond .eq 111, 3) by decide +kernel) (by decide)) <|
  fa_cons (ok_aload_n (show decode (am_mB y_M_readMore) 38 = .ok (.aload_n 0, 1) by decide +kernel) rfl) <|
  fa_cons (ok_getR (show decode (am_mB y_M_readMore) 39 = .ok (.getfield 13, 3) by decide +kernel) fl_M_13 (by decide +kernel)) <|
  fa_cons (ok_iload_n (show decode (am_mB y_M_readMore) 42 = .ok (.iload_n 1, 1) by decide +kernel) rfl) <|
  fa_cons (ok_iconst (show decode (am_mB y_M_readMore) 43 = .ok (.iconst 2, 1) by decide +kernel) rfl) <|
  fa_cons (ok_cal ⟨rfl, rfl, rfl, rfl⟩ (ok_callS (show decode (am_mB y_M_readMore) 44 = .ok (.invokestatic 62, 3) by decide +kernel) cf_M_cell (by decide +kernel) ml_M_62 cs_M_cell rfl ⟨by decide +kernel, rfl⟩)) <|
  fa_cons (ok_iconst (show decode (am_mB y_M_readMore) 47 = .ok (.iconst 1, 1) by decide +kernel) rfl) <|
  fa_cons (ok_iast (show decode (am_mB y_M_readMore) 48 = .ok (.iastore, 1) by decide +kernel)) <|
  fa_cons (ok_goto (show decode (am_mB y_M_readMore) 49 = .ok (.goto 97, 3) by decide +kernel) (by decide)) <|
  fa_cons (ok_aload_n (show decode (am_mB y_M_readMore) 52 = .ok (.aload_n 0, 1) by decide +kernel) rfl) <|
  fa_cons (ok_bipush (show decode (am_mB y_M_readMore) 53 = .ok (.bipush 110, 2) by decide +kernel) (by decide +kernel)) <|
  fa_cons (ok_cal ⟨rfl, rfl, rfl, rfl⟩ (ok_callV (show decode (am_mB y_M_readMore) 55 = .ok (.invokevirtual 152, 3) by decide +kernel) cf_M_isNext (by decide +kernel) ml_M_152 ci_M_isNext cv_M_isNext ⟨by decide, rfl⟩ rfl ⟨by decide +kernel, rfl⟩)) <|
  fa_cons (ok_if_eq (show decode (am_mB y_M_readMore) 58 = .ok (.ifCond .eq 45, 3) by decide +kernel) (by decide)) <|
  fa_cons (ok_aload_n (show decode (am_mB y_M_readMore) 61 = .ok (.aload_n 0, 1) by decide +kernel) rfl) <|
  fa_cons (ok_iload_n (show decode (am_mB y_M_readMore) 62 = .ok (.iload_n 1, 1) by decide +kernel) rfl) <|
  fa_cons (ok_if_lt (show decode (am_mB y_M_readMore) 63 = .ok (.ifCond .lt 7, 3) by decide +kernel) (by decide)) <|
  fa_cons (ok_iconst (show decode (am_mB y_M_readMore) 66 = .ok (.iconst 1, 1) by decide +kernel) rfl) <|
  fa_cons (ok_goto (show decode (am_mB y_M_readMore) 67 = .ok (.goto 4, 3) by decide +kernel) (by decide)) <|
  fa_cons (ok_iconst (show decode (am_mB y_M_readMore) 70 = .ok (.iconst 0, 1) by decide +kernel) rfl) <|
  fa_cons (ok_cal ⟨rfl, rfl, rfl, rfl⟩ (ok_callV (show decode (am_mB y_M_readMore) 71 = .ok (.invokevirtual 141, 3) by decide +kernel) cf_M_accept (by decide +kernel) ml_M_141 ci_M_accept cv_M_accept ⟨by decide, rfl⟩ rfl ⟨by decide +kernel, rfl⟩)) <|
  fa_cons (ok_aload_n (show decode (am_mB y_M_readMore) 74 = .ok (.aload_n 0, 1) by decide +kernel) rfl) <|
  fa_cons (ok_iconst (show decode (am_mB y_M_readMore) 75 = .ok (.iconst 1, 1) by decide +kernel) rfl) <|
  fa_cons (ok_bipush (show decode (am_mB y_M_readMore) 76 = .ok (.bipush 6, 2) by decide +kernel) (by decide +kernel)) <|
  fa_cons (ok_cal ⟨rfl, rfl, rfl, rfl⟩ (ok_callV (show decode (am_mB y_M_readMore) 78 = .ok (.invokevirtual 145, 3) by decide +kernel) cf_M_digit (by decide +kernel) ml_M_145 ci_M_digit cv_M_digit ⟨by decide, rfl⟩ rfl ⟨by decide +kernel, rfl⟩)) <|
  fa_cons (ok_istore_n (show decode (am_mB y_M_readMore) 81 = .ok (.istore_n 2, 1) by decide +kernel) rfl (by decide +kernel)) <|
  fa_cons (ok_aload_n (show decode (am_mB y_M_readMore) 82 = .ok (.aload_n 0, 1) by decide +kernel) rfl) <|
  fa_cons (ok_getI (show decode (am_mB y_M_readMore) 83 = .ok (.getfield 135, 3) by decide +kernel) fl_M_135 (by decide +kernel)) <|
  fa_cons (ok_if_eq (show decode (am_mB y_M_readMore) 86 = .ok (.ifCond .eq 14, 3) by decide +kernel) (by decide)) <|
  fa_cons (ok_aload_n (show decode (am_mB y_M_readMore) 89 = .ok (.aload_n 0, 1) by decide +kernel) rfl) <|
  fa_cons (ok_getR (show decode (am_mB y_M_readMore) 90 = .ok (.getfield 13, 3) by decide +kernel) fl_M_13 (by decide +kernel)) <|
  fa_cons (ok_iload_n (show decode (am_mB y_M_readMore) 93 = .ok (.iload_n 1, 1) by decide +kernel) rfl) <|
  fa_cons (ok_iconst (show decode (am_mB y_M_readMore) 94 = .ok (.iconst 1, 1) by decide +kernel) rfl) <|
  fa_cons (ok_cal ⟨rfl, rfl, rfl, rfl⟩ (ok_callS (show decode (am_mB y_M_readMore) 95 = .ok (.invokestatic 62, 3) by decide +kernel) cf_M_cell (by decide +kernel) ml_M_62 cs_M_cell rfl ⟨by decide +kernel, rfl⟩)) <|
  fa_cons (ok_iload_n (show decode (am_mB y_M_readMore) 98 = .ok (.iload_n 2, 1) by decide +kernel) rfl) <|
  fa_cons (ok_iast (show decode (am_mB y_M_readMore) 99 = .ok (.iastore, 1) by decide +kernel)) <|
  fa_cons (ok_goto (show decode (am_mB y_M_readMore) 100 = .ok (.goto 46, 3) by decide +kernel) (by decide)) <|
  fa_cons (ok_aload_n (show decode (am_mB y_M_readMore) 103 = .ok (.aload_n 0, 1) by decide +kernel) rfl) <|
  fa_cons (ok_aload_n (show decode (am_mB y_M_readMore) 104 = .ok (.aload_n 0, 1) by decide +kernel) rfl) <|
  fa_cons (ok_bipush (show decode (am_mB y_M_readMore) 105 = .ok (.bipush 104, 2) by decide +kernel) (by decide +kernel)) <|
  fa_cons (ok_cal ⟨rfl, rfl, rfl, rfl⟩ (ok_callV (show decode (am_mB y_M_readMore) 107 = .ok (.invokevirtual 152, 3) by decide +kernel) cf_M_isNext (by decide +kernel) ml_M_152 ci_M_isNext cv_M_isNext ⟨by decide, rfl⟩ rfl ⟨by decide +kernel, rfl⟩)) <|
  fa_cons (ok_cal ⟨rfl, rfl, rfl, rfl⟩ (ok_callV (show decode (am_mB y_M_readMore) 110 = .ok (.invokevirtual 141, 3) by decide +kernel) cf_M_accept (by decide +kernel) ml_M_141 ci_M_accept cv_M_accept ⟨by decide, rfl⟩ rfl ⟨by decide +kernel, rfl⟩)) <|
  fa_cons (ok_aload_n (show decode (am_mB y_M_readMore) 113 = .ok (.aload_n 0, 1) by decide +kernel) rfl) <|
  fa_cons (ok_iconst (show decode (am_mB y_M_readMore) 114 = .ok (.iconst 1, 1) by decide +kernel) rfl) <|
  fa_cons (ok_bipush (show decode (am_mB y_M_readMore) 115 = .ok (.bipush 6, 2) by decide +kernel) (by decide +kernel)) <|
  fa_cons (ok_cal ⟨rfl, rfl, rfl, rfl⟩ (ok_callV (show decode (am_mB y_M_readMore) 117 = .ok (.invokevirtual 145, 3) by decide +kernel) cf_M_digit (by decide +kernel) ml_M_145 ci_M_digit cv_M_digit ⟨by decide, rfl⟩ rfl ⟨by decide +kernel, rfl⟩)) <|
  fa_cons (ok_istore_n (show decode (am_mB y_M_readMore) 120 = .ok (.istore_n 2, 1) by decide +kernel) rfl (by decide +kernel)) <|
  fa_cons (ok_aload_n (show decode (am_mB y_M_readMore) 121 = .ok (.aload_n 0, 1) by decide +kernel) rfl) <|
  fa_cons (ok_iconst (show decode (am_mB y_M_readMore) 122 = .ok (.iconst 1, 1) by decide +kernel) rfl) <|
  fa_cons (ok_iconst (show decode (am_mB y_M_readMore) 123 = .ok (.iconst 3, 1) by decide +kernel) rfl) <|
  fa_cons (ok_cal ⟨rfl, rfl, rfl, rfl⟩ (ok_callV (show decode (am_mB y_M_readMore) 124 = .ok (.invokevirtual 145, 3) by decide +kernel) cf_M_digit (by decide +kernel) ml_M_145 ci_M_digit cv_M_digit ⟨by decide, rfl⟩ rfl ⟨by decide +kernel, rfl⟩)) <|
  fa_cons (ok_istore_n (show decode (am_mB y_M_readMore) 127 = .ok (.istore_n 3, 1) by decide +kernel) rfl (by decide +kernel)) <|
  fa_cons (ok_aload_n (show decode (am_mB y_M_readMore) 128 = .ok (.aload_n 0, 1) by decide +kernel) rfl) <|
  fa_cons (ok_getI (show decode (am_mB y_M_readMore) 129 = .ok (.getfield 135, 3) by decide +kernel) fl_M_135 (by decide +kernel)) <|
  fa_cons (ok_if_eq (show decode (am_mB y_M_readMore) 132 = .ok (.ifCond .eq 14, 3) by decide +kernel) (by decide)) <|
  fa_cons (ok_aload_n (show decode (am_mB y_M_readMore) 135 = .ok (.aload_n 0, 1) by decide +kernel) rfl) <|
  fa_cons (ok_getR (show decode (am_mB y_M_readMore) 136 = .ok (.getfield 13, 3) by decide +kernel) fl_M_13 (by decide +kernel)) <|
  fa_cons (ok_iconst (show decode (am_mB y_M_readMore) 139 = .ok (.iconst 5, 1) by decide +kernel) rfl) <|
  fa_cons (ok_iload_n (show decode (am_mB y_M_readMore) 140 = .ok (.iload_n 2, 1) by decide +kernel) rfl) <|
  fa_cons (ok_iadd (show decode (am_mB y_M_readMore) 141 = .ok (.iadd, 1) by decide +kernel)) <|
  fa_cons (ok_iconst (show decode (am_mB y_M_readMore) 142 = .ok (.iconst 1, 1) by decide +kernel) rfl) <|
  fa_cons (ok_isub (show decode (am_mB y_M_readMore) 143 = .ok (.isub, 1) by decide +kernel)) <|
  fa_cons (ok_iload_n (show decode (am_mB y_M_readMore) 144 = .ok (.iload_n 3, 1) by decide +kernel) rfl) <|
  fa_cons (ok_iast (show decode (am_mB y_M_readMore) 145 = .ok (.iastore, 1) by decide +kernel)) <|
  fa_cons (ok_vret (show decode (am_mB y_M_readMore) 146 = .ok (.return_, 1) by decide +kernel) rfl (by decide +kernel)) <|
  fa_nil
set_option maxRecDepth 100000 in
theorem cq_M_readMore (l : Launch) (d : Nat) : am_lk (co_M_readMore l d) 0 = am_aload 0 1 ∧ am_lk (co_M_readMore l d) 1 = am_getR 9 5 4 ∧ am_lk (co_M_readMore l d) 4 = am_push (vI 1) 5 ∧ am_lk (co_M_readMore l d) 5 = am_ald 0 6 ∧ am_lk (co_M_readMore l d) 6 = am_push (vI 1) 7 ∧ am_lk (co_M_readMore l d) 7 = am_isub 8 ∧ am_lk (co_M_readMore l d) 8 = am_istore 1 9 ∧ am_lk (co_M_readMore l d) 9 = am_aload 0 10 ∧ am_lk (co_M_readMore l d) 10 = am_push (vI 107) 12 ∧ am_lk (co_M_readMore l d) 12 = am_cal l d y_M_isNext (some 9) 2 15 0 0 0 0 ∧ am_lk (co_M_readMore l d) 15 = am_if_eq 18 52 ∧ am_lk (co_M_readMore l d) 18 = am_aload 0 19 ∧ am_lk (co_M_readMore l d) 19 = am_iload 1 20 ∧ am_lk (co_M_readMore l d) 20 = am_if_lt 23 27 ∧ am_lk (co_M_readMore l d) 23 = am_push (vI 1) 24 ∧ am_lk (co_M_readMore l d) 24 = am_goto 28 ∧ am_lk (co_M_readMore l d) 27 = am_push (vI 0) 28 ∧ am_lk (co_M_readMore l d) 28 = am_cal l d y_M_accept (some 9) 2 31 0 0 0 0 ∧ am_lk (co_M_readMore l d) 31 = am_aload 0 32 ∧ am_lk (co_M_readMore l d) 32 = am_getI 9 4 35 ∧ am_lk (co_M_readMore l d) 35 = am_if_eq 38 146 ∧ am_lk (co_M_readMore l d) 38 = am_aload 0 39 ∧ am_lk (co_M_readMore l d) 39 = am_getR 9 5 42 ∧ am_lk (co_M_readMore l d) 42 = am_iload 1 43 ∧ am_lk (co_M_readMore l d) 43 = am_push (vI 2) 44 ∧ am_lk (co_M_readMore l d) 44 = am_cal l d y_M_cell none 2 47 0 0 0 0 ∧ am_lk (co_M_readMore l d) 47 = am_push (vI 1) 48 ∧ am_lk (co_M_readMore l d) 48 = am_ast 0 (fun x => x) 49 ∧ am_lk (co_M_readMore l d) 49 = am_goto 146 ∧ am_lk (co_M_readMore l d) 52 = am_aload 0 53 ∧ am_lk (co_M_readMore l d) 53 = am_push (vI 110) 55 ∧ am_lk (co_M_readMore l d) 55 = am_cal l d y_M_isNext (some 9) 2 58 0 0 0 0 ∧ am_lk (co_M_readMore l d) 58 = am_if_eq 61 103 ∧ am_lk (co_M_readMore l d) 61 = am_aload 0 62 ∧ am_lk (co_M_readMore l d) 62 = am_iload 1 63 ∧ am_lk (co_M_readMore l d) 63 = am_if_lt 66 70 ∧ am_lk (co_M_readMore l d) 66 = am_push (vI 1) 67 ∧ am_lk (co_M_readMore l d) 67 = am_goto 71 ∧ am_lk (co_M_readMore l d) 70 = am_push (vI 0) 71 ∧ am_lk (co_M_readMore l d) 71 = am_cal l d y_M_accept (some 9) 2 74 0 0 0 0 ∧ am_lk (co_M_readMore l d) 74 = am_aload 0 75 ∧ am_lk (co_M_readMore l d) 75 = am_push (vI 1) 76 ∧ am_lk (co_M_readMore l d) 76 = am_push (vI 6) 78 ∧ am_lk (co_M_readMore l d) 78 = am_cal l d y_M_digit (some 9) 3 81 0 0 0 0 ∧ am_lk (co_M_readMore l d) 81 = am_istore 2 82 ∧ am_lk (co_M_readMore l d) 82 = am_aload 0 83 ∧ am_lk (co_M_readMore l d) 83 = am_getI 9 4 86 ∧ am_lk (co_M_readMore l d) 86 = am_if_eq 89 100 ∧ am_lk (co_M_readMore l d) 89 = am_aload 0 90 ∧ am_lk (co_M_readMore l d) 90 = am_getR 9 5 93 ∧ am_lk (co_M_readMore l d) 93 = am_iload 1 94 ∧ am_lk (co_M_readMore l d) 94 = am_push (vI 1) 95 ∧ am_lk (co_M_readMore l d) 95 = am_cal l d y_M_cell none 2 98 0 0 0 0 ∧ am_lk (co_M_readMore l d) 98 = am_iload 2 99 ∧ am_lk (co_M_readMore l d) 99 = am_ast 0 (fun x => x) 100 ∧ am_lk (co_M_readMore l d) 100 = am_goto 146 ∧ am_lk (co_M_readMore l d) 103 = am_aload 0 104 ∧ am_lk (co_M_readMore l d) 104 = am_aload 0 105 ∧ am_lk (co_M_readMore l d) 105 = am_push (vI 104) 107 ∧ am_lk (co_M_readMore l d) 107 = am_cal l d y_M_isNext (some 9) 2 110 0 0 0 0 ∧ am_lk (co_M_readMore l d) 110 = am_cal l d y_M_accept (some 9) 2 113 0 0 0 0 ∧ am_lk (co_M_readMore l d) 113 = am_aload 0 114 ∧ am_lk (co_M_readMore l d) 114 = am_push (vI 1) 115 ∧ am_lk (co_M_readMore l d) 115 = am_push (vI 6) 117 ∧ am_lk (co_M_readMore l d) 117 = am_cal l d y_M_digit (some 9) 3 120 0 0 0 0 ∧ am_lk (co_M_readMore l d) 120 = am_istore 2 121 ∧ am_lk (co_M_readMore l d) 121 = am_aload 0 122 ∧ am_lk (co_M_readMore l d) 122 = am_push (vI 1) 123 ∧ am_lk (co_M_readMore l d) 123 = am_push (vI 3) 124 ∧ am_lk (co_M_readMore l d) 124 = am_cal l d y_M_digit (some 9) 3 127 0 0 0 0 ∧ am_lk (co_M_readMore l d) 127 = am_istore 3 128 ∧ am_lk (co_M_readMore l d) 128 = am_aload 0 129 ∧ am_lk (co_M_readMore l d) 129 = am_getI 9 4 132 ∧ am_lk (co_M_readMore l d) 132 = am_if_eq 135 146 ∧ am_lk (co_M_readMore l d) 135 = am_aload 0 136 ∧ am_lk (co_M_readMore l d) 136 = am_getR 9 5 139 ∧ am_lk (co_M_readMore l d) 139 = am_push (vI 5) 140 ∧ am_lk (co_M_readMore l d) 140 = am_iload 2 141 ∧ am_lk (co_M_readMore l d) 141 = am_iadd 142 ∧ am_lk (co_M_readMore l d) 142 = am_push (vI 1) 143 ∧ am_lk (co_M_readMore l d) 143 = am_isub 144 ∧ am_lk (co_M_readMore l d) 144 = am_iload 3 145 ∧ am_lk (co_M_readMore l d) 145 = am_ast 0 (fun x => x) 146 ∧ am_lk (co_M_readMore l d) 146 = am_vret := ⟨rfl, rfl, rfl, rfl, rfl, rfl, rfl, rfl, rfl, rfl, rfl, rfl, rfl, rfl, rfl, rfl, rfl, rfl, rfl, rfl, rfl, rfl, rfl, rfl, rfl, rfl, rfl, rfl, rfl, rfl, rfl, rfl, rfl, rfl, rfl, rfl, rfl, rfl, rfl, rfl, rfl, rfl, rfl, rfl, rfl, rfl, rfl, rfl, rfl, rfl, rfl, rfl, rfl, rfl, rfl, rfl, rfl, rfl, rfl, rfl, rfl, rfl, rfl, rfl, rfl, rfl, rfl, rfl, rfl, rfl, rfl, rfl, rfl, rfl, rfl, rfl, rfl, rfl, rfl, rfl, rfl, rfl, rfl, rfl⟩
theorem en_M_readMore {l : Launch} {d : Nat} (n : Nat) {as : List am_V} {G : am_G} {I : am_I} {J : am_J} {P : am_P} (hlen : (as.map am_cat).sum ≤ 4) (h : am_go (am_lk (co_M_readMore l d)) (am_X l (0, fun _ => 0) (d + 1) y_M_readMore P) P n 0 (am_el 4 as) [] 0 0 G I J) : am_T l (d + 1) y_M_readMore as G I J P :=
  am_T_of (sc := (0, fun _ => 0)) cf_M_readMore (by decide +kernel) (by decide) (by decide +kernel) hlen (am_run (ok_lk _ (ck_M_readMore)) n _ _ _ _ _ _ _ _ h)
theorem rn_M_readMore {l : Launch} {sc : Nat × (Nat → Int32)} {d : Nat} {P : am_P} (n : Nat) {pc : Nat} {ls : am_L} {st : List am_V} {kc ks : Nat} {G : am_G} {I : am_I} {J : am_J} (h : am_go (am_lk (co_M_readMore l d)) (am_X l sc (d + 1) y_M_readMore P) P n pc ls st kc ks G I J) : am_X l sc (d + 1) y_M_readMore P pc ls st kc ks G I J := am_run (ok_lk _ (ck_M_readMore)) n _ _ _ _ _ _ _ _ h
def co_M_readText (l : Launch) (d : Nat) : List (Nat × am_S) := [(0, am_aload 0 1), (1, am_push (vI 0) 2), (2, am_putI 9 3 5), (5, am_aload 0 6), (6, am_push (vI 1) 7), (7, am_putI 9 4 10), (10, am_aload 0 11), (11, am_getR 9 5 14), (14, am_cal l d y_M_clean none 1 17 0 0 0 0), (17, am_aload 0 18), (18, am_aload 0 19), (19, am_push (vI 84) 21), (21, am_cal l d y_M_isNext (some 9) 2 24 0 0 0 0), (24, am_cal l d y_M_accept (some 9) 2 27 0 0 0 0), (27, am_aload 0 28), (28, am_getR 9 5 31), (31, am_push (vI 0) 32), (32, am_aload 0 33), (33, am_push (vI 1) 34), (34, am_push (vI 4) 35), (35, am_cal l d y_M_digit (some 9) 3 38 0 0 0 0), (38, am_ast 0 (fun x => x) 39), (39, am_aload 0 40), (40, am_getR 9 5 43), (43, am_push (vI 3) 44), (44, am_aload 0 45), (45, am_push (vI 6) 47), (47, am_push (vI 40) 49), (49, am_cal l d y_M_two (some 9) 3 52 0 0 0 0), (52, am_ast 0 (fun x => x) 53), (53, am_aload 0 54), (54, am_getR 9 5 57), (57, am_push (vI 4) 58), (58, am_aload 0 59), (59, am_push (vI 0) 60), (60, am_push (vI 4) 61), (61, am_cal l d y_M_digit (some 9) 3 64 0 0 0 0), (64, am_stp (am_ast 0 (fun x => x) 65)), (65, am_aload 0 66), (66, am_getI 9 4 69), (69, am_if_eq 72 122), (72, am_aload 0 73), (73, am_getI 9 3 76), (76, am_aload 0 77), (77, am_getI 9 2 80), (80, am_icmp_ge 83 122), (83, am_aload 0 84), (84, am_push (vI 114) 86), (86, am_cal l d y_M_isNext (some 9) 2 89 0 0 0 0), (89, am_if_eq 92 99), (92, am_aload 0 93), (93, am_cal l d y_M_readRow (some 9) 1 96 0 0 0 0), (96, am_stp (am_goto 65)), (99, am_aload 0 100), (100, am_push (vI 115) 102), (102, am_cal l d y_M_isNext (some 9) 2 105 0 0 0 0), (105, am_if_eq 108 115), (108, am_aload 0 109), (109, am_cal l d y_M_readSpan (some 9) 1 112 0 0 0 0), (112, am_stp (am_goto 65)), (115, am_aload 0 116), (116, am_cal l d y_M_readMore (some 9) 1 119 0 0 0 0), (119, am_stp (am_goto 65)), (122, am_aload 0 123), (123, am_getI 9 4 126), (126, am_if_eq 129 134), (129, am_push (vI (-999999)) 131), (131, am_goto 138), (134, am_aload 0 135), (135, am_getI 9 3 138), (138, am_iret false)]
theorem ck_M_readText {l : Launch} {sc : Nat × (Nat → Int32)} {d : Nat} : ∀ q ∈ co_M_readText l d, am_ok l sc (d + 1) y_M_readText q.1 q.2 :=
  fa_cons (ok_aload_n (show decode (am_mB y_M_readText) 0 = .ok (.aload_n 0, 1) by decide +kernel) rfl) <|
  fa_cons (ok_iconst (show decode (am_mB y_M_readText) 1 = .ok (.iconst 0, 1) by decide +kernel) rfl) <|
  fa_cons (ok_putI (show decode (am_mB y_M_readText) 2 = .ok (.putfield 132, 3) by decide +kernel) fl_M_132 (by decide +kernel)) <|
  fa_cons (ok_aload_n (show decode (am_mB y_M_readText) 5 = .ok (.aload_n 0, 1) by decide +kernel) rfl) <|
  fa_cons (ok_iconst (show decode (am_mB y_M_readText) 6 = .ok (.iconst 1, 1) by decide +kernel) rfl) <|
  fa_cons (ok_putI (show decode (am_mB y_M_readText) 7 = .ok (.putfield 135, 3) by decide +kernel) fl_M_135 (by decide +kernel)) <|
  fa_cons (ok_aload_n (show decode (am_mB y_M_readText) 10 = .ok (.aload_n 0, 1) by decide +kernel) rfl) <|
  fa_cons (ok_getR (show decode (am_mB y_M_readText) 11 = .ok (.getfield 13, 3) by decide +kernel) fl_M_13 (by decide +kernel)) <|
  fa_cons (ok_cal ⟨rfl, rfl, rfl, rfl⟩ (ok_callS (show decode (am_mB y_M_readText) 14 = .ok (.invokestatic 41, 3) by decide +kernel) cf_M_clean (by decide +kernel) ml_M_41 cs_M_clean rfl ⟨by decide +kernel, rfl⟩)) <|
  fa_cons (ok_aload_n (show decode (am_mB y_M_readText) 17 = .ok (.aload_n 0, 1) by decide +kernel) rfl) <|
  fa_cons (ok_aload_n (show decode (am_mB y_M_readText) 18 = .ok (.aload_n 0, 1) by decide +kernel) rfl) <|
  fa_cons (ok_bipush (show decode (am_mB y_M_readText) 19 = .ok (.bipush 84, 2) by decide +kernel) (by decide +kernel)) <|
  fa_cons (ok_cal ⟨rfl, rfl, rfl, rfl⟩ (ok_callV (show decode (am_mB y_M_readText) 21 = .ok (.invokevirtual 152, 3) by decide +kernel) cf_M_isNext (by decide +kernel) ml_M_152 ci_M_isNext cv_M_isNext ⟨by decide, rfl⟩ rfl ⟨by decide +kernel, rfl⟩)) <|
  fa_cons (ok_cal ⟨rfl, rfl, rfl, rfl⟩ (ok_callV (show decode (am_mB y_M_readText) 24 = .ok (.invokevirtual 141, 3) by decide +kernel) cf_M_accept (by decide +kernel) ml_M_141 ci_M_accept cv_M_accept ⟨by decide, rfl⟩ rfl ⟨by decide +kernel, rfl⟩)) <|
  fa_cons (ok_aload_n (show decode (am_mB y_M_readText) 27 = .ok (.aload_n 0, 1) by decide +kernel) rfl) <|
  fa_cons (ok_getR (show decode (am_mB y_M_readText) 28 = .ok (.getfield 13, 3) by decide +kernel) fl_M_13 (by decide +kernel)) <|
  fa_cons (ok_iconst (show decode (am_mB y_M_readText) 31 = .ok (.iconst 0, 1) by decide +kernel) rfl) <|
  fa_cons (ok_aload_n (show decode (am_mB y_M_readText) 32 = .ok (.aload_n 0, 1) by decide +kernel) rfl) <|
  fa_cons (ok_iconst (show decode (am_mB y_M_readText) 33 = .ok (.iconst 1, 1) by decide +kernel) rfl) <|
  fa_cons (ok_iconst (show decode (am_mB y_M_readText) 34 = .ok (.iconst 4, 1) by decide +kernel) rfl) <|
  fa_cons (ok_cal ⟨rfl, rfl, rfl, rfl⟩ (ok_callV (show decode (am_mB y_M_readText) 35 = .ok (.invokevirtual 145, 3) by decide +kernel) cf_M_digit (by decide +kernel) ml_M_145 ci_M_digit cv_M_digit ⟨by decide, rfl⟩ rfl ⟨by decide +kernel, rfl⟩)) <|
  fa_cons (ok_iast (show decode (am_mB y_M_readText) 38 = .ok (.iastore, 1) by decide +kernel)) <|
  fa_cons (ok_aload_n (show decode (am_mB y_M_readText) 39 = .ok (.aload_n 0, 1) by decide +kernel) rfl) <|
  fa_cons (ok_getR (show decode (am_mB y_M_readText) 40 = .ok (.getfield 13, 3) by decide +kernel) fl_M_13 (by decide +kernel)) <|
  fa_cons (ok_iconst (show decode (am_mB y_M_readText) 43 = .ok (.iconst 3, 1) by decide +kernel) rfl) <|
  fa_cons (ok_aload_n (show decode (am_mB y_M_readText) 44 = .ok (.aload_n 0, 1) by decide +kernel) rfl) <|
  fa_cons (ok_bipush (show decode (am_mB y_M_readText) 45 = .ok (.bipush 6, 2) by decide +kernel) (by decide +kernel)) <|
  fa_cons (ok_bipush (show decode (am_mB y_M_readText) 47 = .ok (.bipush 40, 2) by decide +kernel) (by decide +kernel)) <|
  fa_cons (ok_cal ⟨rfl, rfl, rfl, rfl⟩ (ok_callV (show decode (am_mB y_M_readText) 49 = .ok (.invokevirtual 155, 3) by decide +kernel) cf_M_two (by decide +kernel) ml_M_155 ci_M_two cv_M_two ⟨by decide, rfl⟩ rfl ⟨by decide +kernel, rfl⟩)) <|
  fa_cons (ok_iast (show decode (am_mB y_M_readText) 52 = .ok (.iastore, 1) by decide +kernel)) <|
  fa_cons (ok_aload_n (show decode (am_mB y_M_readText) 53 = .ok (.aload_n 0, 1) by decide +kernel) rfl) <|
  fa_cons (ok_getR (show decode (am_mB y_M_readText) 54 = .ok (.getfield 13, 3) by decide +kernel) fl_M_13 (by decide +kernel)) <|
  fa_cons (ok_iconst (show decode (am_mB y_M_readText) 57 = .ok (.iconst 4, 1) by decide +kernel) rfl) <|
  fa_cons (ok_aload_n (show decode (am_mB y_M_readText) 58 = .ok (.aload_n 0, 1) by decide +kernel) rfl) <|
  fa_cons (ok_iconst (show decode (am_mB y_M_readText) 59 = .ok (.iconst 0, 1) by decide +kernel) rfl) <|
  fa_cons (ok_iconst (show decode (am_mB y_M_readText) 60 = .ok (.iconst 4, 1) by decide +kernel) rfl) <|
  fa_cons (ok_cal ⟨rfl, rfl, rfl, rfl⟩ (ok_callV (show decode (am_mB y_M_readText) 61 = .ok (.invokevirtual 145, 3) by decide +kernel) cf_M_digit (by decide +kernel) ml_M_145 ci_M_digit cv_M_digit ⟨by decide, rfl⟩ rfl ⟨by decide +kernel, rfl⟩)) <|
  fa_cons (ok_stp (σ := am_ast 0 (fun x => x) 65) (ok_iast (show decode (am_mB y_M_readText) 64 = .ok (.iastore, 1) by decide +kernel))) <|
  fa_cons (ok_aload_n (show decode (am_mB y_M_readText) 65 = .ok (.aload_n 0, 1) by decide +kernel) rfl) <|
  fa_cons (ok_getI (show decode (am_mB y_M_readText) 66 = .ok (.getfield 135, 3) by decide +kernel) fl_M_135 (by decide +kernel)) <|
  fa_cons (ok_if_eq (show decode (am_mB y_M_readText) 69 = .ok (.ifCond .eq 53, 3) by decide +kernel) (by decide)) <|
  fa_cons (ok_aload_n (show decode (am_mB y_M_readText) 72 = .ok (.aload_n 0, 1) by decide +kernel) rfl) <|
  fa_cons (ok_getI (show decode (am_mB y_M_readText) 73 = .ok (.getfield 132, 3) by decide +kernel) fl_M_132 (by decide +kernel)) <|
  fa_cons (ok_aload_n (show decode (am_mB y_M_readText) 76 = .ok (.aload_n 0, 1) by decide +kernel) rfl) <|
  fa_cons (ok_getI (show decode (am_mB y_M_readText) 77 = .ok (.getfield 125, 3) by decide +kernel) fl_M_125 (by decide +kernel)) <|
  fa_cons (ok_icmp_ge (show decode (am_mB y_M_readText) 80 = .ok (.if_icmp .ge 42, 3) by decide +kernel) (by decide)) <|
  fa_cons (ok_aload_n (show decode (am_mB y_M_readText) 83 = .ok (.aload_n 0, 1) by decide +kernel) rfl) <|
  fa_cons (ok_bipush (show decode (am_mB y_M_readText) 84 = .ok (.bipush 114, 2) by decide +kernel) (by decide +kernel)) <|
  fa_cons (ok_cal ⟨rfl, rfl, rfl, rfl⟩ (ok_callV (show decode (am_mB y_M_readText) 86 = .ok (.invokevirtual 152, 3) by decide +kernel) cf_M_isNext (by decide +kernel) ml_M_152 ci_M_isNext cv_M_isNext ⟨by decide, rfl⟩ rfl ⟨by decide +kernel, rfl⟩)) <|
  fa_cons (ok_if_eq (show decode (am_mB y_M_readText) 89 = .ok (.ifCond .eq 10, 3) by decide +kernel) (by decide)) <|
  fa_cons (ok_aload_n (show decode (am_mB y_M_readText) 92 = .ok (.aload_n 0, 1) by decide +kernel) rfl) <|
  fa_cons (ok_cal ⟨rfl, rfl, rfl, rfl⟩ (ok_callV (show decode (am_mB y_M_readText) 93 = .ok (.invokevirtual 162, 3) by decide +kernel) cf_M_readRow (by decide +kernel) ml_M_162 ci_M_readRow cv_M_readRow ⟨by decide, rfl⟩ rfl ⟨by decide +kernel, rfl⟩)) <|
  fa_cons (ok_stp (σ := am_goto 65) (ok_goto (show decode (am_mB y_M_readText) 96 = .ok (.goto (-31), 3) by decide +kernel) (by decide))) <|
  fa_cons (ok_aload_n (show decode (am_mB y_M_readText) 99 = .ok (.aload_n 0, 1) by decide +kernel) rfl) <|
  fa_cons (ok_bipush (show decode (am_mB y_M_readText) 100 = .ok (.bipush 115, 2) by decide +kernel) (by decide +kernel)) <|
  fa_cons (ok_cal ⟨rfl, rfl, rfl, rfl⟩ (ok_callV (show decode (am_mB y_M_readText) 102 = .ok (.invokevirtual 152, 3) by decide +kernel) cf_M_isNext (by decide +kernel) ml_M_152 ci_M_isNext cv_M_isNext ⟨by decide, rfl⟩ rfl ⟨by decide +kernel, rfl⟩)) <|
  fa_cons (ok_if_eq (show decode (am_mB y_M_readText) 105 = .ok (.ifCond .eq 10, 3) by decide +kernel) (by decide)) <|
  fa_cons (ok_aload_n (show decode (am_mB y_M_readText) 108 = .ok (.aload_n 0, 1) by decide +kernel) rfl) <|
  fa_cons (ok_cal ⟨rfl, rfl, rfl, rfl⟩ (ok_callV (show decode (am_mB y_M_readText) 109 = .ok (.invokevirtual 165, 3) by decide +kernel) cf_M_readSpan (by decide +kernel) ml_M_165 ci_M_readSpan cv_M_readSpan ⟨by decide, rfl⟩ rfl ⟨by decide +kernel, rfl⟩)) <|
  fa_cons (ok_stp (σ := am_goto 65) (ok_goto (show decode (am_mB y_M_readText) 112 = .ok (.goto (-47), 3) by decide +kernel) (by decide))) <|
  fa_cons (ok_aload_n (show decode (am_mB y_M_readText) 115 = .ok (.aload_n 0, 1) by decide +kernel) rfl) <|
  fa_cons (ok_cal ⟨rfl, rfl, rfl, rfl⟩ (ok_callV (show decode (am_mB y_M_readText) 116 = .ok (.invokevirtual 168, 3) by decide +kernel) cf_M_readMore (by decide +kernel) ml_M_168 ci_M_readMore cv_M_readMore ⟨by decide, rfl⟩ rfl ⟨by decide +kernel, rfl⟩)) <|
  fa_cons (ok_stp (σ := am_goto 65) (ok_goto (show decode (am_mB y_M_readText) 119 = .ok (.goto (-54), 3) by decide +kernel) (by decide))) <|
  fa_cons (ok_aload_n (show decode (am_mB y_M_readText) 122 = .ok (.aload_n 0, 1) by decide +kernel) rfl) <|
  fa_cons (ok_getI (show decode (am_mB y_M_readText) 123 = .ok (.getfield 135, 3) by decide +kernel) fl_M_135 (by decide +kernel)) <|
  fa_cons (ok_if_eq (show decode (am_mB y_M_readText) 126 = .ok (.ifCond .eq 8, 3) by decide +kernel) (by decide)) <|
  fa_cons (ok_ldc (show decode (am_mB y_M_readText) 129 = .ok (.ldc 90, 2) by decide +kernel) w_1057) <|
  fa_cons (ok_goto (show decode (am_mB y_M_readText) 131 = .ok (.goto 7, 3) by decide +kernel) (by decide)) <|
  fa_cons (ok_aload_n (show decode (am_mB y_M_readText) 134 = .ok (.aload_n 0, 1) by decide +kernel) rfl) <|
  fa_cons (ok_getI (show decode (am_mB y_M_readText) 135 = .ok (.getfield 132, 3) by decide +kernel) fl_M_132 (by decide +kernel)) <|
  fa_cons (ok_iret (show decode (am_mB y_M_readText) 138 = .ok (.ireturn, 1) by decide +kernel) rfl) <|
  fa_nil
set_option maxRecDepth 100000 in
theorem cq_M_readText (l : Launch) (d : Nat) : am_lk (co_M_readText l d) 0 = am_aload 0 1 ∧ am_lk (co_M_readText l d) 1 = am_push (vI 0) 2 ∧ am_lk (co_M_readText l d) 2 = am_putI 9 3 5 ∧ am_lk (co_M_readText l d) 5 = am_aload 0 6 ∧ am_lk (co_M_readText l d) 6 = am_push (vI 1) 7 ∧ am_lk (co_M_readText l d) 7 = am_putI 9 4 10 ∧ am_lk (co_M_readText l d) 10 = am_aload 0 11 ∧ am_lk (co_M_readText l d) 11 = am_getR 9 5 14 ∧ am_lk (co_M_readText l d) 14 = am_cal l d y_M_clean none 1 17 0 0 0 0 ∧ am_lk (co_M_readText l d) 17 = am_aload 0 18 ∧ am_lk (co_M_readText l d) 18 = am_aload 0 19 ∧ am_lk (co_M_readText l d) 19 = am_push (vI 84) 21 ∧ am_lk (co_M_readText l d) 21 = am_cal l d y_M_isNext (some 9) 2 24 0 0 0 0 ∧ am_lk (co_M_readText l d) 24 = am_cal l d y_M_accept (some 9) 2 27 0 0 0 0 ∧ am_lk (co_M_readText l d) 27 = am_aload 0 28 ∧ am_lk (co_M_readText l d) 28 = am_getR 9 5 31 ∧ am_lk (co_M_readText l d) 31 = am_push (vI 0) 32 ∧ am_lk (co_M_readText l d) 32 = am_aload 0 33 ∧ am_lk (co_M_readText l d) 33 = am_push (vI 1) 34 ∧ am_lk (co_M_readText l d) 34 = am_push (vI 4) 35 ∧ am_lk (co_M_readText l d) 35 = am_cal l d y_M_digit (some 9) 3 38 0 0 0 0 ∧ am_lk (co_M_readText l d) 38 = am_ast 0 (fun x => x) 39 ∧ am_lk (co_M_readText l d) 39 = am_aload 0 40 ∧ am_lk (co_M_readText l d) 40 = am_getR 9 5 43 ∧ am_lk (co_M_readText l d) 43 = am_push (vI 3) 44 ∧ am_lk (co_M_readText l d) 44 = am_aload 0 45 ∧ am_lk (co_M_readText l d) 45 = am_push (vI 6) 47 ∧ am_lk (co_M_readText l d) 47 = am_push (vI 40) 49 ∧ am_lk (co_M_readText l d) 49 = am_cal l d y_M_two (some 9) 3 52 0 0 0 0 ∧ am_lk (co_M_readText l d) 52 = am_ast 0 (fun x => x) 53 ∧ am_lk (co_M_readText l d) 53 = am_aload 0 54 ∧ am_lk (co_M_readText l d) 54 = am_getR 9 5 57 ∧ am_lk (co_M_readText l d) 57 = am_push (vI 4) 58 ∧ am_lk (co_M_readText l d) 58 = am_aload 0 59 ∧ am_lk (co_M_readText l d) 59 = am_push (vI 0) 60 ∧ am_lk (co_M_readText l d) 60 = am_push (vI 4) 61 ∧ am_lk (co_M_readText l d) 61 = am_cal l d y_M_digit (some 9) 3 64 0 0 0 0 ∧ am_lk (co_M_readText l d) 64 = am_stp (am_ast 0 (fun x => x) 65) ∧ am_lk (co_M_readText l d) 65 = am_aload 0 66 ∧ am_lk (co_M_readText l d) 66 = am_getI 9 4 69 ∧ am_lk (co_M_readText l d) 69 = am_if_eq 72 122 ∧ am_lk (co_M_readText l d) 72 = am_aload 0 73 ∧ am_lk (co_M_readText l d) 73 = am_getI 9 3 76 ∧ am_lk (co_M_readText l d) 76 = am_aload 0 77 ∧ am_lk (co_M_readText l d) 77 = am_getI 9 2 80 ∧ am_lk (co_M_readText l d) 80 = am_icmp_ge 83 122 ∧ am_lk (co_M_readText l d) 83 = am_aload 0 84 ∧ am_lk (co_M_readText l d) 84 = am_push (vI 114) 86 ∧ am_lk (co_M_readText l d) 86 = am_cal l d y_M_isNext (some 9) 2 89 0 0 0 0 ∧ am_lk (co_M_readText l d) 89 = am_if_eq 92 99 ∧ am_lk (co_M_readText l d) 92 = am_aload 0 93 ∧ am_lk (co_M_readText l d) 93 = am_cal l d y_M_readRow (some 9) 1 96 0 0 0 0 ∧ am_lk (co_M_readText l d) 96 = am_stp (am_goto 65) ∧ am_lk (co_M_readText l d) 99 = am_aload 0 100 ∧ am_lk (co_M_readText l d) 100 = am_push (vI 115) 102 ∧ am_lk (co_M_readText l d) 102 = am_cal l d y_M_isNext (some 9) 2 105 0 0 0 0 ∧ am_lk (co_M_readText l d) 105 = am_if_eq 108 115 ∧ am_lk (co_M_readText l d) 108 = am_aload 0 109 ∧ am_lk (co_M_readText l d) 109 = am_cal l d y_M_readSpan (some 9) 1 112 0 0 0 0 ∧ am_lk (co_M_readText l d) 112 = am_stp (am_goto 65) ∧ am_lk (co_M_readText l d) 115 = am_aload 0 116 ∧ am_lk (co_M_readText l d) 116 = am_cal l d y_M_readMore (some 9) 1 119 0 0 0 0 ∧ am_lk (co_M_readText l d) 119 = am_stp (am_goto 65) ∧ am_lk (co_M_readText l d) 122 = am_aload 0 123 ∧ am_lk (co_M_readText l d) 123 = am_getI 9 4 126 ∧ am_lk (co_M_readText l d) 126 = am_if_eq 129 134 ∧ am_lk (co_M_readText l d) 129 = am_push (vI (-999999)) 131 ∧ am_lk (co_M_readText l d) 131 = am_goto 138 ∧ am_lk (co_M_readText l d) 134 = am_aload 0 135 ∧ am_lk (co_M_readText l d) 135 = am_getI 9 3 138 ∧ am_lk (co_M_readText l d) 138 = am_iret false := ⟨rfl, rfl, rfl, rfl, rfl, rfl, rfl, rfl, rfl, rfl, rfl, rfl, rfl, rfl, rfl, rfl, rfl, rfl, rfl, rfl, rfl, rfl, rfl, rfl, rfl, rfl, rfl, rfl, rfl, rfl, rfl, rfl, rfl, rfl, rfl, rfl, rfl, rfl, rfl, rfl, rfl, rfl, rfl, rfl, rfl, rfl, rfl, rfl, rfl, rfl, rfl, rfl, rfl, rfl, rfl, rfl, rfl, rfl, rfl, rfl, rfl, rfl, rfl, rfl, rfl, rfl, rfl, rfl, rfl, rfl, rfl⟩
theorem en_M_readText {l : Launch} {d : Nat} (n : Nat) {as : List am_V} {G : am_G} {I : am_I} {J : am_J} {P : am_P} (hlen : (as.map am_cat).sum ≤ 1) (h : am_go (am_lk (co_M_readText l d)) (am_X l (0, fun _ => 0) (d + 1) y_M_readText P) P n 0 (am_el 1 as) [] 0 0 G I J) : am_T l (d + 1) y_M_readText as G I J P :=
  am_T_of (sc := (0, fun _ => 0)) cf_M_readText (by decide +kernel) (by decide) (by decide +kernel) hlen (am_run (ok_lk _ (ck_M_readText)) n _ _ _ _ _ _ _ _ h)
theorem rn_M_readText {l : Launch} {sc : Nat × (Nat → Int32)} {d : Nat} {P : am_P} (n : Nat) {pc : Nat} {ls : am_L} {st : List am_V} {kc ks : Nat} {G : am_G} {I : am_I} {J : am_J} (h : am_go (am_lk (co_M_readText l d)) (am_X l sc (d + 1) y_M_readText P) P n pc ls st kc ks G I J) : am_X l sc (d + 1) y_M_readText P pc ls st kc ks G I J := am_run (ok_lk _ (ck_M_readText)) n _ _ _ _ _ _ _ _ h
def co_M_errorPosition (l : Launch) (d : Nat) : List (Nat × am_S) := [(0, am_aload 0 1), (1, am_push (vI 0) 2), (2, am_putI 9 0 5), (5, am_aload 0 6), (6, am_cal l d y_M_readText (some 9) 1 9 0 0 0 0), (9, am_iret false)]
theorem ck_M_errorPosition {l : Launch} {sc : Nat × (Nat → Int32)} {d : Nat} : ∀ q ∈ co_M_errorPosition l d, am_ok l sc (d + 1) y_M_errorPosition q.1 q.2 :=
  fa_cons (ok_aload_n (show decode (am_mB y_M_errorPosition) 0 = .ok (.aload_n 0, 1) by decide +kernel) rfl) <|
  fa_cons (ok_iconst (show decode (am_mB y_M_errorPosition) 1 = .ok (.iconst 0, 1) by decide +kernel) rfl) <|
  fa_cons (ok_putI (show decode (am_mB y_M_errorPosition) 2 = .ok (.putfield 45, 3) by decide +kernel) fl_M_45 (by decide +kernel)) <|
  fa_cons (ok_aload_n (show decode (am_mB y_M_errorPosition) 5 = .ok (.aload_n 0, 1) by decide +kernel) rfl) <|
  fa_cons (ok_cal ⟨rfl, rfl, rfl, rfl⟩ (ok_callV (show decode (am_mB y_M_errorPosition) 6 = .ok (.invokevirtual 171, 3) by decide +kernel) cf_M_readText (by decide +kernel) ml_M_171 ci_M_readText cv_M_readText ⟨by decide, rfl⟩ rfl ⟨by decide +kernel, rfl⟩)) <|
  fa_cons (ok_iret (show decode (am_mB y_M_errorPosition) 9 = .ok (.ireturn, 1) by decide +kernel) rfl) <|
  fa_nil
set_option maxRecDepth 100000 in
theorem cq_M_errorPosition (l : Launch) (d : Nat) : am_lk (co_M_errorPosition l d) 0 = am_aload 0 1 ∧ am_lk (co_M_errorPosition l d) 1 = am_push (vI 0) 2 ∧ am_lk (co_M_errorPosition l d) 2 = am_putI 9 0 5 ∧ am_lk (co_M_errorPosition l d) 5 = am_aload 0 6 ∧ am_lk (co_M_errorPosition l d) 6 = am_cal l d y_M_readText (some 9) 1 9 0 0 0 0 ∧ am_lk (co_M_errorPosition l d) 9 = am_iret false := ⟨rfl, rfl, rfl, rfl, rfl, rfl⟩
theorem en_M_errorPosition {l : Launch} {d : Nat} (n : Nat) {as : List am_V} {G : am_G} {I : am_I} {J : am_J} {P : am_P} (hlen : (as.map am_cat).sum ≤ 1) (h : am_go (am_lk (co_M_errorPosition l d)) (am_X l (0, fun _ => 0) (d + 1) y_M_errorPosition P) P n 0 (am_el 1 as) [] 0 0 G I J) : am_T l (d + 1) y_M_errorPosition as G I J P :=
  am_T_of (sc := (0, fun _ => 0)) cf_M_errorPosition (by decide +kernel) (by decide) (by decide +kernel) hlen (am_run (ok_lk _ (ck_M_errorPosition)) n _ _ _ _ _ _ _ _ h)
theorem rn_M_errorPosition {l : Launch} {sc : Nat × (Nat → Int32)} {d : Nat} {P : am_P} (n : Nat) {pc : Nat} {ls : am_L} {st : List am_V} {kc ks : Nat} {G : am_G} {I : am_I} {J : am_J} (h : am_go (am_lk (co_M_errorPosition l d)) (am_X l sc (d + 1) y_M_errorPosition P) P n pc ls st kc ks G I J) : am_X l sc (d + 1) y_M_errorPosition P pc ls st kc ks G I J := am_run (ok_lk _ (ck_M_errorPosition)) n _ _ _ _ _ _ _ _ h
