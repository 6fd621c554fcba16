/-! written by wip/p32/gen.py: the code of Tab -/
def co_Table_init (l : Launch) (d : Nat) : List (Nat × am_S) := [(0, am_aload 0 1), (1, am_oinit 4), (4, am_aload 0 5), (5, am_push (vI 24) 7), (7, am_mka 0 9 8 193), (9, am_putR 7 5 12), (12, am_aload 0 13), (13, am_push (vI 24) 15), (15, am_mka 0 17 8 193), (17, am_putR 7 6 20), (20, am_aload 0 21), (21, am_push (vI 24) 23), (23, am_mka 1 25 8 193), (25, am_putR 7 7 28), (28, am_aload 0 29), (29, am_push (vI 96) 31), (31, am_mka 0 33 8 193), (33, am_putR 7 8 36), (36, am_aload 0 37), (37, am_push (vI 6) 39), (39, am_mka 0 41 8 193), (41, am_putR 7 9 44), (44, am_aload 0 45), (45, am_push (vI 6) 47), (47, am_mka 0 49 8 193), (49, am_putR 7 10 52), (52, am_aload 0 53), (53, am_push (vI 6) 55), (55, am_mka 1 57 8 193), (57, am_putR 7 11 60), (60, am_aload 0 61), (61, am_push (vI 7) 63), (63, am_mka 0 65 8 193), (65, am_putR 7 12 68), (68, am_aload 0 69), (69, am_cal l d y_Table_makeNew (some 7) 1 72 0 0 8 193), (72, am_vret)]
theorem ck_Table_init {l : Launch} {sc : Nat × (Nat → Int32)} {d : Nat} : ∀ q ∈ co_Table_init l d, am_ok l sc (d + 1) y_Table_init q.1 q.2 :=
  fa_cons (ok_aload_n (show decode (am_mB y_Table_init) 0 = .ok (.aload_n 0, 1) by decide +kernel) rfl) <|
  fa_cons (ok_oinit (show decode (am_mB y_Table_init) 1 = .ok (.invokespecial 3, 3) by decide +kernel) w_49 w_24 w_25 (by omega)) <|
  fa_cons (ok_aload_n (show decode (am_mB y_Table_init) 4 = .ok (.aload_n 0, 1) by decide +kernel) rfl) <|
  fa_cons (ok_bipush (show decode (am_mB y_Table_init) 5 = .ok (.bipush 24, 2) by decide +kernel) (by decide +kernel)) <|
  fa_cons (ok_mka ⟨rfl, rfl⟩ (ok_newa (show decode (am_mB y_Table_init) 7 = .ok (.newarray .int, 2) by decide +kernel) w_130 (by decide +kernel))) <|
  fa_cons (ok_putR (show decode (am_mB y_Table_init) 9 = .ok (.putfield 9, 3) by decide +kernel) w_77 (by decide +kernel) (by decide +kernel)) <|
  fa_cons (ok_aload_n (show decode (am_mB y_Table_init) 12 = .ok (.aload_n 0, 1) by decide +kernel) rfl) <|
  fa_cons (ok_bipush (show decode (am_mB y_Table_init) 13 = .ok (.bipush 24, 2) by decide +kernel) (by decide +kernel)) <|
  fa_cons (ok_mka ⟨rfl, rfl⟩ (ok_newa (show decode (am_mB y_Table_init) 15 = .ok (.newarray .int, 2) by decide +kernel) w_130 (by decide +kernel))) <|
  fa_cons (ok_putR (show decode (am_mB y_Table_init) 17 = .ok (.putfield 15, 3) by decide +kernel) w_80 (by decide +kernel) (by decide +kernel)) <|
  fa_cons (ok_aload_n (show decode (am_mB y_Table_init) 20 = .ok (.aload_n 0, 1) by decide +kernel) rfl) <|
  fa_cons (ok_bipush (show decode (am_mB y_Table_init) 21 = .ok (.bipush 24, 2) by decide +kernel) (by decide +kernel)) <|
  fa_cons (ok_mka ⟨rfl, rfl⟩ (ok_newa (show decode (am_mB y_Table_init) 23 = .ok (.newarray .boolean, 2) by decide +kernel) w_131 (by decide +kernel))) <|
  fa_cons (ok_putR (show decode (am_mB y_Table_init) 25 = .ok (.putfield 18, 3) by decide +kernel) w_84 (by decide +kernel) (by decide +kernel)) <|
  fa_cons (ok_aload_n (show decode (am_mB y_Table_init) 28 = .ok (.aload_n 0, 1) by decide +kernel) rfl) <|
  fa_cons (ok_bipush (show decode (am_mB y_Table_init) 29 = .ok (.bipush 96, 2) by decide +kernel) (by decide +kernel)) <|
  fa_cons (ok_mka ⟨rfl, rfl⟩ (ok_newa (show decode (am_mB y_Table_init) 31 = .ok (.newarray .int, 2) by decide +kernel) w_130 (by decide +kernel))) <|
  fa_cons (ok_putR (show decode (am_mB y_Table_init) 33 = .ok (.putfield 22, 3) by decide +kernel) w_88 (by decide +kernel) (by decide +kernel)) <|
  fa_cons (ok_aload_n (show decode (am_mB y_Table_init) 36 = .ok (.aload_n 0, 1) by decide +kernel) rfl) <|
  fa_cons (ok_bipush (show decode (am_mB y_Table_init) 37 = .ok (.bipush 6, 2) by decide +kernel) (by decide +kernel)) <|
  fa_cons (ok_mka ⟨rfl, rfl⟩ (ok_newa (show decode (am_mB y_Table_init) 39 = .ok (.newarray .int, 2) by decide +kernel) w_130 (by decide +kernel))) <|
  fa_cons (ok_putR (show decode (am_mB y_Table_init) 41 = .ok (.putfield 25, 3) by decide +kernel) w_89 (by decide +kernel) (by decide +kernel)) <|
  fa_cons (ok_aload_n (show decode (am_mB y_Table_init) 44 = .ok (.aload_n 0, 1) by decide +kernel) rfl) <|
  fa_cons (ok_bipush (show decode (am_mB y_Table_init) 45 = .ok (.bipush 6, 2) by decide +kernel) (by decide +kernel)) <|
  fa_cons (ok_mka ⟨rfl, rfl⟩ (ok_newa (show decode (am_mB y_Table_init) 47 = .ok (.newarray .int, 2) by decide +kernel) w_130 (by decide +kernel))) <|
  fa_cons (ok_putR (show decode (am_mB y_Table_init) 49 = .ok (.putfield 28, 3) by decide +kernel) w_93 (by decide +kernel) (by decide +kernel)) <|
  fa_cons (ok_aload_n (show decode (am_mB y_Table_init) 52 = .ok (.aload_n 0, 1) by decide +kernel) rfl) <|
  fa_cons (ok_bipush (show decode (am_mB y_Table_init) 53 = .ok (.bipush 6, 2) by decide +kernel) (by decide +kernel)) <|
  fa_cons (ok_mka ⟨rfl, rfl⟩ (ok_newa (show decode (am_mB y_Table_init) 55 = .ok (.newarray .boolean, 2) by decide +kernel) w_131 (by decide +kernel))) <|
  fa_cons (ok_putR (show decode (am_mB y_Table_init) 57 = .ok (.putfield 31, 3) by decide +kernel) w_97 (by decide +kernel) (by decide +kernel)) <|
  fa_cons (ok_aload_n (show decode (am_mB y_Table_init) 60 = .ok (.aload_n 0, 1) by decide +kernel) rfl) <|
  fa_cons (ok_bipush (show decode (am_mB y_Table_init) 61 = .ok (.bipush 7, 2) by decide +kernel) (by decide +kernel)) <|
  fa_cons (ok_mka ⟨rfl, rfl⟩ (ok_newa (show decode (am_mB y_Table_init) 63 = .ok (.newarray .int, 2) by decide +kernel) w_130 (by decide +kernel))) <|
  fa_cons (ok_putR (show decode (am_mB y_Table_init) 65 = .ok (.putfield 34, 3) by decide +kernel) w_99 (by decide +kernel) (by decide +kernel)) <|
  fa_cons (ok_aload_n (show decode (am_mB y_Table_init) 68 = .ok (.aload_n 0, 1) by decide +kernel) rfl) <|
  fa_cons (ok_cal ⟨rfl, rfl, rfl, rfl⟩ (ok_callV (show decode (am_mB y_Table_init) 69 = .ok (.invokevirtual 37, 3) by decide +kernel) cf_Table_makeNew (by decide +kernel) ml_Table_37 ci_Table_makeNew cv_Table_makeNew ⟨by decide, rfl⟩ rfl ⟨by decide +kernel, rfl⟩ (Or.inl (by decide +kernel)))) <|
  fa_cons (ok_vret (show decode (am_mB y_Table_init) 72 = .ok (.return_, 1) by decide +kernel) rfl (by decide +kernel)) <|
  fa_nil
set_option maxRecDepth 100000 in
theorem cq_Table_init (l : Launch) (d : Nat) : am_lk (co_Table_init l d) 0 = am_aload 0 1 ∧ am_lk (co_Table_init l d) 1 = am_oinit 4 ∧ am_lk (co_Table_init l d) 4 = am_aload 0 5 ∧ am_lk (co_Table_init l d) 5 = am_push (vI 24) 7 ∧ am_lk (co_Table_init l d) 7 = am_mka 0 9 8 193 ∧ am_lk (co_Table_init l d) 9 = am_putR 7 5 12 ∧ am_lk (co_Table_init l d) 12 = am_aload 0 13 ∧ am_lk (co_Table_init l d) 13 = am_push (vI 24) 15 ∧ am_lk (co_Table_init l d) 15 = am_mka 0 17 8 193 ∧ am_lk (co_Table_init l d) 17 = am_putR 7 6 20 ∧ am_lk (co_Table_init l d) 20 = am_aload 0 21 ∧ am_lk (co_Table_init l d) 21 = am_push (vI 24) 23 ∧ am_lk (co_Table_init l d) 23 = am_mka 1 25 8 193 ∧ am_lk (co_Table_init l d) 25 = am_putR 7 7 28 ∧ am_lk (co_Table_init l d) 28 = am_aload 0 29 ∧ am_lk (co_Table_init l d) 29 = am_push (vI 96) 31 ∧ am_lk (co_Table_init l d) 31 = am_mka 0 33 8 193 ∧ am_lk (co_Table_init l d) 33 = am_putR 7 8 36 ∧ am_lk (co_Table_init l d) 36 = am_aload 0 37 ∧ am_lk (co_Table_init l d) 37 = am_push (vI 6) 39 ∧ am_lk (co_Table_init l d) 39 = am_mka 0 41 8 193 ∧ am_lk (co_Table_init l d) 41 = am_putR 7 9 44 ∧ am_lk (co_Table_init l d) 44 = am_aload 0 45 ∧ am_lk (co_Table_init l d) 45 = am_push (vI 6) 47 ∧ am_lk (co_Table_init l d) 47 = am_mka 0 49 8 193 ∧ am_lk (co_Table_init l d) 49 = am_putR 7 10 52 ∧ am_lk (co_Table_init l d) 52 = am_aload 0 53 ∧ am_lk (co_Table_init l d) 53 = am_push (vI 6) 55 ∧ am_lk (co_Table_init l d) 55 = am_mka 1 57 8 193 ∧ am_lk (co_Table_init l d) 57 = am_putR 7 11 60 ∧ am_lk (co_Table_init l d) 60 = am_aload 0 61 ∧ am_lk (co_Table_init l d) 61 = am_push (vI 7) 63 ∧ am_lk (co_Table_init l d) 63 = am_mka 0 65 8 193 ∧ am_lk (co_Table_init l d) 65 = am_putR 7 12 68 ∧ am_lk (co_Table_init l d) 68 = am_aload 0 69 ∧ am_lk (co_Table_init l d) 69 = am_cal l d y_Table_makeNew (some 7) 1 72 0 0 8 193 ∧ am_lk (co_Table_init l d) 72 = am_vret := ⟨rfl, rfl, rfl, rfl, rfl, rfl, rfl, rfl, rfl, rfl, rfl, rfl, rfl, rfl, rfl, rfl, rfl, rfl, rfl, rfl, rfl, rfl, rfl, rfl, rfl, rfl, rfl, rfl, rfl, rfl, rfl, rfl, rfl, rfl, rfl, rfl, rfl⟩
theorem en_Table_init {l : Launch} {d : Nat} (n : Nat) {as : List am_V} {G : am_G} {I : am_I} {J : am_J} {P : am_P} (hlen : (as.map am_cat).sum ≤ 1) (h : am_go (am_lk (co_Table_init l d)) (am_X l (0, fun _ => 0) (d + 1) y_Table_init P) P n 0 (am_el 1 as) [] 0 0 G I J) : am_T l (d + 1) y_Table_init as G I J P :=
  am_T_of (sc := (0, fun _ => 0)) cf_Table_init (by decide +kernel) (by decide) (by decide +kernel) hlen (am_run (ok_lk _ (ck_Table_init)) n _ _ _ _ _ _ _ _ h)
theorem rn_Table_init {l : Launch} {sc : Nat × (Nat → Int32)} {d : Nat} {P : am_P} (n : Nat) {pc : Nat} {ls : am_L} {st : List am_V} {kc ks : Nat} {G : am_G} {I : am_I} {J : am_J} (h : am_go (am_lk (co_Table_init l d)) (am_X l sc (d + 1) y_Table_init P) P n pc ls st kc ks G I J) : am_X l sc (d + 1) y_Table_init P pc ls st kc ks G I J := am_run (ok_lk _ (ck_Table_init)) n _ _ _ _ _ _ _ _ h
def co_Table_makeNew (l : Launch) (d : Nat) : List (Nat × am_S) := [(0, am_aload 0 1), (1, am_push (vI 1) 2), (2, am_putI 7 0 5), (5, am_aload 0 6), (6, am_push (vI 0) 7), (7, am_putI 7 1 10), (10, am_aload 0 11), (11, am_push (vI 0) 12), (12, am_putI 7 2 15), (15, am_aload 0 16), (16, am_push (vI 20) 18), (18, am_putI 7 3 21), (21, am_aload 0 22), (22, am_push (vI 1) 23), (23, am_putI 7 4 26), (26, am_push (vI 1) 27), (27, am_stp (am_istore 1 28)), (28, am_iload 1 29), (29, am_push (vI 6) 31), (31, am_icmp_gt 34 47), (34, am_aload 0 35), (35, am_getR 7 12 38), (38, am_iload 1 39), (39, am_push (vI 1) 40), (40, am_ast 0 (fun x => x) 41), (41, am_iinc 1 1 44), (44, am_stp (am_goto 28)), (47, am_vret)]
theorem ck_Table_makeNew {l : Launch} {sc : Nat × (Nat → Int32)} {d : Nat} : ∀ q ∈ co_Table_makeNew l d, am_ok l sc (d + 1) y_Table_makeNew q.1 q.2 :=
  fa_cons (ok_aload_n (show decode (am_mB y_Table_makeNew) 0 = .ok (.aload_n 0, 1) by decide +kernel) rfl) <|
  fa_cons (ok_iconst (show decode (am_mB y_Table_makeNew) 1 = .ok (.iconst 1, 1) by decide +kernel) rfl) <|
  fa_cons (ok_putI (show decode (am_mB y_Table_makeNew) 2 = .ok (.putfield 40, 3) by decide +kernel) fl_Table_40 (by decide +kernel)) <|
  fa_cons (ok_aload_n (show decode (am_mB y_Table_makeNew) 5 = .ok (.aload_n 0, 1) by decide +kernel) rfl) <|
  fa_cons (ok_iconst (show decode (am_mB y_Table_makeNew) 6 = .ok (.iconst 0, 1) by decide +kernel) rfl) <|
  fa_cons (ok_putI (show decode (am_mB y_Table_makeNew) 7 = .ok (.putfield 44, 3) by decide +kernel) fl_Table_44 (by decide +kernel)) <|
  fa_cons (ok_aload_n (show decode (am_mB y_Table_makeNew) 10 = .ok (.aload_n 0, 1) by decide +kernel) rfl) <|
  fa_cons (ok_iconst (show decode (am_mB y_Table_makeNew) 11 = .ok (.iconst 0, 1) by decide +kernel) rfl) <|
  fa_cons (ok_putI (show decode (am_mB y_Table_makeNew) 12 = .ok (.putfield 47, 3) by decide +kernel) fl_Table_47 (by decide +kernel)) <|
  fa_cons (ok_aload_n (show decode (am_mB y_Table_makeNew) 15 = .ok (.aload_n 0, 1) by decide +kernel) rfl) <|
  fa_cons (ok_bipush (show decode (am_mB y_Table_makeNew) 16 = .ok (.bipush 20, 2) by decide +kernel) (by decide +kernel)) <|
  fa_cons (ok_putI (show decode (am_mB y_Table_makeNew) 18 = .ok (.putfield 50, 3) by decide +kernel) fl_Table_50 (by decide +kernel)) <|
  fa_cons (ok_aload_n (show decode (am_mB y_Table_makeNew) 21 = .ok (.aload_n 0, 1) by decide +kernel) rfl) <|
  fa_cons (ok_iconst (show decode (am_mB y_Table_makeNew) 22 = .ok (.iconst 1, 1) by decide +kernel) rfl) <|
  fa_cons (ok_putI (show decode (am_mB y_Table_makeNew) 23 = .ok (.putfield 53, 3) by decide +kernel) fl_Table_53 (by decide +kernel)) <|
  fa_cons (ok_iconst (show decode (am_mB y_Table_makeNew) 26 = .ok (.iconst 1, 1) by decide +kernel) rfl) <|
  fa_cons (ok_stp (σ := am_istore 1 28) (ok_istore_n (show decode (am_mB y_Table_makeNew) 27 = .ok (.istore_n 1, 1) by decide +kernel) rfl (by decide +kernel))) <|
  fa_cons (ok_iload_n (show decode (am_mB y_Table_makeNew) 28 = .ok (.iload_n 1, 1) by decide +kernel) rfl) <|
  fa_cons (ok_bipush (show decode (am_mB y_Table_makeNew) 29 = .ok (.bipush 6, 2) by decide +kernel) (by decide +kernel)) <|
  fa_cons (ok_icmp_gt (show decode (am_mB y_Table_makeNew) 31 = .ok (.if_icmp .gt 16, 3) by decide +kernel) (by decide)) <|
  fa_cons (ok_aload_n (show decode (am_mB y_Table_makeNew) 34 = .ok (.aload_n 0, 1) by decide +kernel) rfl) <|
  fa_cons (ok_getR (show decode (am_mB y_Table_makeNew) 35 = .ok (.getfield 34, 3) by decide +kernel) fl_Table_34 (by decide +kernel)) <|
  fa_cons (ok_iload_n (show decode (am_mB y_Table_makeNew) 38 = .ok (.iload_n 1, 1) by decide +kernel) rfl) <|
  fa_cons (ok_iconst (show decode (am_mB y_Table_makeNew) 39 = .ok (.iconst 1, 1) by decide +kernel) rfl) <|
  fa_cons (ok_iast (show decode (am_mB y_Table_makeNew) 40 = .ok (.iastore, 1) by decide +kernel)) <|
  fa_cons (ok_iinc (show decode (am_mB y_Table_makeNew) 41 = .ok (.iinc 1 1, 3) by decide +kernel) (by decide +kernel) (by decide +kernel)) <|
  fa_cons (ok_stp (σ := am_goto 28) (ok_goto (show decode (am_mB y_Table_makeNew) 44 = .ok (.goto (-16), 3) by decide +kernel) (by decide))) <|
  fa_cons (ok_vret (show decode (am_mB y_Table_makeNew) 47 = .ok (.return_, 1) by decide +kernel) rfl (by decide +kernel)) <|
  fa_nil
set_option maxRecDepth 100000 in
theorem cq_Table_makeNew (l : Launch) (d : Nat) : am_lk (co_Table_makeNew l d) 0 = am_aload 0 1 ∧ am_lk (co_Table_makeNew l d) 1 = am_push (vI 1) 2 ∧ am_lk (co_Table_makeNew l d) 2 = am_putI 7 0 5 ∧ am_lk (co_Table_makeNew l d) 5 = am_aload 0 6 ∧ am_lk (co_Table_makeNew l d) 6 = am_push (vI 0) 7 ∧ am_lk (co_Table_makeNew l d) 7 = am_putI 7 1 10 ∧ am_lk (co_Table_makeNew l d) 10 = am_aload 0 11 ∧ am_lk (co_Table_makeNew l d) 11 = am_push (vI 0) 12 ∧ am_lk (co_Table_makeNew l d) 12 = am_putI 7 2 15 ∧ am_lk (co_Table_makeNew l d) 15 = am_aload 0 16 ∧ am_lk (co_Table_makeNew l d) 16 = am_push (vI 20) 18 ∧ am_lk (co_Table_makeNew l d) 18 = am_putI 7 3 21 ∧ am_lk (co_Table_makeNew l d) 21 = am_aload 0 22 ∧ am_lk (co_Table_makeNew l d) 22 = am_push (vI 1) 23 ∧ am_lk (co_Table_makeNew l d) 23 = am_putI 7 4 26 ∧ am_lk (co_Table_makeNew l d) 26 = am_push (vI 1) 27 ∧ am_lk (co_Table_makeNew l d) 27 = am_stp (am_istore 1 28) ∧ am_lk (co_Table_makeNew l d) 28 = am_iload 1 29 ∧ am_lk (co_Table_makeNew l d) 29 = am_push (vI 6) 31 ∧ am_lk (co_Table_makeNew l d) 31 = am_icmp_gt 34 47 ∧ am_lk (co_Table_makeNew l d) 34 = am_aload 0 35 ∧ am_lk (co_Table_makeNew l d) 35 = am_getR 7 12 38 ∧ am_lk (co_Table_makeNew l d) 38 = am_iload 1 39 ∧ am_lk (co_Table_makeNew l d) 39 = am_push (vI 1) 40 ∧ am_lk (co_Table_makeNew l d) 40 = am_ast 0 (fun x => x) 41 ∧ am_lk (co_Table_makeNew l d) 41 = am_iinc 1 1 44 ∧ am_lk (co_Table_makeNew l d) 44 = am_stp (am_goto 28) ∧ am_lk (co_Table_makeNew l d) 47 = am_vret := ⟨rfl, rfl, rfl, rfl, rfl, rfl, rfl, rfl, rfl, rfl, rfl, rfl, rfl, rfl, rfl, rfl, rfl, rfl, rfl, rfl, rfl, rfl, rfl, rfl, rfl, rfl, rfl, rfl⟩
theorem en_Table_makeNew {l : Launch} {d : Nat} (n : Nat) {as : List am_V} {G : am_G} {I : am_I} {J : am_J} {P : am_P} (hlen : (as.map am_cat).sum ≤ 2) (h : am_go (am_lk (co_Table_makeNew l d)) (am_X l (0, fun _ => 0) (d + 1) y_Table_makeNew P) P n 0 (am_el 2 as) [] 0 0 G I J) : am_T l (d + 1) y_Table_makeNew as G I J P :=
  am_T_of (sc := (0, fun _ => 0)) cf_Table_makeNew (by decide +kernel) (by decide) (by decide +kernel) hlen (am_run (ok_lk _ (ck_Table_makeNew)) n _ _ _ _ _ _ _ _ h)
theorem rn_Table_makeNew {l : Launch} {sc : Nat × (Nat → Int32)} {d : Nat} {P : am_P} (n : Nat) {pc : Nat} {ls : am_L} {st : List am_V} {kc ks : Nat} {G : am_G} {I : am_I} {J : am_J} (h : am_go (am_lk (co_Table_makeNew l d)) (am_X l sc (d + 1) y_Table_makeNew P) P n pc ls st kc ks G I J) : am_X l sc (d + 1) y_Table_makeNew P pc ls st kc ks G I J := am_run (ok_lk _ (ck_Table_makeNew)) n _ _ _ _ _ _ _ _ h
def co_Table_copyFrom (l : Launch) (d : Nat) : List (Nat × am_S) := [(0, am_aload 0 1), (1, am_aload 1 2), (2, am_getI 7 0 5), (5, am_putI 7 0 8), (8, am_aload 0 9), (9, am_aload 1 10), (10, am_getI 7 1 13), (13, am_putI 7 1 16), (16, am_aload 0 17), (17, am_aload 1 18), (18, am_getI 7 2 21), (21, am_putI 7 2 24), (24, am_aload 0 25), (25, am_aload 1 26), (26, am_getI 7 3 29), (29, am_putI 7 3 32), (32, am_aload 0 33), (33, am_aload 1 34), (34, am_getI 7 4 37), (37, am_putI 7 4 40), (40, am_aload 1 41), (41, am_getR 7 5 44), (44, am_push (vI 0) 45), (45, am_aload 0 46), (46, am_getR 7 5 49), (49, am_push (vI 0) 50), (50, am_push (vI 24) 52), (52, am_acp 55), (55, am_aload 1 56), (56, am_getR 7 6 59), (59, am_push (vI 0) 60), (60, am_aload 0 61), (61, am_getR 7 6 64), (64, am_push (vI 0) 65), (65, am_push (vI 24) 67), (67, am_acp 70), (70, am_aload 1 71), (71, am_getR 7 8 74), (74, am_push (vI 0) 75), (75, am_aload 0 76), (76, am_getR 7 8 79), (79, am_push (vI 0) 80), (80, am_push (vI 96) 82), (82, am_acp 85), (85, am_aload 1 86), (86, am_getR 7 9 89), (89, am_push (vI 0) 90), (90, am_aload 0 91), (91, am_getR 7 9 94), (94, am_push (vI 0) 95), (95, am_push (vI 6) 97), (97, am_acp 100), (100, am_aload 1 101), (101, am_getR 7 10 104), (104, am_push (vI 0) 105), (105, am_aload 0 106), (106, am_getR 7 10 109), (109, am_push (vI 0) 110), (110, am_push (vI 6) 112), (112, am_acp 115), (115, am_aload 1 116), (116, am_getR 7 12 119), (119, am_push (vI 0) 120), (120, am_aload 0 121), (121, am_getR 7 12 124), (124, am_push (vI 0) 125), (125, am_push (vI 7) 127), (127, am_acp 130), (130, am_push (vI 0) 131), (131, am_stp (am_istore 2 132)), (132, am_iload 2 133), (133, am_push (vI 24) 135), (135, am_icmp_ge 138 156), (138, am_aload 0 139), (139, am_getR 7 7 142), (142, am_iload 2 143), (143, am_aload 1 144), (144, am_getR 7 7 147), (147, am_iload 2 148), (148, am_ald 1 149), (149, am_ast 1 (vp_nar .boolean) 150), (150, am_iinc 2 1 153), (153, am_stp (am_goto 132)), (156, am_push (vI 0) 157), (157, am_stp (am_istore 2 158)), (158, am_iload 2 159), (159, am_push (vI 6) 161), (161, am_icmp_ge 164 182), (164, am_aload 0 165), (165, am_getR 7 11 168), (168, am_iload 2 169), (169, am_aload 1 170), (170, am_getR 7 11 173), (173, am_iload 2 174), (174, am_ald 1 175), (175, am_ast 1 (vp_nar .boolean) 176), (176, am_iinc 2 1 179), (179, am_stp (am_goto 158)), (182, am_vret)]
theorem ck_Table_copyFrom {l : Launch} {sc : Nat × (Nat → Int32)} {d : Nat} : ∀ q ∈ co_Table_copyFrom l d, am_ok l sc (d + 1) y_Table_copyFrom q.1 q.2 :=
  fa_cons (ok_aload_n (show decode (am_mB y_Table_copyFrom) 0 = .ok (.aload_n 0, 1) by decide +kernel) rfl) <|
  fa_cons (ok_aload_n (show decode (am_mB y_Table_copyFrom) 1 = .ok (.aload_n 1, 1) by decide +kernel) rfl) <|
  fa_cons (ok_getI (show decode (am_mB y_Table_copyFrom) 2 = .ok (.getfield 40, 3) by decide +kernel) fl_Table_40 (by decide +kernel)) <|
  fa_cons (ok_putI (show decode (am_mB y_Table_copyFrom) 5 = .ok (.putfield 40, 3) by decide +kernel) fl_Table_40 (by decide +kernel)) <|
  fa_cons (ok_aload_n (show decode (am_mB y_Table_copyFrom) 8 = .ok (.aload_n 0, 1) by decide +kernel) rfl) <|
  fa_cons (ok_aload_n (show decode (am_mB y_Table_copyFrom) 9 = .ok (.aload_n 1, 1) by decide +kernel) rfl) <|
  fa_cons (ok_getI (show decode (am_mB y_Table_copyFrom) 10 = .ok (.getfield 44, 3) by decide +kernel) fl_Table_44 (by decide +kernel)) <|
  fa_cons (ok_putI (show decode (am_mB y_Table_copyFrom) 13 = .ok (.putfield 44, 3) by decide +kernel) fl_Table_44 (by decide +kernel)) <|
  fa_cons (ok_aload_n (show decode (am_mB y_Table_copyFrom) 16 = .ok (.aload_n 0, 1) by decide +kernel) rfl) <|
  fa_cons (ok_aload_n (show decode (am_mB y_Table_copyFrom) 17 = .ok (.aload_n 1, 1) by decide +kernel) rfl) <|
  fa_cons (ok_getI (show decode (am_mB y_Table_copyFrom) 18 = .ok (.getfield 47, 3) by decide +kernel) fl_Table_47 (by decide +kernel)) <|
  fa_cons (ok_putI (show decode (am_mB y_Table_copyFrom) 21 = .ok (.putfield 47, 3) by decide +kernel) fl_Table_47 (by decide +kernel)) <|
  fa_cons (ok_aload_n (show decode (am_mB y_Table_copyFrom) 24 = .ok (.aload_n 0, 1) by decide +kernel) rfl) <|
  fa_cons (ok_aload_n (show decode (am_mB y_Table_copyFrom) 25 = .ok (.aload_n 1, 1) by decide +kernel) rfl) <|
  fa_cons (ok_getI (show decode (am_mB y_Table_copyFrom) 26 = .ok (.getfield 50, 3) by decide +kernel) fl_Table_50 (by decide +kernel)) <|
  fa_cons (ok_putI (show decode (am_mB y_Table_copyFrom) 29 = .ok (.putfield 50, 3) by decide +kernel) fl_Table_50 (by decide +kernel)) <|
  fa_cons (ok_aload_n (show decode (am_mB y_Table_copyFrom) 32 = .ok (.aload_n 0, 1) by decide +kernel) rfl) <|
  fa_cons (ok_aload_n (show decode (am_mB y_Table_copyFrom) 33 = .ok (.aload_n 1, 1) by decide +kernel) rfl) <|
  fa_cons (ok_getI (show decode (am_mB y_Table_copyFrom) 34 = .ok (.getfield 53, 3) by decide +kernel) fl_Table_53 (by decide +kernel)) <|
  fa_cons (ok_putI (show decode (am_mB y_Table_copyFrom) 37 = .ok (.putfield 53, 3) by decide +kernel) fl_Table_53 (by decide +kernel)) <|
  fa_cons (ok_aload_n (show decode (am_mB y_Table_copyFrom) 40 = .ok (.aload_n 1, 1) by decide +kernel) rfl) <|
  fa_cons (ok_getR (show decode (am_mB y_Table_copyFrom) 41 = .ok (.getfield 9, 3) by decide +kernel) fl_Table_9 (by decide +kernel)) <|
  fa_cons (ok_iconst (show decode (am_mB y_Table_copyFrom) 44 = .ok (.iconst 0, 1) by decide +kernel) rfl) <|
  fa_cons (ok_aload_n (show decode (am_mB y_Table_copyFrom) 45 = .ok (.aload_n 0, 1) by decide +kernel) rfl) <|
  fa_cons (ok_getR (show decode (am_mB y_Table_copyFrom) 46 = .ok (.getfield 9, 3) by decide +kernel) fl_Table_9 (by decide +kernel)) <|
  fa_cons (ok_iconst (show decode (am_mB y_Table_copyFrom) 49 = .ok (.iconst 0, 1) by decide +kernel) rfl) <|
  fa_cons (ok_bipush (show decode (am_mB y_Table_copyFrom) 50 = .ok (.bipush 24, 2) by decide +kernel) (by decide +kernel)) <|
  fa_cons (ok_acp (show decode (am_mB y_Table_copyFrom) 52 = .ok (.invokestatic 56, 3) by decide +kernel) w_430 w_432 w_431 w_16 ⟨by omega, Nat.le_trans am_nfw (by omega)⟩) <|
  fa_cons (ok_aload_n (show decode (am_mB y_Table_copyFrom) 55 = .ok (.aload_n 1, 1) by decide +kernel) rfl) <|
  fa_cons (ok_getR (show decode (am_mB y_Table_copyFrom) 56 = .ok (.getfield 15, 3) by decide +kernel) fl_Table_15 (by decide +kernel)) <|
  fa_cons (ok_iconst (show decode (am_mB y_Table_copyFrom) 59 = .ok (.iconst 0, 1) by decide +kernel) rfl) <|
  fa_cons (ok_aload_n (show decode (am_mB y_Table_copyFrom) 60 = .ok (.aload_n 0, 1) by decide +kernel) rfl) <|
  fa_cons (ok_getR (show decode (am_mB y_Table_copyFrom) 61 = .ok (.getfield 15, 3) by decide +kernel) fl_Table_15 (by decide +kernel)) <|
  fa_cons (ok_iconst (show decode (am_mB y_Table_copyFrom) 64 = .ok (.iconst 0, 1) by decide +kernel) rfl) <|
  fa_cons (ok_bipush (show decode (am_mB y_Table_copyFrom) 65 = .ok (.bipush 24, 2) by decide +kernel) (by decide +kernel)) <|
  fa_cons (ok_acp (show decode (am_mB y_Table_copyFrom) 67 = .ok (.invokestatic 56, 3) by decide +kernel) w_430 w_432 w_431 w_16 ⟨by omega, Nat.le_trans am_nfw (by omega)⟩) <|
  fa_cons (ok_aload_n (show decode (am_mB y_Table_copyFrom) 70 = .ok (.aload_n 1, 1) by decide +kernel) rfl) <|
  fa_cons (ok_getR (show decode (am_mB y_Table_copyFrom) 71 = .ok (.getfield 22, 3) by decide +kernel) fl_Table_22 (by decide +kernel)) <|
  fa_cons (ok_iconst (show decode (am_mB y_Table_copyFrom) 74 = .ok (.iconst 0, 1) by decide +kernel) rfl) <|
  fa_cons (ok_aload_n (show decode (am_mB y_Table_copyFrom) 75 = .ok (.aload_n 0, 1) by decide +kernel) rfl) <|
  fa_cons (ok_getR (show decode (am_mB y_Table_copyFrom) 76 = .ok (.getfield 22, 3) by decide +kernel) fl_Table_22 (by decide +kernel)) <|
  fa_cons (ok_iconst (show decode (am_mB y_Table_copyFrom) 79 = .ok (.iconst 0, 1) by decide +kernel) rfl) <|
  fa_cons (ok_bipush (show decode (am_mB y_Table_copyFrom) 80 = .ok (.bipush 96, 2) by decide +kernel) (by decide +kernel)) <|
  fa_cons (ok_acp (show decode (am_mB y_Table_copyFrom) 82 = .ok (.invokestatic 56, 3) by decide +kernel) w_430 w_432 w_431 w_16 ⟨by omega, Nat.le_trans am_nfw (by omega)⟩) <|
  fa_cons (ok_aload_n (show decode (am_mB y_Table_copyFrom) 85 = .ok (.aload_n 1, 1) by decide +kernel) rfl) <|
  fa_cons (ok_getR (show decode (am_mB y_Table_copyFrom) 86 = .ok (.getfield 25, 3) by decide +kernel) fl_Table_25 (by decide +kernel)) <|
  fa_cons (ok_iconst (show decode (am_mB y_Table_copyFrom) 89 = .ok (.iconst 0, 1) by decide +kernel) rfl) <|
  fa_cons (ok_aload_n (show decode (am_mB y_Table_copyFrom) 90 = .ok (.aload_n 0, 1) by decide +kernel) rfl) <|
  fa_cons (ok_getR (show decode (am_mB y_Table_copyFrom) 91 = .ok (.getfield 25, 3) by decide +kernel) fl_Table_25 (by decide +kernel)) <|
  fa_cons (ok_iconst (show decode (am_mB y_Table_copyFrom) 94 = .ok (.iconst 0, 1) by decide +kernel) rfl) <|
  fa_cons (ok_bipush (show decode (am_mB y_Table_copyFrom) 95 = .ok (.bipush 6, 2) by decide +kernel) (by decide +kernel)) <|
  fa_cons (ok_acp (show decode (am_mB y_Table_copyFrom) 97 = .ok (.invokestatic 56, 3) by decide +kernel) w_430 w_432 w_431 w_16 ⟨by omega, Nat.le_trans am_nfw (by omega)⟩) <|
  fa_cons (ok_aload_n (show decode (am_mB y_Table_copyFrom) 100 = .ok (.aload_n 1, 1) by decide +kernel) rfl) <|
  fa_cons (ok_getR (show decode (am_mB y_Table_copyFrom) 101 = .ok (.getfield 28, 3) by decide +kernel) fl_Table_28 (by decide +kernel)) <|
  fa_cons (ok_iconst (show decode (am_mB y_Table_copyFrom) 104 = .ok (.iconst 0, 1) by decide +kernel) rfl) <|
  fa_cons (ok_aload_n (show decode (am_mB y_Table_copyFrom) 105 = .ok (.aload_n 0, 1) by decide +kernel) rfl) <|
  fa_cons (ok_getR (show decode (am_mB y_Table_copyFrom) 106 = .ok (.getfield 28, 3) by decide +kernel) fl_Table_28 (by decide +kernel)) <|
  fa_cons (ok_iconst (show decode (am_mB y_Table_copyFrom) 109 = .ok (.iconst 0, 1) by decide +kernel) rfl) <|
  fa_cons (ok_bipush (show decode (am_mB y_Table_copyFrom) 110 = .ok (.bipush 6, 2) by decide +kernel) (by decide +kernel)) <|
  fa_cons (ok_acp (show decode (am_mB y_Table_copyFrom) 112 = .ok (.invokestatic 56, 3) by decide +kernel) w_430 w_432 w_431 w_16 ⟨by omega, Nat.le_trans am_nfw (by omega)⟩) <|
  fa_cons (ok_aload_n (show decode (am_mB y_Table_copyFrom) 115 = .ok (.aload_n 1, 1) by decide +kernel) rfl) <|
  fa_cons (ok_getR (show decode (am_mB y_Table_copyFrom) 116 = .ok (.getfield 34, 3) by decide +kernel) fl_Table_34 (by decide +kernel)) <|
  fa_cons (ok_iconst (show decode (am_mB y_Table_copyFrom) 119 = .ok (.iconst 0, 1) by decide +kernel) rfl) <|
  fa_cons (ok_aload_n (show decode (am_mB y_Table_copyFrom) 120 = .ok (.aload_n 0, 1) by decide +kernel) rfl) <|
  fa_cons (ok_getR (show decode (am_mB y_Table_copyFrom) 121 = .ok (.getfield 34, 3) by decide +kernel) fl_Table_34 (by decide +kernel)) <|
  fa_cons (ok_iconst (show decode (am_mB y_Table_copyFrom) 124 = .ok (.iconst 0, 1) by decide +kernel) rfl) <|
  fa_cons (ok_bipush (show decode (am_mB y_Table_copyFrom) 125 = .ok (.bipush 7, 2) by decide +kernel) (by decide +kernel)) <|
  fa_cons (ok_acp (show decode (am_mB y_Table_copyFrom) 127 = .ok (.invokestatic 56, 3) by decide +kernel) w_430 w_432 w_431 w_16 ⟨by omega, Nat.le_trans am_nfw (by omega)⟩) <|
  fa_cons (ok_iconst (show decode (am_mB y_Table_copyFrom) 130 = .ok (.iconst 0, 1) by decide +kernel) rfl) <|
  fa_cons (ok_stp (σ := am_istore 2 132) (ok_istore_n (show decode (am_mB y_Table_copyFrom) 131 = .ok (.istore_n 2, 1) by decide +kernel) rfl (by decide +kernel))) <|
  fa_cons (ok_iload_n (show decode (am_mB y_Table_copyFrom) 132 = .ok (.iload_n 2, 1) by decide +kernel) rfl) <|
  fa_cons (ok_bipush (show decode (am_mB y_Table_copyFrom) 133 = .ok (.bipush 24, 2) by decide +kernel) (by decide +kernel)) <|
  fa_cons (ok_icmp_ge (show decode (am_mB y_Table_copyFrom) 135 = .ok (.if_icmp .ge 21, 3) by decide +kernel) (by decide)) <|
  fa_cons (ok_aload_n (show decode (am_mB y_Table_copyFrom) 138 = .ok (.aload_n 0, 1) by decide +kernel) rfl) <|
  fa_cons (ok_getR (show decode (am_mB y_Table_copyFrom) 139 = .ok (.getfield 18, 3) by decide +kernel) fl_Table_18 (by decide +kernel)) <|
  fa_cons (ok_iload_n (show decode (am_mB y_Table_copyFrom) 142 = .ok (.iload_n 2, 1) by decide +kernel) rfl) <|
  fa_cons (ok_aload_n (show decode (am_mB y_Table_copyFrom) 143 = .ok (.aload_n 1, 1) by decide +kernel) rfl) <|
  fa_cons (ok_getR (show decode (am_mB y_Table_copyFrom) 144 = .ok (.getfield 18, 3) by decide +kernel) fl_Table_18 (by decide +kernel)) <|
  fa_cons (ok_iload_n (show decode (am_mB y_Table_copyFrom) 147 = .ok (.iload_n 2, 1) by decide +kernel) rfl) <|
  fa_cons (ok_zald (show decode (am_mB y_Table_copyFrom) 148 = .ok (.baload, 1) by decide +kernel)) <|
  fa_cons (ok_zast (show decode (am_mB y_Table_copyFrom) 149 = .ok (.bastore, 1) by decide +kernel)) <|
  fa_cons (ok_iinc (show decode (am_mB y_Table_copyFrom) 150 = .ok (.iinc 2 1, 3) by decide +kernel) (by decide +kernel) (by decide +kernel)) <|
  fa_cons (ok_stp (σ := am_goto 132) (ok_goto (show decode (am_mB y_Table_copyFrom) 153 = .ok (.goto (-21), 3) by decide +kernel) (by decide))) <|
  fa_cons (ok_iconst (show decode (am_mB y_Table_copyFrom) 156 = .ok (.iconst 0, 1) by decide +kernel) rfl) <|
  fa_cons (ok_stp (σ := am_istore 2 158) (ok_istore_n (show decode (am_mB y_Table_copyFrom) 157 = .ok (.istore_n 2, 1) by decide +kernel) rfl (by decide +kernel))) <|
  fa_cons (ok_iload_n (show decode (am_mB y_Table_copyFrom) 158 = .ok (.iload_n 2, 1) by decide +kernel) rfl) <|
  fa_cons (ok_bipush (show decode (am_mB y_Table_copyFrom) 159 = .ok (.bipush 6, 2) by decide +kernel) (by decide +kernel)) <|
  fa_cons (ok_icmp_ge (show decode (am_mB y_Table_copyFrom) 161 = .ok (.if_icmp .ge 21, 3) by decide +kernel) (by decide)) <|
  fa_cons (ok_aload_n (show decode (am_mB y_Table_copyFrom) 164 = .ok (.aload_n 0, 1) by decide +kernel) rfl) <|
  fa_cons (ok_getR (show decode (am_mB y_Table_copyFrom) 165 = .ok (.getfield 31, 3) by decide +kernel) fl_Table_31 (by decide +kernel)) <|
  fa_cons (ok_iload_n (show decode (am_mB y_Table_copyFrom) 168 = .ok (.iload_n 2, 1) by decide +kernel) rfl) <|
  fa_cons (ok_aload_n (show decode (am_mB y_Table_copyFrom) 169 = .ok (.aload_n 1, 1) by decide +kernel) rfl) <|
  fa_cons (ok_getR (show decode (am_mB y_Table_copyFrom) 170 = .ok (.getfield 31, 3) by decide +kernel) fl_Table_31 (by decide +kernel)) <|
  fa_cons (ok_iload_n (show decode (am_mB y_Table_copyFrom) 173 = .ok (.iload_n 2, 1) by decide +kernel) rfl) <|
  fa_cons (ok_zald (show decode (am_mB y_Table_copyFrom) 174 = .ok (.baload, 1) by decide +kernel)) <|
  fa_cons (ok_zast (show decode (am_mB y_Table_copyFrom) 175 = .ok (.bastore, 1) by decide +kernel)) <|
  fa_cons (ok_iinc (show decode (am_mB y_Table_copyFrom) 176 = .ok (.iinc 2 1, 3) by decide +kernel) (by decide +kernel) (by decide +kernel)) <|
  fa_cons (ok_stp (σ := am_goto 158) (ok_goto (show decode (am_mB y_Table_copyFrom) 179 = .ok (.goto (-21), 3) by decide +kernel) (by decide))) <|
  fa_cons (ok_vret (show decode (am_mB y_Table_copyFrom) 182 = .ok (.return_, 1) by decide +kernel) rfl (by decide +kernel)) <|
  fa_nil
set_option maxRecDepth 100000 in
theorem cq_Table_copyFrom (l : Launch) (d : Nat) : am_lk (co_Table_copyFrom l d) 0 = am_aload 0 1 ∧ am_lk (co_Table_copyFrom l d) 1 = am_aload 1 2 ∧ am_lk (co_Table_copyFrom l d) 2 = am_getI 7 0 5 ∧ am_lk (co_Table_copyFrom l d) 5 = am_putI 7 0 8 ∧ am_lk (co_Table_copyFrom l d) 8 = am_aload 0 9 ∧ am_lk (co_Table_copyFrom l d) 9 = am_aload 1 10 ∧ am_lk (co_Table_copyFrom l d) 10 = am_getI 7 1 13 ∧ am_lk (co_Table_copyFrom l d) 13 = am_putI 7 1 16 ∧ am_lk (co_Table_copyFrom l d) 16 = am_aload 0 17 ∧ am_lk (co_Table_copyFrom l d) 17 = am_aload 1 18 ∧ am_lk (co_Table_copyFrom l d) 18 = am_getI 7 2 21 ∧ am_lk (co_Table_copyFrom l d) 21 = am_putI 7 2 24 ∧ am_lk (co_Table_copyFrom l d) 24 = am_aload 0 25 ∧ am_lk (co_Table_copyFrom l d) 25 = am_aload 1 26 ∧ am_lk (co_Table_copyFrom l d) 26 = am_getI 7 3 29 ∧ am_lk (co_Table_copyFrom l d) 29 = am_putI 7 3 32 ∧ am_lk (co_Table_copyFrom l d) 32 = am_aload 0 33 ∧ am_lk (co_Table_copyFrom l d) 33 = am_aload 1 34 ∧ am_lk (co_Table_copyFrom l d) 34 = am_getI 7 4 37 ∧ am_lk (co_Table_copyFrom l d) 37 = am_putI 7 4 40 ∧ am_lk (co_Table_copyFrom l d) 40 = am_aload 1 41 ∧ am_lk (co_Table_copyFrom l d) 41 = am_getR 7 5 44 ∧ am_lk (co_Table_copyFrom l d) 44 = am_push (vI 0) 45 ∧ am_lk (co_Table_copyFrom l d) 45 = am_aload 0 46 ∧ am_lk (co_Table_copyFrom l d) 46 = am_getR 7 5 49 ∧ am_lk (co_Table_copyFrom l d) 49 = am_push (vI 0) 50 ∧ am_lk (co_Table_copyFrom l d) 50 = am_push (vI 24) 52 ∧ am_lk (co_Table_copyFrom l d) 52 = am_acp 55 ∧ am_lk (co_Table_copyFrom l d) 55 = am_aload 1 56 ∧ am_lk (co_Table_copyFrom l d) 56 = am_getR 7 6 59 ∧ am_lk (co_Table_copyFrom l d) 59 = am_push (vI 0) 60 ∧ am_lk (co_Table_copyFrom l d) 60 = am_aload 0 61 ∧ am_lk (co_Table_copyFrom l d) 61 = am_getR 7 6 64 ∧ am_lk (co_Table_copyFrom l d) 64 = am_push (vI 0) 65 ∧ am_lk (co_Table_copyFrom l d) 65 = am_push (vI 24) 67 ∧ am_lk (co_Table_copyFrom l d) 67 = am_acp 70 ∧ am_lk (co_Table_copyFrom l d) 70 = am_aload 1 71 ∧ am_lk (co_Table_copyFrom l d) 71 = am_getR 7 8 74 ∧ am_lk (co_Table_copyFrom l d) 74 = am_push (vI 0) 75 ∧ am_lk (co_Table_copyFrom l d) 75 = am_aload 0 76 ∧ am_lk (co_Table_copyFrom l d) 76 = am_getR 7 8 79 ∧ am_lk (co_Table_copyFrom l d) 79 = am_push (vI 0) 80 ∧ am_lk (co_Table_copyFrom l d) 80 = am_push (vI 96) 82 ∧ am_lk (co_Table_copyFrom l d) 82 = am_acp 85 ∧ am_lk (co_Table_copyFrom l d) 85 = am_aload 1 86 ∧ am_lk (co_Table_copyFrom l d) 86 = am_getR 7 9 89 ∧ am_lk (co_Table_copyFrom l d) 89 = am_push (vI 0) 90 ∧ am_lk (co_Table_copyFrom l d) 90 = am_aload 0 91 ∧ am_lk (co_Table_copyFrom l d) 91 = am_getR 7 9 94 ∧ am_lk (co_Table_copyFrom l d) 94 = am_push (vI 0) 95 ∧ am_lk (co_Table_copyFrom l d) 95 = am_push (vI 6) 97 ∧ am_lk (co_Table_copyFrom l d) 97 = am_acp 100 ∧ am_lk (co_Table_copyFrom l d) 100 = am_aload 1 101 ∧ am_lk (co_Table_copyFrom l d) 101 = am_getR 7 10 104 ∧ am_lk (co_Table_copyFrom l d) 104 = am_push (vI 0) 105 ∧ am_lk (co_Table_copyFrom l d) 105 = am_aload 0 106 ∧ am_lk (co_Table_copyFrom l d) 106 = am_getR 7 10 109 ∧ am_lk (co_Table_copyFrom l d) 109 = am_push (vI 0) 110 ∧ am_lk (co_Table_copyFrom l d) 110 = am_push (vI 6) 112 ∧ am_lk (co_Table_copyFrom l d) 112 = am_acp 115 ∧ am_lk (co_Table_copyFrom l d) 115 = am_aload 1 116 ∧ am_lk (co_Table_copyFrom l d) 116 = am_getR 7 12 119 ∧ am_lk (co_Table_copyFrom l d) 119 = am_push (vI 0) 120 ∧ am_lk (co_Table_copyFrom l d) 120 = am_aload 0 121 ∧ am_lk (co_Table_copyFrom l d) 121 = am_getR 7 12 124 ∧ am_lk (co_Table_copyFrom l d) 124 = am_push (vI 0) 125 ∧ am_lk (co_Table_copyFrom l d) 125 = am_push (vI 7) 127 ∧ am_lk (co_Table_copyFrom l d) 127 = am_acp 130 ∧ am_lk (co_Table_copyFrom l d) 130 = am_push (vI 0) 131 ∧ am_lk (co_Table_copyFrom l d) 131 = am_stp (am_istore 2 132) ∧ am_lk (co_Table_copyFrom l d) 132 = am_iload 2 133 ∧ am_lk (co_Table_copyFrom l d) 133 = am_push (vI 24) 135 ∧ am_lk (co_Table_copyFrom l d) 135 = am_icmp_ge 138 156 ∧ am_lk (co_Table_copyFrom l d) 138 = am_aload 0 139 ∧ am_lk (co_Table_copyFrom l d) 139 = am_getR 7 7 142 ∧ am_lk (co_Table_copyFrom l d) 142 = am_iload 2 143 ∧ am_lk (co_Table_copyFrom l d) 143 = am_aload 1 144 ∧ am_lk (co_Table_copyFrom l d) 144 = am_getR 7 7 147 ∧ am_lk (co_Table_copyFrom l d) 147 = am_iload 2 148 ∧ am_lk (co_Table_copyFrom l d) 148 = am_ald 1 149 ∧ am_lk (co_Table_copyFrom l d) 149 = am_ast 1 (vp_nar .boolean) 150 ∧ am_lk (co_Table_copyFrom l d) 150 = am_iinc 2 1 153 ∧ am_lk (co_Table_copyFrom l d) 153 = am_stp (am_goto 132) ∧ am_lk (co_Table_copyFrom l d) 156 = am_push (vI 0) 157 ∧ am_lk (co_Table_copyFrom l d) 157 = am_stp (am_istore 2 158) ∧ am_lk (co_Table_copyFrom l d) 158 = am_iload 2 159 ∧ am_lk (co_Table_copyFrom l d) 159 = am_push (vI 6) 161 ∧ am_lk (co_Table_copyFrom l d) 161 = am_icmp_ge 164 182 ∧ am_lk (co_Table_copyFrom l d) 164 = am_aload 0 165 ∧ am_lk (co_Table_copyFrom l d) 165 = am_getR 7 11 168 ∧ am_lk (co_Table_copyFrom l d) 168 = am_iload 2 169 ∧ am_lk (co_Table_copyFrom l d) 169 = am_aload 1 170 ∧ am_lk (co_Table_copyFrom l d) 170 = am_getR 7 11 173 ∧ am_lk (co_Table_copyFrom l d) 173 = am_iload 2 174 ∧ am_lk (co_Table_copyFrom l d) 174 = am_ald 1 175 ∧ am_lk (co_Table_copyFrom l d) 175 = am_ast 1 (vp_nar .boolean) 176 ∧ am_lk (co_Table_copyFrom l d) 176 = am_iinc 2 1 179 ∧ am_lk (co_Table_copyFrom l d) 179 = am_stp (am_goto 158) ∧ am_lk (co_Table_copyFrom l d) 182 = am_vret := ⟨rfl, rfl, rfl, rfl, rfl, rfl, rfl, rfl, rfl, rfl, rfl, rfl, rfl, rfl, rfl, rfl, rfl, rfl, rfl, rfl, rfl, rfl, rfl, rfl, rfl, rfl, rfl, rfl, rfl, rfl, rfl, rfl, rfl, rfl, rfl, rfl, rfl, rfl, rfl, rfl, rfl, rfl, rfl, rfl, rfl, rfl, rfl, rfl, rfl, rfl, rfl, rfl, rfl, rfl, rfl, rfl, rfl, rfl, rfl, rfl, rfl, rfl, rfl, rfl, rfl, rfl, rfl, rfl, rfl, rfl, rfl, rfl, rfl, rfl, rfl, rfl, rfl, rfl, rfl, rfl, rfl, rfl, rfl, rfl, rfl, rfl, rfl, rfl, rfl, rfl, rfl, rfl, rfl, rfl, rfl, rfl, rfl, rfl, rfl⟩
theorem en_Table_copyFrom {l : Launch} {d : Nat} (n : Nat) {as : List am_V} {G : am_G} {I : am_I} {J : am_J} {P : am_P} (hlen : (as.map am_cat).sum ≤ 3) (h : am_go (am_lk (co_Table_copyFrom l d)) (am_X l (0, fun _ => 0) (d + 1) y_Table_copyFrom P) P n 0 (am_el 3 as) [] 0 0 G I J) : am_T l (d + 1) y_Table_copyFrom as G I J P :=
  am_T_of (sc := (0, fun _ => 0)) cf_Table_copyFrom (by decide +kernel) (by decide) (by decide +kernel) hlen (am_run (ok_lk _ (ck_Table_copyFrom)) n _ _ _ _ _ _ _ _ h)
theorem rn_Table_copyFrom {l : Launch} {sc : Nat × (Nat → Int32)} {d : Nat} {P : am_P} (n : Nat) {pc : Nat} {ls : am_L} {st : List am_V} {kc ks : Nat} {G : am_G} {I : am_I} {J : am_J} (h : am_go (am_lk (co_Table_copyFrom l d)) (am_X l sc (d + 1) y_Table_copyFrom P) P n pc ls st kc ks G I J) : am_X l sc (d + 1) y_Table_copyFrom P pc ls st kc ks G I J := am_run (ok_lk _ (ck_Table_copyFrom)) n _ _ _ _ _ _ _ _ h
def co_Table_hasRow (l : Launch) (d : Nat) : List (Nat × am_S) := [(0, am_iload 1 1), (1, am_if_lt 4 16), (4, am_iload 1 5), (5, am_aload 0 6), (6, am_getI 7 1 9), (9, am_icmp_ge 12 16), (12, am_push (vI 1) 13), (13, am_goto 17), (16, am_push (vI 0) 17), (17, am_iret true)]
theorem ck_Table_hasRow {l : Launch} {sc : Nat × (Nat → Int32)} {d : Nat} : ∀ q ∈ co_Table_hasRow l d, am_ok l sc (d + 1) y_Table_hasRow q.1 q.2 :=
  fa_cons (ok_iload_n (show decode (am_mB y_Table_hasRow) 0 = .ok (.iload_n 1, 1) by decide +kernel) rfl) <|
  fa_cons (ok_if_lt (show decode (am_mB y_Table_hasRow) 1 = .ok (.ifCond .lt 15, 3) by decide +kernel) (by decide)) <|
  fa_cons (ok_iload_n (show decode (am_mB y_Table_hasRow) 4 = .ok (.iload_n 1, 1) by decide +kernel) rfl) <|
  fa_cons (ok_aload_n (show decode (am_mB y_Table_hasRow) 5 = .ok (.aload_n 0, 1) by decide +kernel) rfl) <|
  fa_cons (ok_getI (show decode (am_mB y_Table_hasRow) 6 = .ok (.getfield 44, 3) by decide +kernel) fl_Table_44 (by decide +kernel)) <|
  fa_cons (ok_icmp_ge (show decode (am_mB y_Table_hasRow) 9 = .ok (.if_icmp .ge 7, 3) by decide +kernel) (by decide)) <|
  fa_cons (ok_iconst (show decode (am_mB y_Table_hasRow) 12 = .ok (.iconst 1, 1) by decide +kernel) rfl) <|
  fa_cons (ok_goto (show decode (am_mB y_Table_hasRow) 13 = .ok (.goto 4, 3) by decide +kernel) (by decide)) <|
  fa_cons (ok_iconst (show decode (am_mB y_Table_hasRow) 16 = .ok (.iconst 0, 1) by decide +kernel) rfl) <|
  fa_cons (ok_iret (show decode (am_mB y_Table_hasRow) 17 = .ok (.ireturn, 1) by decide +kernel) rfl) <|
  fa_nil
set_option maxRecDepth 100000 in
theorem cq_Table_hasRow (l : Launch) (d : Nat) : am_lk (co_Table_hasRow l d) 0 = am_iload 1 1 ∧ am_lk (co_Table_hasRow l d) 1 = am_if_lt 4 16 ∧ am_lk (co_Table_hasRow l d) 4 = am_iload 1 5 ∧ am_lk (co_Table_hasRow l d) 5 = am_aload 0 6 ∧ am_lk (co_Table_hasRow l d) 6 = am_getI 7 1 9 ∧ am_lk (co_Table_hasRow l d) 9 = am_icmp_ge 12 16 ∧ am_lk (co_Table_hasRow l d) 12 = am_push (vI 1) 13 ∧ am_lk (co_Table_hasRow l d) 13 = am_goto 17 ∧ am_lk (co_Table_hasRow l d) 16 = am_push (vI 0) 17 ∧ am_lk (co_Table_hasRow l d) 17 = am_iret true := ⟨rfl, rfl, rfl, rfl, rfl, rfl, rfl, rfl, rfl, rfl⟩
theorem en_Table_hasRow {l : Launch} {d : Nat} (n : Nat) {as : List am_V} {G : am_G} {I : am_I} {J : am_J} {P : am_P} (hlen : (as.map am_cat).sum ≤ 2) (h : am_go (am_lk (co_Table_hasRow l d)) (am_X l (0, fun _ => 0) (d + 1) y_Table_hasRow P) P n 0 (am_el 2 as) [] 0 0 G I J) : am_T l (d + 1) y_Table_hasRow as G I J P :=
  am_T_of (sc := (0, fun _ => 0)) cf_Table_hasRow (by decide +kernel) (by decide) (by decide +kernel) hlen (am_run (ok_lk _ (ck_Table_hasRow)) n _ _ _ _ _ _ _ _ h)
theorem rn_Table_hasRow {l : Launch} {sc : Nat × (Nat → Int32)} {d : Nat} {P : am_P} (n : Nat) {pc : Nat} {ls : am_L} {st : List am_V} {kc ks : Nat} {G : am_G} {I : am_I} {J : am_J} (h : am_go (am_lk (co_Table_hasRow l d)) (am_X l sc (d + 1) y_Table_hasRow P) P n pc ls st kc ks G I J) : am_X l sc (d + 1) y_Table_hasRow P pc ls st kc ks G I J := am_run (ok_lk _ (ck_Table_hasRow)) n _ _ _ _ _ _ _ _ h
def co_Table_hasColumn (l : Launch) (d : Nat) : List (Nat × am_S) := [(0, am_iload 1 1), (1, am_if_lt 4 16), (4, am_iload 1 5), (5, am_aload 0 6), (6, am_getI 7 0 9), (9, am_icmp_ge 12 16), (12, am_push (vI 1) 13), (13, am_goto 17), (16, am_push (vI 0) 17), (17, am_iret true)]
theorem ck_Table_hasColumn {l : Launch} {sc : Nat × (Nat → Int32)} {d : Nat} : ∀ q ∈ co_Table_hasColumn l d, am_ok l sc (d + 1) y_Table_hasColumn q.1 q.2 :=
  fa_cons (ok_iload_n (show decode (am_mB y_Table_hasColumn) 0 = .ok (.iload_n 1, 1) by decide +kernel) rfl) <|
  fa_cons (ok_if_lt (show decode (am_mB y_Table_hasColumn) 1 = .ok (.ifCond .lt 15, 3) by decide +kernel) (by decide)) <|
  fa_cons (ok_iload_n (show decode (am_mB y_Table_hasColumn) 4 = .ok (.iload_n 1, 1) by decide +kernel) rfl) <|
  fa_cons (ok_aload_n (show decode (am_mB y_Table_hasColumn) 5 = .ok (.aload_n 0, 1) by decide +kernel) rfl) <|
  fa_cons (ok_getI (show decode (am_mB y_Table_hasColumn) 6 = .ok (.getfield 40, 3) by decide +kernel) fl_Table_40 (by decide +kernel)) <|
  fa_cons (ok_icmp_ge (show decode (am_mB y_Table_hasColumn) 9 = .ok (.if_icmp .ge 7, 3) by decide +kernel) (by decide)) <|
  fa_cons (ok_iconst (show decode (am_mB y_Table_hasColumn) 12 = .ok (.iconst 1, 1) by decide +kernel) rfl) <|
  fa_cons (ok_goto (show decode (am_mB y_Table_hasColumn) 13 = .ok (.goto 4, 3) by decide +kernel) (by decide)) <|
  fa_cons (ok_iconst (show decode (am_mB y_Table_hasColumn) 16 = .ok (.iconst 0, 1) by decide +kernel) rfl) <|
  fa_cons (ok_iret (show decode (am_mB y_Table_hasColumn) 17 = .ok (.ireturn, 1) by decide +kernel) rfl) <|
  fa_nil
set_option maxRecDepth 100000 in
theorem cq_Table_hasColumn (l : Launch) (d : Nat) : am_lk (co_Table_hasColumn l d) 0 = am_iload 1 1 ∧ am_lk (co_Table_hasColumn l d) 1 = am_if_lt 4 16 ∧ am_lk (co_Table_hasColumn l d) 4 = am_iload 1 5 ∧ am_lk (co_Table_hasColumn l d) 5 = am_aload 0 6 ∧ am_lk (co_Table_hasColumn l d) 6 = am_getI 7 0 9 ∧ am_lk (co_Table_hasColumn l d) 9 = am_icmp_ge 12 16 ∧ am_lk (co_Table_hasColumn l d) 12 = am_push (vI 1) 13 ∧ am_lk (co_Table_hasColumn l d) 13 = am_goto 17 ∧ am_lk (co_Table_hasColumn l d) 16 = am_push (vI 0) 17 ∧ am_lk (co_Table_hasColumn l d) 17 = am_iret true := ⟨rfl, rfl, rfl, rfl, rfl, rfl, rfl, rfl, rfl, rfl⟩
theorem en_Table_hasColumn {l : Launch} {d : Nat} (n : Nat) {as : List am_V} {G : am_G} {I : am_I} {J : am_J} {P : am_P} (hlen : (as.map am_cat).sum ≤ 2) (h : am_go (am_lk (co_Table_hasColumn l d)) (am_X l (0, fun _ => 0) (d + 1) y_Table_hasColumn P) P n 0 (am_el 2 as) [] 0 0 G I J) : am_T l (d + 1) y_Table_hasColumn as G I J P :=
  am_T_of (sc := (0, fun _ => 0)) cf_Table_hasColumn (by decide +kernel) (by decide) (by decide +kernel) hlen (am_run (ok_lk _ (ck_Table_hasColumn)) n _ _ _ _ _ _ _ _ h)
theorem rn_Table_hasColumn {l : Launch} {sc : Nat × (Nat → Int32)} {d : Nat} {P : am_P} (n : Nat) {pc : Nat} {ls : am_L} {st : List am_V} {kc ks : Nat} {G : am_G} {I : am_I} {J : am_J} (h : am_go (am_lk (co_Table_hasColumn l d)) (am_X l sc (d + 1) y_Table_hasColumn P) P n pc ls st kc ks G I J) : am_X l sc (d + 1) y_Table_hasColumn P pc ls st kc ks G I J := am_run (ok_lk _ (ck_Table_hasColumn)) n _ _ _ _ _ _ _ _ h
def co_Table_hasSpan (l : Launch) (d : Nat) : List (Nat × am_S) := [(0, am_iload 1 1), (1, am_if_lt 4 16), (4, am_iload 1 5), (5, am_aload 0 6), (6, am_getI 7 2 9), (9, am_icmp_ge 12 16), (12, am_push (vI 1) 13), (13, am_goto 17), (16, am_push (vI 0) 17), (17, am_iret true)]
theorem ck_Table_hasSpan {l : Launch} {sc : Nat × (Nat → Int32)} {d : Nat} : ∀ q ∈ co_Table_hasSpan l d, am_ok l sc (d + 1) y_Table_hasSpan q.1 q.2 :=
  fa_cons (ok_iload_n (show decode (am_mB y_Table_hasSpan) 0 = .ok (.iload_n 1, 1) by decide +kernel) rfl) <|
  fa_cons (ok_if_lt (show decode (am_mB y_Table_hasSpan) 1 = .ok (.ifCond .lt 15, 3) by decide +kernel) (by decide)) <|
  fa_cons (ok_iload_n (show decode (am_mB y_Table_hasSpan) 4 = .ok (.iload_n 1, 1) by decide +kernel) rfl) <|
  fa_cons (ok_aload_n (show decode (am_mB y_Table_hasSpan) 5 = .ok (.aload_n 0, 1) by decide +kernel) rfl) <|
  fa_cons (ok_getI (show decode (am_mB y_Table_hasSpan) 6 = .ok (.getfield 47, 3) by decide +kernel) fl_Table_47 (by decide +kernel)) <|
  fa_cons (ok_icmp_ge (show decode (am_mB y_Table_hasSpan) 9 = .ok (.if_icmp .ge 7, 3) by decide +kernel) (by decide)) <|
  fa_cons (ok_iconst (show decode (am_mB y_Table_hasSpan) 12 = .ok (.iconst 1, 1) by decide +kernel) rfl) <|
  fa_cons (ok_goto (show decode (am_mB y_Table_hasSpan) 13 = .ok (.goto 4, 3) by decide +kernel) (by decide)) <|
  fa_cons (ok_iconst (show decode (am_mB y_Table_hasSpan) 16 = .ok (.iconst 0, 1) by decide +kernel) rfl) <|
  fa_cons (ok_iret (show decode (am_mB y_Table_hasSpan) 17 = .ok (.ireturn, 1) by decide +kernel) rfl) <|
  fa_nil
set_option maxRecDepth 100000 in
theorem cq_Table_hasSpan (l : Launch) (d : Nat) : am_lk (co_Table_hasSpan l d) 0 = am_iload 1 1 ∧ am_lk (co_Table_hasSpan l d) 1 = am_if_lt 4 16 ∧ am_lk (co_Table_hasSpan l d) 4 = am_iload 1 5 ∧ am_lk (co_Table_hasSpan l d) 5 = am_aload 0 6 ∧ am_lk (co_Table_hasSpan l d) 6 = am_getI 7 2 9 ∧ am_lk (co_Table_hasSpan l d) 9 = am_icmp_ge 12 16 ∧ am_lk (co_Table_hasSpan l d) 12 = am_push (vI 1) 13 ∧ am_lk (co_Table_hasSpan l d) 13 = am_goto 17 ∧ am_lk (co_Table_hasSpan l d) 16 = am_push (vI 0) 17 ∧ am_lk (co_Table_hasSpan l d) 17 = am_iret true := ⟨rfl, rfl, rfl, rfl, rfl, rfl, rfl, rfl, rfl, rfl⟩
theorem en_Table_hasSpan {l : Launch} {d : Nat} (n : Nat) {as : List am_V} {G : am_G} {I : am_I} {J : am_J} {P : am_P} (hlen : (as.map am_cat).sum ≤ 2) (h : am_go (am_lk (co_Table_hasSpan l d)) (am_X l (0, fun _ => 0) (d + 1) y_Table_hasSpan P) P n 0 (am_el 2 as) [] 0 0 G I J) : am_T l (d + 1) y_Table_hasSpan as G I J P :=
  am_T_of (sc := (0, fun _ => 0)) cf_Table_hasSpan (by decide +kernel) (by decide) (by decide +kernel) hlen (am_run (ok_lk _ (ck_Table_hasSpan)) n _ _ _ _ _ _ _ _ h)
theorem rn_Table_hasSpan {l : Launch} {sc : Nat × (Nat → Int32)} {d : Nat} {P : am_P} (n : Nat) {pc : Nat} {ls : am_L} {st : List am_V} {kc ks : Nat} {G : am_G} {I : am_I} {J : am_J} (h : am_go (am_lk (co_Table_hasSpan l d)) (am_X l sc (d + 1) y_Table_hasSpan P) P n pc ls st kc ks G I J) : am_X l sc (d + 1) y_Table_hasSpan P pc ls st kc ks G I J := am_run (ok_lk _ (ck_Table_hasSpan)) n _ _ _ _ _ _ _ _ h
def co_Table_isFull (l : Launch) (d : Nat) : List (Nat × am_S) := [(0, am_aload 0 1), (1, am_getI 7 1 4), (4, am_push (vI 24) 6), (6, am_icmp_lt 9 13), (9, am_push (vI 1) 10), (10, am_goto 14), (13, am_push (vI 0) 14), (14, am_iret true)]
theorem ck_Table_isFull {l : Launch} {sc : Nat × (Nat → Int32)} {d : Nat} : ∀ q ∈ co_Table_isFull l d, am_ok l sc (d + 1) y_Table_isFull q.1 q.2 :=
  fa_cons (ok_aload_n (show decode (am_mB y_Table_isFull) 0 = .ok (.aload_n 0, 1) by decide +kernel) rfl) <|
  fa_cons (ok_getI (show decode (am_mB y_Table_isFull) 1 = .ok (.getfield 44, 3) by decide +kernel) fl_Table_44 (by decide +kernel)) <|
  fa_cons (ok_bipush (show decode (am_mB y_Table_isFull) 4 = .ok (.bipush 24, 2) by decide +kernel) (by decide +kernel)) <|
  fa_cons (ok_icmp_lt (show decode (am_mB y_Table_isFull) 6 = .ok (.if_icmp .lt 7, 3) by decide +kernel) (by decide)) <|
  fa_cons (ok_iconst (show decode (am_mB y_Table_isFull) 9 = .ok (.iconst 1, 1) by decide +kernel) rfl) <|
  fa_cons (ok_goto (show decode (am_mB y_Table_isFull) 10 = .ok (.goto 4, 3) by decide +kernel) (by decide)) <|
  fa_cons (ok_iconst (show decode (am_mB y_Table_isFull) 13 = .ok (.iconst 0, 1) by decide +kernel) rfl) <|
  fa_cons (ok_iret (show decode (am_mB y_Table_isFull) 14 = .ok (.ireturn, 1) by decide +kernel) rfl) <|
  fa_nil
set_option maxRecDepth 100000 in
theorem cq_Table_isFull (l : Launch) (d : Nat) : am_lk (co_Table_isFull l d) 0 = am_aload 0 1 ∧ am_lk (co_Table_isFull l d) 1 = am_getI 7 1 4 ∧ am_lk (co_Table_isFull l d) 4 = am_push (vI 24) 6 ∧ am_lk (co_Table_isFull l d) 6 = am_icmp_lt 9 13 ∧ am_lk (co_Table_isFull l d) 9 = am_push (vI 1) 10 ∧ am_lk (co_Table_isFull l d) 10 = am_goto 14 ∧ am_lk (co_Table_isFull l d) 13 = am_push (vI 0) 14 ∧ am_lk (co_Table_isFull l d) 14 = am_iret true := ⟨rfl, rfl, rfl, rfl, rfl, rfl, rfl, rfl⟩
theorem en_Table_isFull {l : Launch} {d : Nat} (n : Nat) {as : List am_V} {G : am_G} {I : am_I} {J : am_J} {P : am_P} (hlen : (as.map am_cat).sum ≤ 1) (h : am_go (am_lk (co_Table_isFull l d)) (am_X l (0, fun _ => 0) (d + 1) y_Table_isFull P) P n 0 (am_el 1 as) [] 0 0 G I J) : am_T l (d + 1) y_Table_isFull as G I J P :=
  am_T_of (sc := (0, fun _ => 0)) cf_Table_isFull (by decide +kernel) (by decide) (by decide +kernel) hlen (am_run (ok_lk _ (ck_Table_isFull)) n _ _ _ _ _ _ _ _ h)
theorem rn_Table_isFull {l : Launch} {sc : Nat × (Nat → Int32)} {d : Nat} {P : am_P} (n : Nat) {pc : Nat} {ls : am_L} {st : List am_V} {kc ks : Nat} {G : am_G} {I : am_I} {J : am_J} (h : am_go (am_lk (co_Table_isFull l d)) (am_X l sc (d + 1) y_Table_isFull P) P n pc ls st kc ks G I J) : am_X l sc (d + 1) y_Table_isFull P pc ls st kc ks G I J := am_run (ok_lk _ (ck_Table_isFull)) n _ _ _ _ _ _ _ _ h
def co_Table_hasAllSpans (l : Launch) (d : Nat) : List (Nat × am_S) := [(0, am_aload 0 1), (1, am_getI 7 2 4), (4, am_push (vI 6) 6), (6, am_icmp_lt 9 13), (9, am_push (vI 1) 10), (10, am_goto 14), (13, am_push (vI 0) 14), (14, am_iret true)]
theorem ck_Table_hasAllSpans {l : Launch} {sc : Nat × (Nat → Int32)} {d : Nat} : ∀ q ∈ co_Table_hasAllSpans l d, am_ok l sc (d + 1) y_Table_hasAllSpans q.1 q.2 :=
  fa_cons (ok_aload_n (show decode (am_mB y_Table_hasAllSpans) 0 = .ok (.aload_n 0, 1) by decide +kernel) rfl) <|
  fa_cons (ok_getI (show decode (am_mB y_Table_hasAllSpans) 1 = .ok (.getfield 47, 3) by decide +kernel) fl_Table_47 (by decide +kernel)) <|
  fa_cons (ok_bipush (show decode (am_mB y_Table_hasAllSpans) 4 = .ok (.bipush 6, 2) by decide +kernel) (by decide +kernel)) <|
  fa_cons (ok_icmp_lt (show decode (am_mB y_Table_hasAllSpans) 6 = .ok (.if_icmp .lt 7, 3) by decide +kernel) (by decide)) <|
  fa_cons (ok_iconst (show decode (am_mB y_Table_hasAllSpans) 9 = .ok (.iconst 1, 1) by decide +kernel) rfl) <|
  fa_cons (ok_goto (show decode (am_mB y_Table_hasAllSpans) 10 = .ok (.goto 4, 3) by decide +kernel) (by decide)) <|
  fa_cons (ok_iconst (show decode (am_mB y_Table_hasAllSpans) 13 = .ok (.iconst 0, 1) by decide +kernel) rfl) <|
  fa_cons (ok_iret (show decode (am_mB y_Table_hasAllSpans) 14 = .ok (.ireturn, 1) by decide +kernel) rfl) <|
  fa_nil
set_option maxRecDepth 100000 in
theorem cq_Table_hasAllSpans (l : Launch) (d : Nat) : am_lk (co_Table_hasAllSpans l d) 0 = am_aload 0 1 ∧ am_lk (co_Table_hasAllSpans l d) 1 = am_getI 7 2 4 ∧ am_lk (co_Table_hasAllSpans l d) 4 = am_push (vI 6) 6 ∧ am_lk (co_Table_hasAllSpans l d) 6 = am_icmp_lt 9 13 ∧ am_lk (co_Table_hasAllSpans l d) 9 = am_push (vI 1) 10 ∧ am_lk (co_Table_hasAllSpans l d) 10 = am_goto 14 ∧ am_lk (co_Table_hasAllSpans l d) 13 = am_push (vI 0) 14 ∧ am_lk (co_Table_hasAllSpans l d) 14 = am_iret true := ⟨rfl, rfl, rfl, rfl, rfl, rfl, rfl, rfl⟩
theorem en_Table_hasAllSpans {l : Launch} {d : Nat} (n : Nat) {as : List am_V} {G : am_G} {I : am_I} {J : am_J} {P : am_P} (hlen : (as.map am_cat).sum ≤ 1) (h : am_go (am_lk (co_Table_hasAllSpans l d)) (am_X l (0, fun _ => 0) (d + 1) y_Table_hasAllSpans P) P n 0 (am_el 1 as) [] 0 0 G I J) : am_T l (d + 1) y_Table_hasAllSpans as G I J P :=
  am_T_of (sc := (0, fun _ => 0)) cf_Table_hasAllSpans (by decide +kernel) (by decide) (by decide +kernel) hlen (am_run (ok_lk _ (ck_Table_hasAllSpans)) n _ _ _ _ _ _ _ _ h)
theorem rn_Table_hasAllSpans {l : Launch} {sc : Nat × (Nat → Int32)} {d : Nat} {P : am_P} (n : Nat) {pc : Nat} {ls : am_L} {st : List am_V} {kc ks : Nat} {G : am_G} {I : am_I} {J : am_J} (h : am_go (am_lk (co_Table_hasAllSpans l d)) (am_X l sc (d + 1) y_Table_hasAllSpans P) P n pc ls st kc ks G I J) : am_X l sc (d + 1) y_Table_hasAllSpans P pc ls st kc ks G I J := am_run (ok_lk _ (ck_Table_hasAllSpans)) n _ _ _ _ _ _ _ _ h
def co_Table_allowsRow (l : Launch) (d : Nat) : List (Nat × am_S) := [(0, am_iload 0 1), (1, am_push (vI 1) 2), (2, am_icmp_lt 5 25), (5, am_iload 0 6), (6, am_push (vI 6) 8), (8, am_icmp_gt 11 25), (11, am_iload 1 12), (12, am_if_lt 15 25), (15, am_iload 1 16), (16, am_push (vI 6) 18), (18, am_icmp_gt 21 25), (21, am_push (vI 1) 22), (22, am_goto 26), (25, am_push (vI 0) 26), (26, am_iret true)]
theorem ck_Table_allowsRow {l : Launch} {sc : Nat × (Nat → Int32)} {d : Nat} : ∀ q ∈ co_Table_allowsRow l d, am_ok l sc (d + 1) y_Table_allowsRow q.1 q.2 :=
  fa_cons (ok_iload_n (show decode (am_mB y_Table_allowsRow) 0 = .ok (.iload_n 0, 1) by decide +kernel) rfl) <|
  fa_cons (ok_iconst (show decode (am_mB y_Table_allowsRow) 1 = .ok (.iconst 1, 1) by decide +kernel) rfl) <|
  fa_cons (ok_icmp_lt (show decode (am_mB y_Table_allowsRow) 2 = .ok (.if_icmp .lt 23, 3) by decide +kernel) (by decide)) <|
  fa_cons (ok_iload_n (show decode (am_mB y_Table_allowsRow) 5 = .ok (.iload_n 0, 1) by decide +kernel) rfl) <|
  fa_cons (ok_bipush (show decode (am_mB y_Table_allowsRow) 6 = .ok (.bipush 6, 2) by decide +kernel) (by decide +kernel)) <|
  fa_cons (ok_icmp_gt (show decode (am_mB y_Table_allowsRow) 8 = .ok (.if_icmp .gt 17, 3) by decide +kernel) (by decide)) <|
  fa_cons (ok_iload_n (show decode (am_mB y_Table_allowsRow) 11 = .ok (.iload_n 1, 1) by decide +kernel) rfl) <|
  fa_cons (ok_if_lt (show decode (am_mB y_Table_allowsRow) 12 = .ok (.ifCond .lt 13, 3) by decide +kernel) (by decide)) <|
  fa_cons (ok_iload_n (show decode (am_mB y_Table_allowsRow) 15 = .ok (.iload_n 1, 1) by decide +kernel) rfl) <|
  fa_cons (ok_bipush (show decode (am_mB y_Table_allowsRow) 16 = .ok (.bipush 6, 2) by decide +kernel) (by decide +kernel)) <|
  fa_cons (ok_icmp_gt (show decode (am_mB y_Table_allowsRow) 18 = .ok (.if_icmp .gt 7, 3) by decide +kernel) (by decide)) <|
  fa_cons (ok_iconst (show decode (am_mB y_Table_allowsRow) 21 = .ok (.iconst 1, 1) by decide +kernel) rfl) <|
  fa_cons (ok_goto (show decode (am_mB y_Table_allowsRow) 22 = .ok (.goto 4, 3) by decide +kernel) (by decide)) <|
  fa_cons (ok_iconst (show decode (am_mB y_Table_allowsRow) 25 = .ok (.iconst 0, 1) by decide +kernel) rfl) <|
  fa_cons (ok_iret (show decode (am_mB y_Table_allowsRow) 26 = .ok (.ireturn, 1) by decide +kernel) rfl) <|
  fa_nil
set_option maxRecDepth 100000 in
theorem cq_Table_allowsRow (l : Launch) (d : Nat) : am_lk (co_Table_allowsRow l d) 0 = am_iload 0 1 ∧ am_lk (co_Table_allowsRow l d) 1 = am_push (vI 1) 2 ∧ am_lk (co_Table_allowsRow l d) 2 = am_icmp_lt 5 25 ∧ am_lk (co_Table_allowsRow l d) 5 = am_iload 0 6 ∧ am_lk (co_Table_allowsRow l d) 6 = am_push (vI 6) 8 ∧ am_lk (co_Table_allowsRow l d) 8 = am_icmp_gt 11 25 ∧ am_lk (co_Table_allowsRow l d) 11 = am_iload 1 12 ∧ am_lk (co_Table_allowsRow l d) 12 = am_if_lt 15 25 ∧ am_lk (co_Table_allowsRow l d) 15 = am_iload 1 16 ∧ am_lk (co_Table_allowsRow l d) 16 = am_push (vI 6) 18 ∧ am_lk (co_Table_allowsRow l d) 18 = am_icmp_gt 21 25 ∧ am_lk (co_Table_allowsRow l d) 21 = am_push (vI 1) 22 ∧ am_lk (co_Table_allowsRow l d) 22 = am_goto 26 ∧ am_lk (co_Table_allowsRow l d) 25 = am_push (vI 0) 26 ∧ am_lk (co_Table_allowsRow l d) 26 = am_iret true := ⟨rfl, rfl, rfl, rfl, rfl, rfl, rfl, rfl, rfl, rfl, rfl, rfl, rfl, rfl, rfl⟩
theorem en_Table_allowsRow {l : Launch} {d : Nat} (n : Nat) {as : List am_V} {G : am_G} {I : am_I} {J : am_J} {P : am_P} (hlen : (as.map am_cat).sum ≤ 2) (h : am_go (am_lk (co_Table_allowsRow l d)) (am_X l (0, fun _ => 0) (d + 1) y_Table_allowsRow P) P n 0 (am_el 2 as) [] 0 0 G I J) : am_T l (d + 1) y_Table_allowsRow as G I J P :=
  am_T_of (sc := (0, fun _ => 0)) cf_Table_allowsRow (by decide +kernel) (by decide) (by decide +kernel) hlen (am_run (ok_lk _ (ck_Table_allowsRow)) n _ _ _ _ _ _ _ _ h)
theorem rn_Table_allowsRow {l : Launch} {sc : Nat × (Nat → Int32)} {d : Nat} {P : am_P} (n : Nat) {pc : Nat} {ls : am_L} {st : List am_V} {kc ks : Nat} {G : am_G} {I : am_I} {J : am_J} (h : am_go (am_lk (co_Table_allowsRow l d)) (am_X l sc (d + 1) y_Table_allowsRow P) P n pc ls st kc ks G I J) : am_X l sc (d + 1) y_Table_allowsRow P pc ls st kc ks G I J := am_run (ok_lk _ (ck_Table_allowsRow)) n _ _ _ _ _ _ _ _ h
def co_Table_allowsHeight (l : Launch) (d : Nat) : List (Nat × am_S) := [(0, am_iload 0 1), (1, am_if_ne 4 22), (4, am_iload 1 5), (5, am_push (vI 6) 7), (7, am_icmp_lt 10 20), (10, am_iload 1 11), (11, am_push (vI 40) 13), (13, am_icmp_gt 16 20), (16, am_push (vI 1) 17), (17, am_goto 21), (20, am_push (vI 0) 21), (21, am_iret true), (22, am_iload 0 23), (23, am_push (vI 1) 24), (24, am_icmp_ne 27 42), (27, am_iload 1 28), (28, am_if_lt 31 40), (31, am_iload 1 32), (32, am_push (vI 4) 33), (33, am_icmp_gt 36 40), (36, am_push (vI 1) 37), (37, am_goto 41), (40, am_push (vI 0) 41), (41, am_iret true), (42, am_iload 0 43), (43, am_push (vI 2) 44), (44, am_icmp_lt 47 67), (47, am_iload 0 48), (48, am_push (vI 7) 50), (50, am_icmp_gt 53 67), (53, am_iload 1 54), (54, am_push (vI 1) 55), (55, am_icmp_lt 58 67), (58, am_iload 1 59), (59, am_push (vI 3) 60), (60, am_icmp_gt 63 67), (63, am_push (vI 1) 64), (64, am_goto 68), (67, am_push (vI 0) 68), (68, am_iret true)]
theorem ck_Table_allowsHeight {l : Launch} {sc : Nat × (Nat → Int32)} {d : Nat} : ∀ q ∈ co_Table_allowsHeight l d, am_ok l sc (d + 1) y_Table_allowsHeight q.1 q.2 :=
  fa_cons (ok_iload_n (show decode (am_mB y_Table_allowsHeight) 0 = .ok (.iload_n 0, 1) by decide +kernel) rfl) <|
  fa_cons (ok_if_ne (show decode (am_mB y_Table_allowsHeight) 1 = .ok (.ifCond .ne 21, 3) by decide +kernel) (by decide)) <|
  fa_cons (ok_iload_n (show decode (am_mB y_Table_allowsHeight) 4 = .ok (.iload_n 1, 1) by decide +kernel) rfl) <|
  fa_cons (ok_bipush (show decode (am_mB y_Table_allowsHeight) 5 = .ok (.bipush 6, 2) by decide +kernel) (by decide +kernel)) <|
  fa_cons (ok_icmp_lt (show decode (am_mB y_Table_allowsHeight) 7 = .ok (.if_icmp .lt 13, 3) by decide +kernel) (by decide)) <|
  fa_cons (ok_iload_n (show decode (am_mB y_Table_allowsHeight) 10 = .ok (.iload_n 1, 1) by decide +kernel) rfl) <|
  fa_cons (ok_bipush (show decode (am_mB y_Table_allowsHeight) 11 = .ok (.bipush 40, 2) by decide +kernel) (by decide +kernel)) <|
  fa_cons (ok_icmp_gt (show decode (am_mB y_Table_allowsHeight) 13 = .ok (.if_icmp .gt 7, 3) by decide +kernel) (by decide)) <|
  fa_cons (ok_iconst (show decode (am_mB y_Table_allowsHeight) 16 = .ok (.iconst 1, 1) by decide +kernel) rfl) <|
  fa_cons (ok_goto (show decode (am_mB y_Table_allowsHeight) 17 = .ok (.goto 4, 3) by decide +kernel) (by decide)) <|
  fa_cons (ok_iconst (show decode (am_mB y_Table_allowsHeight) 20 = .ok (.iconst 0, 1) by decide +kernel) rfl) <|
  fa_cons (ok_iret (show decode (am_mB y_Table_allowsHeight) 21 = .ok (.ireturn, 1) by decide +kernel) rfl) <|
  fa_cons (ok_iload_n (show decode (am_mB y_Table_allowsHeight) 22 = .ok (.iload_n 0, 1) by decide +kernel) rfl) <|
  fa_cons (ok_iconst (show decode (am_mB y_Table_allowsHeight) 23 = .ok (.iconst 1, 1) by decide +kernel) rfl) <|
  fa_cons (ok_icmp_ne (show decode (am_mB y_Table_allowsHeight) 24 = .ok (.if_icmp .ne 18, 3) by decide +kernel) (by decide)) <|
  fa_cons (ok_iload_n (show decode (am_mB y_Table_allowsHeight) 27 = .ok (.iload_n 1, 1) by decide +kernel) rfl) <|
  fa_cons (ok_if_lt (show decode (am_mB y_Table_allowsHeight) 28 = .ok (.ifCond .lt 12, 3) by decide +kernel) (by decide)) <|
  fa_cons (ok_iload_n (show decode (am_mB y_Table_allowsHeight) 31 = .ok (.iload_n 1, 1) by decide +kernel) rfl) <|
  fa_cons (ok_iconst (show decode (am_mB y_Table_allowsHeight) 32 = .ok (.iconst 4, 1) by decide +kernel) rfl) <|
  fa_cons (ok_icmp_gt (show decode (am_mB y_Table_allowsHeight) 33 = .ok (.if_icmp .gt 7, 3) by decide +kernel) (by decide)) <|
  fa_cons (ok_iconst (show decode (am_mB y_Table_allowsHeight) 36 = .ok (.iconst 1, 1) by decide +kernel) rfl) <|
  fa_cons (ok_goto (show decode (am_mB y_Table_allowsHeight) 37 = .ok (.goto 4, 3) by decide +kernel) (by decide)) <|
  fa_cons (ok_iconst (show decode (am_mB y_Table_allowsHeight) 40 = .ok (.iconst 0, 1) by decide +kernel) rfl) <|
  fa_cons (ok_iret (show decode (am_mB y_Table_allowsHeight) 41 = .ok (.ireturn, 1) by decide +kernel) rfl) <|
  fa_cons (ok_iload_n (show decode (am_mB y_Table_allowsHeight) 42 = .ok (.iload_n 0, 1) by decide +kernel) rfl) <|
  fa_cons (ok_iconst (show decode (am_mB y_Table_allowsHeight) 43 = .ok (.iconst 2, 1) by decide +kernel) rfl) <|
  fa_cons (ok_icmp_lt (show decode (am_mB y_Table_allowsHeight) 44 = .ok (.if_icmp .lt 23, 3) by decide +kernel) (by decide)) <|
  fa_cons (ok_iload_n (show decode (am_mB y_Table_allowsHeight) 47 = .ok (.iload_n 0, 1) by decide +kernel) rfl) <|
  fa_cons (ok_bipush (show decode (am_mB y_Table_allowsHeight) 48 = .ok (.bipush 7, 2) by decide +kernel) (by decide +kernel)) <|
  fa_cons (ok_icmp_gt (show decode (am_mB y_Table_allowsHeight) 50 = .ok (.if_icmp .gt 17, 3) by decide +kernel) (by decide)) <|
  fa_cons (ok_iload_n (show decode (am_mB y_Table_allowsHeight) 53 = .ok (.iload_n 1, 1) by decide +kernel) rfl) <|
  fa_cons (ok_iconst (show decode (am_mB y_Table_allowsHeight) 54 = .ok (.iconst 1, 1) by decide +kernel) rfl) <|
  fa_cons (ok_icmp_lt (show decode (am_mB y_Table_allowsHeight) 55 = .ok (.if_icmp .lt 12, 3) by decide +kernel) (by decide)) <|
  fa_cons (ok_iload_n (show decode (am_mB y_Table_allowsHeight) 58 = .ok (.iload_n 1, 1) by decide +kernel) rfl) <|
  fa_cons (ok_iconst (show decode (am_mB y_Table_allowsHeight) 59 = .ok (.iconst 3, 1) by decide +kernel) rfl) <|
  fa_cons (ok_icmp_gt (show decode (am_mB y_Table_allowsHeight) 60 = .ok (.if_icmp .gt 7, 3) by decide +kernel) (by decide)) <|
  fa_cons (ok_iconst (show decode (am_mB y_Table_allowsHeight) 63 = .ok (.iconst 1, 1) by decide +kernel) rfl) <|
  fa_cons (ok_goto (show decode (am_mB y_Table_allowsHeight) 64 = .ok (.goto 4, 3) by decide +kernel) (by decide)) <|
  fa_cons (ok_iconst (show decode (am_mB y_Table_allowsHeight) 67 = .ok (.iconst 0, 1) by decide +kernel) rfl) <|
  fa_cons (ok_iret (show decode (am_mB y_Table_allowsHeight) 68 = .ok (.ireturn, 1) by decide +kernel) rfl) <|
  fa_nil
set_option maxRecDepth 100000 in
theorem cq_Table_allowsHeight (l : Launch) (d : Nat) : am_lk (co_Table_allowsHeight l d) 0 = am_iload 0 1 ∧ am_lk (co_Table_allowsHeight l d) 1 = am_if_ne 4 22 ∧ am_lk (co_Table_allowsHeight l d) 4 = am_iload 1 5 ∧ am_lk (co_Table_allowsHeight l d) 5 = am_push (vI 6) 7 ∧ am_lk (co_Table_allowsHeight l d) 7 = am_icmp_lt 10 20 ∧ am_lk (co_Table_allowsHeight l d) 10 = am_iload 1 11 ∧ am_lk (co_Table_allowsHeight l d) 11 = am_push (vI 40) 13 ∧ am_lk (co_Table_allowsHeight l d) 13 = am_icmp_gt 16 20 ∧ am_lk (co_Table_allowsHeight l d) 16 = am_push (vI 1) 17 ∧ am_lk (co_Table_allowsHeight l d) 17 = am_goto 21 ∧ am_lk (co_Table_allowsHeight l d) 20 = am_push (vI 0) 21 ∧ am_lk (co_Table_allowsHeight l d) 21 = am_iret true ∧ am_lk (co_Table_allowsHeight l d) 22 = am_iload 0 23 ∧ am_lk (co_Table_allowsHeight l d) 23 = am_push (vI 1) 24 ∧ am_lk (co_Table_allowsHeight l d) 24 = am_icmp_ne 27 42 ∧ am_lk (co_Table_allowsHeight l d) 27 = am_iload 1 28 ∧ am_lk (co_Table_allowsHeight l d) 28 = am_if_lt 31 40 ∧ am_lk (co_Table_allowsHeight l d) 31 = am_iload 1 32 ∧ am_lk (co_Table_allowsHeight l d) 32 = am_push (vI 4) 33 ∧ am_lk (co_Table_allowsHeight l d) 33 = am_icmp_gt 36 40 ∧ am_lk (co_Table_allowsHeight l d) 36 = am_push (vI 1) 37 ∧ am_lk (co_Table_allowsHeight l d) 37 = am_goto 41 ∧ am_lk (co_Table_allowsHeight l d) 40 = am_push (vI 0) 41 ∧ am_lk (co_Table_allowsHeight l d) 41 = am_iret true ∧ am_lk (co_Table_allowsHeight l d) 42 = am_iload 0 43 ∧ am_lk (co_Table_allowsHeight l d) 43 = am_push (vI 2) 44 ∧ am_lk (co_Table_allowsHeight l d) 44 = am_icmp_lt 47 67 ∧ am_lk (co_Table_allowsHeight l d) 47 = am_iload 0 48 ∧ am_lk (co_Table_allowsHeight l d) 48 = am_push (vI 7) 50 ∧ am_lk (co_Table_allowsHeight l d) 50 = am_icmp_gt 53 67 ∧ am_lk (co_Table_allowsHeight l d) 53 = am_iload 1 54 ∧ am_lk (co_Table_allowsHeight l d) 54 = am_push (vI 1) 55 ∧ am_lk (co_Table_allowsHeight l d) 55 = am_icmp_lt 58 67 ∧ am_lk (co_Table_allowsHeight l d) 58 = am_iload 1 59 ∧ am_lk (co_Table_allowsHeight l d) 59 = am_push (vI 3) 60 ∧ am_lk (co_Table_allowsHeight l d) 60 = am_icmp_gt 63 67 ∧ am_lk (co_Table_allowsHeight l d) 63 = am_push (vI 1) 64 ∧ am_lk (co_Table_allowsHeight l d) 64 = am_goto 68 ∧ am_lk (co_Table_allowsHeight l d) 67 = am_push (vI 0) 68 ∧ am_lk (co_Table_allowsHeight l d) 68 = am_iret true := ⟨rfl, rfl, rfl, rfl, rfl, rfl, rfl, rfl, rfl, rfl, rfl, rfl, rfl, rfl, rfl, rfl, rfl, rfl, rfl, rfl, rfl, rfl, rfl, rfl, rfl, rfl, rfl, rfl, rfl, rfl, rfl, rfl, rfl, rfl, rfl, rfl, rfl, rfl, rfl, rfl⟩
theorem en_Table_allowsHeight {l : Launch} {d : Nat} (n : Nat) {as : List am_V} {G : am_G} {I : am_I} {J : am_J} {P : am_P} (hlen : (as.map am_cat).sum ≤ 2) (h : am_go (am_lk (co_Table_allowsHeight l d)) (am_X l (0, fun _ => 0) (d + 1) y_Table_allowsHeight P) P n 0 (am_el 2 as) [] 0 0 G I J) : am_T l (d + 1) y_Table_allowsHeight as G I J P :=
  am_T_of (sc := (0, fun _ => 0)) cf_Table_allowsHeight (by decide +kernel) (by decide) (by decide +kernel) hlen (am_run (ok_lk _ (ck_Table_allowsHeight)) n _ _ _ _ _ _ _ _ h)
theorem rn_Table_allowsHeight {l : Launch} {sc : Nat × (Nat → Int32)} {d : Nat} {P : am_P} (n : Nat) {pc : Nat} {ls : am_L} {st : List am_V} {kc ks : Nat} {G : am_G} {I : am_I} {J : am_J} (h : am_go (am_lk (co_Table_allowsHeight l d)) (am_X l sc (d + 1) y_Table_allowsHeight P) P n pc ls st kc ks G I J) : am_X l sc (d + 1) y_Table_allowsHeight P pc ls st kc ks G I J := am_run (ok_lk _ (ck_Table_allowsHeight)) n _ _ _ _ _ _ _ _ h
def co_Table_putHeight (l : Launch) (d : Nat) : List (Nat × am_S) := [(0, am_iload 1 1), (1, am_if_ne 4 12), (4, am_aload 0 5), (5, am_iload 2 6), (6, am_putI 7 3 9), (9, am_goto 34), (12, am_iload 1 13), (13, am_push (vI 1) 14), (14, am_icmp_ne 17 25), (17, am_aload 0 18), (18, am_iload 2 19), (19, am_putI 7 4 22), (22, am_goto 34), (25, am_aload 0 26), (26, am_getR 7 12 29), (29, am_iload 1 30), (30, am_push (vI 1) 31), (31, am_isub 32), (32, am_iload 2 33), (33, am_ast 0 (fun x => x) 34), (34, am_vret)]
theorem ck_Table_putHeight {l : Launch} {sc : Nat × (Nat → Int32)} {d : Nat} : ∀ q ∈ co_Table_putHeight l d, am_ok l sc (d + 1) y_Table_putHeight q.1 q.2 :=
  fa_cons (ok_iload_n (show decode (am_mB y_Table_putHeight) 0 = .ok (.iload_n 1, 1) by decide +kernel) rfl) <|
  fa_cons (ok_if_ne (show decode (am_mB y_Table_putHeight) 1 = .ok (.ifCond .ne 11, 3) by decide +kernel) (by decide)) <|
  fa_cons (ok_aload_n (show decode (am_mB y_Table_putHeight) 4 = .ok (.aload_n 0, 1) by decide +kernel) rfl) <|
  fa_cons (ok_iload_n (show decode (am_mB y_Table_putHeight) 5 = .ok (.iload_n 2, 1) by decide +kernel) rfl) <|
  fa_cons (ok_putI (show decode (am_mB y_Table_putHeight) 6 = .ok (.putfield 50, 3) by decide +kernel) fl_Table_50 (by decide +kernel)) <|
  fa_cons (ok_goto (show decode (am_mB y_Table_putHeight) 9 = .ok (.goto 25, 3) by decide +kernel) (by decide)) <|
  fa_cons (ok_iload_n (show decode (am_mB y_Table_putHeight) 12 = .ok (.iload_n 1, 1) by decide +kernel) rfl) <|
  fa_cons (ok_iconst (show decode (am_mB y_Table_putHeight) 13 = .ok (.iconst 1, 1) by decide +kernel) rfl) <|
  fa_cons (ok_icmp_ne (show decode (am_mB y_Table_putHeight) 14 = .ok (.if_icmp .ne 11, 3) by decide +kernel) (by decide)) <|
  fa_cons (ok_aload_n (show decode (am_mB y_Table_putHeight) 17 = .ok (.aload_n 0, 1) by decide +kernel) rfl) <|
  fa_cons (ok_iload_n (show decode (am_mB y_Table_putHeight) 18 = .ok (.iload_n 2, 1) by decide +kernel) rfl) <|
  fa_cons (ok_putI (show decode (am_mB y_Table_putHeight) 19 = .ok (.putfield 53, 3) by decide +kernel) fl_Table_53 (by decide +kernel)) <|
  fa_cons (ok_goto (show decode (am_mB y_Table_putHeight) 22 = .ok (.goto 12, 3) by decide +kernel) (by decide)) <|
  fa_cons (ok_aload_n (show decode (am_mB y_Table_putHeight) 25 = .ok (.aload_n 0, 1) by decide +kernel) rfl) <|
  fa_cons (ok_getR (show decode (am_mB y_Table_putHeight) 26 = .ok (.getfield 34, 3) by decide +kernel) fl_Table_34 (by decide +kernel)) <|
  fa_cons (ok_iload_n (show decode (am_mB y_Table_putHeight) 29 = .ok (.iload_n 1, 1) by decide +kernel) rfl) <|
  fa_cons (ok_iconst (show decode (am_mB y_Table_putHeight) 30 = .ok (.iconst 1, 1) by decide +kernel) rfl) <|
  fa_cons (ok_isub (show decode (am_mB y_Table_putHeight) 31 = .ok (.isub, 1) by decide +kernel)) <|
  fa_cons (ok_iload_n (show decode (am_mB y_Table_putHeight) 32 = .ok (.iload_n 2, 1) by decide +kernel) rfl) <|
  fa_cons (ok_iast (show decode (am_mB y_Table_putHeight) 33 = .ok (.iastore, 1) by decide +kernel)) <|
  fa_cons (ok_vret (show decode (am_mB y_Table_putHeight) 34 = .ok (.return_, 1) by decide +kernel) rfl (by decide +kernel)) <|
  fa_nil
set_option maxRecDepth 100000 in
theorem cq_Table_putHeight (l : Launch) (d : Nat) : am_lk (co_Table_putHeight l d) 0 = am_iload 1 1 ∧ am_lk (co_Table_putHeight l d) 1 = am_if_ne 4 12 ∧ am_lk (co_Table_putHeight l d) 4 = am_aload 0 5 ∧ am_lk (co_Table_putHeight l d) 5 = am_iload 2 6 ∧ am_lk (co_Table_putHeight l d) 6 = am_putI 7 3 9 ∧ am_lk (co_Table_putHeight l d) 9 = am_goto 34 ∧ am_lk (co_Table_putHeight l d) 12 = am_iload 1 13 ∧ am_lk (co_Table_putHeight l d) 13 = am_push (vI 1) 14 ∧ am_lk (co_Table_putHeight l d) 14 = am_icmp_ne 17 25 ∧ am_lk (co_Table_putHeight l d) 17 = am_aload 0 18 ∧ am_lk (co_Table_putHeight l d) 18 = am_iload 2 19 ∧ am_lk (co_Table_putHeight l d) 19 = am_putI 7 4 22 ∧ am_lk (co_Table_putHeight l d) 22 = am_goto 34 ∧ am_lk (co_Table_putHeight l d) 25 = am_aload 0 26 ∧ am_lk (co_Table_putHeight l d) 26 = am_getR 7 12 29 ∧ am_lk (co_Table_putHeight l d) 29 = am_iload 1 30 ∧ am_lk (co_Table_putHeight l d) 30 = am_push (vI 1) 31 ∧ am_lk (co_Table_putHeight l d) 31 = am_isub 32 ∧ am_lk (co_Table_putHeight l d) 32 = am_iload 2 33 ∧ am_lk (co_Table_putHeight l d) 33 = am_ast 0 (fun x => x) 34 ∧ am_lk (co_Table_putHeight l d) 34 = am_vret := ⟨rfl, rfl, rfl, rfl, rfl, rfl, rfl, rfl, rfl, rfl, rfl, rfl, rfl, rfl, rfl, rfl, rfl, rfl, rfl, rfl, rfl⟩
theorem en_Table_putHeight {l : Launch} {d : Nat} (n : Nat) {as : List am_V} {G : am_G} {I : am_I} {J : am_J} {P : am_P} (hlen : (as.map am_cat).sum ≤ 3) (h : am_go (am_lk (co_Table_putHeight l d)) (am_X l (0, fun _ => 0) (d + 1) y_Table_putHeight P) P n 0 (am_el 3 as) [] 0 0 G I J) : am_T l (d + 1) y_Table_putHeight as G I J P :=
  am_T_of (sc := (0, fun _ => 0)) cf_Table_putHeight (by decide +kernel) (by decide) (by decide +kernel) hlen (am_run (ok_lk _ (ck_Table_putHeight)) n _ _ _ _ _ _ _ _ h)
theorem rn_Table_putHeight {l : Launch} {sc : Nat × (Nat → Int32)} {d : Nat} {P : am_P} (n : Nat) {pc : Nat} {ls : am_L} {st : List am_V} {kc ks : Nat} {G : am_G} {I : am_I} {J : am_J} (h : am_go (am_lk (co_Table_putHeight l d)) (am_X l sc (d + 1) y_Table_putHeight P) P n pc ls st kc ks G I J) : am_X l sc (d + 1) y_Table_putHeight P pc ls st kc ks G I J := am_run (ok_lk _ (ck_Table_putHeight)) n _ _ _ _ _ _ _ _ h
def co_Table_amountAt (l : Launch) (d : Nat) : List (Nat × am_S) := [(0, am_aload 0 1), (1, am_getR 7 8 4), (4, am_iload 1 5), (5, am_push (vI 4) 6), (6, am_imul 7), (7, am_iload 2 8), (8, am_iadd 9), (9, am_ald 0 10), (10, am_iret false)]
theorem ck_Table_amountAt {l : Launch} {sc : Nat × (Nat → Int32)} {d : Nat} : ∀ q ∈ co_Table_amountAt l d, am_ok l sc (d + 1) y_Table_amountAt q.1 q.2 :=
  fa_cons (ok_aload_n (show decode (am_mB y_Table_amountAt) 0 = .ok (.aload_n 0, 1) by decide +kernel) rfl) <|
  fa_cons (ok_getR (show decode (am_mB y_Table_amountAt) 1 = .ok (.getfield 22, 3) by decide +kernel) fl_Table_22 (by decide +kernel)) <|
  fa_cons (ok_iload_n (show decode (am_mB y_Table_amountAt) 4 = .ok (.iload_n 1, 1) by decide +kernel) rfl) <|
  fa_cons (ok_iconst (show decode (am_mB y_Table_amountAt) 5 = .ok (.iconst 4, 1) by decide +kernel) rfl) <|
  fa_cons (ok_imul (show decode (am_mB y_Table_amountAt) 6 = .ok (.imul, 1) by decide +kernel)) <|
  fa_cons (ok_iload_n (show decode (am_mB y_Table_amountAt) 7 = .ok (.iload_n 2, 1) by decide +kernel) rfl) <|
  fa_cons (ok_iadd (show decode (am_mB y_Table_amountAt) 8 = .ok (.iadd, 1) by decide +kernel)) <|
  fa_cons (ok_iald (show decode (am_mB y_Table_amountAt) 9 = .ok (.iaload, 1) by decide +kernel)) <|
  fa_cons (ok_iret (show decode (am_mB y_Table_amountAt) 10 = .ok (.ireturn, 1) by decide +kernel) rfl) <|
  fa_nil
set_option maxRecDepth 100000 in
theorem cq_Table_amountAt (l : Launch) (d : Nat) : am_lk (co_Table_amountAt l d) 0 = am_aload 0 1 ∧ am_lk (co_Table_amountAt l d) 1 = am_getR 7 8 4 ∧ am_lk (co_Table_amountAt l d) 4 = am_iload 1 5 ∧ am_lk (co_Table_amountAt l d) 5 = am_push (vI 4) 6 ∧ am_lk (co_Table_amountAt l d) 6 = am_imul 7 ∧ am_lk (co_Table_amountAt l d) 7 = am_iload 2 8 ∧ am_lk (co_Table_amountAt l d) 8 = am_iadd 9 ∧ am_lk (co_Table_amountAt l d) 9 = am_ald 0 10 ∧ am_lk (co_Table_amountAt l d) 10 = am_iret false := ⟨rfl, rfl, rfl, rfl, rfl, rfl, rfl, rfl, rfl⟩
theorem en_Table_amountAt {l : Launch} {d : Nat} (n : Nat) {as : List am_V} {G : am_G} {I : am_I} {J : am_J} {P : am_P} (hlen : (as.map am_cat).sum ≤ 3) (h : am_go (am_lk (co_Table_amountAt l d)) (am_X l (0, fun _ => 0) (d + 1) y_Table_amountAt P) P n 0 (am_el 3 as) [] 0 0 G I J) : am_T l (d + 1) y_Table_amountAt as G I J P :=
  am_T_of (sc := (0, fun _ => 0)) cf_Table_amountAt (by decide +kernel) (by decide) (by decide +kernel) hlen (am_run (ok_lk _ (ck_Table_amountAt)) n _ _ _ _ _ _ _ _ h)
theorem rn_Table_amountAt {l : Launch} {sc : Nat × (Nat → Int32)} {d : Nat} {P : am_P} (n : Nat) {pc : Nat} {ls : am_L} {st : List am_V} {kc ks : Nat} {G : am_G} {I : am_I} {J : am_J} (h : am_go (am_lk (co_Table_amountAt l d)) (am_X l sc (d + 1) y_Table_amountAt P) P n pc ls st kc ks G I J) : am_X l sc (d + 1) y_Table_amountAt P pc ls st kc ks G I J := am_run (ok_lk _ (ck_Table_amountAt)) n _ _ _ _ _ _ _ _ h
def co_Table_putAmount (l : Launch) (d : Nat) : List (Nat × am_S) := [(0, am_aload 0 1), (1, am_getR 7 8 4), (4, am_iload 1 5), (5, am_push (vI 4) 6), (6, am_imul 7), (7, am_iload 2 8), (8, am_iadd 9), (9, am_iload 3 10), (10, am_ast 0 (fun x => x) 11), (11, am_vret)]
theorem ck_Table_putAmount {l : Launch} {sc : Nat × (Nat → Int32)} {d : Nat} : ∀ q ∈ co_Table_putAmount l d, am_ok l sc (d + 1) y_Table_putAmount q.1 q.2 :=
  fa_cons (ok_aload_n (show decode (am_mB y_Table_putAmount) 0 = .ok (.aload_n 0, 1) by decide +kernel) rfl) <|
  fa_cons (ok_getR (show decode (am_mB y_Table_putAmount) 1 = .ok (.getfield 22, 3) by decide +kernel) fl_Table_22 (by decide +kernel)) <|
  fa_cons (ok_iload_n (show decode (am_mB y_Table_putAmount) 4 = .ok (.iload_n 1, 1) by decide +kernel) rfl) <|
  fa_cons (ok_iconst (show decode (am_mB y_Table_putAmount) 5 = .ok (.iconst 4, 1) by decide +kernel) rfl) <|
  fa_cons (ok_imul (show decode (am_mB y_Table_putAmount) 6 = .ok (.imul, 1) by decide +kernel)) <|
  fa_cons (ok_iload_n (show decode (am_mB y_Table_putAmount) 7 = .ok (.iload_n 2, 1) by decide +kernel) rfl) <|
  fa_cons (ok_iadd (show decode (am_mB y_Table_putAmount) 8 = .ok (.iadd, 1) by decide +kernel)) <|
  fa_cons (ok_iload_n (show decode (am_mB y_Table_putAmount) 9 = .ok (.iload_n 3, 1) by decide +kernel) rfl) <|
  fa_cons (ok_iast (show decode (am_mB y_Table_putAmount) 10 = .ok (.iastore, 1) by decide +kernel)) <|
  fa_cons (ok_vret (show decode (am_mB y_Table_putAmount) 11 = .ok (.return_, 1) by decide +kernel) rfl (by decide +kernel)) <|
  fa_nil
set_option maxRecDepth 100000 in
theorem cq_Table_putAmount (l : Launch) (d : Nat) : am_lk (co_Table_putAmount l d) 0 = am_aload 0 1 ∧ am_lk (co_Table_putAmount l d) 1 = am_getR 7 8 4 ∧ am_lk (co_Table_putAmount l d) 4 = am_iload 1 5 ∧ am_lk (co_Table_putAmount l d) 5 = am_push (vI 4) 6 ∧ am_lk (co_Table_putAmount l d) 6 = am_imul 7 ∧ am_lk (co_Table_putAmount l d) 7 = am_iload 2 8 ∧ am_lk (co_Table_putAmount l d) 8 = am_iadd 9 ∧ am_lk (co_Table_putAmount l d) 9 = am_iload 3 10 ∧ am_lk (co_Table_putAmount l d) 10 = am_ast 0 (fun x => x) 11 ∧ am_lk (co_Table_putAmount l d) 11 = am_vret := ⟨rfl, rfl, rfl, rfl, rfl, rfl, rfl, rfl, rfl, rfl⟩
theorem en_Table_putAmount {l : Launch} {d : Nat} (n : Nat) {as : List am_V} {G : am_G} {I : am_I} {J : am_J} {P : am_P} (hlen : (as.map am_cat).sum ≤ 4) (h : am_go (am_lk (co_Table_putAmount l d)) (am_X l (0, fun _ => 0) (d + 1) y_Table_putAmount P) P n 0 (am_el 4 as) [] 0 0 G I J) : am_T l (d + 1) y_Table_putAmount as G I J P :=
  am_T_of (sc := (0, fun _ => 0)) cf_Table_putAmount (by decide +kernel) (by decide) (by decide +kernel) hlen (am_run (ok_lk _ (ck_Table_putAmount)) n _ _ _ _ _ _ _ _ h)
theorem rn_Table_putAmount {l : Launch} {sc : Nat × (Nat → Int32)} {d : Nat} {P : am_P} (n : Nat) {pc : Nat} {ls : am_L} {st : List am_V} {kc ks : Nat} {G : am_G} {I : am_I} {J : am_J} (h : am_go (am_lk (co_Table_putAmount l d)) (am_X l sc (d + 1) y_Table_putAmount P) P n pc ls st kc ks G I J) : am_X l sc (d + 1) y_Table_putAmount P pc ls st kc ks G I J := am_run (ok_lk _ (ck_Table_putAmount)) n _ _ _ _ _ _ _ _ h
def co_Table_sumOfRows (l : Launch) (d : Nat) : List (Nat × am_S) := [(0, am_push (vI 0) 1), (1, am_istore 4 3), (3, am_iload 1 4), (4, am_stp (am_istore 5 6)), (6, am_iload 5 8), (8, am_iload 2 9), (9, am_icmp_gt 12 30), (12, am_iload 4 14), (14, am_aload 0 15), (15, am_iload 5 17), (17, am_iload 3 18), (18, am_cal l d y_Table_amountAt (some 7) 3 21 0 0 0 0), (21, am_iadd 22), (22, am_istore 4 24), (24, am_iinc 5 1 27), (27, am_stp (am_goto 6)), (30, am_iload 4 32), (32, am_iret false)]
theorem ck_Table_sumOfRows {l : Launch} {sc : Nat × (Nat → Int32)} {d : Nat} : ∀ q ∈ co_Table_sumOfRows l d, am_ok l sc (d + 1) y_Table_sumOfRows q.1 q.2 :=
  fa_cons (ok_iconst (show decode (am_mB y_Table_sumOfRows) 0 = .ok (.iconst 0, 1) by decide +kernel) rfl) <|
  fa_cons (ok_istore (show decode (am_mB y_Table_sumOfRows) 1 = .ok (.istore 4, 2) by decide +kernel) (by decide +kernel)) <|
  fa_cons (ok_iload_n (show decode (am_mB y_Table_sumOfRows) 3 = .ok (.iload_n 1, 1) by decide +kernel) rfl) <|
  fa_cons (ok_stp (σ := am_istore 5 6) (ok_istore (show decode (am_mB y_Table_sumOfRows) 4 = .ok (.istore 5, 2) by decide +kernel) (by decide +kernel))) <|
  fa_cons (ok_iload (show decode (am_mB y_Table_sumOfRows) 6 = .ok (.iload 5, 2) by decide +kernel)) <|
  fa_cons (ok_iload_n (show decode (am_mB y_Table_sumOfRows) 8 = .ok (.iload_n 2, 1) by decide +kernel) rfl) <|
  fa_cons (ok_icmp_gt (show decode (am_mB y_Table_sumOfRows) 9 = .ok (.if_icmp .gt 21, 3) by decide +kernel) (by decide)) <|
  fa_cons (ok_iload (show decode (am_mB y_Table_sumOfRows) 12 = .ok (.iload 4, 2) by decide +kernel)) <|
  fa_cons (ok_aload_n (show decode (am_mB y_Table_sumOfRows) 14 = .ok (.aload_n 0, 1) by decide +kernel) rfl) <|
  fa_cons (ok_iload (show decode (am_mB y_Table_sumOfRows) 15 = .ok (.iload 5, 2) by decide +kernel)) <|
  fa_cons (ok_iload_n (show decode (am_mB y_Table_sumOfRows) 17 = .ok (.iload_n 3, 1) by decide +kernel) rfl) <|
  fa_cons (ok_cal ⟨rfl, rfl, rfl, rfl⟩ (ok_callV (show decode (am_mB y_Table_sumOfRows) 18 = .ok (.invokevirtual 62, 3) by decide +kernel) cf_Table_amountAt (by decide +kernel) ml_Table_62 ci_Table_amountAt cv_Table_amountAt ⟨by decide, rfl⟩ rfl ⟨by decide +kernel, rfl⟩ (Or.inl (by decide +kernel)))) <|
  fa_cons (ok_iadd (show decode (am_mB y_Table_sumOfRows) 21 = .ok (.iadd, 1) by decide +kernel)) <|
  fa_cons (ok_istore (show decode (am_mB y_Table_sumOfRows) 22 = .ok (.istore 4, 2) by decide +kernel) (by decide +kernel)) <|
  fa_cons (ok_iinc (show decode (am_mB y_Table_sumOfRows) 24 = .ok (.iinc 5 1, 3) by decide +kernel) (by decide +kernel) (by decide +kernel)) <|
  fa_cons (ok_stp (σ := am_goto 6) (ok_goto (show decode (am_mB y_Table_sumOfRows) 27 = .ok (.goto (-21), 3) by decide +kernel) (by decide))) <|
  fa_cons (ok_iload (show decode (am_mB y_Table_sumOfRows) 30 = .ok (.iload 4, 2) by decide +kernel)) <|
  fa_cons (ok_iret (show decode (am_mB y_Table_sumOfRows) 32 = .ok (.ireturn, 1) by decide +kernel) rfl) <|
  fa_nil
set_option maxRecDepth 100000 in
theorem cq_Table_sumOfRows (l : Launch) (d : Nat) : am_lk (co_Table_sumOfRows l d) 0 = am_push (vI 0) 1 ∧ am_lk (co_Table_sumOfRows l d) 1 = am_istore 4 3 ∧ am_lk (co_Table_sumOfRows l d) 3 = am_iload 1 4 ∧ am_lk (co_Table_sumOfRows l d) 4 = am_stp (am_istore 5 6) ∧ am_lk (co_Table_sumOfRows l d) 6 = am_iload 5 8 ∧ am_lk (co_Table_sumOfRows l d) 8 = am_iload 2 9 ∧ am_lk (co_Table_sumOfRows l d) 9 = am_icmp_gt 12 30 ∧ am_lk (co_Table_sumOfRows l d) 12 = am_iload 4 14 ∧ am_lk (co_Table_sumOfRows l d) 14 = am_aload 0 15 ∧ am_lk (co_Table_sumOfRows l d) 15 = am_iload 5 17 ∧ am_lk (co_Table_sumOfRows l d) 17 = am_iload 3 18 ∧ am_lk (co_Table_sumOfRows l d) 18 = am_cal l d y_Table_amountAt (some 7) 3 21 0 0 0 0 ∧ am_lk (co_Table_sumOfRows l d) 21 = am_iadd 22 ∧ am_lk (co_Table_sumOfRows l d) 22 = am_istore 4 24 ∧ am_lk (co_Table_sumOfRows l d) 24 = am_iinc 5 1 27 ∧ am_lk (co_Table_sumOfRows l d) 27 = am_stp (am_goto 6) ∧ am_lk (co_Table_sumOfRows l d) 30 = am_iload 4 32 ∧ am_lk (co_Table_sumOfRows l d) 32 = am_iret false := ⟨rfl, rfl, rfl, rfl, rfl, rfl, rfl, rfl, rfl, rfl, rfl, rfl, rfl, rfl, rfl, rfl, rfl, rfl⟩
theorem en_Table_sumOfRows {l : Launch} {d : Nat} (n : Nat) {as : List am_V} {G : am_G} {I : am_I} {J : am_J} {P : am_P} (hlen : (as.map am_cat).sum ≤ 6) (h : am_go (am_lk (co_Table_sumOfRows l d)) (am_X l (0, fun _ => 0) (d + 1) y_Table_sumOfRows P) P n 0 (am_el 6 as) [] 0 0 G I J) : am_T l (d + 1) y_Table_sumOfRows as G I J P :=
  am_T_of (sc := (0, fun _ => 0)) cf_Table_sumOfRows (by decide +kernel) (by decide) (by decide +kernel) hlen (am_run (ok_lk _ (ck_Table_sumOfRows)) n _ _ _ _ _ _ _ _ h)
theorem rn_Table_sumOfRows {l : Launch} {sc : Nat × (Nat → Int32)} {d : Nat} {P : am_P} (n : Nat) {pc : Nat} {ls : am_L} {st : List am_V} {kc ks : Nat} {G : am_G} {I : am_I} {J : am_J} (h : am_go (am_lk (co_Table_sumOfRows l d)) (am_X l sc (d + 1) y_Table_sumOfRows P) P n pc ls st kc ks G I J) : am_X l sc (d + 1) y_Table_sumOfRows P pc ls st kc ks G I J := am_run (ok_lk _ (ck_Table_sumOfRows)) n _ _ _ _ _ _ _ _ h
def co_Table_putRow (l : Launch) (d : Nat) : List (Nat × am_S) := [(0, am_aload 0 1), (1, am_getI 7 1 4), (4, am_istore 3 5), (5, am_aload 0 6), (6, am_getR 7 5 9), (9, am_iload 3 10), (10, am_iload 1 11), (11, am_ast 0 (fun x => x) 12), (12, am_aload 0 13), (13, am_getR 7 6 16), (16, am_iload 3 17), (17, am_iload 2 18), (18, am_ast 0 (fun x => x) 19), (19, am_aload 0 20), (20, am_getR 7 7 23), (23, am_iload 3 24), (24, am_push (vI 0) 25), (25, am_ast 1 (vp_nar .boolean) 26), (26, am_push (vI 0) 27), (27, am_stp (am_istore 4 29)), (29, am_iload 4 31), (31, am_push (vI 4) 32), (32, am_icmp_ge 35 49), (35, am_aload 0 36), (36, am_iload 3 37), (37, am_iload 4 39), (39, am_push (vI 0) 40), (40, am_cal l d y_Table_putAmount (some 7) 4 43 0 0 0 0), (43, am_iinc 4 1 46), (46, am_stp (am_goto 29)), (49, am_aload 0 50), (50, am_dup 51), (51, am_getI 7 1 54), (54, am_push (vI 1) 55), (55, am_iadd 56), (56, am_putI 7 1 59), (59, am_vret)]
theorem ck_Table_putRow {l : Launch} {sc : Nat × (Nat → Int32)} {d : Nat} : ∀ q ∈ co_Table_putRow l d, am_ok l sc (d + 1) y_Table_putRow q.1 q.2 :=
  fa_cons (ok_aload_n (show decode (am_mB y_Table_putRow) 0 = .ok (.aload_n 0, 1) by decide +kernel) rfl) <|
  fa_cons (ok_getI (show decode (am_mB y_Table_putRow) 1 = .ok (.getfield 44, 3) by decide +kernel) fl_Table_44 (by decide +kernel)) <|
  fa_cons (ok_istore_n (show decode (am_mB y_Table_putRow) 4 = .ok (.istore_n 3, 1) by decide +kernel) rfl (by decide +kernel)) <|
  fa_cons (ok_aload_n (show decode (am_mB y_Table_putRow) 5 = .ok (.aload_n 0, 1) by decide +kernel) rfl) <|
  fa_cons (ok_getR (show decode (am_mB y_Table_putRow) 6 = .ok (.getfield 9, 3) by decide +kernel) fl_Table_9 (by decide +kernel)) <|
  fa_cons (ok_iload_n (show decode (am_mB y_Table_putRow) 9 = .ok (.iload_n 3, 1) by decide +kernel) rfl) <|
  fa_cons (ok_iload_n (show decode (am_mB y_Table_putRow) 10 = .ok (.iload_n 1, 1) by decide +kernel) rfl) <|
  fa_cons (ok_iast (show decode (am_mB y_Table_putRow) 11 = .ok (.iastore, 1) by decide +kernel)) <|
  fa_cons (ok_aload_n (show decode (am_mB y_Table_putRow) 12 = .ok (.aload_n 0, 1) by decide +kernel) rfl) <|
  fa_cons (ok_getR (show decode (am_mB y_Table_putRow) 13 = .ok (.getfield 15, 3) by decide +kernel) fl_Table_15 (by decide +kernel)) <|
  fa_cons (ok_iload_n (show decode (am_mB y_Table_putRow) 16 = .ok (.iload_n 3, 1) by decide +kernel) rfl) <|
  fa_cons (ok_iload_n (show decode (am_mB y_Table_putRow) 17 = .ok (.iload_n 2, 1) by decide +kernel) rfl) <|
  fa_cons (ok_iast (show decode (am_mB y_Table_putRow) 18 = .ok (.iastore, 1) by decide +kernel)) <|
  fa_cons (ok_aload_n (show decode (am_mB y_Table_putRow) 19 = .ok (.aload_n 0, 1) by decide +kernel) rfl) <|
  fa_cons (ok_getR (show decode (am_mB y_Table_putRow) 20 = .ok (.getfield 18, 3) by decide +kernel) fl_Table_18 (by decide +kernel)) <|
  fa_cons (ok_iload_n (show decode (am_mB y_Table_putRow) 23 = .ok (.iload_n 3, 1) by decide +kernel) rfl) <|
  fa_cons (ok_iconst (show decode (am_mB y_Table_putRow) 24 = .ok (.iconst 0, 1) by decide +kernel) rfl) <|
  fa_cons (ok_zast (show decode (am_mB y_Table_putRow) 25 = .ok (.bastore, 1) by decide +kernel)) <|
  fa_cons (ok_iconst (show decode (am_mB y_Table_putRow) 26 = .ok (.iconst 0, 1) by decide +kernel) rfl) <|
  fa_cons (ok_stp (σ := am_istore 4 29) (ok_istore (show decode (am_mB y_Table_putRow) 27 = .ok (.istore 4, 2) by decide +kernel) (by decide +kernel))) <|
  fa_cons (ok_iload (show decode (am_mB y_Table_putRow) 29 = .ok (.iload 4, 2) by decide +kernel)) <|
  fa_cons (ok_iconst (show decode (am_mB y_Table_putRow) 31 = .ok (.iconst 4, 1) by decide +kernel) rfl) <|
  fa_cons (ok_icmp_ge (show decode (am_mB y_Table_putRow) 32 = .ok (.if_icmp .ge 17, 3) by decide +kernel) (by decide)) <|
  fa_cons (ok_aload_n (show decode (am_mB y_Table_putRow) 35 = .ok (.aload_n 0, 1) by decide +kernel) rfl) <|
  fa_cons (ok_iload_n (show decode (am_mB y_Table_putRow) 36 = .ok (.iload_n 3, 1) by decide +kernel) rfl) <|
  fa_cons (ok_iload (show decode (am_mB y_Table_putRow) 37 = .ok (.iload 4, 2) by decide +kernel)) <|
  fa_cons (ok_iconst (show decode (am_mB y_Table_putRow) 39 = .ok (.iconst 0, 1) by decide +kernel) rfl) <|
  fa_cons (ok_cal ⟨rfl, rfl, rfl, rfl⟩ (ok_callV (show decode (am_mB y_Table_putRow) 40 = .ok (.invokevirtual 66, 3) by decide +kernel) cf_Table_putAmount (by decide +kernel) ml_Table_66 ci_Table_putAmount cv_Table_putAmount ⟨by decide, rfl⟩ rfl ⟨by decide +kernel, rfl⟩ (Or.inl (by decide +kernel)))) <|
  fa_cons (ok_iinc (show decode (am_mB y_Table_putRow) 43 = .ok (.iinc 4 1, 3) by decide +kernel) (by decide +kernel) (by decide +kernel)) <|
  fa_cons (ok_stp (σ := am_goto 29) (ok_goto (show decode (am_mB y_Table_putRow) 46 = .ok (.goto (-17), 3) by decide +kernel) (by decide))) <|
  fa_cons (ok_aload_n (show decode (am_mB y_Table_putRow) 49 = .ok (.aload_n 0, 1) by decide +kernel) rfl) <|
  fa_cons (ok_dup (show decode (am_mB y_Table_putRow) 50 = .ok (.dup, 1) by decide +kernel)) <|
  fa_cons (ok_getI (show decode (am_mB y_Table_putRow) 51 = .ok (.getfield 44, 3) by decide +kernel) fl_Table_44 (by decide +kernel)) <|
  fa_cons (ok_iconst (show decode (am_mB y_Table_putRow) 54 = .ok (.iconst 1, 1) by decide +kernel) rfl) <|
  fa_cons (ok_iadd (show decode (am_mB y_Table_putRow) 55 = .ok (.iadd, 1) by decide +kernel)) <|
  fa_cons (ok_putI (show decode (am_mB y_Table_putRow) 56 = .ok (.putfield 44, 3) by decide +kernel) fl_Table_44 (by decide +kernel)) <|
  fa_cons (ok_vret (show decode (am_mB y_Table_putRow) 59 = .ok (.return_, 1) by decide +kernel) rfl (by decide +kernel)) <|
  fa_nil
set_option maxRecDepth 100000 in
theorem cq_Table_putRow (l : Launch) (d : Nat) : am_lk (co_Table_putRow l d) 0 = am_aload 0 1 ∧ am_lk (co_Table_putRow l d) 1 = am_getI 7 1 4 ∧ am_lk (co_Table_putRow l d) 4 = am_istore 3 5 ∧ am_lk (co_Table_putRow l d) 5 = am_aload 0 6 ∧ am_lk (co_Table_putRow l d) 6 = am_getR 7 5 9 ∧ am_lk (co_Table_putRow l d) 9 = am_iload 3 10 ∧ am_lk (co_Table_putRow l d) 10 = am_iload 1 11 ∧ am_lk (co_Table_putRow l d) 11 = am_ast 0 (fun x => x) 12 ∧ am_lk (co_Table_putRow l d) 12 = am_aload 0 13 ∧ am_lk (co_Table_putRow l d) 13 = am_getR 7 6 16 ∧ am_lk (co_Table_putRow l d) 16 = am_iload 3 17 ∧ am_lk (co_Table_putRow l d) 17 = am_iload 2 18 ∧ am_lk (co_Table_putRow l d) 18 = am_ast 0 (fun x => x) 19 ∧ am_lk (co_Table_putRow l d) 19 = am_aload 0 20 ∧ am_lk (co_Table_putRow l d) 20 = am_getR 7 7 23 ∧ am_lk (co_Table_putRow l d) 23 = am_iload 3 24 ∧ am_lk (co_Table_putRow l d) 24 = am_push (vI 0) 25 ∧ am_lk (co_Table_putRow l d) 25 = am_ast 1 (vp_nar .boolean) 26 ∧ am_lk (co_Table_putRow l d) 26 = am_push (vI 0) 27 ∧ am_lk (co_Table_putRow l d) 27 = am_stp (am_istore 4 29) ∧ am_lk (co_Table_putRow l d) 29 = am_iload 4 31 ∧ am_lk (co_Table_putRow l d) 31 = am_push (vI 4) 32 ∧ am_lk (co_Table_putRow l d) 32 = am_icmp_ge 35 49 ∧ am_lk (co_Table_putRow l d) 35 = am_aload 0 36 ∧ am_lk (co_Table_putRow l d) 36 = am_iload 3 37 ∧ am_lk (co_Table_putRow l d) 37 = am_iload 4 39 ∧ am_lk (co_Table_putRow l d) 39 = am_push (vI 0) 40 ∧ am_lk (co_Table_putRow l d) 40 = am_cal l d y_Table_putAmount (some 7) 4 43 0 0 0 0 ∧ am_lk (co_Table_putRow l d) 43 = am_iinc 4 1 46 ∧ am_lk (co_Table_putRow l d) 46 = am_stp (am_goto 29) ∧ am_lk (co_Table_putRow l d) 49 = am_aload 0 50 ∧ am_lk (co_Table_putRow l d) 50 = am_dup 51 ∧ am_lk (co_Table_putRow l d) 51 = am_getI 7 1 54 ∧ am_lk (co_Table_putRow l d) 54 = am_push (vI 1) 55 ∧ am_lk (co_Table_putRow l d) 55 = am_iadd 56 ∧ am_lk (co_Table_putRow l d) 56 = am_putI 7 1 59 ∧ am_lk (co_Table_putRow l d) 59 = am_vret := ⟨rfl, rfl, rfl, rfl, rfl, rfl, rfl, rfl, rfl, rfl, rfl, rfl, rfl, rfl, rfl, rfl, rfl, rfl, rfl, rfl, rfl, rfl, rfl, rfl, rfl, rfl, rfl, rfl, rfl, rfl, rfl, rfl, rfl, rfl, rfl, rfl, rfl⟩
theorem en_Table_putRow {l : Launch} {d : Nat} (n : Nat) {as : List am_V} {G : am_G} {I : am_I} {J : am_J} {P : am_P} (hlen : (as.map am_cat).sum ≤ 5) (h : am_go (am_lk (co_Table_putRow l d)) (am_X l (0, fun _ => 0) (d + 1) y_Table_putRow P) P n 0 (am_el 5 as) [] 0 0 G I J) : am_T l (d + 1) y_Table_putRow as G I J P :=
  am_T_of (sc := (0, fun _ => 0)) cf_Table_putRow (by decide +kernel) (by decide) (by decide +kernel) hlen (am_run (ok_lk _ (ck_Table_putRow)) n _ _ _ _ _ _ _ _ h)
theorem rn_Table_putRow {l : Launch} {sc : Nat × (Nat → Int32)} {d : Nat} {P : am_P} (n : Nat) {pc : Nat} {ls : am_L} {st : List am_V} {kc ks : Nat} {G : am_G} {I : am_I} {J : am_J} (h : am_go (am_lk (co_Table_putRow l d)) (am_X l sc (d + 1) y_Table_putRow P) P n pc ls st kc ks G I J) : am_X l sc (d + 1) y_Table_putRow P pc ls st kc ks G I J := am_run (ok_lk _ (ck_Table_putRow)) n _ _ _ _ _ _ _ _ h
def co_Table_dropRow (l : Launch) (d : Nat) : List (Nat × am_S) := [(0, am_aload 0 1), (1, am_dup 2), (2, am_getI 7 1 5), (5, am_push (vI 1) 6), (6, am_isub 7), (7, am_putI 7 1 10), (10, am_iload 1 11), (11, am_stp (am_istore 2 12)), (12, am_iload 2 13), (13, am_aload 0 14), (14, am_getI 7 1 17), (17, am_icmp_ge 20 95), (20, am_aload 0 21), (21, am_getR 7 5 24), (24, am_iload 2 25), (25, am_aload 0 26), (26, am_getR 7 5 29), (29, am_iload 2 30), (30, am_push (vI 1) 31), (31, am_iadd 32), (32, am_ald 0 33), (33, am_ast 0 (fun x => x) 34), (34, am_aload 0 35), (35, am_getR 7 6 38), (38, am_iload 2 39), (39, am_aload 0 40), (40, am_getR 7 6 43), (43, am_iload 2 44), (44, am_push (vI 1) 45), (45, am_iadd 46), (46, am_ald 0 47), (47, am_ast 0 (fun x => x) 48), (48, am_aload 0 49), (49, am_getR 7 7 52), (52, am_iload 2 53), (53, am_aload 0 54), (54, am_getR 7 7 57), (57, am_iload 2 58), (58, am_push (vI 1) 59), (59, am_iadd 60), (60, am_ald 1 61), (61, am_ast 1 (vp_nar .boolean) 62), (62, am_push (vI 0) 63), (63, am_stp (am_istore 3 64)), (64, am_iload 3 65), (65, am_push (vI 4) 66), (66, am_icmp_ge 69 89), (69, am_aload 0 70), (70, am_iload 2 71), (71, am_iload 3 72), (72, am_aload 0 73), (73, am_iload 2 74), (74, am_push (vI 1) 75), (75, am_iadd 76), (76, am_iload 3 77), (77, am_cal l d y_Table_amountAt (some 7) 3 80 0 0 0 0), (80, am_cal l d y_Table_putAmount (some 7) 4 83 0 0 0 0), (83, am_iinc 3 1 86), (86, am_stp (am_goto 64)), (89, am_iinc 2 1 92), (92, am_stp (am_goto 12)), (95, am_aload 0 96), (96, am_iload 1 97), (97, am_cal l d y_Table_takeRowFromSpans (some 7) 2 100 0 0 0 0), (100, am_iret false)]
theorem ck_Table_dropRow {l : Launch} {sc : Nat × (Nat → Int32)} {d : Nat} : ∀ q ∈ co_Table_dropRow l d, am_ok l sc (d + 1) y_Table_dropRow q.1 q.2 :=
  fa_cons (ok_aload_n (show decode (am_mB y_Table_dropRow) 0 = .ok (.aload_n 0, 1) by decide +kernel) rfl) <|
  fa_cons (ok_dup (show decode (am_mB y_Table_dropRow) 1 = .ok (.dup, 1) by decide +kernel)) <|
  fa_cons (ok_getI (show decode (am_mB y_Table_dropRow) 2 = .ok (.getfield 44, 3) by decide +kernel) fl_Table_44 (by decide +kernel)) <|
  fa_cons (ok_iconst (show decode (am_mB y_Table_dropRow) 5 = .ok (.iconst 1, 1) by decide +kernel) rfl) <|
  fa_cons (ok_isub (show decode (am_mB y_Table_dropRow) 6 = .ok (.isub, 1) by decide +kernel)) <|
  fa_cons (ok_putI (show decode (am_mB y_Table_dropRow) 7 = .ok (.putfield 44, 3) by decide +kernel) fl_Table_44 (by decide +kernel)) <|
  fa_cons (ok_iload_n (show decode (am_mB y_Table_dropRow) 10 = .ok (.iload_n 1, 1) by decide +kernel) rfl) <|
  fa_cons (ok_stp (σ := am_istore 2 12) (ok_istore_n (show decode (am_mB y_Table_dropRow) 11 = .ok (.istore_n 2, 1) by decide +kernel) rfl (by decide +kernel))) <|
  fa_cons (ok_iload_n (show decode (am_mB y_Table_dropRow) 12 = .ok (.iload_n 2, 1) by decide +kernel) rfl) <|
  fa_cons (ok_aload_n (show decode (am_mB y_Table_dropRow) 13 = .ok (.aload_n 0, 1) by decide +kernel) rfl) <|
  fa_cons (ok_getI (show decode (am_mB y_Table_dropRow) 14 = .ok (.getfield 44, 3) by decide +kernel) fl_Table_44 (by decide +kernel)) <|
  fa_cons (ok_icmp_ge (show decode (am_mB y_Table_dropRow) 17 = .ok (.if_icmp .ge 78, 3) by decide +kernel) (by decide)) <|
  fa_cons (ok_aload_n (show decode (am_mB y_Table_dropRow) 20 = .ok (.aload_n 0, 1) by decide +kernel) rfl) <|
  fa_cons (ok_getR (show decode (am_mB y_Table_dropRow) 21 = .ok (.getfield 9, 3) by decide +kernel) fl_Table_9 (by decide +kernel)) <|
  fa_cons (ok_iload_n (show decode (am_mB y_Table_dropRow) 24 = .ok (.iload_n 2, 1) by decide +kernel) rfl) <|
  fa_cons (ok_aload_n (show decode (am_mB y_Table_dropRow) 25 = .ok (.aload_n 0, 1) by decide +kernel) rfl) <|
  fa_cons (ok_getR (show decode (am_mB y_Table_dropRow) 26 = .ok (.getfield 9, 3) by decide +kernel) fl_Table_9 (by decide +kernel)) <|
  fa_cons (ok_iload_n (show decode (am_mB y_Table_dropRow) 29 = .ok (.iload_n 2, 1) by decide +kernel) rfl) <|
  fa_cons (ok_iconst (show decode (am_mB y_Table_dropRow) 30 = .ok (.iconst 1, 1) by decide +kernel) rfl) <|
  fa_cons (ok_iadd (show decode (am_mB y_Table_dropRow) 31 = .ok (.iadd, 1) by decide +kernel)) <|
  fa_cons (ok_iald (show decode (am_mB y_Table_dropRow) 32 = .ok (.iaload, 1) by decide +kernel)) <|
  fa_cons (ok_iast (show decode (am_mB y_Table_dropRow) 33 = .ok (.iastore, 1) by decide +kernel)) <|
  fa_cons (ok_aload_n (show decode (am_mB y_Table_dropRow) 34 = .ok (.aload_n 0, 1) by decide +kernel) rfl) <|
  fa_cons (ok_getR (show decode (am_mB y_Table_dropRow) 35 = .ok (.getfield 15, 3) by decide +kernel) fl_Table_15 (by decide +kernel)) <|
  fa_cons (ok_iload_n (show decode (am_mB y_Table_dropRow) 38 = .ok (.iload_n 2, 1) by decide +kernel) rfl) <|
  fa_cons (ok_aload_n (show decode (am_mB y_Table_dropRow) 39 = .ok (.aload_n 0, 1) by decide +kernel) rfl) <|
  fa_cons (ok_getR (show decode (am_mB y_Table_dropRow) 40 = .ok (.getfield 15, 3) by decide +kernel) fl_Table_15 (by decide +kernel)) <|
  fa_cons (ok_iload_n (show decode (am_mB y_Table_dropRow) 43 = .ok (.iload_n 2, 1) by decide +kernel) rfl) <|
  fa_cons (ok_iconst (show decode (am_mB y_Table_dropRow) 44 = .ok (.iconst 1, 1) by decide +kernel) rfl) <|
  fa_cons (ok_iadd (show decode (am_mB y_Table_dropRow) 45 = .ok (.iadd, 1) by decide +kernel)) <|
  fa_cons (ok_iald (show decode (am_mB y_Table_dropRow) 46 = .ok (.iaload, 1) by decide +kernel)) <|
  fa_cons (ok_iast (show decode (am_mB y_Table_dropRow) 47 = .ok (.iastore, 1) by decide +kernel)) <|
  fa_cons (ok_aload_n (show decode (am_mB y_Table_dropRow) 48 = .ok (.aload_n 0, 1) by decide +kernel) rfl) <|
  fa_cons (ok_getR (show decode (am_mB y_Table_dropRow) 49 = .ok (.getfield 18, 3) by decide +kernel) fl_Table_18 (by decide +kernel)) <|
  fa_cons (ok_iload_n (show decode (am_mB y_Table_dropRow) 52 = .ok (.iload_n 2, 1) by decide +kernel) rfl) <|
  fa_cons (ok_aload_n (show decode (am_mB y_Table_dropRow) 53 = .ok (.aload_n 0, 1) by decide +kernel) rfl) <|
  fa_cons (ok_getR (show decode (am_mB y_Table_dropRow) 54 = .ok (.getfield 18, 3) by decide +kernel) fl_Table_18 (by decide +kernel)) <|
  fa_cons (ok_iload_n (show decode (am_mB y_Table_dropRow) 57 = .ok (.iload_n 2, 1) by decide +kernel) rfl) <|
  fa_cons (ok_iconst (show decode (am_mB y_Table_dropRow) 58 = .ok (.iconst 1, 1) by decide +kernel) rfl) <|
  fa_cons (ok_iadd (show decode (am_mB y_Table_dropRow) 59 = .ok (.iadd, 1) by decide +kernel)) <|
  fa_cons (ok_zald (show decode (am_mB y_Table_dropRow) 60 = .ok (.baload, 1) by decide +kernel)) <|
  fa_cons (ok_zast (show decode (am_mB y_Table_dropRow) 61 = .ok (.bastore, 1) by decide +kernel)) <|
  fa_cons (ok_iconst (show decode (am_mB y_Table_dropRow) 62 = .ok (.iconst 0, 1) by decide +kernel) rfl) <|
  fa_cons (ok_stp (σ := am_istore 3 64) (ok_istore_n (show decode (am_mB y_Table_dropRow) 63 = .ok (.istore_n 3, 1) by decide +kernel) rfl (by decide +kernel))) <|
  fa_cons (ok_iload_n (show decode (am_mB y_Table_dropRow) 64 = .ok (.iload_n 3, 1) by decide +kernel) rfl) <|
  fa_cons (ok_iconst (show decode (am_mB y_Table_dropRow) 65 = .ok (.iconst 4, 1) by decide +kernel) rfl) <|
  fa_cons (ok_icmp_ge (show decode (am_mB y_Table_dropRow) 66 = .ok (.if_icmp .ge 23, 3) by decide +kernel) (by decide)) <|
  fa_cons (ok_aload_n (show decode (am_mB y_Table_dropRow) 69 = .ok (.aload_n 0, 1) by decide +kernel) rfl) <|
  fa_cons (ok_iload_n (show decode (am_mB y_Table_dropRow) 70 = .ok (.iload_n 2, 1) by decide +kernel) rfl) <|
  fa_cons (ok_iload_n (show decode (am_mB y_Table_dropRow) 71 = .ok (.iload_n 3, 1) by decide +kernel) rfl) <|
  fa_cons (ok_aload_n (show decode (am_mB y_Table_dropRow) 72 = .ok (.aload_n 0, 1) by decide +kernel) rfl) <|
  fa_cons (ok_iload_n (show decode (am_mB y_Table_dropRow) 73 = .ok (.iload_n 2, 1) by decide +kernel) rfl) <|
  fa_cons (ok_iconst (show decode (am_mB y_Table_dropRow) 74 = .ok (.iconst 1, 1) by decide +kernel) rfl) <|
  fa_cons (ok_iadd (show decode (am_mB y_Table_dropRow) 75 = .ok (.iadd, 1) by decide +kernel)) <|
  fa_cons (ok_iload_n (show decode (am_mB y_Table_dropRow) 76 = .ok (.iload_n 3, 1) by decide +kernel) rfl) <|
  fa_cons (ok_cal ⟨rfl, rfl, rfl, rfl⟩ (ok_callV (show decode (am_mB y_Table_dropRow) 77 = .ok (.invokevirtual 62, 3) by decide +kernel) cf_Table_amountAt (by decide +kernel) ml_Table_62 ci_Table_amountAt cv_Table_amountAt ⟨by decide, rfl⟩ rfl ⟨by decide +kernel, rfl⟩ (Or.inl (by decide +kernel)))) <|
  fa_cons (ok_cal ⟨rfl, rfl, rfl, rfl⟩ (ok_callV (show decode (am_mB y_Table_dropRow) 80 = .ok (.invokevirtual 66, 3) by decide +kernel) cf_Table_putAmount (by decide +kernel) ml_Table_66 ci_Table_putAmount cv_Table_putAmount ⟨by decide, rfl⟩ rfl ⟨by decide +kernel, rfl⟩ (Or.inl (by decide +kernel)))) <|
  fa_cons (ok_iinc (show decode (am_mB y_Table_dropRow) 83 = .ok (.iinc 3 1, 3) by decide +kernel) (by decide +kernel) (by decide +kernel)) <|
  fa_cons (ok_stp (σ := am_goto 64) (ok_goto (show decode (am_mB y_Table_dropRow) 86 = .ok (.goto (-22), 3) by decide +kernel) (by decide))) <|
  fa_cons (ok_iinc (show decode (am_mB y_Table_dropRow) 89 = .ok (.iinc 2 1, 3) by decide +kernel) (by decide +kernel) (by decide +kernel)) <|
  fa_cons (ok_stp (σ := am_goto 12) (ok_goto (show decode (am_mB y_Table_dropRow) 92 = .ok (.goto (-80), 3) by decide +kernel) (by decide))) <|
  fa_cons (ok_aload_n (show decode (am_mB y_Table_dropRow) 95 = .ok (.aload_n 0, 1) by decide +kernel) rfl) <|
  fa_cons (ok_iload_n (show decode (am_mB y_Table_dropRow) 96 = .ok (.iload_n 1, 1) by decide +kernel) rfl) <|
  fa_cons (ok_cal ⟨rfl, rfl, rfl, rfl⟩ (ok_callV (show decode (am_mB y_Table_dropRow) 97 = .ok (.invokevirtual 70, 3) by decide +kernel) cf_Table_takeRowFromSpans (by decide +kernel) ml_Table_70 ci_Table_takeRowFromSpans cv_Table_takeRowFromSpans ⟨by decide, rfl⟩ rfl ⟨by decide +kernel, rfl⟩ (Or.inl (by decide +kernel)))) <|
  fa_cons (ok_iret (show decode (am_mB y_Table_dropRow) 100 = .ok (.ireturn, 1) by decide +kernel) rfl) <|
  fa_nil
set_option maxRecDepth 100000 in
theorem cq_Table_dropRow (l : Launch) (d : Nat) : am_lk (co_Table_dropRow l d) 0 = am_aload 0 1 ∧ am_lk (co_Table_dropRow l d) 1 = am_dup 2 ∧ am_lk (co_Table_dropRow l d) 2 = am_getI 7 1 5 ∧ am_lk (co_Table_dropRow l d) 5 = am_push (vI 1) 6 ∧ am_lk (co_Table_dropRow l d) 6 = am_isub 7 ∧ am_lk (co_Table_dropRow l d) 7 = am_putI 7 1 10 ∧ am_lk (co_Table_dropRow l d) 10 = am_iload 1 11 ∧ am_lk (co_Table_dropRow l d) 11 = am_stp (am_istore 2 12) ∧ am_lk (co_Table_dropRow l d) 12 = am_iload 2 13 ∧ am_lk (co_Table_dropRow l d) 13 = am_aload 0 14 ∧ am_lk (co_Table_dropRow l d) 14 = am_getI 7 1 17 ∧ am_lk (co_Table_dropRow l d) 17 = am_icmp_ge 20 95 ∧ am_lk (co_Table_dropRow l d) 20 = am_aload 0 21 ∧ am_lk (co_Table_dropRow l d) 21 = am_getR 7 5 24 ∧ am_lk (co_Table_dropRow l d) 24 = am_iload 2 25 ∧ am_lk (co_Table_dropRow l d) 25 = am_aload 0 26 ∧ am_lk (co_Table_dropRow l d) 26 = am_getR 7 5 29 ∧ am_lk (co_Table_dropRow l d) 29 = am_iload 2 30 ∧ am_lk (co_Table_dropRow l d) 30 = am_push (vI 1) 31 ∧ am_lk (co_Table_dropRow l d) 31 = am_iadd 32 ∧ am_lk (co_Table_dropRow l d) 32 = am_ald 0 33 ∧ am_lk (co_Table_dropRow l d) 33 = am_ast 0 (fun x => x) 34 ∧ am_lk (co_Table_dropRow l d) 34 = am_aload 0 35 ∧ am_lk (co_Table_dropRow l d) 35 = am_getR 7 6 38 ∧ am_lk (co_Table_dropRow l d) 38 = am_iload 2 39 ∧ am_lk (co_Table_dropRow l d) 39 = am_aload 0 40 ∧ am_lk (co_Table_dropRow l d) 40 = am_getR 7 6 43 ∧ am_lk (co_Table_dropRow l d) 43 = am_iload 2 44 ∧ am_lk (co_Table_dropRow l d) 44 = am_push (vI 1) 45 ∧ am_lk (co_Table_dropRow l d) 45 = am_iadd 46 ∧ am_lk (co_Table_dropRow l d) 46 = am_ald 0 47 ∧ am_lk (co_Table_dropRow l d) 47 = am_ast 0 (fun x => x) 48 ∧ am_lk (co_Table_dropRow l d) 48 = am_aload 0 49 ∧ am_lk (co_Table_dropRow l d) 49 = am_getR 7 7 52 ∧ am_lk (co_Table_dropRow l d) 52 = am_iload 2 53 ∧ am_lk (co_Table_dropRow l d) 53 = am_aload 0 54 ∧ am_lk (co_Table_dropRow l d) 54 = am_getR 7 7 57 ∧ am_lk (co_Table_dropRow l d) 57 = am_iload 2 58 ∧ am_lk (co_Table_dropRow l d) 58 = am_push (vI 1) 59 ∧ am_lk (co_Table_dropRow l d) 59 = am_iadd 60 ∧ am_lk (co_Table_dropRow l d) 60 = am_ald 1 61 ∧ am_lk (co_Table_dropRow l d) 61 = am_ast 1 (vp_nar .boolean) 62 ∧ am_lk (co_Table_dropRow l d) 62 = am_push (vI 0) 63 ∧ am_lk (co_Table_dropRow l d) 63 = am_stp (am_istore 3 64) ∧ am_lk (co_Table_dropRow l d) 64 = am_iload 3 65 ∧ am_lk (co_Table_dropRow l d) 65 = am_push (vI 4) 66 ∧ am_lk (co_Table_dropRow l d) 66 = am_icmp_ge 69 89 ∧ am_lk (co_Table_dropRow l d) 69 = am_aload 0 70 ∧ am_lk (co_Table_dropRow l d) 70 = am_iload 2 71 ∧ am_lk (co_Table_dropRow l d) 71 = am_iload 3 72 ∧ am_lk (co_Table_dropRow l d) 72 = am_aload 0 73 ∧ am_lk (co_Table_dropRow l d) 73 = am_iload 2 74 ∧ am_lk (co_Table_dropRow l d) 74 = am_push (vI 1) 75 ∧ am_lk (co_Table_dropRow l d) 75 = am_iadd 76 ∧ am_lk (co_Table_dropRow l d) 76 = am_iload 3 77 ∧ am_lk (co_Table_dropRow l d) 77 = am_cal l d y_Table_amountAt (some 7) 3 80 0 0 0 0 ∧ am_lk (co_Table_dropRow l d) 80 = am_cal l d y_Table_putAmount (some 7) 4 83 0 0 0 0 ∧ am_lk (co_Table_dropRow l d) 83 = am_iinc 3 1 86 ∧ am_lk (co_Table_dropRow l d) 86 = am_stp (am_goto 64) ∧ am_lk (co_Table_dropRow l d) 89 = am_iinc 2 1 92 ∧ am_lk (co_Table_dropRow l d) 92 = am_stp (am_goto 12) ∧ am_lk (co_Table_dropRow l d) 95 = am_aload 0 96 ∧ am_lk (co_Table_dropRow l d) 96 = am_iload 1 97 ∧ am_lk (co_Table_dropRow l d) 97 = am_cal l d y_Table_takeRowFromSpans (some 7) 2 100 0 0 0 0 ∧ am_lk (co_Table_dropRow l d) 100 = am_iret false := ⟨rfl, rfl, rfl, rfl, rfl, rfl, rfl, rfl, rfl, rfl, rfl, rfl, rfl, rfl, rfl, rfl, rfl, rfl, rfl, rfl, rfl, rfl, rfl, rfl, rfl, rfl, rfl, rfl, rfl, rfl, rfl, rfl, rfl, rfl, rfl, rfl, rfl, rfl, rfl, rfl, rfl, rfl, rfl, rfl, rfl, rfl, rfl, rfl, rfl, rfl, rfl, rfl, rfl, rfl, rfl, rfl, rfl, rfl, rfl, rfl, rfl, rfl, rfl, rfl, rfl⟩
theorem en_Table_dropRow {l : Launch} {d : Nat} (n : Nat) {as : List am_V} {G : am_G} {I : am_I} {J : am_J} {P : am_P} (hlen : (as.map am_cat).sum ≤ 4) (h : am_go (am_lk (co_Table_dropRow l d)) (am_X l (0, fun _ => 0) (d + 1) y_Table_dropRow P) P n 0 (am_el 4 as) [] 0 0 G I J) : am_T l (d + 1) y_Table_dropRow as G I J P :=
  am_T_of (sc := (0, fun _ => 0)) cf_Table_dropRow (by decide +kernel) (by decide) (by decide +kernel) hlen (am_run (ok_lk _ (ck_Table_dropRow)) n _ _ _ _ _ _ _ _ h)
theorem rn_Table_dropRow {l : Launch} {sc : Nat × (Nat → Int32)} {d : Nat} {P : am_P} (n : Nat) {pc : Nat} {ls : am_L} {st : List am_V} {kc ks : Nat} {G : am_G} {I : am_I} {J : am_J} (h : am_go (am_lk (co_Table_dropRow l d)) (am_X l sc (d + 1) y_Table_dropRow P) P n pc ls st kc ks G I J) : am_X l sc (d + 1) y_Table_dropRow P pc ls st kc ks G I J := am_run (ok_lk _ (ck_Table_dropRow)) n _ _ _ _ _ _ _ _ h
def co_Table_takeRowFromSpans (l : Launch) (d : Nat) : List (Nat × am_S) := [(0, am_aload 0 1), (1, am_getI 7 2 4), (4, am_istore 2 5), (5, am_aload 0 6), (6, am_push (vI 0) 7), (7, am_putI 7 2 10), (10, am_push (vI 0) 11), (11, am_stp (am_istore 3 12)), (12, am_iload 3 13), (13, am_iload 2 14), (14, am_icmp_ge 17 102), (17, am_iload 1 18), (18, am_aload 0 19), (19, am_getR 7 9 22), (22, am_iload 3 23), (23, am_ald 0 24), (24, am_icmp_ge 27 38), (27, am_aload 0 28), (28, am_getR 7 9 31), (31, am_iload 3 32), (32, am_ald 0 33), (33, am_push (vI 1) 34), (34, am_isub 35), (35, am_goto 44), (38, am_aload 0 39), (39, am_getR 7 9 42), (42, am_iload 3 43), (43, am_ald 0 44), (44, am_istore 4 46), (46, am_iload 1 47), (47, am_aload 0 48), (48, am_getR 7 10 51), (51, am_iload 3 52), (52, am_ald 0 53), (53, am_icmp_gt 56 67), (56, am_aload 0 57), (57, am_getR 7 10 60), (60, am_iload 3 61), (61, am_ald 0 62), (62, am_push (vI 1) 63), (63, am_isub 64), (64, am_goto 73), (67, am_aload 0 68), (68, am_getR 7 10 71), (71, am_iload 3 72), (72, am_ald 0 73), (73, am_istore 5 75), (75, am_iload 5 77), (77, am_iload 4 79), (79, am_icmp_le 82 96), (82, am_aload 0 83), (83, am_iload 4 85), (85, am_iload 5 87), (87, am_aload 0 88), (88, am_getR 7 11 91), (91, am_iload 3 92), (92, am_ald 1 93), (93, am_cal l d y_Table_putSpan (some 7) 4 96 0 0 0 0), (96, am_iinc 3 1 99), (99, am_stp (am_goto 12)), (102, am_iload 2 103), (103, am_aload 0 104), (104, am_getI 7 2 107), (107, am_isub 108), (108, am_iret false)]
theorem ck_Table_takeRowFromSpans {l : Launch} {sc : Nat × (Nat → Int32)} {d : Nat} : ∀ q ∈ co_Table_takeRowFromSpans l d, am_ok l sc (d + 1) y_Table_takeRowFromSpans q.1 q.2 :=
  fa_cons (ok_aload_n (show decode (am_mB y_Table_takeRowFromSpans) 0 = .ok (.aload_n 0, 1) by decide +kernel) rfl) <|
  fa_cons (ok_getI (show decode (am_mB y_Table_takeRowFromSpans) 1 = .ok (.getfield 47, 3) by decide +kernel) fl_Table_47 (by decide +kernel)) <|
  fa_cons (ok_istore_n (show decode (am_mB y_Table_takeRowFromSpans) 4 = .ok (.istore_n 2, 1) by decide +kernel) rfl (by decide +kernel)) <|
  fa_cons (ok_aload_n (show decode (am_mB y_Table_takeRowFromSpans) 5 = .ok (.aload_n 0, 1) by decide +kernel) rfl) <|
  fa_cons (ok_iconst (show decode (am_mB y_Table_takeRowFromSpans) 6 = .ok (.iconst 0, 1) by decide +kernel) rfl) <|
  fa_cons (ok_putI (show decode (am_mB y_Table_takeRowFromSpans) 7 = .ok (.putfield 47, 3) by decide +kernel) fl_Table_47 (by decide +kernel)) <|
  fa_cons (ok_iconst (show decode (am_mB y_Table_takeRowFromSpans) 10 = .ok (.iconst 0, 1) by decide +kernel) rfl) <|
  fa_cons (ok_stp (σ := am_istore 3 12) (ok_istore_n (show decode (am_mB y_Table_takeRowFromSpans) 11 = .ok (.istore_n 3, 1) by decide +kernel) rfl (by decide +kernel))) <|
  fa_cons (ok_iload_n (show decode (am_mB y_Table_takeRowFromSpans) 12 = .ok (.iload_n 3, 1) by decide +kernel) rfl) <|
  fa_cons (ok_iload_n (show decode (am_mB y_Table_takeRowFromSpans) 13 = .ok (.iload_n 2, 1) by decide +kernel) rfl) <|
  fa_cons (ok_icmp_ge (show decode (am_mB y_Table_takeRowFromSpans) 14 = .ok (.if_icmp .ge 88, 3) by decide +kernel) (by decide)) <|
  fa_cons (ok_iload_n (show decode (am_mB y_Table_takeRowFromSpans) 17 = .ok (.iload_n 1, 1) by decide +kernel) rfl) <|
  fa_cons (ok_aload_n (show decode (am_mB y_Table_takeRowFromSpans) 18 = .ok (.aload_n 0, 1) by decide +kernel) rfl) <|
  fa_cons (ok_getR (show decode (am_mB y_Table_takeRowFromSpans) 19 = .ok (.getfield 25, 3) by decide +kernel) fl_Table_25 (by decide +kernel)) <|
  fa_cons (ok_iload_n (show decode (am_mB y_Table_takeRowFromSpans) 22 = .ok (.iload_n 3, 1) by decide +kernel) rfl) <|
  fa_cons (ok_iald (show decode (am_mB y_Table_takeRowFromSpans) 23 = .ok (.iaload, 1) by decide +kernel)) <|
  fa_cons (ok_icmp_ge (show decode (am_mB y_Table_takeRowFromSpans) 24 = .ok (.if_icmp .ge 14, 3) by decide +kernel) (by decide)) <|
  fa_cons (ok_aload_n (show decode (am_mB y_Table_takeRowFromSpans) 27 = .ok (.aload_n 0, 1) by decide +kernel) rfl) <|
  fa_cons (ok_getR (show decode (am_mB y_Table_takeRowFromSpans) 28 = .ok (.getfield 25, 3) by decide +kernel) fl_Table_25 (by decide +kernel)) <|
  fa_cons (ok_iload_n (show decode (am_mB y_Table_takeRowFromSpans) 31 = .ok (.iload_n 3, 1) by decide +kernel) rfl) <|
  fa_cons (ok_iald (show decode (am_mB y_Table_takeRowFromSpans) 32 = .ok (.iaload, 1) by decide +kernel)) <|
  fa_cons (ok_iconst (show decode (am_mB y_Table_takeRowFromSpans) 33 = .ok (.iconst 1, 1) by decide +kernel) rfl) <|
  fa_cons (ok_isub (show decode (am_mB y_Table_takeRowFromSpans) 34 = .ok (.isub, 1) by decide +kernel)) <|
  fa_cons (ok_goto (show decode (am_mB y_Table_takeRowFromSpans) 35 = .ok (.goto 9, 3) by decide +kernel) (by decide)) <|
  fa_cons (ok_aload_n (show decode (am_mB y_Table_takeRowFromSpans) 38 = .ok (.aload_n 0, 1) by decide +kernel) rfl) <|
  fa_cons (ok_getR (show decode (am_mB y_Table_takeRowFromSpans) 39 = .ok (.getfield 25, 3) by decide +kernel) fl_Table_25 (by decide +kernel)) <|
  fa_cons (ok_iload_n (show decode (am_mB y_Table_takeRowFromSpans) 42 = .ok (.iload_n 3, 1) by decide +kernel) rfl) <|
  fa_cons (ok_iald (show decode (am_mB y_Table_takeRowFromSpans) 43 = .ok (.iaload, 1) by decide +kernel)) <|
  fa_cons (ok_istore (show decode (am_mB y_Table_takeRowFromSpans) 44 = .ok (.istore 4, 2) by decide +kernel) (by decide +kernel)) <|
  fa_cons (ok_iload_n (show decode (am_mB y_Table_takeRowFromSpans) 46 = .ok (.iload_n 1, 1) by decide +kernel) rfl) <|
  fa_cons (ok_aload_n (show decode (am_mB y_Table_takeRowFromSpans) 47 = .ok (.aload_n 0, 1) by decide +kernel) rfl) <|
  fa_cons (ok_getR (show decode (am_mB y_Table_takeRowFromSpans) 48 = .ok (.getfield 28, 3) by decide +kernel) fl_Table_28 (by decide +kernel)) <|
  fa_cons (ok_iload_n (show decode (am_mB y_Table_takeRowFromSpans) 51 = .ok (.iload_n 3, 1) by decide +kernel) rfl) <|
  fa_cons (ok_iald (show decode (am_mB y_Table_takeRowFromSpans) 52 = .ok (.iaload, 1) by decide +kernel)) <|
  fa_cons (ok_icmp_gt (show decode (am_mB y_Table_takeRowFromSpans) 53 = .ok (.if_icmp .gt 14, 3) by decide +kernel) (by decide)) <|
  fa_cons (ok_aload_n (show decode (am_mB y_Table_takeRowFromSpans) 56 = .ok (.aload_n 0, 1) by decide +kernel) rfl) <|
  fa_cons (ok_getR (show decode (am_mB y_Table_takeRowFromSpans) 57 = .ok (.getfield 28, 3) by decide +kernel) fl_Table_28 (by decide +kernel)) <|
  fa_cons (ok_iload_n (show decode (am_mB y_Table_takeRowFromSpans) 60 = .ok (.iload_n 3, 1) by decide +kernel) rfl) <|
  fa_cons (ok_iald (show decode (am_mB y_Table_takeRowFromSpans) 61 = .ok (.iaload, 1) by decide +kernel)) <|
  fa_cons (ok_iconst (show decode (am_mB y_Table_takeRowFromSpans) 62 = .ok (.iconst 1, 1) by decide +kernel) rfl) <|
  fa_cons (ok_isub (show decode (am_mB y_Table_takeRowFromSpans) 63 = .ok (.isub, 1) by decide +kernel)) <|
  fa_cons (ok_goto (show decode (am_mB y_Table_takeRowFromSpans) 64 = .ok (.goto 9, 3) by decide +kernel) (by decide)) <|
  fa_cons (ok_aload_n (show decode (am_mB y_Table_takeRowFromSpans) 67 = .ok (.aload_n 0, 1) by decide +kernel) rfl) <|
  fa_cons (ok_getR (show decode (am_mB y_Table_takeRowFromSpans) 68 = .ok (.getfield 28, 3) by decide +kernel) fl_Table_28 (by decide +kernel)) <|
  fa_cons (ok_iload_n (show decode (am_mB y_Table_takeRowFromSpans) 71 = .ok (.iload_n 3, 1) by decide +kernel) rfl) <|
  fa_cons (ok_iald (show decode (am_mB y_Table_takeRowFromSpans) 72 = .ok (.iaload, 1) by decide +kernel)) <|
  fa_cons (ok_istore (show decode (am_mB y_Table_takeRowFromSpans) 73 = .ok (.istore 5, 2) by decide +kernel) (by decide +kernel)) <|
  fa_cons (ok_iload (show decode (am_mB y_Table_takeRowFromSpans) 75 = .ok (.iload 5, 2) by decide +kernel)) <|
  fa_cons (ok_iload (show decode (am_mB y_Table_takeRowFromSpans) 77 = .ok (.iload 4, 2) by decide +kernel)) <|
  fa_cons (ok_icmp_le (show decode (am_mB y_Table_takeRowFromSpans) 79 = .ok (.if_icmp .le 17, 3) by decide +kernel) (by decide)) <|
  fa_cons (ok_aload_n (show decode (am_mB y_Table_takeRowFromSpans) 82 = .ok (.aload_n 0, 1) by decide +kernel) rfl) <|
  fa_cons (ok_iload (show decode (am_mB y_Table_takeRowFromSpans) 83 = .ok (.iload 4, 2) by decide +kernel)) <|
  fa_cons (ok_iload (show decode (am_mB y_Table_takeRowFromSpans) 85 = .ok (.iload 5, 2) by decide +kernel)) <|
  fa_cons (ok_aload_n (show decode (am_mB y_Table_takeRowFromSpans) 87 = .ok (.aload_n 0, 1) by decide +kernel) rfl) <|
  fa_cons (ok_getR (show decode (am_mB y_Table_takeRowFromSpans) 88 = .ok (.getfield 31, 3) by decide +kernel) fl_Table_31 (by decide +kernel)) <|
  fa_cons (ok_iload_n (show decode (am_mB y_Table_takeRowFromSpans) 91 = .ok (.iload_n 3, 1) by decide +kernel) rfl) <|
  fa_cons (ok_zald (show decode (am_mB y_Table_takeRowFromSpans) 92 = .ok (.baload, 1) by decide +kernel)) <|
  fa_cons (ok_cal ⟨rfl, rfl, rfl, rfl⟩ (ok_callV (show decode (am_mB y_Table_takeRowFromSpans) 93 = .ok (.invokevirtual 74, 3) by decide +kernel) cf_Table_putSpan (by decide +kernel) ml_Table_74 ci_Table_putSpan cv_Table_putSpan ⟨by decide, rfl⟩ rfl ⟨by decide +kernel, rfl⟩ (Or.inl (by decide +kernel)))) <|
  fa_cons (ok_iinc (show decode (am_mB y_Table_takeRowFromSpans) 96 = .ok (.iinc 3 1, 3) by decide +kernel) (by decide +kernel) (by decide +kernel)) <|
  fa_cons (ok_stp (σ := am_goto 12) (ok_goto (show decode (am_mB y_Table_takeRowFromSpans) 99 = .ok (.goto (-87), 3) by decide +kernel) (by decide))) <|
  fa_cons (ok_iload_n (show decode (am_mB y_Table_takeRowFromSpans) 102 = .ok (.iload_n 2, 1) by decide +kernel) rfl) <|
  fa_cons (ok_aload_n (show decode (am_mB y_Table_takeRowFromSpans) 103 = .ok (.aload_n 0, 1) by decide +kernel) rfl) <|
  fa_cons (ok_getI (show decode (am_mB y_Table_takeRowFromSpans) 104 = .ok (.getfield 47, 3) by decide +kernel) fl_Table_47 (by decide +kernel)) <|
  fa_cons (ok_isub (show decode (am_mB y_Table_takeRowFromSpans) 107 = .ok (.isub, 1) by decide +kernel)) <|
  fa_cons (ok_iret (show decode (am_mB y_Table_takeRowFromSpans) 108 = .ok (.ireturn, 1) by decide +kernel) rfl) <|
  fa_nil
set_option maxRecDepth 100000 in
theorem cq_Table_takeRowFromSpans (l : Launch) (d : Nat) : am_lk (co_Table_takeRowFromSpans l d) 0 = am_aload 0 1 ∧ am_lk (co_Table_takeRowFromSpans l d) 1 = am_getI 7 2 4 ∧ am_lk (co_Table_takeRowFromSpans l d) 4 = am_istore 2 5 ∧ am_lk (co_Table_takeRowFromSpans l d) 5 = am_aload 0 6 ∧ am_lk (co_Table_takeRowFromSpans l d) 6 = am_push (vI 0) 7 ∧ am_lk (co_Table_takeRowFromSpans l d) 7 = am_putI 7 2 10 ∧ am_lk (co_Table_takeRowFromSpans l d) 10 = am_push (vI 0) 11 ∧ am_lk (co_Table_takeRowFromSpans l d) 11 = am_stp (am_istore 3 12) ∧ am_lk (co_Table_takeRowFromSpans l d) 12 = am_iload 3 13 ∧ am_lk (co_Table_takeRowFromSpans l d) 13 = am_iload 2 14 ∧ am_lk (co_Table_takeRowFromSpans l d) 14 = am_icmp_ge 17 102 ∧ am_lk (co_Table_takeRowFromSpans l d) 17 = am_iload 1 18 ∧ am_lk (co_Table_takeRowFromSpans l d) 18 = am_aload 0 19 ∧ am_lk (co_Table_takeRowFromSpans l d) 19 = am_getR 7 9 22 ∧ am_lk (co_Table_takeRowFromSpans l d) 22 = am_iload 3 23 ∧ am_lk (co_Table_takeRowFromSpans l d) 23 = am_ald 0 24 ∧ am_lk (co_Table_takeRowFromSpans l d) 24 = am_icmp_ge 27 38 ∧ am_lk (co_Table_takeRowFromSpans l d) 27 = am_aload 0 28 ∧ am_lk (co_Table_takeRowFromSpans l d) 28 = am_getR 7 9 31 ∧ am_lk (co_Table_takeRowFromSpans l d) 31 = am_iload 3 32 ∧ am_lk (co_Table_takeRowFromSpans l d) 32 = am_ald 0 33 ∧ am_lk (co_Table_takeRowFromSpans l d) 33 = am_push (vI 1) 34 ∧ am_lk (co_Table_takeRowFromSpans l d) 34 = am_isub 35 ∧ am_lk (co_Table_takeRowFromSpans l d) 35 = am_goto 44 ∧ am_lk (co_Table_takeRowFromSpans l d) 38 = am_aload 0 39 ∧ am_lk (co_Table_takeRowFromSpans l d) 39 = am_getR 7 9 42 ∧ am_lk (co_Table_takeRowFromSpans l d) 42 = am_iload 3 43 ∧ am_lk (co_Table_takeRowFromSpans l d) 43 = am_ald 0 44 ∧ am_lk (co_Table_takeRowFromSpans l d) 44 = am_istore 4 46 ∧ am_lk (co_Table_takeRowFromSpans l d) 46 = am_iload 1 47 ∧ am_lk (co_Table_takeRowFromSpans l d) 47 = am_aload 0 48 ∧ am_lk (co_Table_takeRowFromSpans l d) 48 = am_getR 7 10 51 ∧ am_lk (co_Table_takeRowFromSpans l d) 51 = am_iload 3 52 ∧ am_lk (co_Table_takeRowFromSpans l d) 52 = am_ald 0 53 ∧ am_lk (co_Table_takeRowFromSpans l d) 53 = am_icmp_gt 56 67 ∧ am_lk (co_Table_takeRowFromSpans l d) 56 = am_aload 0 57 ∧ am_lk (co_Table_takeRowFromSpans l d) 57 = am_getR 7 10 60 ∧ am_lk (co_Table_takeRowFromSpans l d) 60 = am_iload 3 61 ∧ am_lk (co_Table_takeRowFromSpans l d) 61 = am_ald 0 62 ∧ am_lk (co_Table_takeRowFromSpans l d) 62 = am_push (vI 1) 63 ∧ am_lk (co_Table_takeRowFromSpans l d) 63 = am_isub 64 ∧ am_lk (co_Table_takeRowFromSpans l d) 64 = am_goto 73 ∧ am_lk (co_Table_takeRowFromSpans l d) 67 = am_aload 0 68 ∧ am_lk (co_Table_takeRowFromSpans l d) 68 = am_getR 7 10 71 ∧ am_lk (co_Table_takeRowFromSpans l d) 71 = am_iload 3 72 ∧ am_lk (co_Table_takeRowFromSpans l d) 72 = am_ald 0 73 ∧ am_lk (co_Table_takeRowFromSpans l d) 73 = am_istore 5 75 ∧ am_lk (co_Table_takeRowFromSpans l d) 75 = am_iload 5 77 ∧ am_lk (co_Table_takeRowFromSpans l d) 77 = am_iload 4 79 ∧ am_lk (co_Table_takeRowFromSpans l d) 79 = am_icmp_le 82 96 ∧ am_lk (co_Table_takeRowFromSpans l d) 82 = am_aload 0 83 ∧ am_lk (co_Table_takeRowFromSpans l d) 83 = am_iload 4 85 ∧ am_lk (co_Table_takeRowFromSpans l d) 85 = am_iload 5 87 ∧ am_lk (co_Table_takeRowFromSpans l d) 87 = am_aload 0 88 ∧ am_lk (co_Table_takeRowFromSpans l d) 88 = am_getR 7 11 91 ∧ am_lk (co_Table_takeRowFromSpans l d) 91 = am_iload 3 92 ∧ am_lk (co_Table_takeRowFromSpans l d) 92 = am_ald 1 93 ∧ am_lk (co_Table_takeRowFromSpans l d) 93 = am_cal l d y_Table_putSpan (some 7) 4 96 0 0 0 0 ∧ am_lk (co_Table_takeRowFromSpans l d) 96 = am_iinc 3 1 99 ∧ am_lk (co_Table_takeRowFromSpans l d) 99 = am_stp (am_goto 12) ∧ am_lk (co_Table_takeRowFromSpans l d) 102 = am_iload 2 103 ∧ am_lk (co_Table_takeRowFromSpans l d) 103 = am_aload 0 104 ∧ am_lk (co_Table_takeRowFromSpans l d) 104 = am_getI 7 2 107 ∧ am_lk (co_Table_takeRowFromSpans l d) 107 = am_isub 108 ∧ am_lk (co_Table_takeRowFromSpans l d) 108 = am_iret false := ⟨rfl, rfl, rfl, rfl, rfl, rfl, rfl, rfl, rfl, rfl, rfl, rfl, rfl, rfl, rfl, rfl, rfl, rfl, rfl, rfl, rfl, rfl, rfl, rfl, rfl, rfl, rfl, rfl, rfl, rfl, rfl, rfl, rfl, rfl, rfl, rfl, rfl, rfl, rfl, rfl, rfl, rfl, rfl, rfl, rfl, rfl, rfl, rfl, rfl, rfl, rfl, rfl, rfl, rfl, rfl, rfl, rfl, rfl, rfl, rfl, rfl, rfl, rfl, rfl, rfl⟩
theorem en_Table_takeRowFromSpans {l : Launch} {d : Nat} (n : Nat) {as : List am_V} {G : am_G} {I : am_I} {J : am_J} {P : am_P} (hlen : (as.map am_cat).sum ≤ 6) (h : am_go (am_lk (co_Table_takeRowFromSpans l d)) (am_X l (0, fun _ => 0) (d + 1) y_Table_takeRowFromSpans P) P n 0 (am_el 6 as) [] 0 0 G I J) : am_T l (d + 1) y_Table_takeRowFromSpans as G I J P :=
  am_T_of (sc := (0, fun _ => 0)) cf_Table_takeRowFromSpans (by decide +kernel) (by decide) (by decide +kernel) hlen (am_run (ok_lk _ (ck_Table_takeRowFromSpans)) n _ _ _ _ _ _ _ _ h)
theorem rn_Table_takeRowFromSpans {l : Launch} {sc : Nat × (Nat → Int32)} {d : Nat} {P : am_P} (n : Nat) {pc : Nat} {ls : am_L} {st : List am_V} {kc ks : Nat} {G : am_G} {I : am_I} {J : am_J} (h : am_go (am_lk (co_Table_takeRowFromSpans l d)) (am_X l sc (d + 1) y_Table_takeRowFromSpans P) P n pc ls st kc ks G I J) : am_X l sc (d + 1) y_Table_takeRowFromSpans P pc ls st kc ks G I J := am_run (ok_lk _ (ck_Table_takeRowFromSpans)) n _ _ _ _ _ _ _ _ h
def co_Table_putSpan (l : Launch) (d : Nat) : List (Nat × am_S) := [(0, am_aload 0 1), (1, am_getR 7 9 4), (4, am_aload 0 5), (5, am_getI 7 2 8), (8, am_iload 1 9), (9, am_ast 0 (fun x => x) 10), (10, am_aload 0 11), (11, am_getR 7 10 14), (14, am_aload 0 15), (15, am_getI 7 2 18), (18, am_iload 2 19), (19, am_ast 0 (fun x => x) 20), (20, am_aload 0 21), (21, am_getR 7 11 24), (24, am_aload 0 25), (25, am_getI 7 2 28), (28, am_iload 3 29), (29, am_ast 1 (vp_nar .boolean) 30), (30, am_aload 0 31), (31, am_dup 32), (32, am_getI 7 2 35), (35, am_push (vI 1) 36), (36, am_iadd 37), (37, am_putI 7 2 40), (40, am_vret)]
theorem ck_Table_putSpan {l : Launch} {sc : Nat × (Nat → Int32)} {d : Nat} : ∀ q ∈ co_Table_putSpan l d, am_ok l sc (d + 1) y_Table_putSpan q.1 q.2 :=
  fa_cons (ok_aload_n (show decode (am_mB y_Table_putSpan) 0 = .ok (.aload_n 0, 1) by decide +kernel) rfl) <|
  fa_cons (ok_getR (show decode (am_mB y_Table_putSpan) 1 = .ok (.getfield 25, 3) by decide +kernel) fl_Table_25 (by decide +kernel)) <|
  fa_cons (ok_aload_n (show decode (am_mB y_Table_putSpan) 4 = .ok (.aload_n 0, 1) by decide +kernel) rfl) <|
  fa_cons (ok_getI (show decode (am_mB y_Table_putSpan) 5 = .ok (.getfield 47, 3) by decide +kernel) fl_Table_47 (by decide +kernel)) <|
  fa_cons (ok_iload_n (show decode (am_mB y_Table_putSpan) 8 = .ok (.iload_n 1, 1) by decide +kernel) rfl) <|
  fa_cons (ok_iast (show decode (am_mB y_Table_putSpan) 9 = .ok (.iastore, 1) by decide +kernel)) <|
  fa_cons (ok_aload_n (show decode (am_mB y_Table_putSpan) 10 = .ok (.aload_n 0, 1) by decide +kernel) rfl) <|
  fa_cons (ok_getR (show decode (am_mB y_Table_putSpan) 11 = .ok (.getfield 28, 3) by decide +kernel) fl_Table_28 (by decide +kernel)) <|
  fa_cons (ok_aload_n (show decode (am_mB y_Table_putSpan) 14 = .ok (.aload_n 0, 1) by decide +kernel) rfl) <|
  fa_cons (ok_getI (show decode (am_mB y_Table_putSpan) 15 = .ok (.getfield 47, 3) by decide +kernel) fl_Table_47 (by decide +kernel)) <|
  fa_cons (ok_iload_n (show decode (am_mB y_Table_putSpan) 18 = .ok (.iload_n 2, 1) by decide +kernel) rfl) <|
  fa_cons (ok_iast (show decode (am_mB y_Table_putSpan) 19 = .ok (.iastore, 1) by decide +kernel)) <|
  fa_cons (ok_aload_n (show decode (am_mB y_Table_putSpan) 20 = .ok (.aload_n 0, 1) by decide +kernel) rfl) <|
  fa_cons (ok_getR (show decode (am_mB y_Table_putSpan) 21 = .ok (.getfield 31, 3) by decide +kernel) fl_Table_31 (by decide +kernel)) <|
  fa_cons (ok_aload_n (show decode (am_mB y_Table_putSpan) 24 = .ok (.aload_n 0, 1) by decide +kernel) rfl) <|
  fa_cons (ok_getI (show decode (am_mB y_Table_putSpan) 25 = .ok (.getfield 47, 3) by decide +kernel) fl_Table_47 (by decide +kernel)) <|
  fa_cons (ok_iload_n (show decode (am_mB y_Table_putSpan) 28 = .ok (.iload_n 3, 1) by decide +kernel) rfl) <|
  fa_cons (ok_zast (show decode (am_mB y_Table_putSpan) 29 = .ok (.bastore, 1) by decide +kernel)) <|
  fa_cons (ok_aload_n (show decode (am_mB y_Table_putSpan) 30 = .ok (.aload_n 0, 1) by decide +kernel) rfl) <|
  fa_cons (ok_dup (show decode (am_mB y_Table_putSpan) 31 = .ok (.dup, 1) by decide +kernel)) <|
  fa_cons (ok_getI (show decode (am_mB y_Table_putSpan) 32 = .ok (.getfield 47, 3) by decide +kernel) fl_Table_47 (by decide +kernel)) <|
  fa_cons (ok_iconst (show decode (am_mB y_Table_putSpan) 35 = .ok (.iconst 1, 1) by decide +kernel) rfl) <|
  fa_cons (ok_iadd (show decode (am_mB y_Table_putSpan) 36 = .ok (.iadd, 1) by decide +kernel)) <|
  fa_cons (ok_putI (show decode (am_mB y_Table_putSpan) 37 = .ok (.putfield 47, 3) by decide +kernel) fl_Table_47 (by decide +kernel)) <|
  fa_cons (ok_vret (show decode (am_mB y_Table_putSpan) 40 = .ok (.return_, 1) by decide +kernel) rfl (by decide +kernel)) <|
  fa_nil
set_option maxRecDepth 100000 in
theorem cq_Table_putSpan (l : Launch) (d : Nat) : am_lk (co_Table_putSpan l d) 0 = am_aload 0 1 ∧ am_lk (co_Table_putSpan l d) 1 = am_getR 7 9 4 ∧ am_lk (co_Table_putSpan l d) 4 = am_aload 0 5 ∧ am_lk (co_Table_putSpan l d) 5 = am_getI 7 2 8 ∧ am_lk (co_Table_putSpan l d) 8 = am_iload 1 9 ∧ am_lk (co_Table_putSpan l d) 9 = am_ast 0 (fun x => x) 10 ∧ am_lk (co_Table_putSpan l d) 10 = am_aload 0 11 ∧ am_lk (co_Table_putSpan l d) 11 = am_getR 7 10 14 ∧ am_lk (co_Table_putSpan l d) 14 = am_aload 0 15 ∧ am_lk (co_Table_putSpan l d) 15 = am_getI 7 2 18 ∧ am_lk (co_Table_putSpan l d) 18 = am_iload 2 19 ∧ am_lk (co_Table_putSpan l d) 19 = am_ast 0 (fun x => x) 20 ∧ am_lk (co_Table_putSpan l d) 20 = am_aload 0 21 ∧ am_lk (co_Table_putSpan l d) 21 = am_getR 7 11 24 ∧ am_lk (co_Table_putSpan l d) 24 = am_aload 0 25 ∧ am_lk (co_Table_putSpan l d) 25 = am_getI 7 2 28 ∧ am_lk (co_Table_putSpan l d) 28 = am_iload 3 29 ∧ am_lk (co_Table_putSpan l d) 29 = am_ast 1 (vp_nar .boolean) 30 ∧ am_lk (co_Table_putSpan l d) 30 = am_aload 0 31 ∧ am_lk (co_Table_putSpan l d) 31 = am_dup 32 ∧ am_lk (co_Table_putSpan l d) 32 = am_getI 7 2 35 ∧ am_lk (co_Table_putSpan l d) 35 = am_push (vI 1) 36 ∧ am_lk (co_Table_putSpan l d) 36 = am_iadd 37 ∧ am_lk (co_Table_putSpan l d) 37 = am_putI 7 2 40 ∧ am_lk (co_Table_putSpan l d) 40 = am_vret := ⟨rfl, rfl, rfl, rfl, rfl, rfl, rfl, rfl, rfl, rfl, rfl, rfl, rfl, rfl, rfl, rfl, rfl, rfl, rfl, rfl, rfl, rfl, rfl, rfl, rfl⟩
theorem en_Table_putSpan {l : Launch} {d : Nat} (n : Nat) {as : List am_V} {G : am_G} {I : am_I} {J : am_J} {P : am_P} (hlen : (as.map am_cat).sum ≤ 4) (h : am_go (am_lk (co_Table_putSpan l d)) (am_X l (0, fun _ => 0) (d + 1) y_Table_putSpan P) P n 0 (am_el 4 as) [] 0 0 G I J) : am_T l (d + 1) y_Table_putSpan as G I J P :=
  am_T_of (sc := (0, fun _ => 0)) cf_Table_putSpan (by decide +kernel) (by decide) (by decide +kernel) hlen (am_run (ok_lk _ (ck_Table_putSpan)) n _ _ _ _ _ _ _ _ h)
theorem rn_Table_putSpan {l : Launch} {sc : Nat × (Nat → Int32)} {d : Nat} {P : am_P} (n : Nat) {pc : Nat} {ls : am_L} {st : List am_V} {kc ks : Nat} {G : am_G} {I : am_I} {J : am_J} (h : am_go (am_lk (co_Table_putSpan l d)) (am_X l sc (d + 1) y_Table_putSpan P) P n pc ls st kc ks G I J) : am_X l sc (d + 1) y_Table_putSpan P pc ls st kc ks G I J := am_run (ok_lk _ (ck_Table_putSpan)) n _ _ _ _ _ _ _ _ h
def co_Table_dropSpan (l : Launch) (d : Nat) : List (Nat × am_S) := [(0, am_aload 0 1), (1, am_dup 2), (2, am_getI 7 2 5), (5, am_push (vI 1) 6), (6, am_isub 7), (7, am_putI 7 2 10), (10, am_iload 1 11), (11, am_stp (am_istore 2 12)), (12, am_iload 2 13), (13, am_aload 0 14), (14, am_getI 7 2 17), (17, am_icmp_ge 20 68), (20, am_aload 0 21), (21, am_getR 7 9 24), (24, am_iload 2 25), (25, am_aload 0 26), (26, am_getR 7 9 29), (29, am_iload 2 30), (30, am_push (vI 1) 31), (31, am_iadd 32), (32, am_ald 0 33), (33, am_ast 0 (fun x => x) 34), (34, am_aload 0 35), (35, am_getR 7 10 38), (38, am_iload 2 39), (39, am_aload 0 40), (40, am_getR 7 10 43), (43, am_iload 2 44), (44, am_push (vI 1) 45), (45, am_iadd 46), (46, am_ald 0 47), (47, am_ast 0 (fun x => x) 48), (48, am_aload 0 49), (49, am_getR 7 11 52), (52, am_iload 2 53), (53, am_aload 0 54), (54, am_getR 7 11 57), (57, am_iload 2 58), (58, am_push (vI 1) 59), (59, am_iadd 60), (60, am_ald 1 61), (61, am_ast 1 (vp_nar .boolean) 62), (62, am_iinc 2 1 65), (65, am_stp (am_goto 12)), (68, am_vret)]
theorem ck_Table_dropSpan {l : Launch} {sc : Nat × (Nat → Int32)} {d : Nat} : ∀ q ∈ co_Table_dropSpan l d, am_ok l sc (d + 1) y_Table_dropSpan q.1 q.2 :=
  fa_cons (ok_aload_n (show decode (am_mB y_Table_dropSpan) 0 = .ok (.aload_n 0, 1) by decide +kernel) rfl) <|
  fa_cons (ok_dup (show decode (am_mB y_Table_dropSpan) 1 = .ok (.dup, 1) by decide +kernel)) <|
  fa_cons (ok_getI (show decode (am_mB y_Table_dropSpan) 2 = .ok (.getfield 47, 3) by decide +kernel) fl_Table_47 (by decide +kernel)) <|
  fa_cons (ok_iconst (show decode (am_mB y_Table_dropSpan) 5 = .ok (.iconst 1, 1) by decide +kernel) rfl) <|
  fa_cons (ok_isub (show decode (am_mB y_Table_dropSpan) 6 = .ok (.isub, 1) by decide +kernel)) <|
  fa_cons (ok_putI (show decode (am_mB y_Table_dropSpan) 7 = .ok (.putfield 47, 3) by decide +kernel) fl_Table_47 (by decide +kernel)) <|
  fa_cons (ok_iload_n (show decode (am_mB y_Table_dropSpan) 10 = .ok (.iload_n 1, 1) by decide +kernel) rfl) <|
  fa_cons (ok_stp (σ := am_istore 2 12) (ok_istore_n (show decode (am_mB y_Table_dropSpan) 11 = .ok (.istore_n 2, 1) by decide +kernel) rfl (by decide +kernel))) <|
  fa_cons (ok_iload_n (show decode (am_mB y_Table_dropSpan) 12 = .ok (.iload_n 2, 1) by decide +kernel) rfl) <|
  fa_cons (ok_aload_n (show decode (am_mB y_Table_dropSpan) 13 = .ok (.aload_n 0, 1) by decide +kernel) rfl) <|
  fa_cons (ok_getI (show decode (am_mB y_Table_dropSpan) 14 = .ok (.getfield 47, 3) by decide +kernel) fl_Table_47 (by decide +kernel)) <|
  fa_cons (ok_icmp_ge (show decode (am_mB y_Table_dropSpan) 17 = .ok (.if_icmp .ge 51, 3) by decide +kernel) (by decide)) <|
  fa_cons (ok_aload_n (show decode (am_mB y_Table_dropSpan) 20 = .ok (.aload_n 0, 1) by decide +kernel) rfl) <|
  fa_cons (ok_getR (show decode (am_mB y_Table_dropSpan) 21 = .ok (.getfield 25, 3) by decide +kernel) fl_Table_25 (by decide +kernel)) <|
  fa_cons (ok_iload_n (show decode (am_mB y_Table_dropSpan) 24 = .ok (.iload_n 2, 1) by decide +kernel) rfl) <|
  fa_cons (ok_aload_n (show decode (am_mB y_Table_dropSpan) 25 = .ok (.aload_n 0, 1) by decide +kernel) rfl) <|
  fa_cons (ok_getR (show decode (am_mB y_Table_dropSpan) 26 = .ok (.getfield 25, 3) by decide +kernel) fl_Table_25 (by decide +kernel)) <|
  fa_cons (ok_iload_n (show decode (am_mB y_Table_dropSpan) 29 = .ok (.iload_n 2, 1) by decide +kernel) rfl) <|
  fa_cons (ok_iconst (show decode (am_mB y_Table_dropSpan) 30 = .ok (.iconst 1, 1) by decide +kernel) rfl) <|
  fa_cons (ok_iadd (show decode (am_mB y_Table_dropSpan) 31 = .ok (.iadd, 1) by decide +kernel)) <|
  fa_cons (ok_iald (show decode (am_mB y_Table_dropSpan) 32 = .ok (.iaload, 1) by decide +kernel)) <|
  fa_cons (ok_iast (show decode (am_mB y_Table_dropSpan) 33 = .ok (.iastore, 1) by decide +kernel)) <|
  fa_cons (ok_aload_n (show decode (am_mB y_Table_dropSpan) 34 = .ok (.aload_n 0, 1) by decide +kernel) rfl) <|
  fa_cons (ok_getR (show decode (am_mB y_Table_dropSpan) 35 = .ok (.getfield 28, 3) by decide +kernel) fl_Table_28 (by decide +kernel)) <|
  fa_cons (ok_iload_n (show decode (am_mB y_Table_dropSpan) 38 = .ok (.iload_n 2, 1) by decide +kernel) rfl) <|
  fa_cons (ok_aload_n (show decode (am_mB y_Table_dropSpan) 39 = .ok (.aload_n 0, 1) by decide +kernel) rfl) <|
  fa_cons (ok_getR (show decode (am_mB y_Table_dropSpan) 40 = .ok (.getfield 28, 3) by decide +kernel) fl_Table_28 (by decide +kernel)) <|
  fa_cons (ok_iload_n (show decode (am_mB y_Table_dropSpan) 43 = .ok (.iload_n 2, 1) by decide +kernel) rfl) <|
  fa_cons (ok_iconst (show decode (am_mB y_Table_dropSpan) 44 = .ok (.iconst 1, 1) by decide +kernel) rfl) <|
  fa_cons (ok_iadd (show decode (am_mB y_Table_dropSpan) 45 = .ok (.iadd, 1) by decide +kernel)) <|
  fa_cons (ok_iald (show decode (am_mB y_Table_dropSpan) 46 = .ok (.iaload, 1) by decide +kernel)) <|
  fa_cons (ok_iast (show decode (am_mB y_Table_dropSpan) 47 = .ok (.iastore, 1) by decide +kernel)) <|
  fa_cons (ok_aload_n (show decode (am_mB y_Table_dropSpan) 48 = .ok (.aload_n 0, 1) by decide +kernel) rfl) <|
  fa_cons (ok_getR (show decode (am_mB y_Table_dropSpan) 49 = .ok (.getfield 31, 3) by decide +kernel) fl_Table_31 (by decide +kernel)) <|
  fa_cons (ok_iload_n (show decode (am_mB y_Table_dropSpan) 52 = .ok (.iload_n 2, 1) by decide +kernel) rfl) <|
  fa_cons (ok_aload_n (show decode (am_mB y_Table_dropSpan) 53 = .ok (.aload_n 0, 1) by decide +kernel) rfl) <|
  fa_cons (ok_getR (show decode (am_mB y_Table_dropSpan) 54 = .ok (.getfield 31, 3) by decide +kernel) fl_Table_31 (by decide +kernel)) <|
  fa_cons (ok_iload_n (show decode (am_mB y_Table_dropSpan) 57 = .ok (.iload_n 2, 1) by decide +kernel) rfl) <|
  fa_cons (ok_iconst (show decode (am_mB y_Table_dropSpan) 58 = .ok (.iconst 1, 1) by decide +kernel) rfl) <|
  fa_cons (ok_iadd (show decode (am_mB y_Table_dropSpan) 59 = .ok (.iadd, 1) by decide +kernel)) <|
  fa_cons (ok_zald (show decode (am_mB y_Table_dropSpan) 60 = .ok (.baload, 1) by decide +kernel)) <|
  fa_cons (ok_zast (show decode (am_mB y_Table_dropSpan) 61 = .ok (.bastore, 1) by decide +kernel)) <|
  fa_cons (ok_iinc (show decode (am_mB y_Table_dropSpan) 62 = .ok (.iinc 2 1, 3) by decide +kernel) (by decide +kernel) (by decide +kernel)) <|
  fa_cons (ok_stp (σ := am_goto 12) (ok_goto (show decode (am_mB y_Table_dropSpan) 65 = .ok (.goto (-53), 3) by decide +kernel) (by decide))) <|
  fa_cons (ok_vret (show decode (am_mB y_Table_dropSpan) 68 = .ok (.return_, 1) by decide +kernel) rfl (by decide +kernel)) <|
  fa_nil
set_option maxRecDepth 100000 in
theorem cq_Table_dropSpan (l : Launch) (d : Nat) : am_lk (co_Table_dropSpan l d) 0 = am_aload 0 1 ∧ am_lk (co_Table_dropSpan l d) 1 = am_dup 2 ∧ am_lk (co_Table_dropSpan l d) 2 = am_getI 7 2 5 ∧ am_lk (co_Table_dropSpan l d) 5 = am_push (vI 1) 6 ∧ am_lk (co_Table_dropSpan l d) 6 = am_isub 7 ∧ am_lk (co_Table_dropSpan l d) 7 = am_putI 7 2 10 ∧ am_lk (co_Table_dropSpan l d) 10 = am_iload 1 11 ∧ am_lk (co_Table_dropSpan l d) 11 = am_stp (am_istore 2 12) ∧ am_lk (co_Table_dropSpan l d) 12 = am_iload 2 13 ∧ am_lk (co_Table_dropSpan l d) 13 = am_aload 0 14 ∧ am_lk (co_Table_dropSpan l d) 14 = am_getI 7 2 17 ∧ am_lk (co_Table_dropSpan l d) 17 = am_icmp_ge 20 68 ∧ am_lk (co_Table_dropSpan l d) 20 = am_aload 0 21 ∧ am_lk (co_Table_dropSpan l d) 21 = am_getR 7 9 24 ∧ am_lk (co_Table_dropSpan l d) 24 = am_iload 2 25 ∧ am_lk (co_Table_dropSpan l d) 25 = am_aload 0 26 ∧ am_lk (co_Table_dropSpan l d) 26 = am_getR 7 9 29 ∧ am_lk (co_Table_dropSpan l d) 29 = am_iload 2 30 ∧ am_lk (co_Table_dropSpan l d) 30 = am_push (vI 1) 31 ∧ am_lk (co_Table_dropSpan l d) 31 = am_iadd 32 ∧ am_lk (co_Table_dropSpan l d) 32 = am_ald 0 33 ∧ am_lk (co_Table_dropSpan l d) 33 = am_ast 0 (fun x => x) 34 ∧ am_lk (co_Table_dropSpan l d) 34 = am_aload 0 35 ∧ am_lk (co_Table_dropSpan l d) 35 = am_getR 7 10 38 ∧ am_lk (co_Table_dropSpan l d) 38 = am_iload 2 39 ∧ am_lk (co_Table_dropSpan l d) 39 = am_aload 0 40 ∧ am_lk (co_Table_dropSpan l d) 40 = am_getR 7 10 43 ∧ am_lk (co_Table_dropSpan l d) 43 = am_iload 2 44 ∧ am_lk (co_Table_dropSpan l d) 44 = am_push (vI 1) 45 ∧ am_lk (co_Table_dropSpan l d) 45 = am_iadd 46 ∧ am_lk (co_Table_dropSpan l d) 46 = am_ald 0 47 ∧ am_lk (co_Table_dropSpan l d) 47 = am_ast 0 (fun x => x) 48 ∧ am_lk (co_Table_dropSpan l d) 48 = am_aload 0 49 ∧ am_lk (co_Table_dropSpan l d) 49 = am_getR 7 11 52 ∧ am_lk (co_Table_dropSpan l d) 52 = am_iload 2 53 ∧ am_lk (co_Table_dropSpan l d) 53 = am_aload 0 54 ∧ am_lk (co_Table_dropSpan l d) 54 = am_getR 7 11 57 ∧ am_lk (co_Table_dropSpan l d) 57 = am_iload 2 58 ∧ am_lk (co_Table_dropSpan l d) 58 = am_push (vI 1) 59 ∧ am_lk (co_Table_dropSpan l d) 59 = am_iadd 60 ∧ am_lk (co_Table_dropSpan l d) 60 = am_ald 1 61 ∧ am_lk (co_Table_dropSpan l d) 61 = am_ast 1 (vp_nar .boolean) 62 ∧ am_lk (co_Table_dropSpan l d) 62 = am_iinc 2 1 65 ∧ am_lk (co_Table_dropSpan l d) 65 = am_stp (am_goto 12) ∧ am_lk (co_Table_dropSpan l d) 68 = am_vret := ⟨rfl, rfl, rfl, rfl, rfl, rfl, rfl, rfl, rfl, rfl, rfl, rfl, rfl, rfl, rfl, rfl, rfl, rfl, rfl, rfl, rfl, rfl, rfl, rfl, rfl, rfl, rfl, rfl, rfl, rfl, rfl, rfl, rfl, rfl, rfl, rfl, rfl, rfl, rfl, rfl, rfl, rfl, rfl, rfl, rfl⟩
theorem en_Table_dropSpan {l : Launch} {d : Nat} (n : Nat) {as : List am_V} {G : am_G} {I : am_I} {J : am_J} {P : am_P} (hlen : (as.map am_cat).sum ≤ 3) (h : am_go (am_lk (co_Table_dropSpan l d)) (am_X l (0, fun _ => 0) (d + 1) y_Table_dropSpan P) P n 0 (am_el 3 as) [] 0 0 G I J) : am_T l (d + 1) y_Table_dropSpan as G I J P :=
  am_T_of (sc := (0, fun _ => 0)) cf_Table_dropSpan (by decide +kernel) (by decide) (by decide +kernel) hlen (am_run (ok_lk _ (ck_Table_dropSpan)) n _ _ _ _ _ _ _ _ h)
theorem rn_Table_dropSpan {l : Launch} {sc : Nat × (Nat → Int32)} {d : Nat} {P : am_P} (n : Nat) {pc : Nat} {ls : am_L} {st : List am_V} {kc ks : Nat} {G : am_G} {I : am_I} {J : am_J} (h : am_go (am_lk (co_Table_dropSpan l d)) (am_X l sc (d + 1) y_Table_dropSpan P) P n pc ls st kc ks G I J) : am_X l sc (d + 1) y_Table_dropSpan P pc ls st kc ks G I J := am_run (ok_lk _ (ck_Table_dropSpan)) n _ _ _ _ _ _ _ _ h
def co_Table_cutRows (l : Launch) (d : Nat) : List (Nat × am_S) := [(0, am_aload 0 1), (1, am_getI 7 1 4), (4, am_if_ne 7 9), (7, am_push (vI 0) 8), (8, am_iret false), (9, am_aload 0 10), (10, am_getI 7 1 13), (13, am_push (vI 1) 14), (14, am_isub 15), (15, am_cal l d y_Table_upTo none 1 18 0 0 0 0), (18, am_istore 1 19), (19, am_push (vI 0) 20), (20, am_stp (am_istore 2 21)), (21, am_iload 2 22), (22, am_aload 0 23), (23, am_getI 7 1 26), (26, am_icmp_ge 29 52), (29, am_aload 0 30), (30, am_getR 7 7 33), (33, am_iload 2 34), (34, am_ald 1 35), (35, am_if_eq 38 46), (38, am_iload 1 39), (39, am_push (vI 1) 40), (40, am_iload 2 41), (41, am_ishl 42), (42, am_push (vI (-1)) 43), (43, am_ixor 44), (44, am_iand 45), (45, am_istore 1 46), (46, am_iinc 2 1 49), (49, am_stp (am_goto 21)), (52, am_push (vI 0) 53), (53, am_stp (am_istore 2 54)), (54, am_iload 2 55), (55, am_aload 0 56), (56, am_getI 7 2 59), (59, am_icmp_ge 62 103), (62, am_aload 0 63), (63, am_getR 7 11 66), (66, am_iload 2 67), (67, am_ald 1 68), (68, am_if_ne 71 97), (71, am_iload 1 72), (72, am_aload 0 73), (73, am_getR 7 10 76), (76, am_iload 2 77), (77, am_ald 0 78), (78, am_cal l d y_Table_upTo none 1 81 0 0 0 0), (81, am_aload 0 82), (82, am_getR 7 9 85), (85, am_iload 2 86), (86, am_ald 0 87), (87, am_cal l d y_Table_upTo none 1 90 0 0 0 0), (90, am_push (vI (-1)) 91), (91, am_ixor 92), (92, am_iand 93), (93, am_push (vI (-1)) 94), (94, am_ixor 95), (95, am_iand 96), (96, am_istore 1 97), (97, am_iinc 2 1 100), (100, am_stp (am_goto 54)), (103, am_iload 1 104), (104, am_iret false)]
theorem ck_Table_cutRows {l : Launch} {sc : Nat × (Nat → Int32)} {d : Nat} : ∀ q ∈ co_Table_cutRows l d, am_ok l sc (d + 1) y_Table_cutRows q.1 q.2 :=
  fa_cons (ok_aload_n (show decode (am_mB y_Table_cutRows) 0 = .ok (.aload_n 0, 1) by decide +kernel) rfl) <|
  fa_cons (ok_getI (show decode (am_mB y_Table_cutRows) 1 = .ok (.getfield 44, 3) by decide +kernel) fl_Table_44 (by decide +kernel)) <|
  fa_cons (ok_if_ne (show decode (am_mB y_Table_cutRows) 4 = .ok (.ifCond .ne 5, 3) by decide +kernel) (by decide)) <|
  fa_cons (ok_iconst (show decode (am_mB y_Table_cutRows) 7 = .ok (.iconst 0, 1) by decide +kernel) rfl) <|
  fa_cons (ok_iret (show decode (am_mB y_Table_cutRows) 8 = .ok (.ireturn, 1) by decide +kernel) rfl) <|
  fa_cons (ok_aload_n (show decode (am_mB y_Table_cutRows) 9 = .ok (.aload_n 0, 1) by decide +kernel) rfl) <|
  fa_cons (ok_getI (show decode (am_mB y_Table_cutRows) 10 = .ok (.getfield 44, 3) by decide +kernel) fl_Table_44 (by decide +kernel)) <|
  fa_cons (ok_iconst (show decode (am_mB y_Table_cutRows) 13 = .ok (.iconst 1, 1) by decide +kernel) rfl) <|
  fa_cons (ok_isub (show decode (am_mB y_Table_cutRows) 14 = .ok (.isub, 1) by decide +kernel)) <|
  fa_cons (ok_cal ⟨rfl, rfl, rfl, rfl⟩ (ok_callS (show decode (am_mB y_Table_cutRows) 15 = .ok (.invokestatic 78, 3) by decide +kernel) cf_Table_upTo (by decide +kernel) ml_Table_78 cs_Table_upTo rfl ⟨by decide +kernel, rfl⟩ (Or.inl (by decide +kernel)))) <|
  fa_cons (ok_istore_n (show decode (am_mB y_Table_cutRows) 18 = .ok (.istore_n 1, 1) by decide +kernel) rfl (by decide +kernel)) <|
  fa_cons (ok_iconst (show decode (am_mB y_Table_cutRows) 19 = .ok (.iconst 0, 1) by decide +kernel) rfl) <|
  fa_cons (ok_stp (σ := am_istore 2 21) (ok_istore_n (show decode (am_mB y_Table_cutRows) 20 = .ok (.istore_n 2, 1) by decide +kernel) rfl (by decide +kernel))) <|
  fa_cons (ok_iload_n (show decode (am_mB y_Table_cutRows) 21 = .ok (.iload_n 2, 1) by decide +kernel) rfl) <|
  fa_cons (ok_aload_n (show decode (am_mB y_Table_cutRows) 22 = .ok (.aload_n 0, 1) by decide +kernel) rfl) <|
  fa_cons (ok_getI (show decode (am_mB y_Table_cutRows) 23 = .ok (.getfield 44, 3) by decide +kernel) fl_Table_44 (by decide +kernel)) <|
  fa_cons (ok_icmp_ge (show decode (am_mB y_Table_cutRows) 26 = .ok (.if_icmp .ge 26, 3) by decide +kernel) (by decide)) <|
  fa_cons (ok_aload_n (show decode (am_mB y_Table_cutRows) 29 = .ok (.aload_n 0, 1) by decide +kernel) rfl) <|
  fa_cons (ok_getR (show decode (am_mB y_Table_cutRows) 30 = .ok (.getfield 18, 3) by decide +kernel) fl_Table_18 (by decide +kernel)) <|
  fa_cons (ok_iload_n (show decode (am_mB y_Table_cutRows) 33 = .ok (.iload_n 2, 1) by decide +kernel) rfl) <|
  fa_cons (ok_zald (show decode (am_mB y_Table_cutRows) 34 = .ok (.baload, 1) by decide +kernel)) <|
  fa_cons (ok_if_eq (show decode (am_mB y_Table_cutRows) 35 = .ok (.ifCond .eq 11, 3) by decide +kernel) (by decide)) <|
  fa_cons (ok_iload_n (show decode (am_mB y_Table_cutRows) 38 = .ok (.iload_n 1, 1) by decide +kernel) rfl) <|
  fa_cons (ok_iconst (show decode (am_mB y_Table_cutRows) 39 = .ok (.iconst 1, 1) by decide +kernel) rfl) <|
  fa_cons (ok_iload_n (show decode (am_mB y_Table_cutRows) 40 = .ok (.iload_n 2, 1) by decide +kernel) rfl) <|
  fa_cons (ok_ishl (show decode (am_mB y_Table_cutRows) 41 = .ok (.ishl, 1) by decide +kernel)) <|
  fa_cons (ok_iconst (show decode (am_mB y_Table_cutRows) 42 = .ok (.iconst (-1), 1) by decide +kernel) rfl) <|
  fa_cons (ok_ixor (show decode (am_mB y_Table_cutRows) 43 = .ok (.ixor, 1) by decide +kernel)) <|
  fa_cons (ok_iand (show decode (am_mB y_Table_cutRows) 44 = .ok (.iand, 1) by decide +kernel)) <|
  fa_cons (ok_istore_n (show decode (am_mB y_Table_cutRows) 45 = .ok (.istore_n 1, 1) by decide +kernel) rfl (by decide +kernel)) <|
  fa_cons (ok_iinc (show decode (am_mB y_Table_cutRows) 46 = .ok (.iinc 2 1, 3) by decide +kernel) (by decide +kernel) (by decide +kernel)) <|
  fa_cons (ok_stp (σ := am_goto 21) (ok_goto (show decode (am_mB y_Table_cutRows) 49 = .ok (.goto (-28), 3) by decide +kernel) (by decide))) <|
  fa_cons (ok_iconst (show decode (am_mB y_Table_cutRows) 52 = .ok (.iconst 0, 1) by decide +kernel) rfl) <|
  fa_cons (ok_stp (σ := am_istore 2 54) (ok_istore_n (show decode (am_mB y_Table_cutRows) 53 = .ok (.istore_n 2, 1) by decide +kernel) rfl (by decide +kernel))) <|
  fa_cons (ok_iload_n (show decode (am_mB y_Table_cutRows) 54 = .ok (.iload_n 2, 1) by decide +kernel) rfl) <|
  fa_cons (ok_aload_n (show decode (am_mB y_Table_cutRows) 55 = .ok (.aload_n 0, 1) by decide +kernel) rfl) <|
  fa_cons (ok_getI (show decode (am_mB y_Table_cutRows) 56 = .ok (.getfield 47, 3) by decide +kernel) fl_Table_47 (by decide +kernel)) <|
  fa_cons (ok_icmp_ge (show decode (am_mB y_Table_cutRows) 59 = .ok (.if_icmp .ge 44, 3) by decide +kernel) (by decide)) <|
  fa_cons (ok_aload_n (show decode (am_mB y_Table_cutRows) 62 = .ok (.aload_n 0, 1) by decide +kernel) rfl) <|
  fa_cons (ok_getR (show decode (am_mB y_Table_cutRows) 63 = .ok (.getfield 31, 3) by decide +kernel) fl_Table_31 (by decide +kernel)) <|
  fa_cons (ok_iload_n (show decode (am_mB y_Table_cutRows) 66 = .ok (.iload_n 2, 1) by decide +kernel) rfl) <|
  fa_cons (ok_zald (show decode (am_mB y_Table_cutRows) 67 = .ok (.baload, 1) by decide +kernel)) <|
  fa_cons (ok_if_ne (show decode (am_mB y_Table_cutRows) 68 = .ok (.ifCond .ne 29, 3) by decide +kernel) (by decide)) <|
  fa_cons (ok_iload_n (show decode (am_mB y_Table_cutRows) 71 = .ok (.iload_n 1, 1) by decide +kernel) rfl) <|
  fa_cons (ok_aload_n (show decode (am_mB y_Table_cutRows) 72 = .ok (.aload_n 0, 1) by decide +kernel) rfl) <|
  fa_cons (ok_getR (show decode (am_mB y_Table_cutRows) 73 = .ok (.getfield 28, 3) by decide +kernel) fl_Table_28 (by decide +kernel)) <|
  fa_cons (ok_iload_n (show decode (am_mB y_Table_cutRows) 76 = .ok (.iload_n 2, 1) by decide +kernel) rfl) <|
  fa_cons (ok_iald (show decode (am_mB y_Table_cutRows) 77 = .ok (.iaload, 1) by decide +kernel)) <|
  fa_cons (ok_cal ⟨rfl, rfl, rfl, rfl⟩ (ok_callS (show decode (am_mB y_Table_cutRows) 78 = .ok (.invokestatic 78, 3) by decide +kernel) cf_Table_upTo (by decide +kernel) ml_Table_78 cs_Table_upTo rfl ⟨by decide +kernel, rfl⟩ (Or.inl (by decide +kernel)))) <|
  fa_cons (ok_aload_n (show decode (am_mB y_Table_cutRows) 81 = .ok (.aload_n 0, 1) by decide +kernel) rfl) <|
  fa_cons (ok_getR (show decode (am_mB y_Table_cutRows) 82 = .ok (.getfield 25, 3) by decide +kernel) fl_Table_25 (by decide +kernel)) <|
  fa_cons (ok_iload_n (show decode (am_mB y_Table_cutRows) 85 = .ok (.iload_n 2, 1) by decide +kernel) rfl) <|
  fa_cons (ok_iald (show decode (am_mB y_Table_cutRows) 86 = .ok (.iaload, 1) by decide +kernel)) <|
  fa_cons (ok_cal ⟨rfl, rfl, rfl, rfl⟩ (ok_callS (show decode (am_mB y_Table_cutRows) 87 = .ok (.invokestatic 78, 3) by decide +kernel) cf_Table_upTo (by decide +kernel) ml_Table_78 cs_Table_upTo rfl ⟨by decide +kernel, rfl⟩ (Or.inl (by decide +kernel)))) <|
  fa_cons (ok_iconst (show decode (am_mB y_Table_cutRows) 90 = .ok (.iconst (-1), 1) by decide +kernel) rfl) <|
  fa_cons (ok_ixor (show decode (am_mB y_Table_cutRows) 91 = .ok (.ixor, 1) by decide +kernel)) <|
  fa_cons (ok_iand (show decode (am_mB y_Table_cutRows) 92 = .ok (.iand, 1) by decide +kernel)) <|
  fa_cons (ok_iconst (show decode (am_mB y_Table_cutRows) 93 = .ok (.iconst (-1), 1) by decide +kernel) rfl) <|
  fa_cons (ok_ixor (show decode (am_mB y_Table_cutRows) 94 = .ok (.ixor, 1) by decide +kernel)) <|
  fa_cons (ok_iand (show decode (am_mB y_Table_cutRows) 95 = .ok (.iand, 1) by decide +kernel)) <|
  fa_cons (ok_istore_n (show decode (am_mB y_Table_cutRows) 96 = .ok (.istore_n 1, 1) by decide +kernel) rfl (by decide +kernel)) <|
  fa_cons (ok_iinc (show decode (am_mB y_Table_cutRows) 97 = .ok (.iinc 2 1, 3) by decide +kernel) (by decide +kernel) (by decide +kernel)) <|
  fa_cons (ok_stp (σ := am_goto 54) (ok_goto (show decode (am_mB y_Table_cutRows) 100 = .ok (.goto (-46), 3) by decide +kernel) (by decide))) <|
  fa_cons (ok_iload_n (show decode (am_mB y_Table_cutRows) 103 = .ok (.iload_n 1, 1) by decide +kernel) rfl) <|
  fa_cons (ok_iret (show decode (am_mB y_Table_cutRows) 104 = .ok (.ireturn, 1) by decide +kernel) rfl) <|
  fa_nil
set_option maxRecDepth 100000 in
theorem cq_Table_cutRows (l : Launch) (d : Nat) : am_lk (co_Table_cutRows l d) 0 = am_aload 0 1 ∧ am_lk (co_Table_cutRows l d) 1 = am_getI 7 1 4 ∧ am_lk (co_Table_cutRows l d) 4 = am_if_ne 7 9 ∧ am_lk (co_Table_cutRows l d) 7 = am_push (vI 0) 8 ∧ am_lk (co_Table_cutRows l d) 8 = am_iret false ∧ am_lk (co_Table_cutRows l d) 9 = am_aload 0 10 ∧ am_lk (co_Table_cutRows l d) 10 = am_getI 7 1 13 ∧ am_lk (co_Table_cutRows l d) 13 = am_push (vI 1) 14 ∧ am_lk (co_Table_cutRows l d) 14 = am_isub 15 ∧ am_lk (co_Table_cutRows l d) 15 = am_cal l d y_Table_upTo none 1 18 0 0 0 0 ∧ am_lk (co_Table_cutRows l d) 18 = am_istore 1 19 ∧ am_lk (co_Table_cutRows l d) 19 = am_push (vI 0) 20 ∧ am_lk (co_Table_cutRows l d) 20 = am_stp (am_istore 2 21) ∧ am_lk (co_Table_cutRows l d) 21 = am_iload 2 22 ∧ am_lk (co_Table_cutRows l d) 22 = am_aload 0 23 ∧ am_lk (co_Table_cutRows l d) 23 = am_getI 7 1 26 ∧ am_lk (co_Table_cutRows l d) 26 = am_icmp_ge 29 52 ∧ am_lk (co_Table_cutRows l d) 29 = am_aload 0 30 ∧ am_lk (co_Table_cutRows l d) 30 = am_getR 7 7 33 ∧ am_lk (co_Table_cutRows l d) 33 = am_iload 2 34 ∧ am_lk (co_Table_cutRows l d) 34 = am_ald 1 35 ∧ am_lk (co_Table_cutRows l d) 35 = am_if_eq 38 46 ∧ am_lk (co_Table_cutRows l d) 38 = am_iload 1 39 ∧ am_lk (co_Table_cutRows l d) 39 = am_push (vI 1) 40 ∧ am_lk (co_Table_cutRows l d) 40 = am_iload 2 41 ∧ am_lk (co_Table_cutRows l d) 41 = am_ishl 42 ∧ am_lk (co_Table_cutRows l d) 42 = am_push (vI (-1)) 43 ∧ am_lk (co_Table_cutRows l d) 43 = am_ixor 44 ∧ am_lk (co_Table_cutRows l d) 44 = am_iand 45 ∧ am_lk (co_Table_cutRows l d) 45 = am_istore 1 46 ∧ am_lk (co_Table_cutRows l d) 46 = am_iinc 2 1 49 ∧ am_lk (co_Table_cutRows l d) 49 = am_stp (am_goto 21) ∧ am_lk (co_Table_cutRows l d) 52 = am_push (vI 0) 53 ∧ am_lk (co_Table_cutRows l d) 53 = am_stp (am_istore 2 54) ∧ am_lk (co_Table_cutRows l d) 54 = am_iload 2 55 ∧ am_lk (co_Table_cutRows l d) 55 = am_aload 0 56 ∧ am_lk (co_Table_cutRows l d) 56 = am_getI 7 2 59 ∧ am_lk (co_Table_cutRows l d) 59 = am_icmp_ge 62 103 ∧ am_lk (co_Table_cutRows l d) 62 = am_aload 0 63 ∧ am_lk (co_Table_cutRows l d) 63 = am_getR 7 11 66 ∧ am_lk (co_Table_cutRows l d) 66 = am_iload 2 67 ∧ am_lk (co_Table_cutRows l d) 67 = am_ald 1 68 ∧ am_lk (co_Table_cutRows l d) 68 = am_if_ne 71 97 ∧ am_lk (co_Table_cutRows l d) 71 = am_iload 1 72 ∧ am_lk (co_Table_cutRows l d) 72 = am_aload 0 73 ∧ am_lk (co_Table_cutRows l d) 73 = am_getR 7 10 76 ∧ am_lk (co_Table_cutRows l d) 76 = am_iload 2 77 ∧ am_lk (co_Table_cutRows l d) 77 = am_ald 0 78 ∧ am_lk (co_Table_cutRows l d) 78 = am_cal l d y_Table_upTo none 1 81 0 0 0 0 ∧ am_lk (co_Table_cutRows l d) 81 = am_aload 0 82 ∧ am_lk (co_Table_cutRows l d) 82 = am_getR 7 9 85 ∧ am_lk (co_Table_cutRows l d) 85 = am_iload 2 86 ∧ am_lk (co_Table_cutRows l d) 86 = am_ald 0 87 ∧ am_lk (co_Table_cutRows l d) 87 = am_cal l d y_Table_upTo none 1 90 0 0 0 0 ∧ am_lk (co_Table_cutRows l d) 90 = am_push (vI (-1)) 91 ∧ am_lk (co_Table_cutRows l d) 91 = am_ixor 92 ∧ am_lk (co_Table_cutRows l d) 92 = am_iand 93 ∧ am_lk (co_Table_cutRows l d) 93 = am_push (vI (-1)) 94 ∧ am_lk (co_Table_cutRows l d) 94 = am_ixor 95 ∧ am_lk (co_Table_cutRows l d) 95 = am_iand 96 ∧ am_lk (co_Table_cutRows l d) 96 = am_istore 1 97 ∧ am_lk (co_Table_cutRows l d) 97 = am_iinc 2 1 100 ∧ am_lk (co_Table_cutRows l d) 100 = am_stp (am_goto 54) ∧ am_lk (co_Table_cutRows l d) 103 = am_iload 1 104 ∧ am_lk (co_Table_cutRows l d) 104 = am_iret false := ⟨rfl, rfl, rfl, rfl, rfl, rfl, rfl, rfl, rfl, rfl, rfl, rfl, rfl, rfl, rfl, rfl, rfl, rfl, rfl, rfl, rfl, rfl, rfl, rfl, rfl, rfl, rfl, rfl, rfl, rfl, rfl, rfl, rfl, rfl, rfl, rfl, rfl, rfl, rfl, rfl, rfl, rfl, rfl, rfl, rfl, rfl, rfl, rfl, rfl, rfl, rfl, rfl, rfl, rfl, rfl, rfl, rfl, rfl, rfl, rfl, rfl, rfl, rfl, rfl, rfl⟩
theorem en_Table_cutRows {l : Launch} {d : Nat} (n : Nat) {as : List am_V} {G : am_G} {I : am_I} {J : am_J} {P : am_P} (hlen : (as.map am_cat).sum ≤ 3) (h : am_go (am_lk (co_Table_cutRows l d)) (am_X l (0, fun _ => 0) (d + 1) y_Table_cutRows P) P n 0 (am_el 3 as) [] 0 0 G I J) : am_T l (d + 1) y_Table_cutRows as G I J P :=
  am_T_of (sc := (0, fun _ => 0)) cf_Table_cutRows (by decide +kernel) (by decide) (by decide +kernel) hlen (am_run (ok_lk _ (ck_Table_cutRows)) n _ _ _ _ _ _ _ _ h)
theorem rn_Table_cutRows {l : Launch} {sc : Nat × (Nat → Int32)} {d : Nat} {P : am_P} (n : Nat) {pc : Nat} {ls : am_L} {st : List am_V} {kc ks : Nat} {G : am_G} {I : am_I} {J : am_J} (h : am_go (am_lk (co_Table_cutRows l d)) (am_X l sc (d + 1) y_Table_cutRows P) P n pc ls st kc ks G I J) : am_X l sc (d + 1) y_Table_cutRows P pc ls st kc ks G I J := am_run (ok_lk _ (ck_Table_cutRows)) n _ _ _ _ _ _ _ _ h
def co_Table_endRows (l : Launch) (d : Nat) : List (Nat × am_S) := [(0, am_aload 0 1), (1, am_getI 7 1 4), (4, am_if_ne 7 11), (7, am_push (vI 0) 8), (8, am_goto 24), (11, am_aload 0 12), (12, am_cal l d y_Table_cutRows (some 7) 1 15 0 0 0 0), (15, am_push (vI 1) 16), (16, am_aload 0 17), (17, am_getI 7 1 20), (20, am_push (vI 1) 21), (21, am_isub 22), (22, am_ishl 23), (23, am_ior 24), (24, am_iret false)]
theorem ck_Table_endRows {l : Launch} {sc : Nat × (Nat → Int32)} {d : Nat} : ∀ q ∈ co_Table_endRows l d, am_ok l sc (d + 1) y_Table_endRows q.1 q.2 :=
  fa_cons (ok_aload_n (show decode (am_mB y_Table_endRows) 0 = .ok (.aload_n 0, 1) by decide +kernel) rfl) <|
  fa_cons (ok_getI (show decode (am_mB y_Table_endRows) 1 = .ok (.getfield 44, 3) by decide +kernel) fl_Table_44 (by decide +kernel)) <|
  fa_cons (ok_if_ne (show decode (am_mB y_Table_endRows) 4 = .ok (.ifCond .ne 7, 3) by decide +kernel) (by decide)) <|
  fa_cons (ok_iconst (show decode (am_mB y_Table_endRows) 7 = .ok (.iconst 0, 1) by decide +kernel) rfl) <|
  fa_cons (ok_goto (show decode (am_mB y_Table_endRows) 8 = .ok (.goto 16, 3) by decide +kernel) (by decide)) <|
  fa_cons (ok_aload_n (show decode (am_mB y_Table_endRows) 11 = .ok (.aload_n 0, 1) by decide +kernel) rfl) <|
  fa_cons (ok_cal ⟨rfl, rfl, rfl, rfl⟩ (ok_callV (show decode (am_mB y_Table_endRows) 12 = .ok (.invokevirtual 81, 3) by decide +kernel) cf_Table_cutRows (by decide +kernel) ml_Table_81 ci_Table_cutRows cv_Table_cutRows ⟨by decide, rfl⟩ rfl ⟨by decide +kernel, rfl⟩ (Or.inl (by decide +kernel)))) <|
  fa_cons (ok_iconst (show decode (am_mB y_Table_endRows) 15 = .ok (.iconst 1, 1) by decide +kernel) rfl) <|
  fa_cons (ok_aload_n (show decode (am_mB y_Table_endRows) 16 = .ok (.aload_n 0, 1) by decide +kernel) rfl) <|
  fa_cons (ok_getI (show decode (am_mB y_Table_endRows) 17 = .ok (.getfield 44, 3) by decide +kernel) fl_Table_44 (by decide +kernel)) <|
  fa_cons (ok_iconst (show decode (am_mB y_Table_endRows) 20 = .ok (.iconst 1, 1) by decide +kernel) rfl) <|
  fa_cons (ok_isub (show decode (am_mB y_Table_endRows) 21 = .ok (.isub, 1) by decide +kernel)) <|
  fa_cons (ok_ishl (show decode (am_mB y_Table_endRows) 22 = .ok (.ishl, 1) by decide +kernel)) <|
  fa_cons (ok_ior (show decode (am_mB y_Table_endRows) 23 = .ok (.ior, 1) by decide +kernel)) <|
  fa_cons (ok_iret (show decode (am_mB y_Table_endRows) 24 = .ok (.ireturn, 1) by decide +kernel) rfl) <|
  fa_nil
set_option maxRecDepth 100000 in
theorem cq_Table_endRows (l : Launch) (d : Nat) : am_lk (co_Table_endRows l d) 0 = am_aload 0 1 ∧ am_lk (co_Table_endRows l d) 1 = am_getI 7 1 4 ∧ am_lk (co_Table_endRows l d) 4 = am_if_ne 7 11 ∧ am_lk (co_Table_endRows l d) 7 = am_push (vI 0) 8 ∧ am_lk (co_Table_endRows l d) 8 = am_goto 24 ∧ am_lk (co_Table_endRows l d) 11 = am_aload 0 12 ∧ am_lk (co_Table_endRows l d) 12 = am_cal l d y_Table_cutRows (some 7) 1 15 0 0 0 0 ∧ am_lk (co_Table_endRows l d) 15 = am_push (vI 1) 16 ∧ am_lk (co_Table_endRows l d) 16 = am_aload 0 17 ∧ am_lk (co_Table_endRows l d) 17 = am_getI 7 1 20 ∧ am_lk (co_Table_endRows l d) 20 = am_push (vI 1) 21 ∧ am_lk (co_Table_endRows l d) 21 = am_isub 22 ∧ am_lk (co_Table_endRows l d) 22 = am_ishl 23 ∧ am_lk (co_Table_endRows l d) 23 = am_ior 24 ∧ am_lk (co_Table_endRows l d) 24 = am_iret false := ⟨rfl, rfl, rfl, rfl, rfl, rfl, rfl, rfl, rfl, rfl, rfl, rfl, rfl, rfl, rfl⟩
theorem en_Table_endRows {l : Launch} {d : Nat} (n : Nat) {as : List am_V} {G : am_G} {I : am_I} {J : am_J} {P : am_P} (hlen : (as.map am_cat).sum ≤ 1) (h : am_go (am_lk (co_Table_endRows l d)) (am_X l (0, fun _ => 0) (d + 1) y_Table_endRows P) P n 0 (am_el 1 as) [] 0 0 G I J) : am_T l (d + 1) y_Table_endRows as G I J P :=
  am_T_of (sc := (0, fun _ => 0)) cf_Table_endRows (by decide +kernel) (by decide) (by decide +kernel) hlen (am_run (ok_lk _ (ck_Table_endRows)) n _ _ _ _ _ _ _ _ h)
theorem rn_Table_endRows {l : Launch} {sc : Nat × (Nat → Int32)} {d : Nat} {P : am_P} (n : Nat) {pc : Nat} {ls : am_L} {st : List am_V} {kc ks : Nat} {G : am_G} {I : am_I} {J : am_J} (h : am_go (am_lk (co_Table_endRows l d)) (am_X l sc (d + 1) y_Table_endRows P) P n pc ls st kc ks G I J) : am_X l sc (d + 1) y_Table_endRows P pc ls st kc ks G I J := am_run (ok_lk _ (ck_Table_endRows)) n _ _ _ _ _ _ _ _ h
def co_Table_upTo (l : Launch) (d : Nat) : List (Nat × am_S) := [(0, am_push (vI 1) 1), (1, am_iload 0 2), (2, am_ishl 3), (3, am_push (vI 1) 4), (4, am_isub 5), (5, am_iret false)]
theorem ck_Table_upTo {l : Launch} {sc : Nat × (Nat → Int32)} {d : Nat} : ∀ q ∈ co_Table_upTo l d, am_ok l sc (d + 1) y_Table_upTo q.1 q.2 :=
  fa_cons (ok_iconst (show decode (am_mB y_Table_upTo) 0 = .ok (.iconst 1, 1) by decide +kernel) rfl) <|
  fa_cons (ok_iload_n (show decode (am_mB y_Table_upTo) 1 = .ok (.iload_n 0, 1) by decide +kernel) rfl) <|
  fa_cons (ok_ishl (show decode (am_mB y_Table_upTo) 2 = .ok (.ishl, 1) by decide +kernel)) <|
  fa_cons (ok_iconst (show decode (am_mB y_Table_upTo) 3 = .ok (.iconst 1, 1) by decide +kernel) rfl) <|
  fa_cons (ok_isub (show decode (am_mB y_Table_upTo) 4 = .ok (.isub, 1) by decide +kernel)) <|
  fa_cons (ok_iret (show decode (am_mB y_Table_upTo) 5 = .ok (.ireturn, 1) by decide +kernel) rfl) <|
  fa_nil
set_option maxRecDepth 100000 in
theorem cq_Table_upTo (l : Launch) (d : Nat) : am_lk (co_Table_upTo l d) 0 = am_push (vI 1) 1 ∧ am_lk (co_Table_upTo l d) 1 = am_iload 0 2 ∧ am_lk (co_Table_upTo l d) 2 = am_ishl 3 ∧ am_lk (co_Table_upTo l d) 3 = am_push (vI 1) 4 ∧ am_lk (co_Table_upTo l d) 4 = am_isub 5 ∧ am_lk (co_Table_upTo l d) 5 = am_iret false := ⟨rfl, rfl, rfl, rfl, rfl, rfl⟩
theorem en_Table_upTo {l : Launch} {d : Nat} (n : Nat) {as : List am_V} {G : am_G} {I : am_I} {J : am_J} {P : am_P} (hlen : (as.map am_cat).sum ≤ 1) (h : am_go (am_lk (co_Table_upTo l d)) (am_X l (0, fun _ => 0) (d + 1) y_Table_upTo P) P n 0 (am_el 1 as) [] 0 0 G I J) : am_T l (d + 1) y_Table_upTo as G I J P :=
  am_T_of (sc := (0, fun _ => 0)) cf_Table_upTo (by decide +kernel) (by decide) (by decide +kernel) hlen (am_run (ok_lk _ (ck_Table_upTo)) n _ _ _ _ _ _ _ _ h)
theorem rn_Table_upTo {l : Launch} {sc : Nat × (Nat → Int32)} {d : Nat} {P : am_P} (n : Nat) {pc : Nat} {ls : am_L} {st : List am_V} {kc ks : Nat} {G : am_G} {I : am_I} {J : am_J} (h : am_go (am_lk (co_Table_upTo l d)) (am_X l sc (d + 1) y_Table_upTo P) P n pc ls st kc ks G I J) : am_X l sc (d + 1) y_Table_upTo P pc ls st kc ks G I J := am_run (ok_lk _ (ck_Table_upTo)) n _ _ _ _ _ _ _ _ h
def co_Table_playRound (l : Launch) (d : Nat) : List (Nat × am_S) := [(0, am_iload 1 1), (1, am_push (vI 3) 2), (2, am_irem 3), (3, am_istore 2 4), (4, am_iload 2 5), (5, am_if_ne 8 37), (8, am_aload 0 9), (9, am_cal l d y_Table_isFull (some 7) 1 12 0 0 0 0), (12, am_if_ne 15 37), (15, am_aload 0 16), (16, am_push (vI 1) 17), (17, am_iload 1 18), (18, am_push (vI 4) 19), (19, am_idiv 20), (20, am_push (vI 6) 22), (22, am_irem 23), (23, am_iadd 24), (24, am_iload 1 25), (25, am_push (vI 32) 27), (27, am_idiv 28), (28, am_push (vI 7) 30), (30, am_irem 31), (31, am_cal l d y_Table_putRow (some 7) 3 34 0 0 0 0), (34, am_goto 106), (37, am_iload 2 38), (38, am_push (vI 1) 39), (39, am_icmp_ne 42 81), (42, am_aload 0 43), (43, am_getI 7 1 46), (46, am_if_eq 49 81), (49, am_iload 1 50), (50, am_push (vI 4) 51), (51, am_idiv 52), (52, am_aload 0 53), (53, am_getI 7 1 56), (56, am_irem 57), (57, am_istore 3 58), (58, am_aload 0 59), (59, am_getR 7 7 62), (62, am_iload 3 63), (63, am_aload 0 64), (64, am_getR 7 7 67), (67, am_iload 3 68), (68, am_ald 1 69), (69, am_if_ne 72 76), (72, am_push (vI 1) 73), (73, am_goto 77), (76, am_push (vI 0) 77), (77, am_ast 1 (vp_nar .boolean) 78), (78, am_goto 106), (81, am_iload 2 82), (82, am_push (vI 2) 83), (83, am_icmp_ne 86 106), (86, am_aload 0 87), (87, am_getI 7 1 90), (90, am_if_eq 93 106), (93, am_aload 0 94), (94, am_iload 1 95), (95, am_push (vI 4) 96), (96, am_idiv 97), (97, am_aload 0 98), (98, am_getI 7 1 101), (101, am_irem 102), (102, am_cal l d y_Table_dropRow (some 7) 2 105 0 0 0 0), (105, am_pop 106), (106, am_vret)]
theorem ck_Table_playRound {l : Launch} {sc : Nat × (Nat → Int32)} {d : Nat} : ∀ q ∈ co_Table_playRound l d, am_ok l sc (d + 1) y_Table_playRound q.1 q.2 :=
  fa_cons (ok_iload_n (show decode (am_mB y_Table_playRound) 0 = .ok (.iload_n 1, 1) by decide +kernel) rfl) <|
  fa_cons (ok_iconst (show decode (am_mB y_Table_playRound) 1 = .ok (.iconst 3, 1) by decide +kernel) rfl) <|
  fa_cons (ok_irem (show decode (am_mB y_Table_playRound) 2 = .ok (.irem, 1) by decide +kernel)) <|
  fa_cons (ok_istore_n (show decode (am_mB y_Table_playRound) 3 = .ok (.istore_n 2, 1) by decide +kernel) rfl (by decide +kernel)) <|
  fa_cons (ok_iload_n (show decode (am_mB y_Table_playRound) 4 = .ok (.iload_n 2, 1) by decide +kernel) rfl) <|
  fa_cons (ok_if_ne (show decode (am_mB y_Table_playRound) 5 = .ok (.ifCond .ne 32, 3) by decide +kernel) (by decide)) <|
  fa_cons (ok_aload_n (show decode (am_mB y_Table_playRound) 8 = .ok (.aload_n 0, 1) by decide +kernel) rfl) <|
  fa_cons (ok_cal ⟨rfl, rfl, rfl, rfl⟩ (ok_callV (show decode (am_mB y_Table_playRound) 9 = .ok (.invokevirtual 85, 3) by decide +kernel) cf_Table_isFull (by decide +kernel) ml_Table_85 ci_Table_isFull cv_Table_isFull ⟨by decide, rfl⟩ rfl ⟨by decide +kernel, rfl⟩ (Or.inl (by decide +kernel)))) <|
  fa_cons (ok_if_ne (show decode (am_mB y_Table_playRound) 12 = .ok (.ifCond .ne 25, 3) by decide +kernel) (by decide)) <|
  fa_cons (ok_aload_n (show decode (am_mB y_Table_playRound) 15 = .ok (.aload_n 0, 1) by decide +kernel) rfl) <|
  fa_cons (ok_iconst (show decode (am_mB y_Table_playRound) 16 = .ok (.iconst 1, 1) by decide +kernel) rfl) <|
  fa_cons (ok_iload_n (show decode (am_mB y_Table_playRound) 17 = .ok (.iload_n 1, 1) by decide +kernel) rfl) <|
  fa_cons (ok_iconst (show decode (am_mB y_Table_playRound) 18 = .ok (.iconst 4, 1) by decide +kernel) rfl) <|
  fa_cons (ok_idiv (show decode (am_mB y_Table_playRound) 19 = .ok (.idiv, 1) by decide +kernel)) <|
  fa_cons (ok_bipush (show decode (am_mB y_Table_playRound) 20 = .ok (.bipush 6, 2) by decide +kernel) (by decide +kernel)) <|
  fa_cons (ok_irem (show decode (am_mB y_Table_playRound) 22 = .ok (.irem, 1) by decide +kernel)) <|
  fa_cons (ok_iadd (show decode (am_mB y_Table_playRound) 23 = .ok (.iadd, 1) by decide +kernel)) <|
  fa_cons (ok_iload_n (show decode (am_mB y_Table_playRound) 24 = .ok (.iload_n 1, 1) by decide +kernel) rfl) <|
  fa_cons (ok_bipush (show decode (am_mB y_Table_playRound) 25 = .ok (.bipush 32, 2) by decide +kernel) (by decide +kernel)) <|
  fa_cons (ok_idiv (show decode (am_mB y_Table_playRound) 27 = .ok (.idiv, 1) by decide +kernel)) <|
  fa_cons (ok_bipush (show decode (am_mB y_Table_playRound) 28 = .ok (.bipush 7, 2) by decide +kernel) (by decide +kernel)) <|
  fa_cons (ok_irem (show decode (am_mB y_Table_playRound) 30 = .ok (.irem, 1) by decide +kernel)) <|
  fa_cons (ok_cal ⟨rfl, rfl, rfl, rfl⟩ (ok_callV (show decode (am_mB y_Table_playRound) 31 = .ok (.invokevirtual 89, 3) by decide +kernel) cf_Table_putRow (by decide +kernel) ml_Table_89 ci_Table_putRow cv_Table_putRow ⟨by decide, rfl⟩ rfl ⟨by decide +kernel, rfl⟩ (Or.inl (by decide +kernel)))) <|
  fa_cons (ok_goto (show decode (am_mB y_Table_playRound) 34 = .ok (.goto 72, 3) by decide +kernel) (by decide)) <|
  fa_cons (ok_iload_n (show decode (am_mB y_Table_playRound) 37 = .ok (.iload_n 2, 1) by decide +kernel) rfl) <|
  fa_cons (ok_iconst (show decode (am_mB y_Table_playRound) 38 = .ok (.iconst 1, 1) by decide +kernel) rfl) <|
  fa_cons (ok_icmp_ne (show decode (am_mB y_Table_playRound) 39 = .ok (.if_icmp .ne 42, 3) by decide +kernel) (by decide)) <|
  fa_cons (ok_aload_n (show decode (am_mB y_Table_playRound) 42 = .ok (.aload_n 0, 1) by decide +kernel) rfl) <|
  fa_cons (ok_getI (show decode (am_mB y_Table_playRound) 43 = .ok (.getfield 44, 3) by decide +kernel) fl_Table_44 (by decide +kernel)) <|
  fa_cons (ok_if_eq (show decode (am_mB y_Table_playRound) 46 = .ok (.ifCond .eq 35, 3) by decide +kernel) (by decide)) <|
  fa_cons (ok_iload_n (show decode (am_mB y_Table_playRound) 49 = .ok (.iload_n 1, 1) by decide +kernel) rfl) <|
  fa_cons (ok_iconst (show decode (am_mB y_Table_playRound) 50 = .ok (.iconst 4, 1) by decide +kernel) rfl) <|
  fa_cons (ok_idiv (show decode (am_mB y_Table_playRound) 51 = .ok (.idiv, 1) by decide +kernel)) <|
  fa_cons (ok_aload_n (show decode (am_mB y_Table_playRound) 52 = .ok (.aload_n 0, 1) by decide +kernel) rfl) <|
  fa_cons (ok_getI (show decode (am_mB y_Table_playRound) 53 = .ok (.getfield 44, 3) by decide +kernel) fl_Table_44 (by decide +kernel)) <|
  fa_cons (ok_irem (show decode (am_mB y_Table_playRound) 56 = .ok (.irem, 1) by decide +kernel)) <|
  fa_cons (ok_istore_n (show decode (am_mB y_Table_playRound) 57 = .ok (.istore_n 3, 1) by decide +kernel) rfl (by decide +kernel)) <|
  fa_cons (ok_aload_n (show decode (am_mB y_Table_playRound) 58 = .ok (.aload_n 0, 1) by decide +kernel) rfl) <|
  fa_cons (ok_getR (show decode (am_mB y_Table_playRound) 59 = .ok (.getfield 18, 3) by decide +kernel) fl_Table_18 (by decide +kernel)) <|
  fa_cons (ok_iload_n (show decode (am_mB y_Table_playRound) 62 = .ok (.iload_n 3, 1) by decide +kernel) rfl) <|
  fa_cons (ok_aload_n (show decode (am_mB y_Table_playRound) 63 = .ok (.aload_n 0, 1) by decide +kernel) rfl) <|
  fa_cons (ok_getR (show decode (am_mB y_Table_playRound) 64 = .ok (.getfield 18, 3) by decide +kernel) fl_Table_18 (by decide +kernel)) <|
  fa_cons (ok_iload_n (show decode (am_mB y_Table_playRound) 67 = .ok (.iload_n 3, 1) by decide +kernel) rfl) <|
  fa_cons (ok_zald (show decode (am_mB y_Table_playRound) 68 = .ok (.baload, 1) by decide +kernel)) <|
  fa_cons (ok_if_ne (show decode (am_mB y_Table_playRound) 69 = .ok (.ifCond .ne 7, 3) by decide +kernel) (by decide)) <|
  fa_cons (ok_iconst (show decode (am_mB y_Table_playRound) 72 = .ok (.iconst 1, 1) by decide +kernel) rfl) <|
  fa_cons (ok_goto (show decode (am_mB y_Table_playRound) 73 = .ok (.goto 4, 3) by decide +kernel) (by decide)) <|
  fa_cons (ok_iconst (show decode (am_mB y_Table_playRound) 76 = .ok (.iconst 0, 1) by decide +kernel) rfl) <|
  fa_cons (ok_zast (show decode (am_mB y_Table_playRound) 77 = .ok (.bastore, 1) by decide +kernel)) <|
  fa_cons (ok_goto (show decode (am_mB y_Table_playRound) 78 = .ok (.goto 28, 3) by decide +kernel) (by decide)) <|
  fa_cons (ok_iload_n (show decode (am_mB y_Table_playRound) 81 = .ok (.iload_n 2, 1) by decide +kernel) rfl) <|
  fa_cons (ok_iconst (show decode (am_mB y_Table_playRound) 82 = .ok (.iconst 2, 1) by decide +kernel) rfl) <|
  fa_cons (ok_icmp_ne (show decode (am_mB y_Table_playRound) 83 = .ok (.if_icmp .ne 23, 3) by decide +kernel) (by decide)) <|
  fa_cons (ok_aload_n (show decode (am_mB y_Table_playRound) 86 = .ok (.aload_n 0, 1) by decide +kernel) rfl) <|
  fa_cons (ok_getI (show decode (am_mB y_Table_playRound) 87 = .ok (.getfield 44, 3) by decide +kernel) fl_Table_44 (by decide +kernel)) <|
  fa_cons (ok_if_eq (show decode (am_mB y_Table_playRound) 90 = .ok (.ifCond .eq 16, 3) by decide +kernel) (by decide)) <|
  fa_cons (ok_aload_n (show decode (am_mB y_Table_playRound) 93 = .ok (.aload_n 0, 1) by decide +kernel) rfl) <|
  fa_cons (ok_iload_n (show decode (am_mB y_Table_playRound) 94 = .ok (.iload_n 1, 1) by decide +kernel) rfl) <|
  fa_cons (ok_iconst (show decode (am_mB y_Table_playRound) 95 = .ok (.iconst 4, 1) by decide +kernel) rfl) <|
  fa_cons (ok_idiv (show decode (am_mB y_Table_playRound) 96 = .ok (.idiv, 1) by decide +kernel)) <|
  fa_cons (ok_aload_n (show decode (am_mB y_Table_playRound) 97 = .ok (.aload_n 0, 1) by decide +kernel) rfl) <|
  fa_cons (ok_getI (show decode (am_mB y_Table_playRound) 98 = .ok (.getfield 44, 3) by decide +kernel) fl_Table_44 (by decide +kernel)) <|
  fa_cons (ok_irem (show decode (am_mB y_Table_playRound) 101 = .ok (.irem, 1) by decide +kernel)) <|
  fa_cons (ok_cal ⟨rfl, rfl, rfl, rfl⟩ (ok_callV (show decode (am_mB y_Table_playRound) 102 = .ok (.invokevirtual 93, 3) by decide +kernel) cf_Table_dropRow (by decide +kernel) ml_Table_93 ci_Table_dropRow cv_Table_dropRow ⟨by decide, rfl⟩ rfl ⟨by decide +kernel, rfl⟩ (Or.inl (by decide +kernel)))) <|
  fa_cons (ok_pop (show decode (am_mB y_Table_playRound) 105 = .ok (.pop, 1) by decide +kernel)) <|
  fa_cons (ok_vret (show decode (am_mB y_Table_playRound) 106 = .ok (.return_, 1) by decide +kernel) rfl (by decide +kernel)) <|
  fa_nil
set_option maxRecDepth 100000 in
theorem cq_Table_playRound (l : Launch) (d : Nat) : am_lk (co_Table_playRound l d) 0 = am_iload 1 1 ∧ am_lk (co_Table_playRound l d) 1 = am_push (vI 3) 2 ∧ am_lk (co_Table_playRound l d) 2 = am_irem 3 ∧ am_lk (co_Table_playRound l d) 3 = am_istore 2 4 ∧ am_lk (co_Table_playRound l d) 4 = am_iload 2 5 ∧ am_lk (co_Table_playRound l d) 5 = am_if_ne 8 37 ∧ am_lk (co_Table_playRound l d) 8 = am_aload 0 9 ∧ am_lk (co_Table_playRound l d) 9 = am_cal l d y_Table_isFull (some 7) 1 12 0 0 0 0 ∧ am_lk (co_Table_playRound l d) 12 = am_if_ne 15 37 ∧ am_lk (co_Table_playRound l d) 15 = am_aload 0 16 ∧ am_lk (co_Table_playRound l d) 16 = am_push (vI 1) 17 ∧ am_lk (co_Table_playRound l d) 17 = am_iload 1 18 ∧ am_lk (co_Table_playRound l d) 18 = am_push (vI 4) 19 ∧ am_lk (co_Table_playRound l d) 19 = am_idiv 20 ∧ am_lk (co_Table_playRound l d) 20 = am_push (vI 6) 22 ∧ am_lk (co_Table_playRound l d) 22 = am_irem 23 ∧ am_lk (co_Table_playRound l d) 23 = am_iadd 24 ∧ am_lk (co_Table_playRound l d) 24 = am_iload 1 25 ∧ am_lk (co_Table_playRound l d) 25 = am_push (vI 32) 27 ∧ am_lk (co_Table_playRound l d) 27 = am_idiv 28 ∧ am_lk (co_Table_playRound l d) 28 = am_push (vI 7) 30 ∧ am_lk (co_Table_playRound l d) 30 = am_irem 31 ∧ am_lk (co_Table_playRound l d) 31 = am_cal l d y_Table_putRow (some 7) 3 34 0 0 0 0 ∧ am_lk (co_Table_playRound l d) 34 = am_goto 106 ∧ am_lk (co_Table_playRound l d) 37 = am_iload 2 38 ∧ am_lk (co_Table_playRound l d) 38 = am_push (vI 1) 39 ∧ am_lk (co_Table_playRound l d) 39 = am_icmp_ne 42 81 ∧ am_lk (co_Table_playRound l d) 42 = am_aload 0 43 ∧ am_lk (co_Table_playRound l d) 43 = am_getI 7 1 46 ∧ am_lk (co_Table_playRound l d) 46 = am_if_eq 49 81 ∧ am_lk (co_Table_playRound l d) 49 = am_iload 1 50 ∧ am_lk (co_Table_playRound l d) 50 = am_push (vI 4) 51 ∧ am_lk (co_Table_playRound l d) 51 = am_idiv 52 ∧ am_lk (co_Table_playRound l d) 52 = am_aload 0 53 ∧ am_lk (co_Table_playRound l d) 53 = am_getI 7 1 56 ∧ am_lk (co_Table_playRound l d) 56 = am_irem 57 ∧ am_lk (co_Table_playRound l d) 57 = am_istore 3 58 ∧ am_lk (co_Table_playRound l d) 58 = am_aload 0 59 ∧ am_lk (co_Table_playRound l d) 59 = am_getR 7 7 62 ∧ am_lk (co_Table_playRound l d) 62 = am_iload 3 63 ∧ am_lk (co_Table_playRound l d) 63 = am_aload 0 64 ∧ am_lk (co_Table_playRound l d) 64 = am_getR 7 7 67 ∧ am_lk (co_Table_playRound l d) 67 = am_iload 3 68 ∧ am_lk (co_Table_playRound l d) 68 = am_ald 1 69 ∧ am_lk (co_Table_playRound l d) 69 = am_if_ne 72 76 ∧ am_lk (co_Table_playRound l d) 72 = am_push (vI 1) 73 ∧ am_lk (co_Table_playRound l d) 73 = am_goto 77 ∧ am_lk (co_Table_playRound l d) 76 = am_push (vI 0) 77 ∧ am_lk (co_Table_playRound l d) 77 = am_ast 1 (vp_nar .boolean) 78 ∧ am_lk (co_Table_playRound l d) 78 = am_goto 106 ∧ am_lk (co_Table_playRound l d) 81 = am_iload 2 82 ∧ am_lk (co_Table_playRound l d) 82 = am_push (vI 2) 83 ∧ am_lk (co_Table_playRound l d) 83 = am_icmp_ne 86 106 ∧ am_lk (co_Table_playRound l d) 86 = am_aload 0 87 ∧ am_lk (co_Table_playRound l d) 87 = am_getI 7 1 90 ∧ am_lk (co_Table_playRound l d) 90 = am_if_eq 93 106 ∧ am_lk (co_Table_playRound l d) 93 = am_aload 0 94 ∧ am_lk (co_Table_playRound l d) 94 = am_iload 1 95 ∧ am_lk (co_Table_playRound l d) 95 = am_push (vI 4) 96 ∧ am_lk (co_Table_playRound l d) 96 = am_idiv 97 ∧ am_lk (co_Table_playRound l d) 97 = am_aload 0 98 ∧ am_lk (co_Table_playRound l d) 98 = am_getI 7 1 101 ∧ am_lk (co_Table_playRound l d) 101 = am_irem 102 ∧ am_lk (co_Table_playRound l d) 102 = am_cal l d y_Table_dropRow (some 7) 2 105 0 0 0 0 ∧ am_lk (co_Table_playRound l d) 105 = am_pop 106 ∧ am_lk (co_Table_playRound l d) 106 = am_vret := ⟨rfl, rfl, rfl, rfl, rfl, rfl, rfl, rfl, rfl, rfl, rfl, rfl, rfl, rfl, rfl, rfl, rfl, rfl, rfl, rfl, rfl, rfl, rfl, rfl, rfl, rfl, rfl, rfl, rfl, rfl, rfl, rfl, rfl, rfl, rfl, rfl, rfl, rfl, rfl, rfl, rfl, rfl, rfl, rfl, rfl, rfl, rfl, rfl, rfl, rfl, rfl, rfl, rfl, rfl, rfl, rfl, rfl, rfl, rfl, rfl, rfl, rfl, rfl, rfl, rfl, rfl⟩
theorem en_Table_playRound {l : Launch} {d : Nat} (n : Nat) {as : List am_V} {G : am_G} {I : am_I} {J : am_J} {P : am_P} (hlen : (as.map am_cat).sum ≤ 4) (h : am_go (am_lk (co_Table_playRound l d)) (am_X l (0, fun _ => 0) (d + 1) y_Table_playRound P) P n 0 (am_el 4 as) [] 0 0 G I J) : am_T l (d + 1) y_Table_playRound as G I J P :=
  am_T_of (sc := (0, fun _ => 0)) cf_Table_playRound (by decide +kernel) (by decide) (by decide +kernel) hlen (am_run (ok_lk _ (ck_Table_playRound)) n _ _ _ _ _ _ _ _ h)
theorem rn_Table_playRound {l : Launch} {sc : Nat × (Nat → Int32)} {d : Nat} {P : am_P} (n : Nat) {pc : Nat} {ls : am_L} {st : List am_V} {kc ks : Nat} {G : am_G} {I : am_I} {J : am_J} (h : am_go (am_lk (co_Table_playRound l d)) (am_X l sc (d + 1) y_Table_playRound P) P n pc ls st kc ks G I J) : am_X l sc (d + 1) y_Table_playRound P pc ls st kc ks G I J := am_run (ok_lk _ (ck_Table_playRound)) n _ _ _ _ _ _ _ _ h
