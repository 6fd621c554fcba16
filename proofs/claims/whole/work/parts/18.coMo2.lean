/-! written by wip/whole/gen.py: the code of Mo2 -/
def co_M_load (l : Launch) (d : Nat) : List (Nat × am_S) := [(0, am_aload 0 1), (1, am_aload 0 2), (2, am_cal l d y_M_readText (some 9) 1 5 0 0 0 0), (5, am_push (vI (-999999)) 7), (7, am_icmp_ne 10 14), (10, am_push (vI 0) 11), (11, am_goto 15), (14, am_push (vI 1) 15), (15, am_cal l d y_M_refused (some 9) 2 18 0 0 0 0), (18, am_if_eq 21 23), (21, am_push (vI 0) 22), (22, am_iret false), (23, am_aload 0 24), (24, am_getR 9 5 27), (27, am_push (vI 0) 28), (28, am_aload 0 29), (29, am_getR 9 6 32), (32, am_push (vI 0) 33), (33, am_push (vI 197) 36), (36, am_cal l d y_M_copy none 5 39 0 0 0 0), (39, am_aload 0 40), (40, am_push (vI 0) 41), (41, am_putI 9 9 44), (44, am_aload 0 45), (45, am_getR 9 11 48), (48, am_push (vI 0) 49), (49, am_push (vI 0) 50), (50, am_ast 1 (vp_nar .boolean) 51), (51, am_aload 0 52), (52, am_getR 9 11 55), (55, am_push (vI 1) 56), (56, am_push (vI 0) 57), (57, am_ast 1 (vp_nar .boolean) 58), (58, am_aload 0 59), (59, am_getR 9 6 62), (62, am_push (vI 1) 63), (63, am_ald 0 64), (64, am_iret false)]
theorem ck_M_load {l : Launch} {sc : Nat × (Nat → Int32)} {d : Nat} : ∀ q ∈ co_M_load l d, am_ok l sc (d + 1) y_M_load q.1 q.2 :=
  fa_cons (ok_aload_n (show decode (am_mB y_M_load) 0 = .ok (.aload_n 0, 1) by decide +kernel) rfl) <|
  fa_cons (ok_aload_n (show decode (am_mB y_M_load) 1 = .ok (.aload_n 0, 1) by decide +kernel) rfl) <|
  fa_cons (ok_cal ⟨rfl, rfl, rfl, rfl⟩ (ok_callV (show decode (am_mB y_M_load) 2 = .ok (.invokevirtual 171, 3) by decide +kernel) cf_M_readText (by decide +kernel) ml_M_171 ci_M_readText cv_M_readText ⟨by decide, rfl⟩ rfl ⟨by decide +kernel, rfl⟩)) <|
  fa_cons (ok_ldc (show decode (am_mB y_M_load) 5 = .ok (.ldc 90, 2) by decide +kernel) w_1057) <|
  fa_cons (ok_icmp_ne (show decode (am_mB y_M_load) 7 = .ok (.if_icmp .ne 7, 3) by decide +kernel) (by decide)) <|
  fa_cons (ok_iconst (show decode (am_mB y_M_load) 10 = .ok (.iconst 0, 1) by decide +kernel) rfl) <|
  fa_cons (ok_goto (show decode (am_mB y_M_load) 11 = .ok (.goto 4, 3) by decide +kernel) (by decide)) <|
  fa_cons (ok_iconst (show decode (am_mB y_M_load) 14 = .ok (.iconst 1, 1) by decide +kernel) rfl) <|
  fa_cons (ok_cal ⟨rfl, rfl, rfl, rfl⟩ (ok_callV (show decode (am_mB y_M_load) 15 = .ok (.invokevirtual 128, 3) by decide +kernel) cf_M_refused (by decide +kernel) ml_M_128 ci_M_refused cv_M_refused ⟨by decide, rfl⟩ rfl ⟨by decide +kernel, rfl⟩)) <|
  fa_cons (ok_if_eq (show decode (am_mB y_M_load) 18 = .ok (.ifCond .eq 5, 3) by decide +kernel) (by decide)) <|
  fa_cons (ok_iconst (show decode (am_mB y_M_load) 21 = .ok (.iconst 0, 1) by decide +kernel) rfl) <|
  fa_cons (ok_iret (show decode (am_mB y_M_load) 22 = .ok (.ireturn, 1) by decide +kernel) rfl) <|
  fa_cons (ok_aload_n (show decode (am_mB y_M_load) 23 = .ok (.aload_n 0, 1) by decide +kernel) rfl) <|
  fa_cons (ok_getR (show decode (am_mB y_M_load) 24 = .ok (.getfield 13, 3) by decide +kernel) fl_M_13 (by decide +kernel)) <|
  fa_cons (ok_iconst (show decode (am_mB y_M_load) 27 = .ok (.iconst 0, 1) by decide +kernel) rfl) <|
  fa_cons (ok_aload_n (show decode (am_mB y_M_load) 28 = .ok (.aload_n 0, 1) by decide +kernel) rfl) <|
  fa_cons (ok_getR (show decode (am_mB y_M_load) 29 = .ok (.getfield 16, 3) by decide +kernel) fl_M_16 (by decide +kernel)) <|
  fa_cons (ok_iconst (show decode (am_mB y_M_load) 32 = .ok (.iconst 0, 1) by decide +kernel) rfl) <|
  fa_cons (ok_sipush (show decode (am_mB y_M_load) 33 = .ok (.sipush 197, 3) by decide +kernel) (by decide +kernel)) <|
  fa_cons (ok_cal ⟨rfl, rfl, rfl, rfl⟩ (ok_callS (show decode (am_mB y_M_load) 36 = .ok (.invokestatic 54, 3) by decide +kernel) cf_M_copy (by decide +kernel) ml_M_54 cs_M_copy rfl ⟨by decide +kernel, rfl⟩)) <|
  fa_cons (ok_aload_n (show decode (am_mB y_M_load) 39 = .ok (.aload_n 0, 1) by decide +kernel) rfl) <|
  fa_cons (ok_iconst (show decode (am_mB y_M_load) 40 = .ok (.iconst 0, 1) by decide +kernel) rfl) <|
  fa_cons (ok_putI (show decode (am_mB y_M_load) 41 = .ok (.putfield 51, 3) by decide +kernel) fl_M_51 (by decide +kernel)) <|
  fa_cons (ok_aload_n (show decode (am_mB y_M_load) 44 = .ok (.aload_n 0, 1) by decide +kernel) rfl) <|
  fa_cons (ok_getR (show decode (am_mB y_M_load) 45 = .ok (.getfield 28, 3) by decide +kernel) fl_M_28 (by decide +kernel)) <|
  fa_cons (ok_iconst (show decode (am_mB y_M_load) 48 = .ok (.iconst 0, 1) by decide +kernel) rfl) <|
  fa_cons (ok_iconst (show decode (am_mB y_M_load) 49 = .ok (.iconst 0, 1) by decide +kernel) rfl) <|
  fa_cons (ok_zast (show decode (am_mB y_M_load) 50 = .ok (.bastore, 1) by decide +kernel)) <|
  fa_cons (ok_aload_n (show decode (am_mB y_M_load) 51 = .ok (.aload_n 0, 1) by decide +kernel) rfl) <|
  fa_cons (ok_getR (show decode (am_mB y_M_load) 52 = .ok (.getfield 28, 3) by decide +kernel) fl_M_28 (by decide +kernel)) <|
  fa_cons (ok_iconst (show decode (am_mB y_M_load) 55 = .ok (.iconst 1, 1) by decide +kernel) rfl) <|
  fa_cons (ok_iconst (show decode (am_mB y_M_load) 56 = .ok (.iconst 0, 1) by decide +kernel) rfl) <|
  fa_cons (ok_zast (show decode (am_mB y_M_load) 57 = .ok (.bastore, 1) by decide +kernel)) <|
  fa_cons (ok_aload_n (show decode (am_mB y_M_load) 58 = .ok (.aload_n 0, 1) by decide +kernel) rfl) <|
  fa_cons (ok_getR (show decode (am_mB y_M_load) 59 = .ok (.getfield 16, 3) by decide +kernel) fl_M_16 (by decide +kernel)) <|
  fa_cons (ok_iconst (show decode (am_mB y_M_load) 62 = .ok (.iconst 1, 1) by decide +kernel) rfl) <|
  fa_cons (ok_iald (show decode (am_mB y_M_load) 63 = .ok (.iaload, 1) by decide +kernel)) <|
  fa_cons (ok_iret (show decode (am_mB y_M_load) 64 = .ok (.ireturn, 1) by decide +kernel) rfl) <|
  fa_nil
set_option maxRecDepth 100000 in
theorem cq_M_load (l : Launch) (d : Nat) : am_lk (co_M_load l d) 0 = am_aload 0 1 ∧ am_lk (co_M_load l d) 1 = am_aload 0 2 ∧ am_lk (co_M_load l d) 2 = am_cal l d y_M_readText (some 9) 1 5 0 0 0 0 ∧ am_lk (co_M_load l d) 5 = am_push (vI (-999999)) 7 ∧ am_lk (co_M_load l d) 7 = am_icmp_ne 10 14 ∧ am_lk (co_M_load l d) 10 = am_push (vI 0) 11 ∧ am_lk (co_M_load l d) 11 = am_goto 15 ∧ am_lk (co_M_load l d) 14 = am_push (vI 1) 15 ∧ am_lk (co_M_load l d) 15 = am_cal l d y_M_refused (some 9) 2 18 0 0 0 0 ∧ am_lk (co_M_load l d) 18 = am_if_eq 21 23 ∧ am_lk (co_M_load l d) 21 = am_push (vI 0) 22 ∧ am_lk (co_M_load l d) 22 = am_iret false ∧ am_lk (co_M_load l d) 23 = am_aload 0 24 ∧ am_lk (co_M_load l d) 24 = am_getR 9 5 27 ∧ am_lk (co_M_load l d) 27 = am_push (vI 0) 28 ∧ am_lk (co_M_load l d) 28 = am_aload 0 29 ∧ am_lk (co_M_load l d) 29 = am_getR 9 6 32 ∧ am_lk (co_M_load l d) 32 = am_push (vI 0) 33 ∧ am_lk (co_M_load l d) 33 = am_push (vI 197) 36 ∧ am_lk (co_M_load l d) 36 = am_cal l d y_M_copy none 5 39 0 0 0 0 ∧ am_lk (co_M_load l d) 39 = am_aload 0 40 ∧ am_lk (co_M_load l d) 40 = am_push (vI 0) 41 ∧ am_lk (co_M_load l d) 41 = am_putI 9 9 44 ∧ am_lk (co_M_load l d) 44 = am_aload 0 45 ∧ am_lk (co_M_load l d) 45 = am_getR 9 11 48 ∧ am_lk (co_M_load l d) 48 = am_push (vI 0) 49 ∧ am_lk (co_M_load l d) 49 = am_push (vI 0) 50 ∧ am_lk (co_M_load l d) 50 = am_ast 1 (vp_nar .boolean) 51 ∧ am_lk (co_M_load l d) 51 = am_aload 0 52 ∧ am_lk (co_M_load l d) 52 = am_getR 9 11 55 ∧ am_lk (co_M_load l d) 55 = am_push (vI 1) 56 ∧ am_lk (co_M_load l d) 56 = am_push (vI 0) 57 ∧ am_lk (co_M_load l d) 57 = am_ast 1 (vp_nar .boolean) 58 ∧ am_lk (co_M_load l d) 58 = am_aload 0 59 ∧ am_lk (co_M_load l d) 59 = am_getR 9 6 62 ∧ am_lk (co_M_load l d) 62 = am_push (vI 1) 63 ∧ am_lk (co_M_load l d) 63 = am_ald 0 64 ∧ am_lk (co_M_load l d) 64 = am_iret false := ⟨rfl, rfl, rfl, rfl, rfl, rfl, rfl, rfl, rfl, rfl, rfl, rfl, rfl, rfl, rfl, rfl, rfl, rfl, rfl, rfl, rfl, rfl, rfl, rfl, rfl, rfl, rfl, rfl, rfl, rfl, rfl, rfl, rfl, rfl, rfl, rfl, rfl, rfl⟩
theorem en_M_load {l : Launch} {d : Nat} (n : Nat) {as : List am_V} {G : am_G} {I : am_I} {J : am_J} {P : am_P} (hlen : (as.map am_cat).sum ≤ 1) (h : am_go (am_lk (co_M_load l d)) (am_X l (0, fun _ => 0) (d + 1) y_M_load P) P n 0 (am_el 1 as) [] 0 0 G I J) : am_T l (d + 1) y_M_load as G I J P :=
  am_T_of (sc := (0, fun _ => 0)) cf_M_load (by decide +kernel) (by decide) (by decide +kernel) hlen (am_run (ok_lk _ (ck_M_load)) n _ _ _ _ _ _ _ _ h)
theorem rn_M_load {l : Launch} {sc : Nat × (Nat → Int32)} {d : Nat} {P : am_P} (n : Nat) {pc : Nat} {ls : am_L} {st : List am_V} {kc ks : Nat} {G : am_G} {I : am_I} {J : am_J} (h : am_go (am_lk (co_M_load l d)) (am_X l sc (d + 1) y_M_load P) P n pc ls st kc ks G I J) : am_X l sc (d + 1) y_M_load P pc ls st kc ks G I J := am_run (ok_lk _ (ck_M_load)) n _ _ _ _ _ _ _ _ h
def co_M_cutSpans (l : Launch) (d : Nat) : List (Nat × am_S) := [(0, am_push (vI 0) 1), (1, am_istore 1 2), (2, am_push (vI 0) 3), (3, am_stp (am_istore 2 4)), (4, am_iload 2 5), (5, am_aload 0 6), (6, am_getR 9 6 9), (9, am_push (vI 2) 10), (10, am_ald 0 11), (11, am_icmp_ge 14 41), (14, am_iload 1 15), (15, am_aload 0 16), (16, am_aload 0 17), (17, am_getR 9 6 20), (20, am_iload 2 21), (21, am_cal l d y_M_pagesOf (some 9) 3 24 0 0 0 0), (24, am_push (vI 1) 25), (25, am_icmp_le 28 32), (28, am_push (vI 1) 29), (29, am_goto 33), (32, am_push (vI 0) 33), (33, am_iadd 34), (34, am_istore 1 35), (35, am_iinc 2 1 38), (38, am_stp (am_goto 4)), (41, am_iload 1 42), (42, am_iret false)]
theorem ck_M_cutSpans {l : Launch} {sc : Nat × (Nat → Int32)} {d : Nat} : ∀ q ∈ co_M_cutSpans l d, am_ok l sc (d + 1) y_M_cutSpans q.1 q.2 :=
  fa_cons (ok_iconst (show decode (am_mB y_M_cutSpans) 0 = .ok (.iconst 0, 1) by decide +kernel) rfl) <|
  fa_cons (ok_istore_n (show decode (am_mB y_M_cutSpans) 1 = .ok (.istore_n 1, 1) by decide +kernel) rfl (by decide +kernel)) <|
  fa_cons (ok_iconst (show decode (am_mB y_M_cutSpans) 2 = .ok (.iconst 0, 1) by decide +kernel) rfl) <|
  fa_cons (ok_stp (σ := am_istore 2 4) (ok_istore_n (show decode (am_mB y_M_cutSpans) 3 = .ok (.istore_n 2, 1) by decide +kernel) rfl (by decide +kernel))) <|
  fa_cons (ok_iload_n (show decode (am_mB y_M_cutSpans) 4 = .ok (.iload_n 2, 1) by decide +kernel) rfl) <|
  fa_cons (ok_aload_n (show decode (am_mB y_M_cutSpans) 5 = .ok (.aload_n 0, 1) by decide +kernel) rfl) <|
  fa_cons (ok_getR (show decode (am_mB y_M_cutSpans) 6 = .ok (.getfield 16, 3) by decide +kernel) fl_M_16 (by decide +kernel)) <|
  fa_cons (ok_iconst (show decode (am_mB y_M_cutSpans) 9 = .ok (.iconst 2, 1) by decide +kernel) rfl) <|
  fa_cons (ok_iald (show decode (am_mB y_M_cutSpans) 10 = .ok (.iaload, 1) by decide +kernel)) <|
  fa_cons (ok_icmp_ge (show decode (am_mB y_M_cutSpans) 11 = .ok (.if_icmp .ge 30, 3) by decide +kernel) (by decide)) <|
  fa_cons (ok_iload_n (show decode (am_mB y_M_cutSpans) 14 = .ok (.iload_n 1, 1) by decide +kernel) rfl) <|
  fa_cons (ok_aload_n (show decode (am_mB y_M_cutSpans) 15 = .ok (.aload_n 0, 1) by decide +kernel) rfl) <|
  fa_cons (ok_aload_n (show decode (am_mB y_M_cutSpans) 16 = .ok (.aload_n 0, 1) by decide +kernel) rfl) <|
  fa_cons (ok_getR (show decode (am_mB y_M_cutSpans) 17 = .ok (.getfield 16, 3) by decide +kernel) fl_M_16 (by decide +kernel)) <|
  fa_cons (ok_iload_n (show decode (am_mB y_M_cutSpans) 20 = .ok (.iload_n 2, 1) by decide +kernel) rfl) <|
  fa_cons (ok_cal ⟨rfl, rfl, rfl, rfl⟩ (ok_callV (show decode (am_mB y_M_cutSpans) 21 = .ok (.invokevirtual 175, 3) by decide +kernel) cf_M_pagesOf (by decide +kernel) ml_M_175 ci_M_pagesOf cv_M_pagesOf ⟨by decide, rfl⟩ rfl ⟨by decide +kernel, rfl⟩)) <|
  fa_cons (ok_iconst (show decode (am_mB y_M_cutSpans) 24 = .ok (.iconst 1, 1) by decide +kernel) rfl) <|
  fa_cons (ok_icmp_le (show decode (am_mB y_M_cutSpans) 25 = .ok (.if_icmp .le 7, 3) by decide +kernel) (by decide)) <|
  fa_cons (ok_iconst (show decode (am_mB y_M_cutSpans) 28 = .ok (.iconst 1, 1) by decide +kernel) rfl) <|
  fa_cons (ok_goto (show decode (am_mB y_M_cutSpans) 29 = .ok (.goto 4, 3) by decide +kernel) (by decide)) <|
  fa_cons (ok_iconst (show decode (am_mB y_M_cutSpans) 32 = .ok (.iconst 0, 1) by decide +kernel) rfl) <|
  fa_cons (ok_iadd (show decode (am_mB y_M_cutSpans) 33 = .ok (.iadd, 1) by decide +kernel)) <|
  fa_cons (ok_istore_n (show decode (am_mB y_M_cutSpans) 34 = .ok (.istore_n 1, 1) by decide +kernel) rfl (by decide +kernel)) <|
  fa_cons (ok_iinc (show decode (am_mB y_M_cutSpans) 35 = .ok (.iinc 2 1, 3) by decide +kernel) (by decide +kernel) (by decide +kernel)) <|
  fa_cons (ok_stp (σ := am_goto 4) (ok_goto (show decode (am_mB y_M_cutSpans) 38 = .ok (.goto (-34), 3) by decide +kernel) (by decide))) <|
  fa_cons (ok_iload_n (show decode (am_mB y_M_cutSpans) 41 = .ok (.iload_n 1, 1) by decide +kernel) rfl) <|
  fa_cons (ok_iret (show decode (am_mB y_M_cutSpans) 42 = .ok (.ireturn, 1) by decide +kernel) rfl) <|
  fa_nil
set_option maxRecDepth 100000 in
theorem cq_M_cutSpans (l : Launch) (d : Nat) : am_lk (co_M_cutSpans l d) 0 = am_push (vI 0) 1 ∧ am_lk (co_M_cutSpans l d) 1 = am_istore 1 2 ∧ am_lk (co_M_cutSpans l d) 2 = am_push (vI 0) 3 ∧ am_lk (co_M_cutSpans l d) 3 = am_stp (am_istore 2 4) ∧ am_lk (co_M_cutSpans l d) 4 = am_iload 2 5 ∧ am_lk (co_M_cutSpans l d) 5 = am_aload 0 6 ∧ am_lk (co_M_cutSpans l d) 6 = am_getR 9 6 9 ∧ am_lk (co_M_cutSpans l d) 9 = am_push (vI 2) 10 ∧ am_lk (co_M_cutSpans l d) 10 = am_ald 0 11 ∧ am_lk (co_M_cutSpans l d) 11 = am_icmp_ge 14 41 ∧ am_lk (co_M_cutSpans l d) 14 = am_iload 1 15 ∧ am_lk (co_M_cutSpans l d) 15 = am_aload 0 16 ∧ am_lk (co_M_cutSpans l d) 16 = am_aload 0 17 ∧ am_lk (co_M_cutSpans l d) 17 = am_getR 9 6 20 ∧ am_lk (co_M_cutSpans l d) 20 = am_iload 2 21 ∧ am_lk (co_M_cutSpans l d) 21 = am_cal l d y_M_pagesOf (some 9) 3 24 0 0 0 0 ∧ am_lk (co_M_cutSpans l d) 24 = am_push (vI 1) 25 ∧ am_lk (co_M_cutSpans l d) 25 = am_icmp_le 28 32 ∧ am_lk (co_M_cutSpans l d) 28 = am_push (vI 1) 29 ∧ am_lk (co_M_cutSpans l d) 29 = am_goto 33 ∧ am_lk (co_M_cutSpans l d) 32 = am_push (vI 0) 33 ∧ am_lk (co_M_cutSpans l d) 33 = am_iadd 34 ∧ am_lk (co_M_cutSpans l d) 34 = am_istore 1 35 ∧ am_lk (co_M_cutSpans l d) 35 = am_iinc 2 1 38 ∧ am_lk (co_M_cutSpans l d) 38 = am_stp (am_goto 4) ∧ am_lk (co_M_cutSpans l d) 41 = am_iload 1 42 ∧ am_lk (co_M_cutSpans l d) 42 = am_iret false := ⟨rfl, rfl, rfl, rfl, rfl, rfl, rfl, rfl, rfl, rfl, rfl, rfl, rfl, rfl, rfl, rfl, rfl, rfl, rfl, rfl, rfl, rfl, rfl, rfl, rfl, rfl, rfl⟩
theorem en_M_cutSpans {l : Launch} {d : Nat} (n : Nat) {as : List am_V} {G : am_G} {I : am_I} {J : am_J} {P : am_P} (hlen : (as.map am_cat).sum ≤ 3) (h : am_go (am_lk (co_M_cutSpans l d)) (am_X l (0, fun _ => 0) (d + 1) y_M_cutSpans P) P n 0 (am_el 3 as) [] 0 0 G I J) : am_T l (d + 1) y_M_cutSpans as G I J P :=
  am_T_of (sc := (0, fun _ => 0)) cf_M_cutSpans (by decide +kernel) (by decide) (by decide +kernel) hlen (am_run (ok_lk _ (ck_M_cutSpans)) n _ _ _ _ _ _ _ _ h)
theorem rn_M_cutSpans {l : Launch} {sc : Nat × (Nat → Int32)} {d : Nat} {P : am_P} (n : Nat) {pc : Nat} {ls : am_L} {st : List am_V} {kc ks : Nat} {G : am_G} {I : am_I} {J : am_J} (h : am_go (am_lk (co_M_cutSpans l d)) (am_X l sc (d + 1) y_M_cutSpans P) P n pc ls st kc ks G I J) : am_X l sc (d + 1) y_M_cutSpans P pc ls st kc ks G I J := am_run (ok_lk _ (ck_M_cutSpans)) n _ _ _ _ _ _ _ _ h
def co_M_about (l : Launch) (d : Nat) : List (Nat × am_S) := [(0, am_aload 0 1), (1, am_iload 1 2), (2, am_i2l 3), (3, am_push (vL 0) 4), (4, am_push (vL 7) 7), (7, am_cal l d y_M_in none 3 10 0 0 0 0), (10, am_if_eq 13 17), (13, am_push (vI 0) 14), (14, am_goto 18), (17, am_push (vI 1) 18), (18, am_cal l d y_M_refused (some 9) 2 21 0 0 0 0), (21, am_if_eq 24 26), (24, am_push (vI 0) 25), (25, am_iret false), (26, am_aload 0 27), (27, am_aload 0 28), (28, am_getR 9 6 31), (31, am_cal l d y_M_lay (some 9) 2 34 0 0 0 0), (34, am_pop 35), (35, am_iload 1 36), (36, am_push (vI 5) 37), (37, am_icmp_ge 40 49), (40, am_aload 0 41), (41, am_getR 9 6 44), (44, am_iload 1 45), (45, am_ald 0 46), (46, am_goto 82), (49, am_iload 1 50), (50, am_push (vI 5) 51), (51, am_icmp_ne 54 61), (54, am_aload 0 55), (55, am_getI 9 13 58), (58, am_goto 82), (61, am_iload 1 62), (62, am_push (vI 6) 64), (64, am_icmp_ne 67 78), (67, am_aload 0 68), (68, am_aload 0 69), (69, am_getR 9 6 72), (72, am_cal l d y_M_overfull (some 9) 2 75 0 0 0 0), (75, am_goto 82), (78, am_aload 0 79), (79, am_cal l d y_M_cutSpans (some 9) 1 82 0 0 0 0), (82, am_iret false)]
theorem ck_M_about {l : Launch} {sc : Nat × (Nat → Int32)} {d : Nat} : ∀ q ∈ co_M_about l d, am_ok l sc (d + 1) y_M_about q.1 q.2 :=
  fa_cons (ok_aload_n (show decode (am_mB y_M_about) 0 = .ok (.aload_n 0, 1) by decide +kernel) rfl) <|
  fa_cons (ok_iload_n (show decode (am_mB y_M_about) 1 = .ok (.iload_n 1, 1) by decide +kernel) rfl) <|
  fa_cons (ok_i2l (show decode (am_mB y_M_about) 2 = .ok (.i2l, 1) by decide +kernel)) <|
  fa_cons (ok_lconst (show decode (am_mB y_M_about) 3 = .ok (.lconst 0, 1) by decide +kernel) rfl) <|
  fa_cons (ok_ldc2 (show decode (am_mB y_M_about) 4 = .ok (.ldc2_w 111, 3) by decide +kernel) w_1095) <|
  fa_cons (ok_cal ⟨rfl, rfl, rfl, rfl⟩ (ok_callS (show decode (am_mB y_M_about) 7 = .ok (.invokestatic 113, 3) by decide +kernel) cf_M_in (by decide +kernel) ml_M_113 cs_M_in rfl ⟨by decide +kernel, rfl⟩)) <|
  fa_cons (ok_if_eq (show decode (am_mB y_M_about) 10 = .ok (.ifCond .eq 7, 3) by decide +kernel) (by decide)) <|
  fa_cons (ok_iconst (show decode (am_mB y_M_about) 13 = .ok (.iconst 0, 1) by decide +kernel) rfl) <|
  fa_cons (ok_goto (show decode (am_mB y_M_about) 14 = .ok (.goto 4, 3) by decide +kernel) (by decide)) <|
  fa_cons (ok_iconst (show decode (am_mB y_M_about) 17 = .ok (.iconst 1, 1) by decide +kernel) rfl) <|
  fa_cons (ok_cal ⟨rfl, rfl, rfl, rfl⟩ (ok_callV (show decode (am_mB y_M_about) 18 = .ok (.invokevirtual 128, 3) by decide +kernel) cf_M_refused (by decide +kernel) ml_M_128 ci_M_refused cv_M_refused ⟨by decide, rfl⟩ rfl ⟨by decide +kernel, rfl⟩)) <|
  fa_cons (ok_if_eq (show decode (am_mB y_M_about) 21 = .ok (.ifCond .eq 5, 3) by decide +kernel) (by decide)) <|
  fa_cons (ok_iconst (show decode (am_mB y_M_about) 24 = .ok (.iconst 0, 1) by decide +kernel) rfl) <|
  fa_cons (ok_iret (show decode (am_mB y_M_about) 25 = .ok (.ireturn, 1) by decide +kernel) rfl) <|
  fa_cons (ok_aload_n (show decode (am_mB y_M_about) 26 = .ok (.aload_n 0, 1) by decide +kernel) rfl) <|
  fa_cons (ok_aload_n (show decode (am_mB y_M_about) 27 = .ok (.aload_n 0, 1) by decide +kernel) rfl) <|
  fa_cons (ok_getR (show decode (am_mB y_M_about) 28 = .ok (.getfield 16, 3) by decide +kernel) fl_M_16 (by decide +kernel)) <|
  fa_cons (ok_cal ⟨rfl, rfl, rfl, rfl⟩ (ok_callV (show decode (am_mB y_M_about) 31 = .ok (.invokevirtual 178, 3) by decide +kernel) cf_M_lay (by decide +kernel) ml_M_178 ci_M_lay cv_M_lay ⟨by decide, rfl⟩ rfl ⟨by decide +kernel, rfl⟩)) <|
  fa_cons (ok_pop (show decode (am_mB y_M_about) 34 = .ok (.pop, 1) by decide +kernel)) <|
  fa_cons (ok_iload_n (show decode (am_mB y_M_about) 35 = .ok (.iload_n 1, 1) by decide +kernel) rfl) <|
  fa_cons (ok_iconst (show decode (am_mB y_M_about) 36 = .ok (.iconst 5, 1) by decide +kernel) rfl) <|
  fa_cons (ok_icmp_ge (show decode (am_mB y_M_about) 37 = .ok (.if_icmp .ge 12, 3) by decide +kernel) (by decide)) <|
  fa_cons (ok_aload_n (show decode (am_mB y_M_about) 40 = .ok (.aload_n 0, 1) by decide +kernel) rfl) <|
  fa_cons (ok_getR (show decode (am_mB y_M_about) 41 = .ok (.getfield 16, 3) by decide +kernel) fl_M_16 (by decide +kernel)) <|
  fa_cons (ok_iload_n (show decode (am_mB y_M_about) 44 = .ok (.iload_n 1, 1) by decide +kernel) rfl) <|
  fa_cons (ok_iald (show decode (am_mB y_M_about) 45 = .ok (.iaload, 1) by decide +kernel)) <|
  fa_cons (ok_goto (show decode (am_mB y_M_about) 46 = .ok (.goto 36, 3) by decide +kernel) (by decide)) <|
  fa_cons (ok_iload_n (show decode (am_mB y_M_about) 49 = .ok (.iload_n 1, 1) by decide +kernel) rfl) <|
  fa_cons (ok_iconst (show decode (am_mB y_M_about) 50 = .ok (.iconst 5, 1) by decide +kernel) rfl) <|
  fa_cons (ok_icmp_ne (show decode (am_mB y_M_about) 51 = .ok (.if_icmp .ne 10, 3) by decide +kernel) (by decide)) <|
  fa_cons (ok_aload_n (show decode (am_mB y_M_about) 54 = .ok (.aload_n 0, 1) by decide +kernel) rfl) <|
  fa_cons (ok_getI (show decode (am_mB y_M_about) 55 = .ok (.getfield 94, 3) by decide +kernel) fl_M_94 (by decide +kernel)) <|
  fa_cons (ok_goto (show decode (am_mB y_M_about) 58 = .ok (.goto 24, 3) by decide +kernel) (by decide)) <|
  fa_cons (ok_iload_n (show decode (am_mB y_M_about) 61 = .ok (.iload_n 1, 1) by decide +kernel) rfl) <|
  fa_cons (ok_bipush (show decode (am_mB y_M_about) 62 = .ok (.bipush 6, 2) by decide +kernel) (by decide +kernel)) <|
  fa_cons (ok_icmp_ne (show decode (am_mB y_M_about) 64 = .ok (.if_icmp .ne 14, 3) by decide +kernel) (by decide)) <|
  fa_cons (ok_aload_n (show decode (am_mB y_M_about) 67 = .ok (.aload_n 0, 1) by decide +kernel) rfl) <|
  fa_cons (ok_aload_n (show decode (am_mB y_M_about) 68 = .ok (.aload_n 0, 1) by decide +kernel) rfl) <|
  fa_cons (ok_getR (show decode (am_mB y_M_about) 69 = .ok (.getfield 16, 3) by decide +kernel) fl_M_16 (by decide +kernel)) <|
  fa_cons (ok_cal ⟨rfl, rfl, rfl, rfl⟩ (ok_callV (show decode (am_mB y_M_about) 72 = .ok (.invokevirtual 182, 3) by decide +kernel) cf_M_overfull (by decide +kernel) ml_M_182 ci_M_overfull cv_M_overfull ⟨by decide, rfl⟩ rfl ⟨by decide +kernel, rfl⟩)) <|
  fa_cons (ok_goto (show decode (am_mB y_M_about) 75 = .ok (.goto 7, 3) by decide +kernel) (by decide)) <|
  fa_cons (ok_aload_n (show decode (am_mB y_M_about) 78 = .ok (.aload_n 0, 1) by decide +kernel) rfl) <|
  fa_cons (ok_cal ⟨rfl, rfl, rfl, rfl⟩ (ok_callV (show decode (am_mB y_M_about) 79 = .ok (.invokevirtual 185, 3) by decide +kernel) cf_M_cutSpans (by decide +kernel) ml_M_185 ci_M_cutSpans cv_M_cutSpans ⟨by decide, rfl⟩ rfl ⟨by decide +kernel, rfl⟩)) <|
  fa_cons (ok_iret (show decode (am_mB y_M_about) 82 = .ok (.ireturn, 1) by decide +kernel) rfl) <|
  fa_nil
set_option maxRecDepth 100000 in
theorem cq_M_about (l : Launch) (d : Nat) : am_lk (co_M_about l d) 0 = am_aload 0 1 ∧ am_lk (co_M_about l d) 1 = am_iload 1 2 ∧ am_lk (co_M_about l d) 2 = am_i2l 3 ∧ am_lk (co_M_about l d) 3 = am_push (vL 0) 4 ∧ am_lk (co_M_about l d) 4 = am_push (vL 7) 7 ∧ am_lk (co_M_about l d) 7 = am_cal l d y_M_in none 3 10 0 0 0 0 ∧ am_lk (co_M_about l d) 10 = am_if_eq 13 17 ∧ am_lk (co_M_about l d) 13 = am_push (vI 0) 14 ∧ am_lk (co_M_about l d) 14 = am_goto 18 ∧ am_lk (co_M_about l d) 17 = am_push (vI 1) 18 ∧ am_lk (co_M_about l d) 18 = am_cal l d y_M_refused (some 9) 2 21 0 0 0 0 ∧ am_lk (co_M_about l d) 21 = am_if_eq 24 26 ∧ am_lk (co_M_about l d) 24 = am_push (vI 0) 25 ∧ am_lk (co_M_about l d) 25 = am_iret false ∧ am_lk (co_M_about l d) 26 = am_aload 0 27 ∧ am_lk (co_M_about l d) 27 = am_aload 0 28 ∧ am_lk (co_M_about l d) 28 = am_getR 9 6 31 ∧ am_lk (co_M_about l d) 31 = am_cal l d y_M_lay (some 9) 2 34 0 0 0 0 ∧ am_lk (co_M_about l d) 34 = am_pop 35 ∧ am_lk (co_M_about l d) 35 = am_iload 1 36 ∧ am_lk (co_M_about l d) 36 = am_push (vI 5) 37 ∧ am_lk (co_M_about l d) 37 = am_icmp_ge 40 49 ∧ am_lk (co_M_about l d) 40 = am_aload 0 41 ∧ am_lk (co_M_about l d) 41 = am_getR 9 6 44 ∧ am_lk (co_M_about l d) 44 = am_iload 1 45 ∧ am_lk (co_M_about l d) 45 = am_ald 0 46 ∧ am_lk (co_M_about l d) 46 = am_goto 82 ∧ am_lk (co_M_about l d) 49 = am_iload 1 50 ∧ am_lk (co_M_about l d) 50 = am_push (vI 5) 51 ∧ am_lk (co_M_about l d) 51 = am_icmp_ne 54 61 ∧ am_lk (co_M_about l d) 54 = am_aload 0 55 ∧ am_lk (co_M_about l d) 55 = am_getI 9 13 58 ∧ am_lk (co_M_about l d) 58 = am_goto 82 ∧ am_lk (co_M_about l d) 61 = am_iload 1 62 ∧ am_lk (co_M_about l d) 62 = am_push (vI 6) 64 ∧ am_lk (co_M_about l d) 64 = am_icmp_ne 67 78 ∧ am_lk (co_M_about l d) 67 = am_aload 0 68 ∧ am_lk (co_M_about l d) 68 = am_aload 0 69 ∧ am_lk (co_M_about l d) 69 = am_getR 9 6 72 ∧ am_lk (co_M_about l d) 72 = am_cal l d y_M_overfull (some 9) 2 75 0 0 0 0 ∧ am_lk (co_M_about l d) 75 = am_goto 82 ∧ am_lk (co_M_about l d) 78 = am_aload 0 79 ∧ am_lk (co_M_about l d) 79 = am_cal l d y_M_cutSpans (some 9) 1 82 0 0 0 0 ∧ am_lk (co_M_about l d) 82 = am_iret false := ⟨rfl, rfl, rfl, rfl, rfl, rfl, rfl, rfl, rfl, rfl, rfl, rfl, rfl, rfl, rfl, rfl, rfl, rfl, rfl, rfl, rfl, rfl, rfl, rfl, rfl, rfl, rfl, rfl, rfl, rfl, rfl, rfl, rfl, rfl, rfl, rfl, rfl, rfl, rfl, rfl, rfl, rfl, rfl, rfl⟩
theorem en_M_about {l : Launch} {d : Nat} (n : Nat) {as : List am_V} {G : am_G} {I : am_I} {J : am_J} {P : am_P} (hlen : (as.map am_cat).sum ≤ 2) (h : am_go (am_lk (co_M_about l d)) (am_X l (0, fun _ => 0) (d + 1) y_M_about P) P n 0 (am_el 2 as) [] 0 0 G I J) : am_T l (d + 1) y_M_about as G I J P :=
  am_T_of (sc := (0, fun _ => 0)) cf_M_about (by decide +kernel) (by decide) (by decide +kernel) hlen (am_run (ok_lk _ (ck_M_about)) n _ _ _ _ _ _ _ _ h)
theorem rn_M_about {l : Launch} {sc : Nat × (Nat → Int32)} {d : Nat} {P : am_P} (n : Nat) {pc : Nat} {ls : am_L} {st : List am_V} {kc ks : Nat} {G : am_G} {I : am_I} {J : am_J} (h : am_go (am_lk (co_M_about l d)) (am_X l sc (d + 1) y_M_about P) P n pc ls st kc ks G I J) : am_X l sc (d + 1) y_M_about P pc ls st kc ks G I J := am_run (ok_lk _ (ck_M_about)) n _ _ _ _ _ _ _ _ h
def co_M_isRow (l : Launch) (d : Nat) : List (Nat × am_S) := [(0, am_iload 1 1), (1, am_i2l 2), (2, am_push (vL 0) 3), (3, am_aload 0 4), (4, am_getR 9 6 7), (7, am_push (vI 1) 8), (8, am_ald 0 9), (9, am_push (vI 1) 10), (10, am_isub 11), (11, am_i2l 12), (12, am_cal l d y_M_in none 3 15 0 0 0 0), (15, am_iret true)]
theorem ck_M_isRow {l : Launch} {sc : Nat × (Nat → Int32)} {d : Nat} : ∀ q ∈ co_M_isRow l d, am_ok l sc (d + 1) y_M_isRow q.1 q.2 :=
  fa_cons (ok_iload_n (show decode (am_mB y_M_isRow) 0 = .ok (.iload_n 1, 1) by decide +kernel) rfl) <|
  fa_cons (ok_i2l (show decode (am_mB y_M_isRow) 1 = .ok (.i2l, 1) by decide +kernel)) <|
  fa_cons (ok_lconst (show decode (am_mB y_M_isRow) 2 = .ok (.lconst 0, 1) by decide +kernel) rfl) <|
  fa_cons (ok_aload_n (show decode (am_mB y_M_isRow) 3 = .ok (.aload_n 0, 1) by decide +kernel) rfl) <|
  fa_cons (ok_getR (show decode (am_mB y_M_isRow) 4 = .ok (.getfield 16, 3) by decide +kernel) fl_M_16 (by decide +kernel)) <|
  fa_cons (ok_iconst (show decode (am_mB y_M_isRow) 7 = .ok (.iconst 1, 1) by decide +kernel) rfl) <|
  fa_cons (ok_iald (show decode (am_mB y_M_isRow) 8 = .ok (.iaload, 1) by decide +kernel)) <|
  fa_cons (ok_iconst (show decode (am_mB y_M_isRow) 9 = .ok (.iconst 1, 1) by decide +kernel) rfl) <|
  fa_cons (ok_isub (show decode (am_mB y_M_isRow) 10 = .ok (.isub, 1) by decide +kernel)) <|
  fa_cons (ok_i2l (show decode (am_mB y_M_isRow) 11 = .ok (.i2l, 1) by decide +kernel)) <|
  fa_cons (ok_cal ⟨rfl, rfl, rfl, rfl⟩ (ok_callS (show decode (am_mB y_M_isRow) 12 = .ok (.invokestatic 113, 3) by decide +kernel) cf_M_in (by decide +kernel) ml_M_113 cs_M_in rfl ⟨by decide +kernel, rfl⟩)) <|
  fa_cons (ok_iret (show decode (am_mB y_M_isRow) 15 = .ok (.ireturn, 1) by decide +kernel) rfl) <|
  fa_nil
set_option maxRecDepth 100000 in
theorem cq_M_isRow (l : Launch) (d : Nat) : am_lk (co_M_isRow l d) 0 = am_iload 1 1 ∧ am_lk (co_M_isRow l d) 1 = am_i2l 2 ∧ am_lk (co_M_isRow l d) 2 = am_push (vL 0) 3 ∧ am_lk (co_M_isRow l d) 3 = am_aload 0 4 ∧ am_lk (co_M_isRow l d) 4 = am_getR 9 6 7 ∧ am_lk (co_M_isRow l d) 7 = am_push (vI 1) 8 ∧ am_lk (co_M_isRow l d) 8 = am_ald 0 9 ∧ am_lk (co_M_isRow l d) 9 = am_push (vI 1) 10 ∧ am_lk (co_M_isRow l d) 10 = am_isub 11 ∧ am_lk (co_M_isRow l d) 11 = am_i2l 12 ∧ am_lk (co_M_isRow l d) 12 = am_cal l d y_M_in none 3 15 0 0 0 0 ∧ am_lk (co_M_isRow l d) 15 = am_iret true := ⟨rfl, rfl, rfl, rfl, rfl, rfl, rfl, rfl, rfl, rfl, rfl, rfl⟩
theorem en_M_isRow {l : Launch} {d : Nat} (n : Nat) {as : List am_V} {G : am_G} {I : am_I} {J : am_J} {P : am_P} (hlen : (as.map am_cat).sum ≤ 2) (h : am_go (am_lk (co_M_isRow l d)) (am_X l (0, fun _ => 0) (d + 1) y_M_isRow P) P n 0 (am_el 2 as) [] 0 0 G I J) : am_T l (d + 1) y_M_isRow as G I J P :=
  am_T_of (sc := (0, fun _ => 0)) cf_M_isRow (by decide +kernel) (by decide) (by decide +kernel) hlen (am_run (ok_lk _ (ck_M_isRow)) n _ _ _ _ _ _ _ _ h)
theorem rn_M_isRow {l : Launch} {sc : Nat × (Nat → Int32)} {d : Nat} {P : am_P} (n : Nat) {pc : Nat} {ls : am_L} {st : List am_V} {kc ks : Nat} {G : am_G} {I : am_I} {J : am_J} (h : am_go (am_lk (co_M_isRow l d)) (am_X l sc (d + 1) y_M_isRow P) P n pc ls st kc ks G I J) : am_X l sc (d + 1) y_M_isRow P pc ls st kc ks G I J := am_run (ok_lk _ (ck_M_isRow)) n _ _ _ _ _ _ _ _ h
def co_M_isColumn (l : Launch) (d : Nat) : List (Nat × am_S) := [(0, am_iload 1 1), (1, am_i2l 2), (2, am_push (vL 0) 3), (3, am_aload 0 4), (4, am_getR 9 6 7), (7, am_push (vI 0) 8), (8, am_ald 0 9), (9, am_push (vI 1) 10), (10, am_isub 11), (11, am_i2l 12), (12, am_cal l d y_M_in none 3 15 0 0 0 0), (15, am_iret true)]
theorem ck_M_isColumn {l : Launch} {sc : Nat × (Nat → Int32)} {d : Nat} : ∀ q ∈ co_M_isColumn l d, am_ok l sc (d + 1) y_M_isColumn q.1 q.2 :=
  fa_cons (ok_iload_n (show decode (am_mB y_M_isColumn) 0 = .ok (.iload_n 1, 1) by decide +kernel) rfl) <|
  fa_cons (ok_i2l (show decode (am_mB y_M_isColumn) 1 = .ok (.i2l, 1) by decide +kernel)) <|
  fa_cons (ok_lconst (show decode (am_mB y_M_isColumn) 2 = .ok (.lconst 0, 1) by decide +kernel) rfl) <|
  fa_cons (ok_aload_n (show decode (am_mB y_M_isColumn) 3 = .ok (.aload_n 0, 1) by decide +kernel) rfl) <|
  fa_cons (ok_getR (show decode (am_mB y_M_isColumn) 4 = .ok (.getfield 16, 3) by decide +kernel) fl_M_16 (by decide +kernel)) <|
  fa_cons (ok_iconst (show decode (am_mB y_M_isColumn) 7 = .ok (.iconst 0, 1) by decide +kernel) rfl) <|
  fa_cons (ok_iald (show decode (am_mB y_M_isColumn) 8 = .ok (.iaload, 1) by decide +kernel)) <|
  fa_cons (ok_iconst (show decode (am_mB y_M_isColumn) 9 = .ok (.iconst 1, 1) by decide +kernel) rfl) <|
  fa_cons (ok_isub (show decode (am_mB y_M_isColumn) 10 = .ok (.isub, 1) by decide +kernel)) <|
  fa_cons (ok_i2l (show decode (am_mB y_M_isColumn) 11 = .ok (.i2l, 1) by decide +kernel)) <|
  fa_cons (ok_cal ⟨rfl, rfl, rfl, rfl⟩ (ok_callS (show decode (am_mB y_M_isColumn) 12 = .ok (.invokestatic 113, 3) by decide +kernel) cf_M_in (by decide +kernel) ml_M_113 cs_M_in rfl ⟨by decide +kernel, rfl⟩)) <|
  fa_cons (ok_iret (show decode (am_mB y_M_isColumn) 15 = .ok (.ireturn, 1) by decide +kernel) rfl) <|
  fa_nil
set_option maxRecDepth 100000 in
theorem cq_M_isColumn (l : Launch) (d : Nat) : am_lk (co_M_isColumn l d) 0 = am_iload 1 1 ∧ am_lk (co_M_isColumn l d) 1 = am_i2l 2 ∧ am_lk (co_M_isColumn l d) 2 = am_push (vL 0) 3 ∧ am_lk (co_M_isColumn l d) 3 = am_aload 0 4 ∧ am_lk (co_M_isColumn l d) 4 = am_getR 9 6 7 ∧ am_lk (co_M_isColumn l d) 7 = am_push (vI 0) 8 ∧ am_lk (co_M_isColumn l d) 8 = am_ald 0 9 ∧ am_lk (co_M_isColumn l d) 9 = am_push (vI 1) 10 ∧ am_lk (co_M_isColumn l d) 10 = am_isub 11 ∧ am_lk (co_M_isColumn l d) 11 = am_i2l 12 ∧ am_lk (co_M_isColumn l d) 12 = am_cal l d y_M_in none 3 15 0 0 0 0 ∧ am_lk (co_M_isColumn l d) 15 = am_iret true := ⟨rfl, rfl, rfl, rfl, rfl, rfl, rfl, rfl, rfl, rfl, rfl, rfl⟩
theorem en_M_isColumn {l : Launch} {d : Nat} (n : Nat) {as : List am_V} {G : am_G} {I : am_I} {J : am_J} {P : am_P} (hlen : (as.map am_cat).sum ≤ 2) (h : am_go (am_lk (co_M_isColumn l d)) (am_X l (0, fun _ => 0) (d + 1) y_M_isColumn P) P n 0 (am_el 2 as) [] 0 0 G I J) : am_T l (d + 1) y_M_isColumn as G I J P :=
  am_T_of (sc := (0, fun _ => 0)) cf_M_isColumn (by decide +kernel) (by decide) (by decide +kernel) hlen (am_run (ok_lk _ (ck_M_isColumn)) n _ _ _ _ _ _ _ _ h)
theorem rn_M_isColumn {l : Launch} {sc : Nat × (Nat → Int32)} {d : Nat} {P : am_P} (n : Nat) {pc : Nat} {ls : am_L} {st : List am_V} {kc ks : Nat} {G : am_G} {I : am_I} {J : am_J} (h : am_go (am_lk (co_M_isColumn l d)) (am_X l sc (d + 1) y_M_isColumn P) P n pc ls st kc ks G I J) : am_X l sc (d + 1) y_M_isColumn P pc ls st kc ks G I J := am_run (ok_lk _ (ck_M_isColumn)) n _ _ _ _ _ _ _ _ h
def co_M_isSpan (l : Launch) (d : Nat) : List (Nat × am_S) := [(0, am_iload 1 1), (1, am_i2l 2), (2, am_push (vL 0) 3), (3, am_aload 0 4), (4, am_getR 9 6 7), (7, am_push (vI 2) 8), (8, am_ald 0 9), (9, am_push (vI 1) 10), (10, am_isub 11), (11, am_i2l 12), (12, am_cal l d y_M_in none 3 15 0 0 0 0), (15, am_iret true)]
theorem ck_M_isSpan {l : Launch} {sc : Nat × (Nat → Int32)} {d : Nat} : ∀ q ∈ co_M_isSpan l d, am_ok l sc (d + 1) y_M_isSpan q.1 q.2 :=
  fa_cons (ok_iload_n (show decode (am_mB y_M_isSpan) 0 = .ok (.iload_n 1, 1) by decide +kernel) rfl) <|
  fa_cons (ok_i2l (show decode (am_mB y_M_isSpan) 1 = .ok (.i2l, 1) by decide +kernel)) <|
  fa_cons (ok_lconst (show decode (am_mB y_M_isSpan) 2 = .ok (.lconst 0, 1) by decide +kernel) rfl) <|
  fa_cons (ok_aload_n (show decode (am_mB y_M_isSpan) 3 = .ok (.aload_n 0, 1) by decide +kernel) rfl) <|
  fa_cons (ok_getR (show decode (am_mB y_M_isSpan) 4 = .ok (.getfield 16, 3) by decide +kernel) fl_M_16 (by decide +kernel)) <|
  fa_cons (ok_iconst (show decode (am_mB y_M_isSpan) 7 = .ok (.iconst 2, 1) by decide +kernel) rfl) <|
  fa_cons (ok_iald (show decode (am_mB y_M_isSpan) 8 = .ok (.iaload, 1) by decide +kernel)) <|
  fa_cons (ok_iconst (show decode (am_mB y_M_isSpan) 9 = .ok (.iconst 1, 1) by decide +kernel) rfl) <|
  fa_cons (ok_isub (show decode (am_mB y_M_isSpan) 10 = .ok (.isub, 1) by decide +kernel)) <|
  fa_cons (ok_i2l (show decode (am_mB y_M_isSpan) 11 = .ok (.i2l, 1) by decide +kernel)) <|
  fa_cons (ok_cal ⟨rfl, rfl, rfl, rfl⟩ (ok_callS (show decode (am_mB y_M_isSpan) 12 = .ok (.invokestatic 113, 3) by decide +kernel) cf_M_in (by decide +kernel) ml_M_113 cs_M_in rfl ⟨by decide +kernel, rfl⟩)) <|
  fa_cons (ok_iret (show decode (am_mB y_M_isSpan) 15 = .ok (.ireturn, 1) by decide +kernel) rfl) <|
  fa_nil
set_option maxRecDepth 100000 in
theorem cq_M_isSpan (l : Launch) (d : Nat) : am_lk (co_M_isSpan l d) 0 = am_iload 1 1 ∧ am_lk (co_M_isSpan l d) 1 = am_i2l 2 ∧ am_lk (co_M_isSpan l d) 2 = am_push (vL 0) 3 ∧ am_lk (co_M_isSpan l d) 3 = am_aload 0 4 ∧ am_lk (co_M_isSpan l d) 4 = am_getR 9 6 7 ∧ am_lk (co_M_isSpan l d) 7 = am_push (vI 2) 8 ∧ am_lk (co_M_isSpan l d) 8 = am_ald 0 9 ∧ am_lk (co_M_isSpan l d) 9 = am_push (vI 1) 10 ∧ am_lk (co_M_isSpan l d) 10 = am_isub 11 ∧ am_lk (co_M_isSpan l d) 11 = am_i2l 12 ∧ am_lk (co_M_isSpan l d) 12 = am_cal l d y_M_in none 3 15 0 0 0 0 ∧ am_lk (co_M_isSpan l d) 15 = am_iret true := ⟨rfl, rfl, rfl, rfl, rfl, rfl, rfl, rfl, rfl, rfl, rfl, rfl⟩
theorem en_M_isSpan {l : Launch} {d : Nat} (n : Nat) {as : List am_V} {G : am_G} {I : am_I} {J : am_J} {P : am_P} (hlen : (as.map am_cat).sum ≤ 2) (h : am_go (am_lk (co_M_isSpan l d)) (am_X l (0, fun _ => 0) (d + 1) y_M_isSpan P) P n 0 (am_el 2 as) [] 0 0 G I J) : am_T l (d + 1) y_M_isSpan as G I J P :=
  am_T_of (sc := (0, fun _ => 0)) cf_M_isSpan (by decide +kernel) (by decide) (by decide +kernel) hlen (am_run (ok_lk _ (ck_M_isSpan)) n _ _ _ _ _ _ _ _ h)
theorem rn_M_isSpan {l : Launch} {sc : Nat × (Nat → Int32)} {d : Nat} {P : am_P} (n : Nat) {pc : Nat} {ls : am_L} {st : List am_V} {kc ks : Nat} {G : am_G} {I : am_I} {J : am_J} (h : am_go (am_lk (co_M_isSpan l d)) (am_X l sc (d + 1) y_M_isSpan P) P n pc ls st kc ks G I J) : am_X l sc (d + 1) y_M_isSpan P pc ls st kc ks G I J := am_run (ok_lk _ (ck_M_isSpan)) n _ _ _ _ _ _ _ _ h
def co_M_row (l : Launch) (d : Nat) : List (Nat × am_S) := [(0, am_aload 0 1), (1, am_aload 0 2), (2, am_iload 1 3), (3, am_cal l d y_M_isRow (some 9) 2 6 0 0 0 0), (6, am_if_ne 9 13), (9, am_push (vI 1) 10), (10, am_goto 30), (13, am_iload 2 14), (14, am_i2l 15), (15, am_push (vL 0) 16), (16, am_push (vL 4) 19), (19, am_cal l d y_M_in none 3 22 0 0 0 0), (22, am_if_eq 25 29), (25, am_push (vI 0) 26), (26, am_goto 30), (29, am_push (vI 2) 30), (30, am_cal l d y_M_refused (some 9) 2 33 0 0 0 0), (33, am_if_eq 36 38), (36, am_push (vI 0) 37), (37, am_iret false), (38, am_aload 0 39), (39, am_aload 0 40), (40, am_getR 9 6 43), (43, am_cal l d y_M_lay (some 9) 2 46 0 0 0 0), (46, am_pop 47), (47, am_iload 2 48), (48, am_push (vI 3) 49), (49, am_icmp_ge 52 65), (52, am_aload 0 53), (53, am_getR 9 6 56), (56, am_iload 1 57), (57, am_iload 2 58), (58, am_cal l d y_M_cell none 2 61 0 0 0 0), (61, am_ald 0 62), (62, am_goto 106), (65, am_iload 2 66), (66, am_push (vI 4) 67), (67, am_icmp_ne 70 78), (70, am_aload 0 71), (71, am_iload 1 72), (72, am_cal l d y_M_pageOf (some 9) 2 75 0 0 0 0), (75, am_goto 106), (78, am_iload 1 79), (79, am_aload 0 80), (80, am_getR 9 6 83), (83, am_push (vI 1) 84), (84, am_ald 0 85), (85, am_push (vI 1) 86), (86, am_isub 87), (87, am_icmp_ge 90 105), (90, am_aload 0 91), (91, am_getR 9 6 94), (94, am_iload 1 95), (95, am_cal l d y_M_canCut none 2 98 0 0 0 0), (98, am_if_eq 101 105), (101, am_push (vI 1) 102), (102, am_goto 106), (105, am_push (vI 0) 106), (106, am_iret false)]
theorem ck_M_row {l : Launch} {sc : Nat × (Nat → Int32)} {d : Nat} : ∀ q ∈ co_M_row l d, am_ok l sc (d + 1) y_M_row q.1 q.2 :=
  fa_cons (ok_aload_n (show decode (am_mB y_M_row) 0 = .ok (.aload_n 0, 1) by decide +kernel) rfl) <|
  fa_cons (ok_aload_n (show decode (am_mB y_M_row) 1 = .ok (.aload_n 0, 1) by decide +kernel) rfl) <|
  fa_cons (ok_iload_n (show decode (am_mB y_M_row) 2 = .ok (.iload_n 1, 1) by decide +kernel) rfl) <|
  fa_cons (ok_cal ⟨rfl, rfl, rfl, rfl⟩ (ok_callV (show decode (am_mB y_M_row) 3 = .ok (.invokevirtual 188, 3) by decide +kernel) cf_M_isRow (by decide +kernel) ml_M_188 ci_M_isRow cv_M_isRow ⟨by decide, rfl⟩ rfl ⟨by decide +kernel, rfl⟩)) <|
  fa_cons (ok_if_ne (show decode (am_mB y_M_row) 6 = .ok (.ifCond .ne 7, 3) by decide +kernel) (by decide)) <|
  fa_cons (ok_iconst (show decode (am_mB y_M_row) 9 = .ok (.iconst 1, 1) by decide +kernel) rfl) <|
  fa_cons (ok_goto (show decode (am_mB y_M_row) 10 = .ok (.goto 20, 3) by decide +kernel) (by decide)) <|
  fa_cons (ok_iload_n (show decode (am_mB y_M_row) 13 = .ok (.iload_n 2, 1) by decide +kernel) rfl) <|
  fa_cons (ok_i2l (show decode (am_mB y_M_row) 14 = .ok (.i2l, 1) by decide +kernel)) <|
  fa_cons (ok_lconst (show decode (am_mB y_M_row) 15 = .ok (.lconst 0, 1) by decide +kernel) rfl) <|
  fa_cons (ok_ldc2 (show decode (am_mB y_M_row) 16 = .ok (.ldc2_w 191, 3) by decide +kernel) w_1158) <|
  fa_cons (ok_cal ⟨rfl, rfl, rfl, rfl⟩ (ok_callS (show decode (am_mB y_M_row) 19 = .ok (.invokestatic 113, 3) by decide +kernel) cf_M_in (by decide +kernel) ml_M_113 cs_M_in rfl ⟨by decide +kernel, rfl⟩)) <|
  fa_cons (ok_if_eq (show decode (am_mB y_M_row) 22 = .ok (.ifCond .eq 7, 3) by decide +kernel) (by decide)) <|
  fa_cons (ok_iconst (show decode (am_mB y_M_row) 25 = .ok (.iconst 0, 1) by decide +kernel) rfl) <|
  fa_cons (ok_goto (show decode (am_mB y_M_row) 26 = .ok (.goto 4, 3) by decide +kernel) (by decide)) <|
  fa_cons (ok_iconst (show decode (am_mB y_M_row) 29 = .ok (.iconst 2, 1) by decide +kernel) rfl) <|
  fa_cons (ok_cal ⟨rfl, rfl, rfl, rfl⟩ (ok_callV (show decode (am_mB y_M_row) 30 = .ok (.invokevirtual 128, 3) by decide +kernel) cf_M_refused (by decide +kernel) ml_M_128 ci_M_refused cv_M_refused ⟨by decide, rfl⟩ rfl ⟨by decide +kernel, rfl⟩)) <|
  fa_cons (ok_if_eq (show decode (am_mB y_M_row) 33 = .ok (.ifCond .eq 5, 3) by decide +kernel) (by decide)) <|
  fa_cons (ok_iconst (show decode (am_mB y_M_row) 36 = .ok (.iconst 0, 1) by decide +kernel) rfl) <|
  fa_cons (ok_iret (show decode (am_mB y_M_row) 37 = .ok (.ireturn, 1) by decide +kernel) rfl) <|
  fa_cons (ok_aload_n (show decode (am_mB y_M_row) 38 = .ok (.aload_n 0, 1) by decide +kernel) rfl) <|
  fa_cons (ok_aload_n (show decode (am_mB y_M_row) 39 = .ok (.aload_n 0, 1) by decide +kernel) rfl) <|
  fa_cons (ok_getR (show decode (am_mB y_M_row) 40 = .ok (.getfield 16, 3) by decide +kernel) fl_M_16 (by decide +kernel)) <|
  fa_cons (ok_cal ⟨rfl, rfl, rfl, rfl⟩ (ok_callV (show decode (am_mB y_M_row) 43 = .ok (.invokevirtual 178, 3) by decide +kernel) cf_M_lay (by decide +kernel) ml_M_178 ci_M_lay cv_M_lay ⟨by decide, rfl⟩ rfl ⟨by decide +kernel, rfl⟩)) <|
  fa_cons (ok_pop (show decode (am_mB y_M_row) 46 = .ok (.pop, 1) by decide +kernel)) <|
  fa_cons (ok_iload_n (show decode (am_mB y_M_row) 47 = .ok (.iload_n 2, 1) by decide +kernel) rfl) <|
  fa_cons (ok_iconst (show decode (am_mB y_M_row) 48 = .ok (.iconst 3, 1) by decide +kernel) rfl) <|
  fa_cons (ok_icmp_ge (show decode (am_mB y_M_row) 49 = .ok (.if_icmp .ge 16, 3) by decide +kernel) (by decide)) <|
  fa_cons (ok_aload_n (show decode (am_mB y_M_row) 52 = .ok (.aload_n 0, 1) by decide +kernel) rfl) <|
  fa_cons (ok_getR (show decode (am_mB y_M_row) 53 = .ok (.getfield 16, 3) by decide +kernel) fl_M_16 (by decide +kernel)) <|
  fa_cons (ok_iload_n (show decode (am_mB y_M_row) 56 = .ok (.iload_n 1, 1) by decide +kernel) rfl) <|
  fa_cons (ok_iload_n (show decode (am_mB y_M_row) 57 = .ok (.iload_n 2, 1) by decide +kernel) rfl) <|
  fa_cons (ok_cal ⟨rfl, rfl, rfl, rfl⟩ (ok_callS (show decode (am_mB y_M_row) 58 = .ok (.invokestatic 62, 3) by decide +kernel) cf_M_cell (by decide +kernel) ml_M_62 cs_M_cell rfl ⟨by decide +kernel, rfl⟩)) <|
  fa_cons (ok_iald (show decode (am_mB y_M_row) 61 = .ok (.iaload, 1) by decide +kernel)) <|
  fa_cons (ok_goto (show decode (am_mB y_M_row) 62 = .ok (.goto 44, 3) by decide +kernel) (by decide)) <|
  fa_cons (ok_iload_n (show decode (am_mB y_M_row) 65 = .ok (.iload_n 2, 1) by decide +kernel) rfl) <|
  fa_cons (ok_iconst (show decode (am_mB y_M_row) 66 = .ok (.iconst 4, 1) by decide +kernel) rfl) <|
  fa_cons (ok_icmp_ne (show decode (am_mB y_M_row) 67 = .ok (.if_icmp .ne 11, 3) by decide +kernel) (by decide)) <|
  fa_cons (ok_aload_n (show decode (am_mB y_M_row) 70 = .ok (.aload_n 0, 1) by decide +kernel) rfl) <|
  fa_cons (ok_iload_n (show decode (am_mB y_M_row) 71 = .ok (.iload_n 1, 1) by decide +kernel) rfl) <|
  fa_cons (ok_cal ⟨rfl, rfl, rfl, rfl⟩ (ok_callV (show decode (am_mB y_M_row) 72 = .ok (.invokevirtual 104, 3) by decide +kernel) cf_M_pageOf (by decide +kernel) ml_M_104 ci_M_pageOf cv_M_pageOf ⟨by decide, rfl⟩ rfl ⟨by decide +kernel, rfl⟩)) <|
  fa_cons (ok_goto (show decode (am_mB y_M_row) 75 = .ok (.goto 31, 3) by decide +kernel) (by decide)) <|
  fa_cons (ok_iload_n (show decode (am_mB y_M_row) 78 = .ok (.iload_n 1, 1) by decide +kernel) rfl) <|
  fa_cons (ok_aload_n (show decode (am_mB y_M_row) 79 = .ok (.aload_n 0, 1) by decide +kernel) rfl) <|
  fa_cons (ok_getR (show decode (am_mB y_M_row) 80 = .ok (.getfield 16, 3) by decide +kernel) fl_M_16 (by decide +kernel)) <|
  fa_cons (ok_iconst (show decode (am_mB y_M_row) 83 = .ok (.iconst 1, 1) by decide +kernel) rfl) <|
  fa_cons (ok_iald (show decode (am_mB y_M_row) 84 = .ok (.iaload, 1) by decide +kernel)) <|
  fa_cons (ok_iconst (show decode (am_mB y_M_row) 85 = .ok (.iconst 1, 1) by decide +kernel) rfl) <|
  fa_cons (ok_isub (show decode (am_mB y_M_row) 86 = .ok (.isub, 1) by decide +kernel)) <|
  fa_cons (ok_icmp_ge (show decode (am_mB y_M_row) 87 = .ok (.if_icmp .ge 18, 3) by decide +kernel) (by decide)) <|
  fa_cons (ok_aload_n (show decode (am_mB y_M_row) 90 = .ok (.aload_n 0, 1) by decide +kernel) rfl) <|
  fa_cons (ok_getR (show decode (am_mB y_M_row) 91 = .ok (.getfield 16, 3) by decide +kernel) fl_M_16 (by decide +kernel)) <|
  fa_cons (ok_iload_n (show decode (am_mB y_M_row) 94 = .ok (.iload_n 1, 1) by decide +kernel) rfl) <|
  fa_cons (ok_cal ⟨rfl, rfl, rfl, rfl⟩ (ok_callS (show decode (am_mB y_M_row) 95 = .ok (.invokestatic 58, 3) by decide +kernel) cf_M_canCut (by decide +kernel) ml_M_58 cs_M_canCut rfl ⟨by decide +kernel, rfl⟩)) <|
  fa_cons (ok_if_eq (show decode (am_mB y_M_row) 98 = .ok (.ifCond .eq 7, 3) by decide +kernel) (by decide)) <|
  fa_cons (ok_iconst (show decode (am_mB y_M_row) 101 = .ok (.iconst 1, 1) by decide +kernel) rfl) <|
  fa_cons (ok_goto (show decode (am_mB y_M_row) 102 = .ok (.goto 4, 3) by decide +kernel) (by decide)) <|
  fa_cons (ok_iconst (show decode (am_mB y_M_row) 105 = .ok (.iconst 0, 1) by decide +kernel) rfl) <|
  fa_cons (ok_iret (show decode (am_mB y_M_row) 106 = .ok (.ireturn, 1) by decide +kernel) rfl) <|
  fa_nil
set_option maxRecDepth 100000 in
theorem cq_M_row (l : Launch) (d : Nat) : am_lk (co_M_row l d) 0 = am_aload 0 1 ∧ am_lk (co_M_row l d) 1 = am_aload 0 2 ∧ am_lk (co_M_row l d) 2 = am_iload 1 3 ∧ am_lk (co_M_row l d) 3 = am_cal l d y_M_isRow (some 9) 2 6 0 0 0 0 ∧ am_lk (co_M_row l d) 6 = am_if_ne 9 13 ∧ am_lk (co_M_row l d) 9 = am_push (vI 1) 10 ∧ am_lk (co_M_row l d) 10 = am_goto 30 ∧ am_lk (co_M_row l d) 13 = am_iload 2 14 ∧ am_lk (co_M_row l d) 14 = am_i2l 15 ∧ am_lk (co_M_row l d) 15 = am_push (vL 0) 16 ∧ am_lk (co_M_row l d) 16 = am_push (vL 4) 19 ∧ am_lk (co_M_row l d) 19 = am_cal l d y_M_in none 3 22 0 0 0 0 ∧ am_lk (co_M_row l d) 22 = am_if_eq 25 29 ∧ am_lk (co_M_row l d) 25 = am_push (vI 0) 26 ∧ am_lk (co_M_row l d) 26 = am_goto 30 ∧ am_lk (co_M_row l d) 29 = am_push (vI 2) 30 ∧ am_lk (co_M_row l d) 30 = am_cal l d y_M_refused (some 9) 2 33 0 0 0 0 ∧ am_lk (co_M_row l d) 33 = am_if_eq 36 38 ∧ am_lk (co_M_row l d) 36 = am_push (vI 0) 37 ∧ am_lk (co_M_row l d) 37 = am_iret false ∧ am_lk (co_M_row l d) 38 = am_aload 0 39 ∧ am_lk (co_M_row l d) 39 = am_aload 0 40 ∧ am_lk (co_M_row l d) 40 = am_getR 9 6 43 ∧ am_lk (co_M_row l d) 43 = am_cal l d y_M_lay (some 9) 2 46 0 0 0 0 ∧ am_lk (co_M_row l d) 46 = am_pop 47 ∧ am_lk (co_M_row l d) 47 = am_iload 2 48 ∧ am_lk (co_M_row l d) 48 = am_push (vI 3) 49 ∧ am_lk (co_M_row l d) 49 = am_icmp_ge 52 65 ∧ am_lk (co_M_row l d) 52 = am_aload 0 53 ∧ am_lk (co_M_row l d) 53 = am_getR 9 6 56 ∧ am_lk (co_M_row l d) 56 = am_iload 1 57 ∧ am_lk (co_M_row l d) 57 = am_iload 2 58 ∧ am_lk (co_M_row l d) 58 = am_cal l d y_M_cell none 2 61 0 0 0 0 ∧ am_lk (co_M_row l d) 61 = am_ald 0 62 ∧ am_lk (co_M_row l d) 62 = am_goto 106 ∧ am_lk (co_M_row l d) 65 = am_iload 2 66 ∧ am_lk (co_M_row l d) 66 = am_push (vI 4) 67 ∧ am_lk (co_M_row l d) 67 = am_icmp_ne 70 78 ∧ am_lk (co_M_row l d) 70 = am_aload 0 71 ∧ am_lk (co_M_row l d) 71 = am_iload 1 72 ∧ am_lk (co_M_row l d) 72 = am_cal l d y_M_pageOf (some 9) 2 75 0 0 0 0 ∧ am_lk (co_M_row l d) 75 = am_goto 106 ∧ am_lk (co_M_row l d) 78 = am_iload 1 79 ∧ am_lk (co_M_row l d) 79 = am_aload 0 80 ∧ am_lk (co_M_row l d) 80 = am_getR 9 6 83 ∧ am_lk (co_M_row l d) 83 = am_push (vI 1) 84 ∧ am_lk (co_M_row l d) 84 = am_ald 0 85 ∧ am_lk (co_M_row l d) 85 = am_push (vI 1) 86 ∧ am_lk (co_M_row l d) 86 = am_isub 87 ∧ am_lk (co_M_row l d) 87 = am_icmp_ge 90 105 ∧ am_lk (co_M_row l d) 90 = am_aload 0 91 ∧ am_lk (co_M_row l d) 91 = am_getR 9 6 94 ∧ am_lk (co_M_row l d) 94 = am_iload 1 95 ∧ am_lk (co_M_row l d) 95 = am_cal l d y_M_canCut none 2 98 0 0 0 0 ∧ am_lk (co_M_row l d) 98 = am_if_eq 101 105 ∧ am_lk (co_M_row l d) 101 = am_push (vI 1) 102 ∧ am_lk (co_M_row l d) 102 = am_goto 106 ∧ am_lk (co_M_row l d) 105 = am_push (vI 0) 106 ∧ am_lk (co_M_row l d) 106 = am_iret false := ⟨rfl, rfl, rfl, rfl, rfl, rfl, rfl, rfl, rfl, rfl, rfl, rfl, rfl, rfl, rfl, rfl, rfl, rfl, rfl, rfl, rfl, rfl, rfl, rfl, rfl, rfl, rfl, rfl, rfl, rfl, rfl, rfl, rfl, rfl, rfl, rfl, rfl, rfl, rfl, rfl, rfl, rfl, rfl, rfl, rfl, rfl, rfl, rfl, rfl, rfl, rfl, rfl, rfl, rfl, rfl, rfl, rfl, rfl, rfl⟩
theorem en_M_row {l : Launch} {d : Nat} (n : Nat) {as : List am_V} {G : am_G} {I : am_I} {J : am_J} {P : am_P} (hlen : (as.map am_cat).sum ≤ 3) (h : am_go (am_lk (co_M_row l d)) (am_X l (0, fun _ => 0) (d + 1) y_M_row P) P n 0 (am_el 3 as) [] 0 0 G I J) : am_T l (d + 1) y_M_row as G I J P :=
  am_T_of (sc := (0, fun _ => 0)) cf_M_row (by decide +kernel) (by decide) (by decide +kernel) hlen (am_run (ok_lk _ (ck_M_row)) n _ _ _ _ _ _ _ _ h)
theorem rn_M_row {l : Launch} {sc : Nat × (Nat → Int32)} {d : Nat} {P : am_P} (n : Nat) {pc : Nat} {ls : am_L} {st : List am_V} {kc ks : Nat} {G : am_G} {I : am_I} {J : am_J} (h : am_go (am_lk (co_M_row l d)) (am_X l sc (d + 1) y_M_row P) P n pc ls st kc ks G I J) : am_X l sc (d + 1) y_M_row P pc ls st kc ks G I J := am_run (ok_lk _ (ck_M_row)) n _ _ _ _ _ _ _ _ h
def co_M_amount (l : Launch) (d : Nat) : List (Nat × am_S) := [(0, am_aload 0 1), (1, am_aload 0 2), (2, am_iload 1 3), (3, am_cal l d y_M_isRow (some 9) 2 6 0 0 0 0), (6, am_if_eq 9 21), (9, am_aload 0 10), (10, am_iload 2 11), (11, am_cal l d y_M_isColumn (some 9) 2 14 0 0 0 0), (14, am_if_eq 17 21), (17, am_push (vI 0) 18), (18, am_goto 22), (21, am_push (vI 1) 22), (22, am_cal l d y_M_refused (some 9) 2 25 0 0 0 0), (25, am_if_eq 28 32), (28, am_push (vI 0) 29), (29, am_goto 44), (32, am_aload 0 33), (33, am_getR 9 6 36), (36, am_iload 1 37), (37, am_push (vI 3) 38), (38, am_iload 2 39), (39, am_iadd 40), (40, am_cal l d y_M_cell none 2 43 0 0 0 0), (43, am_ald 0 44), (44, am_iret false)]
theorem ck_M_amount {l : Launch} {sc : Nat × (Nat → Int32)} {d : Nat} : ∀ q ∈ co_M_amount l d, am_ok l sc (d + 1) y_M_amount q.1 q.2 :=
  fa_cons (ok_aload_n (show decode (am_mB y_M_amount) 0 = .ok (.aload_n 0, 1) by decide +kernel) rfl) <|
  fa_cons (ok_aload_n (show decode (am_mB y_M_amount) 1 = .ok (.aload_n 0, 1) by decide +kernel) rfl) <|
  fa_cons (ok_iload_n (show decode (am_mB y_M_amount) 2 = .ok (.iload_n 1, 1) by decide +kernel) rfl) <|
  fa_cons (ok_cal ⟨rfl, rfl, rfl, rfl⟩ (ok_callV (show decode (am_mB y_M_amount) 3 = .ok (.invokevirtual 188, 3) by decide +kernel) cf_M_isRow (by decide +kernel) ml_M_188 ci_M_isRow cv_M_isRow ⟨by decide, rfl⟩ rfl ⟨by decide +kernel, rfl⟩)) <|
  fa_cons (ok_if_eq (show decode (am_mB y_M_amount) 6 = .ok (.ifCond .eq 15, 3) by decide +kernel) (by decide)) <|
  fa_cons (ok_aload_n (show decode (am_mB y_M_amount) 9 = .ok (.aload_n 0, 1) by decide +kernel) rfl) <|
  fa_cons (ok_iload_n (show decode (am_mB y_M_amount) 10 = .ok (.iload_n 2, 1) by decide +kernel) rfl) <|
  fa_cons (ok_cal ⟨rfl, rfl, rfl, rfl⟩ (ok_callV (show decode (am_mB y_M_amount) 11 = .ok (.invokevirtual 193, 3) by decide +kernel) cf_M_isColumn (by decide +kernel) ml_M_193 ci_M_isColumn cv_M_isColumn ⟨by decide, rfl⟩ rfl ⟨by decide +kernel, rfl⟩)) <|
  fa_cons (ok_if_eq (show decode (am_mB y_M_amount) 14 = .ok (.ifCond .eq 7, 3) by decide +kernel) (by decide)) <|
  fa_cons (ok_iconst (show decode (am_mB y_M_amount) 17 = .ok (.iconst 0, 1) by decide +kernel) rfl) <|
  fa_cons (ok_goto (show decode (am_mB y_M_amount) 18 = .ok (.goto 4, 3) by decide +kernel) (by decide)) <|
  fa_cons (ok_iconst (show decode (am_mB y_M_amount) 21 = .ok (.iconst 1, 1) by decide +kernel) rfl) <|
  fa_cons (ok_cal ⟨rfl, rfl, rfl, rfl⟩ (ok_callV (show decode (am_mB y_M_amount) 22 = .ok (.invokevirtual 128, 3) by decide +kernel) cf_M_refused (by decide +kernel) ml_M_128 ci_M_refused cv_M_refused ⟨by decide, rfl⟩ rfl ⟨by decide +kernel, rfl⟩)) <|
  fa_cons (ok_if_eq (show decode (am_mB y_M_amount) 25 = .ok (.ifCond .eq 7, 3) by decide +kernel) (by decide)) <|
  fa_cons (ok_iconst (show decode (am_mB y_M_amount) 28 = .ok (.iconst 0, 1) by decide +kernel) rfl) <|
  fa_cons (ok_goto (show decode (am_mB y_M_amount) 29 = .ok (.goto 15, 3) by decide +kernel) (by decide)) <|
  fa_cons (ok_aload_n (show decode (am_mB y_M_amount) 32 = .ok (.aload_n 0, 1) by decide +kernel) rfl) <|
  fa_cons (ok_getR (show decode (am_mB y_M_amount) 33 = .ok (.getfield 16, 3) by decide +kernel) fl_M_16 (by decide +kernel)) <|
  fa_cons (ok_iload_n (show decode (am_mB y_M_amount) 36 = .ok (.iload_n 1, 1) by decide +kernel) rfl) <|
  fa_cons (ok_iconst (show decode (am_mB y_M_amount) 37 = .ok (.iconst 3, 1) by decide +kernel) rfl) <|
  fa_cons (ok_iload_n (show decode (am_mB y_M_amount) 38 = .ok (.iload_n 2, 1) by decide +kernel) rfl) <|
  fa_cons (ok_iadd (show decode (am_mB y_M_amount) 39 = .ok (.iadd, 1) by decide +kernel)) <|
  fa_cons (ok_cal ⟨rfl, rfl, rfl, rfl⟩ (ok_callS (show decode (am_mB y_M_amount) 40 = .ok (.invokestatic 62, 3) by decide +kernel) cf_M_cell (by decide +kernel) ml_M_62 cs_M_cell rfl ⟨by decide +kernel, rfl⟩)) <|
  fa_cons (ok_iald (show decode (am_mB y_M_amount) 43 = .ok (.iaload, 1) by decide +kernel)) <|
  fa_cons (ok_iret (show decode (am_mB y_M_amount) 44 = .ok (.ireturn, 1) by decide +kernel) rfl) <|
  fa_nil
set_option maxRecDepth 100000 in
theorem cq_M_amount (l : Launch) (d : Nat) : am_lk (co_M_amount l d) 0 = am_aload 0 1 ∧ am_lk (co_M_amount l d) 1 = am_aload 0 2 ∧ am_lk (co_M_amount l d) 2 = am_iload 1 3 ∧ am_lk (co_M_amount l d) 3 = am_cal l d y_M_isRow (some 9) 2 6 0 0 0 0 ∧ am_lk (co_M_amount l d) 6 = am_if_eq 9 21 ∧ am_lk (co_M_amount l d) 9 = am_aload 0 10 ∧ am_lk (co_M_amount l d) 10 = am_iload 2 11 ∧ am_lk (co_M_amount l d) 11 = am_cal l d y_M_isColumn (some 9) 2 14 0 0 0 0 ∧ am_lk (co_M_amount l d) 14 = am_if_eq 17 21 ∧ am_lk (co_M_amount l d) 17 = am_push (vI 0) 18 ∧ am_lk (co_M_amount l d) 18 = am_goto 22 ∧ am_lk (co_M_amount l d) 21 = am_push (vI 1) 22 ∧ am_lk (co_M_amount l d) 22 = am_cal l d y_M_refused (some 9) 2 25 0 0 0 0 ∧ am_lk (co_M_amount l d) 25 = am_if_eq 28 32 ∧ am_lk (co_M_amount l d) 28 = am_push (vI 0) 29 ∧ am_lk (co_M_amount l d) 29 = am_goto 44 ∧ am_lk (co_M_amount l d) 32 = am_aload 0 33 ∧ am_lk (co_M_amount l d) 33 = am_getR 9 6 36 ∧ am_lk (co_M_amount l d) 36 = am_iload 1 37 ∧ am_lk (co_M_amount l d) 37 = am_push (vI 3) 38 ∧ am_lk (co_M_amount l d) 38 = am_iload 2 39 ∧ am_lk (co_M_amount l d) 39 = am_iadd 40 ∧ am_lk (co_M_amount l d) 40 = am_cal l d y_M_cell none 2 43 0 0 0 0 ∧ am_lk (co_M_amount l d) 43 = am_ald 0 44 ∧ am_lk (co_M_amount l d) 44 = am_iret false := ⟨rfl, rfl, rfl, rfl, rfl, rfl, rfl, rfl, rfl, rfl, rfl, rfl, rfl, rfl, rfl, rfl, rfl, rfl, rfl, rfl, rfl, rfl, rfl, rfl, rfl⟩
theorem en_M_amount {l : Launch} {d : Nat} (n : Nat) {as : List am_V} {G : am_G} {I : am_I} {J : am_J} {P : am_P} (hlen : (as.map am_cat).sum ≤ 3) (h : am_go (am_lk (co_M_amount l d)) (am_X l (0, fun _ => 0) (d + 1) y_M_amount P) P n 0 (am_el 3 as) [] 0 0 G I J) : am_T l (d + 1) y_M_amount as G I J P :=
  am_T_of (sc := (0, fun _ => 0)) cf_M_amount (by decide +kernel) (by decide) (by decide +kernel) hlen (am_run (ok_lk _ (ck_M_amount)) n _ _ _ _ _ _ _ _ h)
theorem rn_M_amount {l : Launch} {sc : Nat × (Nat → Int32)} {d : Nat} {P : am_P} (n : Nat) {pc : Nat} {ls : am_L} {st : List am_V} {kc ks : Nat} {G : am_G} {I : am_I} {J : am_J} (h : am_go (am_lk (co_M_amount l d)) (am_X l sc (d + 1) y_M_amount P) P n pc ls st kc ks G I J) : am_X l sc (d + 1) y_M_amount P pc ls st kc ks G I J := am_run (ok_lk _ (ck_M_amount)) n _ _ _ _ _ _ _ _ h
def co_M_span (l : Launch) (d : Nat) : List (Nat × am_S) := [(0, am_aload 0 1), (1, am_aload 0 2), (2, am_iload 1 3), (3, am_cal l d y_M_isSpan (some 9) 2 6 0 0 0 0), (6, am_if_ne 9 13), (9, am_push (vI 1) 10), (10, am_goto 30), (13, am_iload 2 14), (14, am_i2l 15), (15, am_push (vL 0) 16), (16, am_push (vL 3) 19), (19, am_cal l d y_M_in none 3 22 0 0 0 0), (22, am_if_eq 25 29), (25, am_push (vI 0) 26), (26, am_goto 30), (29, am_push (vI 2) 30), (30, am_cal l d y_M_refused (some 9) 2 33 0 0 0 0), (33, am_if_eq 36 38), (36, am_push (vI 0) 37), (37, am_iret false), (38, am_aload 0 39), (39, am_aload 0 40), (40, am_getR 9 6 43), (43, am_cal l d y_M_lay (some 9) 2 46 0 0 0 0), (46, am_pop 47), (47, am_iload 2 48), (48, am_push (vI 3) 49), (49, am_icmp_ge 52 69), (52, am_aload 0 53), (53, am_getR 9 6 56), (56, am_push (vI 179) 59), (59, am_push (vI 3) 60), (60, am_iload 1 61), (61, am_imul 62), (62, am_iadd 63), (63, am_iload 2 64), (64, am_iadd 65), (65, am_ald 0 66), (66, am_goto 78), (69, am_aload 0 70), (70, am_aload 0 71), (71, am_getR 9 6 74), (74, am_iload 1 75), (75, am_cal l d y_M_pagesOf (some 9) 3 78 0 0 0 0), (78, am_iret false)]
theorem ck_M_span {l : Launch} {sc : Nat × (Nat → Int32)} {d : Nat} : ∀ q ∈ co_M_span l d, am_ok l sc (d + 1) y_M_span q.1 q.2 :=
  fa_cons (ok_aload_n (show decode (am_mB y_M_span) 0 = .ok (.aload_n 0, 1) by decide +kernel) rfl) <|
  fa_cons (ok_aload_n (show decode (am_mB y_M_span) 1 = .ok (.aload_n 0, 1) by decide +kernel) rfl) <|
  fa_cons (ok_iload_n (show decode (am_mB y_M_span) 2 = .ok (.iload_n 1, 1) by decide +kernel) rfl) <|
  fa_cons (ok_cal ⟨rfl, rfl, rfl, rfl⟩ (ok_callV (show decode (am_mB y_M_span) 3 = .ok (.invokevirtual 196, 3) by decide +kernel) cf_M_isSpan (by decide +kernel) ml_M_196 ci_M_isSpan cv_M_isSpan ⟨by decide, rfl⟩ rfl ⟨by decide +kernel, rfl⟩)) <|
  fa_cons (ok_if_ne (show decode (am_mB y_M_span) 6 = .ok (.ifCond .ne 7, 3) by decide +kernel) (by decide)) <|
  fa_cons (ok_iconst (show decode (am_mB y_M_span) 9 = .ok (.iconst 1, 1) by decide +kernel) rfl) <|
  fa_cons (ok_goto (show decode (am_mB y_M_span) 10 = .ok (.goto 20, 3) by decide +kernel) (by decide)) <|
  fa_cons (ok_iload_n (show decode (am_mB y_M_span) 13 = .ok (.iload_n 2, 1) by decide +kernel) rfl) <|
  fa_cons (ok_i2l (show decode (am_mB y_M_span) 14 = .ok (.i2l, 1) by decide +kernel)) <|
  fa_cons (ok_lconst (show decode (am_mB y_M_span) 15 = .ok (.lconst 0, 1) by decide +kernel) rfl) <|
  fa_cons (ok_ldc2 (show decode (am_mB y_M_span) 16 = .ok (.ldc2_w 199, 3) by decide +kernel) w_1175) <|
  fa_cons (ok_cal ⟨rfl, rfl, rfl, rfl⟩ (ok_callS (show decode (am_mB y_M_span) 19 = .ok (.invokestatic 113, 3) by decide +kernel) cf_M_in (by decide +kernel) ml_M_113 cs_M_in rfl ⟨by decide +kernel, rfl⟩)) <|
  fa_cons (ok_if_eq (show decode (am_mB y_M_span) 22 = .ok (.ifCond .eq 7, 3) by decide +kernel) (by decide)) <|
  fa_cons (ok_iconst (show decode (am_mB y_M_span) 25 = .ok (.iconst 0, 1) by decide +kernel) rfl) <|
  fa_cons (ok_goto (show decode (am_mB y_M_span) 26 = .ok (.goto 4, 3) by decide +kernel) (by decide)) <|
  fa_cons (ok_iconst (show decode (am_mB y_M_span) 29 = .ok (.iconst 2, 1) by decide +kernel) rfl) <|
  fa_cons (ok_cal ⟨rfl, rfl, rfl, rfl⟩ (ok_callV (show decode (am_mB y_M_span) 30 = .ok (.invokevirtual 128, 3) by decide +kernel) cf_M_refused (by decide +kernel) ml_M_128 ci_M_refused cv_M_refused ⟨by decide, rfl⟩ rfl ⟨by decide +kernel, rfl⟩)) <|
  fa_cons (ok_if_eq (show decode (am_mB y_M_span) 33 = .ok (.ifCond .eq 5, 3) by decide +kernel) (by decide)) <|
  fa_cons (ok_iconst (show decode (am_mB y_M_span) 36 = .ok (.iconst 0, 1) by decide +kernel) rfl) <|
  fa_cons (ok_iret (show decode (am_mB y_M_span) 37 = .ok (.ireturn, 1) by decide +kernel) rfl) <|
  fa_cons (ok_aload_n (show decode (am_mB y_M_span) 38 = .ok (.aload_n 0, 1) by decide +kernel) rfl) <|
  fa_cons (ok_aload_n (show decode (am_mB y_M_span) 39 = .ok (.aload_n 0, 1) by decide +kernel) rfl) <|
  fa_cons (ok_getR (show decode (am_mB y_M_span) 40 = .ok (.getfield 16, 3) by decide +kernel) fl_M_16 (by decide +kernel)) <|
  fa_cons (ok_cal ⟨rfl, rfl, rfl, rfl⟩ (ok_callV (show decode (am_mB y_M_span) 43 = .ok (.invokevirtual 178, 3) by decide +kernel) cf_M_lay (by decide +kernel) ml_M_178 ci_M_lay cv_M_lay ⟨by decide, rfl⟩ rfl ⟨by decide +kernel, rfl⟩)) <|
  fa_cons (ok_pop (show decode (am_mB y_M_span) 46 = .ok (.pop, 1) by decide +kernel)) <|
  fa_cons (ok_iload_n (show decode (am_mB y_M_span) 47 = .ok (.iload_n 2, 1) by decide +kernel) rfl) <|
  fa_cons (ok_iconst (show decode (am_mB y_M_span) 48 = .ok (.iconst 3, 1) by decide +kernel) rfl) <|
  fa_cons (ok_icmp_ge (show decode (am_mB y_M_span) 49 = .ok (.if_icmp .ge 20, 3) by decide +kernel) (by decide)) <|
  fa_cons (ok_aload_n (show decode (am_mB y_M_span) 52 = .ok (.aload_n 0, 1) by decide +kernel) rfl) <|
  fa_cons (ok_getR (show decode (am_mB y_M_span) 53 = .ok (.getfield 16, 3) by decide +kernel) fl_M_16 (by decide +kernel)) <|
  fa_cons (ok_sipush (show decode (am_mB y_M_span) 56 = .ok (.sipush 179, 3) by decide +kernel) (by decide +kernel)) <|
  fa_cons (ok_iconst (show decode (am_mB y_M_span) 59 = .ok (.iconst 3, 1) by decide +kernel) rfl) <|
  fa_cons (ok_iload_n (show decode (am_mB y_M_span) 60 = .ok (.iload_n 1, 1) by decide +kernel) rfl) <|
  fa_cons (ok_imul (show decode (am_mB y_M_span) 61 = .ok (.imul, 1) by decide +kernel)) <|
  fa_cons (ok_iadd (show decode (am_mB y_M_span) 62 = .ok (.iadd, 1) by decide +kernel)) <|
  fa_cons (ok_iload_n (show decode (am_mB y_M_span) 63 = .ok (.iload_n 2, 1) by decide +kernel) rfl) <|
  fa_cons (ok_iadd (show decode (am_mB y_M_span) 64 = .ok (.iadd, 1) by decide +kernel)) <|
  fa_cons (ok_iald (show decode (am_mB y_M_span) 65 = .ok (.iaload, 1) by decide +kernel)) <|
  fa_cons (ok_goto (show decode (am_mB y_M_span) 66 = .ok (.goto 12, 3) by decide +kernel) (by decide)) <|
  fa_cons (ok_aload_n (show decode (am_mB y_M_span) 69 = .ok (.aload_n 0, 1) by decide +kernel) rfl) <|
  fa_cons (ok_aload_n (show decode (am_mB y_M_span) 70 = .ok (.aload_n 0, 1) by decide +kernel) rfl) <|
  fa_cons (ok_getR (show decode (am_mB y_M_span) 71 = .ok (.getfield 16, 3) by decide +kernel) fl_M_16 (by decide +kernel)) <|
  fa_cons (ok_iload_n (show decode (am_mB y_M_span) 74 = .ok (.iload_n 1, 1) by decide +kernel) rfl) <|
  fa_cons (ok_cal ⟨rfl, rfl, rfl, rfl⟩ (ok_callV (show decode (am_mB y_M_span) 75 = .ok (.invokevirtual 175, 3) by decide +kernel) cf_M_pagesOf (by decide +kernel) ml_M_175 ci_M_pagesOf cv_M_pagesOf ⟨by decide, rfl⟩ rfl ⟨by decide +kernel, rfl⟩)) <|
  fa_cons (ok_iret (show decode (am_mB y_M_span) 78 = .ok (.ireturn, 1) by decide +kernel) rfl) <|
  fa_nil
set_option maxRecDepth 100000 in
theorem cq_M_span (l : Launch) (d : Nat) : am_lk (co_M_span l d) 0 = am_aload 0 1 ∧ am_lk (co_M_span l d) 1 = am_aload 0 2 ∧ am_lk (co_M_span l d) 2 = am_iload 1 3 ∧ am_lk (co_M_span l d) 3 = am_cal l d y_M_isSpan (some 9) 2 6 0 0 0 0 ∧ am_lk (co_M_span l d) 6 = am_if_ne 9 13 ∧ am_lk (co_M_span l d) 9 = am_push (vI 1) 10 ∧ am_lk (co_M_span l d) 10 = am_goto 30 ∧ am_lk (co_M_span l d) 13 = am_iload 2 14 ∧ am_lk (co_M_span l d) 14 = am_i2l 15 ∧ am_lk (co_M_span l d) 15 = am_push (vL 0) 16 ∧ am_lk (co_M_span l d) 16 = am_push (vL 3) 19 ∧ am_lk (co_M_span l d) 19 = am_cal l d y_M_in none 3 22 0 0 0 0 ∧ am_lk (co_M_span l d) 22 = am_if_eq 25 29 ∧ am_lk (co_M_span l d) 25 = am_push (vI 0) 26 ∧ am_lk (co_M_span l d) 26 = am_goto 30 ∧ am_lk (co_M_span l d) 29 = am_push (vI 2) 30 ∧ am_lk (co_M_span l d) 30 = am_cal l d y_M_refused (some 9) 2 33 0 0 0 0 ∧ am_lk (co_M_span l d) 33 = am_if_eq 36 38 ∧ am_lk (co_M_span l d) 36 = am_push (vI 0) 37 ∧ am_lk (co_M_span l d) 37 = am_iret false ∧ am_lk (co_M_span l d) 38 = am_aload 0 39 ∧ am_lk (co_M_span l d) 39 = am_aload 0 40 ∧ am_lk (co_M_span l d) 40 = am_getR 9 6 43 ∧ am_lk (co_M_span l d) 43 = am_cal l d y_M_lay (some 9) 2 46 0 0 0 0 ∧ am_lk (co_M_span l d) 46 = am_pop 47 ∧ am_lk (co_M_span l d) 47 = am_iload 2 48 ∧ am_lk (co_M_span l d) 48 = am_push (vI 3) 49 ∧ am_lk (co_M_span l d) 49 = am_icmp_ge 52 69 ∧ am_lk (co_M_span l d) 52 = am_aload 0 53 ∧ am_lk (co_M_span l d) 53 = am_getR 9 6 56 ∧ am_lk (co_M_span l d) 56 = am_push (vI 179) 59 ∧ am_lk (co_M_span l d) 59 = am_push (vI 3) 60 ∧ am_lk (co_M_span l d) 60 = am_iload 1 61 ∧ am_lk (co_M_span l d) 61 = am_imul 62 ∧ am_lk (co_M_span l d) 62 = am_iadd 63 ∧ am_lk (co_M_span l d) 63 = am_iload 2 64 ∧ am_lk (co_M_span l d) 64 = am_iadd 65 ∧ am_lk (co_M_span l d) 65 = am_ald 0 66 ∧ am_lk (co_M_span l d) 66 = am_goto 78 ∧ am_lk (co_M_span l d) 69 = am_aload 0 70 ∧ am_lk (co_M_span l d) 70 = am_aload 0 71 ∧ am_lk (co_M_span l d) 71 = am_getR 9 6 74 ∧ am_lk (co_M_span l d) 74 = am_iload 1 75 ∧ am_lk (co_M_span l d) 75 = am_cal l d y_M_pagesOf (some 9) 3 78 0 0 0 0 ∧ am_lk (co_M_span l d) 78 = am_iret false := ⟨rfl, rfl, rfl, rfl, rfl, rfl, rfl, rfl, rfl, rfl, rfl, rfl, rfl, rfl, rfl, rfl, rfl, rfl, rfl, rfl, rfl, rfl, rfl, rfl, rfl, rfl, rfl, rfl, rfl, rfl, rfl, rfl, rfl, rfl, rfl, rfl, rfl, rfl, rfl, rfl, rfl, rfl, rfl, rfl, rfl⟩
theorem en_M_span {l : Launch} {d : Nat} (n : Nat) {as : List am_V} {G : am_G} {I : am_I} {J : am_J} {P : am_P} (hlen : (as.map am_cat).sum ≤ 3) (h : am_go (am_lk (co_M_span l d)) (am_X l (0, fun _ => 0) (d + 1) y_M_span P) P n 0 (am_el 3 as) [] 0 0 G I J) : am_T l (d + 1) y_M_span as G I J P :=
  am_T_of (sc := (0, fun _ => 0)) cf_M_span (by decide +kernel) (by decide) (by decide +kernel) hlen (am_run (ok_lk _ (ck_M_span)) n _ _ _ _ _ _ _ _ h)
theorem rn_M_span {l : Launch} {sc : Nat × (Nat → Int32)} {d : Nat} {P : am_P} (n : Nat) {pc : Nat} {ls : am_L} {st : List am_V} {kc ks : Nat} {G : am_G} {I : am_I} {J : am_J} (h : am_go (am_lk (co_M_span l d)) (am_X l sc (d + 1) y_M_span P) P n pc ls st kc ks G I J) : am_X l sc (d + 1) y_M_span P pc ls st kc ks G I J := am_run (ok_lk _ (ck_M_span)) n _ _ _ _ _ _ _ _ h
def co_M_note (l : Launch) (d : Nat) : List (Nat × am_S) := [(0, am_aload 0 1), (1, am_iload 1 2), (2, am_i2l 3), (3, am_push (vL 1) 4), (4, am_push (vL 6) 7), (7, am_cal l d y_M_in none 3 10 0 0 0 0), (10, am_if_eq 13 17), (13, am_push (vI 0) 14), (14, am_goto 18), (17, am_push (vI 1) 18), (18, am_cal l d y_M_refused (some 9) 2 21 0 0 0 0), (21, am_if_eq 24 28), (24, am_push (vI 0) 25), (25, am_goto 38), (28, am_aload 0 29), (29, am_getR 9 6 32), (32, am_push (vI 5) 33), (33, am_iload 1 34), (34, am_iadd 35), (35, am_push (vI 1) 36), (36, am_isub 37), (37, am_ald 0 38), (38, am_iret false)]
theorem ck_M_note {l : Launch} {sc : Nat × (Nat → Int32)} {d : Nat} : ∀ q ∈ co_M_note l d, am_ok l sc (d + 1) y_M_note q.1 q.2 :=
  fa_cons (ok_aload_n (show decode (am_mB y_M_note) 0 = .ok (.aload_n 0, 1) by decide +kernel) rfl) <|
  fa_cons (ok_iload_n (show decode (am_mB y_M_note) 1 = .ok (.iload_n 1, 1) by decide +kernel) rfl) <|
  fa_cons (ok_i2l (show decode (am_mB y_M_note) 2 = .ok (.i2l, 1) by decide +kernel)) <|
  fa_cons (ok_lconst (show decode (am_mB y_M_note) 3 = .ok (.lconst 1, 1) by decide +kernel) rfl) <|
  fa_cons (ok_ldc2 (show decode (am_mB y_M_note) 4 = .ok (.ldc2_w 201, 3) by decide +kernel) w_1180) <|
  fa_cons (ok_cal ⟨rfl, rfl, rfl, rfl⟩ (ok_callS (show decode (am_mB y_M_note) 7 = .ok (.invokestatic 113, 3) by decide +kernel) cf_M_in (by decide +kernel) ml_M_113 cs_M_in rfl ⟨by decide +kernel, rfl⟩)) <|
  fa_cons (ok_if_eq (show decode (am_mB y_M_note) 10 = .ok (.ifCond .eq 7, 3) by decide +kernel) (by decide)) <|
  fa_cons (ok_iconst (show decode (am_mB y_M_note) 13 = .ok (.iconst 0, 1) by decide +kernel) rfl) <|
  fa_cons (ok_goto (show decode (am_mB y_M_note) 14 = .ok (.goto 4, 3) by decide +kernel) (by decide)) <|
  fa_cons (ok_iconst (show decode (am_mB y_M_note) 17 = .ok (.iconst 1, 1) by decide +kernel) rfl) <|
  fa_cons (ok_cal ⟨rfl, rfl, rfl, rfl⟩ (ok_callV (show decode (am_mB y_M_note) 18 = .ok (.invokevirtual 128, 3) by decide +kernel) cf_M_refused (by decide +kernel) ml_M_128 ci_M_refused cv_M_refused ⟨by decide, rfl⟩ rfl ⟨by decide +kernel, rfl⟩)) <|
  fa_cons (ok_if_eq (show decode (am_mB y_M_note) 21 = .ok (.ifCond .eq 7, 3) by decide +kernel) (by decide)) <|
  fa_cons (ok_iconst (show decode (am_mB y_M_note) 24 = .ok (.iconst 0, 1) by decide +kernel) rfl) <|
  fa_cons (ok_goto (show decode (am_mB y_M_note) 25 = .ok (.goto 13, 3) by decide +kernel) (by decide)) <|
  fa_cons (ok_aload_n (show decode (am_mB y_M_note) 28 = .ok (.aload_n 0, 1) by decide +kernel) rfl) <|
  fa_cons (ok_getR (show decode (am_mB y_M_note) 29 = .ok (.getfield 16, 3) by decide +kernel) fl_M_16 (by decide +kernel)) <|
  fa_cons (ok_iconst (show decode (am_mB y_M_note) 32 = .ok (.iconst 5, 1) by decide +kernel) rfl) <|
  fa_cons (ok_iload_n (show decode (am_mB y_M_note) 33 = .ok (.iload_n 1, 1) by decide +kernel) rfl) <|
  fa_cons (ok_iadd (show decode (am_mB y_M_note) 34 = .ok (.iadd, 1) by decide +kernel)) <|
  fa_cons (ok_iconst (show decode (am_mB y_M_note) 35 = .ok (.iconst 1, 1) by decide +kernel) rfl) <|
  fa_cons (ok_isub (show decode (am_mB y_M_note) 36 = .ok (.isub, 1) by decide +kernel)) <|
  fa_cons (ok_iald (show decode (am_mB y_M_note) 37 = .ok (.iaload, 1) by decide +kernel)) <|
  fa_cons (ok_iret (show decode (am_mB y_M_note) 38 = .ok (.ireturn, 1) by decide +kernel) rfl) <|
  fa_nil
set_option maxRecDepth 100000 in
theorem cq_M_note (l : Launch) (d : Nat) : am_lk (co_M_note l d) 0 = am_aload 0 1 ∧ am_lk (co_M_note l d) 1 = am_iload 1 2 ∧ am_lk (co_M_note l d) 2 = am_i2l 3 ∧ am_lk (co_M_note l d) 3 = am_push (vL 1) 4 ∧ am_lk (co_M_note l d) 4 = am_push (vL 6) 7 ∧ am_lk (co_M_note l d) 7 = am_cal l d y_M_in none 3 10 0 0 0 0 ∧ am_lk (co_M_note l d) 10 = am_if_eq 13 17 ∧ am_lk (co_M_note l d) 13 = am_push (vI 0) 14 ∧ am_lk (co_M_note l d) 14 = am_goto 18 ∧ am_lk (co_M_note l d) 17 = am_push (vI 1) 18 ∧ am_lk (co_M_note l d) 18 = am_cal l d y_M_refused (some 9) 2 21 0 0 0 0 ∧ am_lk (co_M_note l d) 21 = am_if_eq 24 28 ∧ am_lk (co_M_note l d) 24 = am_push (vI 0) 25 ∧ am_lk (co_M_note l d) 25 = am_goto 38 ∧ am_lk (co_M_note l d) 28 = am_aload 0 29 ∧ am_lk (co_M_note l d) 29 = am_getR 9 6 32 ∧ am_lk (co_M_note l d) 32 = am_push (vI 5) 33 ∧ am_lk (co_M_note l d) 33 = am_iload 1 34 ∧ am_lk (co_M_note l d) 34 = am_iadd 35 ∧ am_lk (co_M_note l d) 35 = am_push (vI 1) 36 ∧ am_lk (co_M_note l d) 36 = am_isub 37 ∧ am_lk (co_M_note l d) 37 = am_ald 0 38 ∧ am_lk (co_M_note l d) 38 = am_iret false := ⟨rfl, rfl, rfl, rfl, rfl, rfl, rfl, rfl, rfl, rfl, rfl, rfl, rfl, rfl, rfl, rfl, rfl, rfl, rfl, rfl, rfl, rfl, rfl⟩
theorem en_M_note {l : Launch} {d : Nat} (n : Nat) {as : List am_V} {G : am_G} {I : am_I} {J : am_J} {P : am_P} (hlen : (as.map am_cat).sum ≤ 2) (h : am_go (am_lk (co_M_note l d)) (am_X l (0, fun _ => 0) (d + 1) y_M_note P) P n 0 (am_el 2 as) [] 0 0 G I J) : am_T l (d + 1) y_M_note as G I J P :=
  am_T_of (sc := (0, fun _ => 0)) cf_M_note (by decide +kernel) (by decide) (by decide +kernel) hlen (am_run (ok_lk _ (ck_M_note)) n _ _ _ _ _ _ _ _ h)
theorem rn_M_note {l : Launch} {sc : Nat × (Nat → Int32)} {d : Nat} {P : am_P} (n : Nat) {pc : Nat} {ls : am_L} {st : List am_V} {kc ks : Nat} {G : am_G} {I : am_I} {J : am_J} (h : am_go (am_lk (co_M_note l d)) (am_X l sc (d + 1) y_M_note P) P n pc ls st kc ks G I J) : am_X l sc (d + 1) y_M_note P pc ls st kc ks G I J := am_run (ok_lk _ (ck_M_note)) n _ _ _ _ _ _ _ _ h
def co_M_isPage (l : Launch) (d : Nat) : List (Nat × am_S) := [(0, am_iload 1 1), (1, am_i2l 2), (2, am_push (vL 0) 3), (3, am_aload 0 4), (4, am_aload 0 5), (5, am_getR 9 6 8), (8, am_cal l d y_M_lay (some 9) 2 11 0 0 0 0), (11, am_push (vI 1) 12), (12, am_isub 13), (13, am_i2l 14), (14, am_cal l d y_M_in none 3 17 0 0 0 0), (17, am_iret true)]
theorem ck_M_isPage {l : Launch} {sc : Nat × (Nat → Int32)} {d : Nat} : ∀ q ∈ co_M_isPage l d, am_ok l sc (d + 1) y_M_isPage q.1 q.2 :=
  fa_cons (ok_iload_n (show decode (am_mB y_M_isPage) 0 = .ok (.iload_n 1, 1) by decide +kernel) rfl) <|
  fa_cons (ok_i2l (show decode (am_mB y_M_isPage) 1 = .ok (.i2l, 1) by decide +kernel)) <|
  fa_cons (ok_lconst (show decode (am_mB y_M_isPage) 2 = .ok (.lconst 0, 1) by decide +kernel) rfl) <|
  fa_cons (ok_aload_n (show decode (am_mB y_M_isPage) 3 = .ok (.aload_n 0, 1) by decide +kernel) rfl) <|
  fa_cons (ok_aload_n (show decode (am_mB y_M_isPage) 4 = .ok (.aload_n 0, 1) by decide +kernel) rfl) <|
  fa_cons (ok_getR (show decode (am_mB y_M_isPage) 5 = .ok (.getfield 16, 3) by decide +kernel) fl_M_16 (by decide +kernel)) <|
  fa_cons (ok_cal ⟨rfl, rfl, rfl, rfl⟩ (ok_callV (show decode (am_mB y_M_isPage) 8 = .ok (.invokevirtual 178, 3) by decide +kernel) cf_M_lay (by decide +kernel) ml_M_178 ci_M_lay cv_M_lay ⟨by decide, rfl⟩ rfl ⟨by decide +kernel, rfl⟩)) <|
  fa_cons (ok_iconst (show decode (am_mB y_M_isPage) 11 = .ok (.iconst 1, 1) by decide +kernel) rfl) <|
  fa_cons (ok_isub (show decode (am_mB y_M_isPage) 12 = .ok (.isub, 1) by decide +kernel)) <|
  fa_cons (ok_i2l (show decode (am_mB y_M_isPage) 13 = .ok (.i2l, 1) by decide +kernel)) <|
  fa_cons (ok_cal ⟨rfl, rfl, rfl, rfl⟩ (ok_callS (show decode (am_mB y_M_isPage) 14 = .ok (.invokestatic 113, 3) by decide +kernel) cf_M_in (by decide +kernel) ml_M_113 cs_M_in rfl ⟨by decide +kernel, rfl⟩)) <|
  fa_cons (ok_iret (show decode (am_mB y_M_isPage) 17 = .ok (.ireturn, 1) by decide +kernel) rfl) <|
  fa_nil
set_option maxRecDepth 100000 in
theorem cq_M_isPage (l : Launch) (d : Nat) : am_lk (co_M_isPage l d) 0 = am_iload 1 1 ∧ am_lk (co_M_isPage l d) 1 = am_i2l 2 ∧ am_lk (co_M_isPage l d) 2 = am_push (vL 0) 3 ∧ am_lk (co_M_isPage l d) 3 = am_aload 0 4 ∧ am_lk (co_M_isPage l d) 4 = am_aload 0 5 ∧ am_lk (co_M_isPage l d) 5 = am_getR 9 6 8 ∧ am_lk (co_M_isPage l d) 8 = am_cal l d y_M_lay (some 9) 2 11 0 0 0 0 ∧ am_lk (co_M_isPage l d) 11 = am_push (vI 1) 12 ∧ am_lk (co_M_isPage l d) 12 = am_isub 13 ∧ am_lk (co_M_isPage l d) 13 = am_i2l 14 ∧ am_lk (co_M_isPage l d) 14 = am_cal l d y_M_in none 3 17 0 0 0 0 ∧ am_lk (co_M_isPage l d) 17 = am_iret true := ⟨rfl, rfl, rfl, rfl, rfl, rfl, rfl, rfl, rfl, rfl, rfl, rfl⟩
theorem en_M_isPage {l : Launch} {d : Nat} (n : Nat) {as : List am_V} {G : am_G} {I : am_I} {J : am_J} {P : am_P} (hlen : (as.map am_cat).sum ≤ 2) (h : am_go (am_lk (co_M_isPage l d)) (am_X l (0, fun _ => 0) (d + 1) y_M_isPage P) P n 0 (am_el 2 as) [] 0 0 G I J) : am_T l (d + 1) y_M_isPage as G I J P :=
  am_T_of (sc := (0, fun _ => 0)) cf_M_isPage (by decide +kernel) (by decide) (by decide +kernel) hlen (am_run (ok_lk _ (ck_M_isPage)) n _ _ _ _ _ _ _ _ h)
theorem rn_M_isPage {l : Launch} {sc : Nat × (Nat → Int32)} {d : Nat} {P : am_P} (n : Nat) {pc : Nat} {ls : am_L} {st : List am_V} {kc ks : Nat} {G : am_G} {I : am_I} {J : am_J} (h : am_go (am_lk (co_M_isPage l d)) (am_X l sc (d + 1) y_M_isPage P) P n pc ls st kc ks G I J) : am_X l sc (d + 1) y_M_isPage P pc ls st kc ks G I J := am_run (ok_lk _ (ck_M_isPage)) n _ _ _ _ _ _ _ _ h
def co_M_page (l : Launch) (d : Nat) : List (Nat × am_S) := [(0, am_aload 0 1), (1, am_aload 0 2), (2, am_iload 1 3), (3, am_cal l d y_M_isPage (some 9) 2 6 0 0 0 0), (6, am_if_ne 9 13), (9, am_push (vI 1) 10), (10, am_goto 30), (13, am_iload 2 14), (14, am_i2l 15), (15, am_push (vL 0) 16), (16, am_push (vL 5) 19), (19, am_cal l d y_M_in none 3 22 0 0 0 0), (22, am_if_eq 25 29), (25, am_push (vI 0) 26), (26, am_goto 30), (29, am_push (vI 2) 30), (30, am_cal l d y_M_refused (some 9) 2 33 0 0 0 0), (33, am_if_eq 36 38), (36, am_push (vI 0) 37), (37, am_iret false), (38, am_aload 0 39), (39, am_iload 1 40), (40, am_cal l d y_M_startOf (some 9) 2 43 0 0 0 0), (43, am_istore 3 44), (44, am_aload 0 45), (45, am_getR 9 12 48), (48, am_iload 1 49), (49, am_ald 0 50), (50, am_istore 4 52), (52, am_iload 2 53), (53, am_tsw 0 [88, 90, 93, 104, 122] 131), (88, am_iload 3 89), (89, am_iret false), (90, am_iload 4 92), (92, am_iret false), (93, am_aload 0 94), (94, am_getR 9 6 97), (97, am_iload 3 98), (98, am_iload 4 100), (100, am_cal l d y_M_lines none 3 103 0 0 0 0), (103, am_iret false), (104, am_aload 0 105), (105, am_getR 9 6 108), (108, am_push (vI 3) 109), (109, am_ald 0 110), (110, am_aload 0 111), (111, am_getR 9 6 114), (114, am_iload 3 115), (115, am_iload 4 117), (117, am_cal l d y_M_lines none 3 120 0 0 0 0), (120, am_isub 121), (121, am_iret false), (122, am_aload 0 123), (123, am_getR 9 6 126), (126, am_iload 3 127), (127, am_cal l d y_M_names none 2 130 0 0 0 0), (130, am_iret false), (131, am_aload 0 132), (132, am_getR 9 6 135), (135, am_iload 3 136), (136, am_iload 4 138), (138, am_cal l d y_M_notes none 3 141 0 0 0 0), (141, am_iret false)]
theorem ck_M_page {l : Launch} {sc : Nat × (Nat → Int32)} {d : Nat} : ∀ q ∈ co_M_page l d, am_ok l sc (d + 1) y_M_page q.1 q.2 :=
  fa_cons (ok_aload_n (show decode (am_mB y_M_page) 0 = .ok (.aload_n 0, 1) by decide +kernel) rfl) <|
  fa_cons (ok_aload_n (show decode (am_mB y_M_page) 1 = .ok (.aload_n 0, 1) by decide +kernel) rfl) <|
  fa_cons (ok_iload_n (show decode (am_mB y_M_page) 2 = .ok (.iload_n 1, 1) by decide +kernel) rfl) <|
  fa_cons (ok_cal ⟨rfl, rfl, rfl, rfl⟩ (ok_callV (show decode (am_mB y_M_page) 3 = .ok (.invokevirtual 203, 3) by decide +kernel) cf_M_isPage (by decide +kernel) ml_M_203 ci_M_isPage cv_M_isPage ⟨by decide, rfl⟩ rfl ⟨by decide +kernel, rfl⟩)) <|
  fa_cons (ok_if_ne (show decode (am_mB y_M_page) 6 = .ok (.ifCond .ne 7, 3) by decide +kernel) (by decide)) <|
  fa_cons (ok_iconst (show decode (am_mB y_M_page) 9 = .ok (.iconst 1, 1) by decide +kernel) rfl) <|
  fa_cons (ok_goto (show decode (am_mB y_M_page) 10 = .ok (.goto 20, 3) by decide +kernel) (by decide)) <|
  fa_cons (ok_iload_n (show decode (am_mB y_M_page) 13 = .ok (.iload_n 2, 1) by decide +kernel) rfl) <|
  fa_cons (ok_i2l (show decode (am_mB y_M_page) 14 = .ok (.i2l, 1) by decide +kernel)) <|
  fa_cons (ok_lconst (show decode (am_mB y_M_page) 15 = .ok (.lconst 0, 1) by decide +kernel) rfl) <|
  fa_cons (ok_ldc2 (show decode (am_mB y_M_page) 16 = .ok (.ldc2_w 206, 3) by decide +kernel) w_1189) <|
  fa_cons (ok_cal ⟨rfl, rfl, rfl, rfl⟩ (ok_callS (show decode (am_mB y_M_page) 19 = .ok (.invokestatic 113, 3) by decide +kernel) cf_M_in (by decide +kernel) ml_M_113 cs_M_in rfl ⟨by decide +kernel, rfl⟩)) <|
  fa_cons (ok_if_eq (show decode (am_mB y_M_page) 22 = .ok (.ifCond .eq 7, 3) by decide +kernel) (by decide)) <|
  fa_cons (ok_iconst (show decode (am_mB y_M_page) 25 = .ok (.iconst 0, 1) by decide +kernel) rfl) <|
  fa_cons (ok_goto (show decode (am_mB y_M_page) 26 = .ok (.goto 4, 3) by decide +kernel) (by decide)) <|
  fa_cons (ok_iconst (show decode (am_mB y_M_page) 29 = .ok (.iconst 2, 1) by decide +kernel) rfl) <|
  fa_cons (ok_cal ⟨rfl, rfl, rfl, rfl⟩ (ok_callV (show decode (am_mB y_M_page) 30 = .ok (.invokevirtual 128, 3) by decide +kernel) cf_M_refused (by decide +kernel) ml_M_128 ci_M_refused cv_M_refused ⟨by decide, rfl⟩ rfl ⟨by decide +kernel, rfl⟩)) <|
  fa_cons (ok_if_eq (show decode (am_mB y_M_page) 33 = .ok (.ifCond .eq 5, 3) by decide +kernel) (by decide)) <|
  fa_cons (ok_iconst (show decode (am_mB y_M_page) 36 = .ok (.iconst 0, 1) by decide +kernel) rfl) <|
  fa_cons (ok_iret (show decode (am_mB y_M_page) 37 = .ok (.ireturn, 1) by decide +kernel) rfl) <|
  fa_cons (ok_aload_n (show decode (am_mB y_M_page) 38 = .ok (.aload_n 0, 1) by decide +kernel) rfl) <|
  fa_cons (ok_iload_n (show decode (am_mB y_M_page) 39 = .ok (.iload_n 1, 1) by decide +kernel) rfl) <|
  fa_cons (ok_cal ⟨rfl, rfl, rfl, rfl⟩ (ok_callV (show decode (am_mB y_M_page) 40 = .ok (.invokevirtual 100, 3) by decide +kernel) cf_M_startOf (by decide +kernel) ml_M_100 ci_M_startOf cv_M_startOf ⟨by decide, rfl⟩ rfl ⟨by decide +kernel, rfl⟩)) <|
  fa_cons (ok_istore_n (show decode (am_mB y_M_page) 43 = .ok (.istore_n 3, 1) by decide +kernel) rfl (by decide +kernel)) <|
  fa_cons (ok_aload_n (show decode (am_mB y_M_page) 44 = .ok (.aload_n 0, 1) by decide +kernel) rfl) <|
  fa_cons (ok_getR (show decode (am_mB y_M_page) 45 = .ok (.getfield 32, 3) by decide +kernel) fl_M_32 (by decide +kernel)) <|
  fa_cons (ok_iload_n (show decode (am_mB y_M_page) 48 = .ok (.iload_n 1, 1) by decide +kernel) rfl) <|
  fa_cons (ok_iald (show decode (am_mB y_M_page) 49 = .ok (.iaload, 1) by decide +kernel)) <|
  fa_cons (ok_istore (show decode (am_mB y_M_page) 50 = .ok (.istore 4, 2) by decide +kernel) (by decide +kernel)) <|
  fa_cons (ok_iload_n (show decode (am_mB y_M_page) 52 = .ok (.iload_n 2, 1) by decide +kernel) rfl) <|
  fa_cons (ok_tsw (show decode (am_mB y_M_page) 53 = .ok (.tableswitch 78 0 4 #[35, 37, 40, 51, 69], 35) by decide +kernel) (by decide) (by decide) (by decide)) <|
  fa_cons (ok_iload_n (show decode (am_mB y_M_page) 88 = .ok (.iload_n 3, 1) by decide +kernel) rfl) <|
  fa_cons (ok_iret (show decode (am_mB y_M_page) 89 = .ok (.ireturn, 1) by decide +kernel) rfl) <|
  fa_cons (ok_iload (show decode (am_mB y_M_page) 90 = .ok (.iload 4, 2) by decide +kernel)) <|
  fa_cons (ok_iret (show decode (am_mB y_M_page) 92 = .ok (.ireturn, 1) by decide +kernel) rfl) <|
  fa_cons (ok_aload_n (show decode (am_mB y_M_page) 93 = .ok (.aload_n 0, 1) by decide +kernel) rfl) <|
  fa_cons (ok_getR (show decode (am_mB y_M_page) 94 = .ok (.getfield 16, 3) by decide +kernel) fl_M_16 (by decide +kernel)) <|
  fa_cons (ok_iload_n (show decode (am_mB y_M_page) 97 = .ok (.iload_n 3, 1) by decide +kernel) rfl) <|
  fa_cons (ok_iload (show decode (am_mB y_M_page) 98 = .ok (.iload 4, 2) by decide +kernel)) <|
  fa_cons (ok_cal ⟨rfl, rfl, rfl, rfl⟩ (ok_callS (show decode (am_mB y_M_page) 100 = .ok (.invokestatic 87, 3) by decide +kernel) cf_M_lines (by decide +kernel) ml_M_87 cs_M_lines rfl ⟨by decide +kernel, rfl⟩)) <|
  fa_cons (ok_iret (show decode (am_mB y_M_page) 103 = .ok (.ireturn, 1) by decide +kernel) rfl) <|
  fa_cons (ok_aload_n (show decode (am_mB y_M_page) 104 = .ok (.aload_n 0, 1) by decide +kernel) rfl) <|
  fa_cons (ok_getR (show decode (am_mB y_M_page) 105 = .ok (.getfield 16, 3) by decide +kernel) fl_M_16 (by decide +kernel)) <|
  fa_cons (ok_iconst (show decode (am_mB y_M_page) 108 = .ok (.iconst 3, 1) by decide +kernel) rfl) <|
  fa_cons (ok_iald (show decode (am_mB y_M_page) 109 = .ok (.iaload, 1) by decide +kernel)) <|
  fa_cons (ok_aload_n (show decode (am_mB y_M_page) 110 = .ok (.aload_n 0, 1) by decide +kernel) rfl) <|
  fa_cons (ok_getR (show decode (am_mB y_M_page) 111 = .ok (.getfield 16, 3) by decide +kernel) fl_M_16 (by decide +kernel)) <|
  fa_cons (ok_iload_n (show decode (am_mB y_M_page) 114 = .ok (.iload_n 3, 1) by decide +kernel) rfl) <|
  fa_cons (ok_iload (show decode (am_mB y_M_page) 115 = .ok (.iload 4, 2) by decide +kernel)) <|
  fa_cons (ok_cal ⟨rfl, rfl, rfl, rfl⟩ (ok_callS (show decode (am_mB y_M_page) 117 = .ok (.invokestatic 87, 3) by decide +kernel) cf_M_lines (by decide +kernel) ml_M_87 cs_M_lines rfl ⟨by decide +kernel, rfl⟩)) <|
  fa_cons (ok_isub (show decode (am_mB y_M_page) 120 = .ok (.isub, 1) by decide +kernel)) <|
  fa_cons (ok_iret (show decode (am_mB y_M_page) 121 = .ok (.ireturn, 1) by decide +kernel) rfl) <|
  fa_cons (ok_aload_n (show decode (am_mB y_M_page) 122 = .ok (.aload_n 0, 1) by decide +kernel) rfl) <|
  fa_cons (ok_getR (show decode (am_mB y_M_page) 123 = .ok (.getfield 16, 3) by decide +kernel) fl_M_16 (by decide +kernel)) <|
  fa_cons (ok_iload_n (show decode (am_mB y_M_page) 126 = .ok (.iload_n 3, 1) by decide +kernel) rfl) <|
  fa_cons (ok_cal ⟨rfl, rfl, rfl, rfl⟩ (ok_callS (show decode (am_mB y_M_page) 127 = .ok (.invokestatic 73, 3) by decide +kernel) cf_M_names (by decide +kernel) ml_M_73 cs_M_names rfl ⟨by decide +kernel, rfl⟩)) <|
  fa_cons (ok_iret (show decode (am_mB y_M_page) 130 = .ok (.ireturn, 1) by decide +kernel) rfl) <|
  fa_cons (ok_aload_n (show decode (am_mB y_M_page) 131 = .ok (.aload_n 0, 1) by decide +kernel) rfl) <|
  fa_cons (ok_getR (show decode (am_mB y_M_page) 132 = .ok (.getfield 16, 3) by decide +kernel) fl_M_16 (by decide +kernel)) <|
  fa_cons (ok_iload_n (show decode (am_mB y_M_page) 135 = .ok (.iload_n 3, 1) by decide +kernel) rfl) <|
  fa_cons (ok_iload (show decode (am_mB y_M_page) 136 = .ok (.iload 4, 2) by decide +kernel)) <|
  fa_cons (ok_cal ⟨rfl, rfl, rfl, rfl⟩ (ok_callS (show decode (am_mB y_M_page) 138 = .ok (.invokestatic 76, 3) by decide +kernel) cf_M_notes (by decide +kernel) ml_M_76 cs_M_notes rfl ⟨by decide +kernel, rfl⟩)) <|
  fa_cons (ok_iret (show decode (am_mB y_M_page) 141 = .ok (.ireturn, 1) by decide +kernel) rfl) <|
  fa_nil
set_option maxRecDepth 100000 in
theorem cq_M_page (l : Launch) (d : Nat) : am_lk (co_M_page l d) 0 = am_aload 0 1 ∧ am_lk (co_M_page l d) 1 = am_aload 0 2 ∧ am_lk (co_M_page l d) 2 = am_iload 1 3 ∧ am_lk (co_M_page l d) 3 = am_cal l d y_M_isPage (some 9) 2 6 0 0 0 0 ∧ am_lk (co_M_page l d) 6 = am_if_ne 9 13 ∧ am_lk (co_M_page l d) 9 = am_push (vI 1) 10 ∧ am_lk (co_M_page l d) 10 = am_goto 30 ∧ am_lk (co_M_page l d) 13 = am_iload 2 14 ∧ am_lk (co_M_page l d) 14 = am_i2l 15 ∧ am_lk (co_M_page l d) 15 = am_push (vL 0) 16 ∧ am_lk (co_M_page l d) 16 = am_push (vL 5) 19 ∧ am_lk (co_M_page l d) 19 = am_cal l d y_M_in none 3 22 0 0 0 0 ∧ am_lk (co_M_page l d) 22 = am_if_eq 25 29 ∧ am_lk (co_M_page l d) 25 = am_push (vI 0) 26 ∧ am_lk (co_M_page l d) 26 = am_goto 30 ∧ am_lk (co_M_page l d) 29 = am_push (vI 2) 30 ∧ am_lk (co_M_page l d) 30 = am_cal l d y_M_refused (some 9) 2 33 0 0 0 0 ∧ am_lk (co_M_page l d) 33 = am_if_eq 36 38 ∧ am_lk (co_M_page l d) 36 = am_push (vI 0) 37 ∧ am_lk (co_M_page l d) 37 = am_iret false ∧ am_lk (co_M_page l d) 38 = am_aload 0 39 ∧ am_lk (co_M_page l d) 39 = am_iload 1 40 ∧ am_lk (co_M_page l d) 40 = am_cal l d y_M_startOf (some 9) 2 43 0 0 0 0 ∧ am_lk (co_M_page l d) 43 = am_istore 3 44 ∧ am_lk (co_M_page l d) 44 = am_aload 0 45 ∧ am_lk (co_M_page l d) 45 = am_getR 9 12 48 ∧ am_lk (co_M_page l d) 48 = am_iload 1 49 ∧ am_lk (co_M_page l d) 49 = am_ald 0 50 ∧ am_lk (co_M_page l d) 50 = am_istore 4 52 ∧ am_lk (co_M_page l d) 52 = am_iload 2 53 ∧ am_lk (co_M_page l d) 53 = am_tsw 0 [88, 90, 93, 104, 122] 131 ∧ am_lk (co_M_page l d) 88 = am_iload 3 89 ∧ am_lk (co_M_page l d) 89 = am_iret false ∧ am_lk (co_M_page l d) 90 = am_iload 4 92 ∧ am_lk (co_M_page l d) 92 = am_iret false ∧ am_lk (co_M_page l d) 93 = am_aload 0 94 ∧ am_lk (co_M_page l d) 94 = am_getR 9 6 97 ∧ am_lk (co_M_page l d) 97 = am_iload 3 98 ∧ am_lk (co_M_page l d) 98 = am_iload 4 100 ∧ am_lk (co_M_page l d) 100 = am_cal l d y_M_lines none 3 103 0 0 0 0 ∧ am_lk (co_M_page l d) 103 = am_iret false ∧ am_lk (co_M_page l d) 104 = am_aload 0 105 ∧ am_lk (co_M_page l d) 105 = am_getR 9 6 108 ∧ am_lk (co_M_page l d) 108 = am_push (vI 3) 109 ∧ am_lk (co_M_page l d) 109 = am_ald 0 110 ∧ am_lk (co_M_page l d) 110 = am_aload 0 111 ∧ am_lk (co_M_page l d) 111 = am_getR 9 6 114 ∧ am_lk (co_M_page l d) 114 = am_iload 3 115 ∧ am_lk (co_M_page l d) 115 = am_iload 4 117 ∧ am_lk (co_M_page l d) 117 = am_cal l d y_M_lines none 3 120 0 0 0 0 ∧ am_lk (co_M_page l d) 120 = am_isub 121 ∧ am_lk (co_M_page l d) 121 = am_iret false ∧ am_lk (co_M_page l d) 122 = am_aload 0 123 ∧ am_lk (co_M_page l d) 123 = am_getR 9 6 126 ∧ am_lk (co_M_page l d) 126 = am_iload 3 127 ∧ am_lk (co_M_page l d) 127 = am_cal l d y_M_names none 2 130 0 0 0 0 ∧ am_lk (co_M_page l d) 130 = am_iret false ∧ am_lk (co_M_page l d) 131 = am_aload 0 132 ∧ am_lk (co_M_page l d) 132 = am_getR 9 6 135 ∧ am_lk (co_M_page l d) 135 = am_iload 3 136 ∧ am_lk (co_M_page l d) 136 = am_iload 4 138 ∧ am_lk (co_M_page l d) 138 = am_cal l d y_M_notes none 3 141 0 0 0 0 ∧ am_lk (co_M_page l d) 141 = am_iret false := ⟨rfl, rfl, rfl, rfl, rfl, rfl, rfl, rfl, rfl, rfl, rfl, rfl, rfl, rfl, rfl, rfl, rfl, rfl, rfl, rfl, rfl, rfl, rfl, rfl, rfl, rfl, rfl, rfl, rfl, rfl, rfl, rfl, rfl, rfl, rfl, rfl, rfl, rfl, rfl, rfl, rfl, rfl, rfl, rfl, rfl, rfl, rfl, rfl, rfl, rfl, rfl, rfl, rfl, rfl, rfl, rfl, rfl, rfl, rfl, rfl, rfl, rfl, rfl⟩
theorem en_M_page {l : Launch} {d : Nat} (n : Nat) {as : List am_V} {G : am_G} {I : am_I} {J : am_J} {P : am_P} (hlen : (as.map am_cat).sum ≤ 5) (h : am_go (am_lk (co_M_page l d)) (am_X l (0, fun _ => 0) (d + 1) y_M_page P) P n 0 (am_el 5 as) [] 0 0 G I J) : am_T l (d + 1) y_M_page as G I J P :=
  am_T_of (sc := (0, fun _ => 0)) cf_M_page (by decide +kernel) (by decide) (by decide +kernel) hlen (am_run (ok_lk _ (ck_M_page)) n _ _ _ _ _ _ _ _ h)
theorem rn_M_page {l : Launch} {sc : Nat × (Nat → Int32)} {d : Nat} {P : am_P} (n : Nat) {pc : Nat} {ls : am_L} {st : List am_V} {kc ks : Nat} {G : am_G} {I : am_I} {J : am_J} (h : am_go (am_lk (co_M_page l d)) (am_X l sc (d + 1) y_M_page P) P n pc ls st kc ks G I J) : am_X l sc (d + 1) y_M_page P pc ls st kc ks G I J := am_run (ok_lk _ (ck_M_page)) n _ _ _ _ _ _ _ _ h
def co_M_brought (l : Launch) (d : Nat) : List (Nat × am_S) := [(0, am_aload 0 1), (1, am_aload 0 2), (2, am_iload 1 3), (3, am_cal l d y_M_isPage (some 9) 2 6 0 0 0 0), (6, am_if_eq 9 21), (9, am_aload 0 10), (10, am_iload 2 11), (11, am_cal l d y_M_isColumn (some 9) 2 14 0 0 0 0), (14, am_if_eq 17 21), (17, am_push (vI 0) 18), (18, am_goto 22), (21, am_push (vI 1) 22), (22, am_cal l d y_M_refused (some 9) 2 25 0 0 0 0), (25, am_if_eq 28 32), (28, am_push (vI 0) 29), (29, am_goto 48), (32, am_aload 0 33), (33, am_getR 9 6 36), (36, am_push (vI 0) 37), (37, am_aload 0 38), (38, am_iload 1 39), (39, am_cal l d y_M_startOf (some 9) 2 42 0 0 0 0), (42, am_push (vI 1) 43), (43, am_isub 44), (44, am_iload 2 45), (45, am_cal l d y_M_sum none 4 48 0 0 0 0), (48, am_iret false)]
theorem ck_M_brought {l : Launch} {sc : Nat × (Nat → Int32)} {d : Nat} : ∀ q ∈ co_M_brought l d, am_ok l sc (d + 1) y_M_brought q.1 q.2 :=
  fa_cons (ok_aload_n (show decode (am_mB y_M_brought) 0 = .ok (.aload_n 0, 1) by decide +kernel) rfl) <|
  fa_cons (ok_aload_n (show decode (am_mB y_M_brought) 1 = .ok (.aload_n 0, 1) by decide +kernel) rfl) <|
  fa_cons (ok_iload_n (show decode (am_mB y_M_brought) 2 = .ok (.iload_n 1, 1) by decide +kernel) rfl) <|
  fa_cons (ok_cal ⟨rfl, rfl, rfl, rfl⟩ (ok_callV (show decode (am_mB y_M_brought) 3 = .ok (.invokevirtual 203, 3) by decide +kernel) cf_M_isPage (by decide +kernel) ml_M_203 ci_M_isPage cv_M_isPage ⟨by decide, rfl⟩ rfl ⟨by decide +kernel, rfl⟩)) <|
  fa_cons (ok_if_eq (show decode (am_mB y_M_brought) 6 = .ok (.ifCond .eq 15, 3) by decide +kernel) (by decide)) <|
  fa_cons (ok_aload_n (show decode (am_mB y_M_brought) 9 = .ok (.aload_n 0, 1) by decide +kernel) rfl) <|
  fa_cons (ok_iload_n (show decode (am_mB y_M_brought) 10 = .ok (.iload_n 2, 1) by decide +kernel) rfl) <|
  fa_cons (ok_cal ⟨rfl, rfl, rfl, rfl⟩ (ok_callV (show decode (am_mB y_M_brought) 11 = .ok (.invokevirtual 193, 3) by decide +kernel) cf_M_isColumn (by decide +kernel) ml_M_193 ci_M_isColumn cv_M_isColumn ⟨by decide, rfl⟩ rfl ⟨by decide +kernel, rfl⟩)) <|
  fa_cons (ok_if_eq (show decode (am_mB y_M_brought) 14 = .ok (.ifCond .eq 7, 3) by decide +kernel) (by decide)) <|
  fa_cons (ok_iconst (show decode (am_mB y_M_brought) 17 = .ok (.iconst 0, 1) by decide +kernel) rfl) <|
  fa_cons (ok_goto (show decode (am_mB y_M_brought) 18 = .ok (.goto 4, 3) by decide +kernel) (by decide)) <|
  fa_cons (ok_iconst (show decode (am_mB y_M_brought) 21 = .ok (.iconst 1, 1) by decide +kernel) rfl) <|
  fa_cons (ok_cal ⟨rfl, rfl, rfl, rfl⟩ (ok_callV (show decode (am_mB y_M_brought) 22 = .ok (.invokevirtual 128, 3) by decide +kernel) cf_M_refused (by decide +kernel) ml_M_128 ci_M_refused cv_M_refused ⟨by decide, rfl⟩ rfl ⟨by decide +kernel, rfl⟩)) <|
  fa_cons (ok_if_eq (show decode (am_mB y_M_brought) 25 = .ok (.ifCond .eq 7, 3) by decide +kernel) (by decide)) <|
  fa_cons (ok_iconst (show decode (am_mB y_M_brought) 28 = .ok (.iconst 0, 1) by decide +kernel) rfl) <|
  fa_cons (ok_goto (show decode (am_mB y_M_brought) 29 = .ok (.goto 19, 3) by decide +kernel) (by decide)) <|
  fa_cons (ok_aload_n (show decode (am_mB y_M_brought) 32 = .ok (.aload_n 0, 1) by decide +kernel) rfl) <|
  fa_cons (ok_getR (show decode (am_mB y_M_brought) 33 = .ok (.getfield 16, 3) by decide +kernel) fl_M_16 (by decide +kernel)) <|
  fa_cons (ok_iconst (show decode (am_mB y_M_brought) 36 = .ok (.iconst 0, 1) by decide +kernel) rfl) <|
  fa_cons (ok_aload_n (show decode (am_mB y_M_brought) 37 = .ok (.aload_n 0, 1) by decide +kernel) rfl) <|
  fa_cons (ok_iload_n (show decode (am_mB y_M_brought) 38 = .ok (.iload_n 1, 1) by decide +kernel) rfl) <|
  fa_cons (ok_cal ⟨rfl, rfl, rfl, rfl⟩ (ok_callV (show decode (am_mB y_M_brought) 39 = .ok (.invokevirtual 100, 3) by decide +kernel) cf_M_startOf (by decide +kernel) ml_M_100 ci_M_startOf cv_M_startOf ⟨by decide, rfl⟩ rfl ⟨by decide +kernel, rfl⟩)) <|
  fa_cons (ok_iconst (show decode (am_mB y_M_brought) 42 = .ok (.iconst 1, 1) by decide +kernel) rfl) <|
  fa_cons (ok_isub (show decode (am_mB y_M_brought) 43 = .ok (.isub, 1) by decide +kernel)) <|
  fa_cons (ok_iload_n (show decode (am_mB y_M_brought) 44 = .ok (.iload_n 2, 1) by decide +kernel) rfl) <|
  fa_cons (ok_cal ⟨rfl, rfl, rfl, rfl⟩ (ok_callS (show decode (am_mB y_M_brought) 45 = .ok (.invokestatic 208, 3) by decide +kernel) cf_M_sum (by decide +kernel) ml_M_208 cs_M_sum rfl ⟨by decide +kernel, rfl⟩)) <|
  fa_cons (ok_iret (show decode (am_mB y_M_brought) 48 = .ok (.ireturn, 1) by decide +kernel) rfl) <|
  fa_nil
set_option maxRecDepth 100000 in
theorem cq_M_brought (l : Launch) (d : Nat) : am_lk (co_M_brought l d) 0 = am_aload 0 1 ∧ am_lk (co_M_brought l d) 1 = am_aload 0 2 ∧ am_lk (co_M_brought l d) 2 = am_iload 1 3 ∧ am_lk (co_M_brought l d) 3 = am_cal l d y_M_isPage (some 9) 2 6 0 0 0 0 ∧ am_lk (co_M_brought l d) 6 = am_if_eq 9 21 ∧ am_lk (co_M_brought l d) 9 = am_aload 0 10 ∧ am_lk (co_M_brought l d) 10 = am_iload 2 11 ∧ am_lk (co_M_brought l d) 11 = am_cal l d y_M_isColumn (some 9) 2 14 0 0 0 0 ∧ am_lk (co_M_brought l d) 14 = am_if_eq 17 21 ∧ am_lk (co_M_brought l d) 17 = am_push (vI 0) 18 ∧ am_lk (co_M_brought l d) 18 = am_goto 22 ∧ am_lk (co_M_brought l d) 21 = am_push (vI 1) 22 ∧ am_lk (co_M_brought l d) 22 = am_cal l d y_M_refused (some 9) 2 25 0 0 0 0 ∧ am_lk (co_M_brought l d) 25 = am_if_eq 28 32 ∧ am_lk (co_M_brought l d) 28 = am_push (vI 0) 29 ∧ am_lk (co_M_brought l d) 29 = am_goto 48 ∧ am_lk (co_M_brought l d) 32 = am_aload 0 33 ∧ am_lk (co_M_brought l d) 33 = am_getR 9 6 36 ∧ am_lk (co_M_brought l d) 36 = am_push (vI 0) 37 ∧ am_lk (co_M_brought l d) 37 = am_aload 0 38 ∧ am_lk (co_M_brought l d) 38 = am_iload 1 39 ∧ am_lk (co_M_brought l d) 39 = am_cal l d y_M_startOf (some 9) 2 42 0 0 0 0 ∧ am_lk (co_M_brought l d) 42 = am_push (vI 1) 43 ∧ am_lk (co_M_brought l d) 43 = am_isub 44 ∧ am_lk (co_M_brought l d) 44 = am_iload 2 45 ∧ am_lk (co_M_brought l d) 45 = am_cal l d y_M_sum none 4 48 0 0 0 0 ∧ am_lk (co_M_brought l d) 48 = am_iret false := ⟨rfl, rfl, rfl, rfl, rfl, rfl, rfl, rfl, rfl, rfl, rfl, rfl, rfl, rfl, rfl, rfl, rfl, rfl, rfl, rfl, rfl, rfl, rfl, rfl, rfl, rfl, rfl⟩
theorem en_M_brought {l : Launch} {d : Nat} (n : Nat) {as : List am_V} {G : am_G} {I : am_I} {J : am_J} {P : am_P} (hlen : (as.map am_cat).sum ≤ 3) (h : am_go (am_lk (co_M_brought l d)) (am_X l (0, fun _ => 0) (d + 1) y_M_brought P) P n 0 (am_el 3 as) [] 0 0 G I J) : am_T l (d + 1) y_M_brought as G I J P :=
  am_T_of (sc := (0, fun _ => 0)) cf_M_brought (by decide +kernel) (by decide) (by decide +kernel) hlen (am_run (ok_lk _ (ck_M_brought)) n _ _ _ _ _ _ _ _ h)
theorem rn_M_brought {l : Launch} {sc : Nat × (Nat → Int32)} {d : Nat} {P : am_P} (n : Nat) {pc : Nat} {ls : am_L} {st : List am_V} {kc ks : Nat} {G : am_G} {I : am_I} {J : am_J} (h : am_go (am_lk (co_M_brought l d)) (am_X l sc (d + 1) y_M_brought P) P n pc ls st kc ks G I J) : am_X l sc (d + 1) y_M_brought P pc ls st kc ks G I J := am_run (ok_lk _ (ck_M_brought)) n _ _ _ _ _ _ _ _ h
def co_M_carried (l : Launch) (d : Nat) : List (Nat × am_S) := [(0, am_aload 0 1), (1, am_aload 0 2), (2, am_iload 1 3), (3, am_cal l d y_M_isPage (some 9) 2 6 0 0 0 0), (6, am_if_eq 9 21), (9, am_aload 0 10), (10, am_iload 2 11), (11, am_cal l d y_M_isColumn (some 9) 2 14 0 0 0 0), (14, am_if_eq 17 21), (17, am_push (vI 0) 18), (18, am_goto 22), (21, am_push (vI 1) 22), (22, am_cal l d y_M_refused (some 9) 2 25 0 0 0 0), (25, am_if_eq 28 32), (28, am_push (vI 0) 29), (29, am_goto 47), (32, am_aload 0 33), (33, am_getR 9 6 36), (36, am_push (vI 0) 37), (37, am_aload 0 38), (38, am_getR 9 12 41), (41, am_iload 1 42), (42, am_ald 0 43), (43, am_iload 2 44), (44, am_cal l d y_M_sum none 4 47 0 0 0 0), (47, am_iret false)]
theorem ck_M_carried {l : Launch} {sc : Nat × (Nat → Int32)} {d : Nat} : ∀ q ∈ co_M_carried l d, am_ok l sc (d + 1) y_M_carried q.1 q.2 :=
  fa_cons (ok_aload_n (show decode (am_mB y_M_carried) 0 = .ok (.aload_n 0, 1) by decide +kernel) rfl) <|
  fa_cons (ok_aload_n (show decode (am_mB y_M_carried) 1 = .ok (.aload_n 0, 1) by decide +kernel) rfl) <|
  fa_cons (ok_iload_n (show decode (am_mB y_M_carried) 2 = .ok (.iload_n 1, 1) by decide +kernel) rfl) <|
  fa_cons (ok_cal ⟨rfl, rfl, rfl, rfl⟩ (ok_callV (show decode (am_mB y_M_carried) 3 = .ok (.invokevirtual 203, 3) by decide +kernel) cf_M_isPage (by decide +kernel) ml_M_203 ci_M_isPage cv_M_isPage ⟨by decide, rfl⟩ rfl ⟨by decide +kernel, rfl⟩)) <|
  fa_cons (ok_if_eq (show decode (am_mB y_M_carried) 6 = .ok (.ifCond .eq 15, 3) by decide +kernel) (by decide)) <|
  fa_cons (ok_aload_n (show decode (am_mB y_M_carried) 9 = .ok (.aload_n 0, 1) by decide +kernel) rfl) <|
  fa_cons (ok_iload_n (show decode (am_mB y_M_carried) 10 = .ok (.iload_n 2, 1) by decide +kernel) rfl) <|
  fa_cons (ok_cal ⟨rfl, rfl, rfl, rfl⟩ (ok_callV (show decode (am_mB y_M_carried) 11 = .ok (.invokevirtual 193, 3) by decide +kernel) cf_M_isColumn (by decide +kernel) ml_M_193 ci_M_isColumn cv_M_isColumn ⟨by decide, rfl⟩ rfl ⟨by decide +kernel, rfl⟩)) <|
  fa_cons (ok_if_eq (show decode (am_mB y_M_carried) 14 = .ok (.ifCond .eq 7, 3) by decide +kernel) (by decide)) <|
  fa_cons (ok_iconst (show decode (am_mB y_M_carried) 17 = .ok (.iconst 0, 1) by decide +kernel) rfl) <|
  fa_cons (ok_goto (show decode (am_mB y_M_carried) 18 = .ok (.goto 4, 3) by decide +kernel) (by decide)) <|
  fa_cons (ok_iconst (show decode (am_mB y_M_carried) 21 = .ok (.iconst 1, 1) by decide +kernel) rfl) <|
  fa_cons (ok_cal ⟨rfl, rfl, rfl, rfl⟩ (ok_callV (show decode (am_mB y_M_carried) 22 = .ok (.invokevirtual 128, 3) by decide +kernel) cf_M_refused (by decide +kernel) ml_M_128 ci_M_refused cv_M_refused ⟨by decide, rfl⟩ rfl ⟨by decide +kernel, rfl⟩)) <|
  fa_cons (ok_if_eq (show decode (am_mB y_M_carried) 25 = .ok (.ifCond .eq 7, 3) by decide +kernel) (by decide)) <|
  fa_cons (ok_iconst (show decode (am_mB y_M_carried) 28 = .ok (.iconst 0, 1) by decide +kernel) rfl) <|
  fa_cons (ok_goto (show decode (am_mB y_M_carried) 29 = .ok (.goto 18, 3) by decide +kernel) (by decide)) <|
  fa_cons (ok_aload_n (show decode (am_mB y_M_carried) 32 = .ok (.aload_n 0, 1) by decide +kernel) rfl) <|
  fa_cons (ok_getR (show decode (am_mB y_M_carried) 33 = .ok (.getfield 16, 3) by decide +kernel) fl_M_16 (by decide +kernel)) <|
  fa_cons (ok_iconst (show decode (am_mB y_M_carried) 36 = .ok (.iconst 0, 1) by decide +kernel) rfl) <|
  fa_cons (ok_aload_n (show decode (am_mB y_M_carried) 37 = .ok (.aload_n 0, 1) by decide +kernel) rfl) <|
  fa_cons (ok_getR (show decode (am_mB y_M_carried) 38 = .ok (.getfield 32, 3) by decide +kernel) fl_M_32 (by decide +kernel)) <|
  fa_cons (ok_iload_n (show decode (am_mB y_M_carried) 41 = .ok (.iload_n 1, 1) by decide +kernel) rfl) <|
  fa_cons (ok_iald (show decode (am_mB y_M_carried) 42 = .ok (.iaload, 1) by decide +kernel)) <|
  fa_cons (ok_iload_n (show decode (am_mB y_M_carried) 43 = .ok (.iload_n 2, 1) by decide +kernel) rfl) <|
  fa_cons (ok_cal ⟨rfl, rfl, rfl, rfl⟩ (ok_callS (show decode (am_mB y_M_carried) 44 = .ok (.invokestatic 208, 3) by decide +kernel) cf_M_sum (by decide +kernel) ml_M_208 cs_M_sum rfl ⟨by decide +kernel, rfl⟩)) <|
  fa_cons (ok_iret (show decode (am_mB y_M_carried) 47 = .ok (.ireturn, 1) by decide +kernel) rfl) <|
  fa_nil
set_option maxRecDepth 100000 in
theorem cq_M_carried (l : Launch) (d : Nat) : am_lk (co_M_carried l d) 0 = am_aload 0 1 ∧ am_lk (co_M_carried l d) 1 = am_aload 0 2 ∧ am_lk (co_M_carried l d) 2 = am_iload 1 3 ∧ am_lk (co_M_carried l d) 3 = am_cal l d y_M_isPage (some 9) 2 6 0 0 0 0 ∧ am_lk (co_M_carried l d) 6 = am_if_eq 9 21 ∧ am_lk (co_M_carried l d) 9 = am_aload 0 10 ∧ am_lk (co_M_carried l d) 10 = am_iload 2 11 ∧ am_lk (co_M_carried l d) 11 = am_cal l d y_M_isColumn (some 9) 2 14 0 0 0 0 ∧ am_lk (co_M_carried l d) 14 = am_if_eq 17 21 ∧ am_lk (co_M_carried l d) 17 = am_push (vI 0) 18 ∧ am_lk (co_M_carried l d) 18 = am_goto 22 ∧ am_lk (co_M_carried l d) 21 = am_push (vI 1) 22 ∧ am_lk (co_M_carried l d) 22 = am_cal l d y_M_refused (some 9) 2 25 0 0 0 0 ∧ am_lk (co_M_carried l d) 25 = am_if_eq 28 32 ∧ am_lk (co_M_carried l d) 28 = am_push (vI 0) 29 ∧ am_lk (co_M_carried l d) 29 = am_goto 47 ∧ am_lk (co_M_carried l d) 32 = am_aload 0 33 ∧ am_lk (co_M_carried l d) 33 = am_getR 9 6 36 ∧ am_lk (co_M_carried l d) 36 = am_push (vI 0) 37 ∧ am_lk (co_M_carried l d) 37 = am_aload 0 38 ∧ am_lk (co_M_carried l d) 38 = am_getR 9 12 41 ∧ am_lk (co_M_carried l d) 41 = am_iload 1 42 ∧ am_lk (co_M_carried l d) 42 = am_ald 0 43 ∧ am_lk (co_M_carried l d) 43 = am_iload 2 44 ∧ am_lk (co_M_carried l d) 44 = am_cal l d y_M_sum none 4 47 0 0 0 0 ∧ am_lk (co_M_carried l d) 47 = am_iret false := ⟨rfl, rfl, rfl, rfl, rfl, rfl, rfl, rfl, rfl, rfl, rfl, rfl, rfl, rfl, rfl, rfl, rfl, rfl, rfl, rfl, rfl, rfl, rfl, rfl, rfl, rfl⟩
theorem en_M_carried {l : Launch} {d : Nat} (n : Nat) {as : List am_V} {G : am_G} {I : am_I} {J : am_J} {P : am_P} (hlen : (as.map am_cat).sum ≤ 3) (h : am_go (am_lk (co_M_carried l d)) (am_X l (0, fun _ => 0) (d + 1) y_M_carried P) P n 0 (am_el 3 as) [] 0 0 G I J) : am_T l (d + 1) y_M_carried as G I J P :=
  am_T_of (sc := (0, fun _ => 0)) cf_M_carried (by decide +kernel) (by decide) (by decide +kernel) hlen (am_run (ok_lk _ (ck_M_carried)) n _ _ _ _ _ _ _ _ h)
theorem rn_M_carried {l : Launch} {sc : Nat × (Nat → Int32)} {d : Nat} {P : am_P} (n : Nat) {pc : Nat} {ls : am_L} {st : List am_V} {kc ks : Nat} {G : am_G} {I : am_I} {J : am_J} (h : am_go (am_lk (co_M_carried l d)) (am_X l sc (d + 1) y_M_carried P) P n pc ls st kc ks G I J) : am_X l sc (d + 1) y_M_carried P pc ls st kc ks G I J := am_run (ok_lk _ (ck_M_carried)) n _ _ _ _ _ _ _ _ h
def co_M_richest (l : Launch) (d : Nat) : List (Nat × am_S) := [(0, am_aload 0 1), (1, am_aload 0 2), (2, am_iload 1 3), (3, am_cal l d y_M_isColumn (some 9) 2 6 0 0 0 0), (6, am_if_eq 9 13), (9, am_push (vI 0) 10), (10, am_goto 14), (13, am_push (vI 1) 14), (14, am_cal l d y_M_refused (some 9) 2 17 0 0 0 0), (17, am_if_eq 20 22), (20, am_push (vI 0) 21), (21, am_iret false), (22, am_aload 0 23), (23, am_aload 0 24), (24, am_getR 9 6 27), (27, am_cal l d y_M_lay (some 9) 2 30 0 0 0 0), (30, am_pop 31), (31, am_push (vI (-999999)) 33), (33, am_istore 2 34), (34, am_push (vI (-999999)) 36), (36, am_istore 3 37), (37, am_push (vI 0) 38), (38, am_stp (am_istore 4 40)), (40, am_iload 4 42), (42, am_aload 0 43), (43, am_getI 9 13 46), (46, am_icmp_ge 49 104), (49, am_aload 0 50), (50, am_getR 9 6 53), (53, am_aload 0 54), (54, am_iload 4 56), (56, am_cal l d y_M_startOf (some 9) 2 59 0 0 0 0), (59, am_aload 0 60), (60, am_getR 9 12 63), (63, am_iload 4 65), (65, am_ald 0 66), (66, am_iload 1 67), (67, am_cal l d y_M_sum none 4 70 0 0 0 0), (70, am_istore 5 72), (72, am_iload 5 74), (74, am_iload 3 75), (75, am_icmp_le 78 83), (78, am_iload 4 80), (80, am_goto 84), (83, am_iload 2 84), (84, am_istore 2 85), (85, am_iload 5 87), (87, am_iload 3 88), (88, am_icmp_le 91 96), (91, am_iload 5 93), (93, am_goto 97), (96, am_iload 3 97), (97, am_istore 3 98), (98, am_iinc 4 1 101), (101, am_stp (am_goto 40)), (104, am_iload 2 105), (105, am_iret false)]
theorem ck_M_richest {l : Launch} {sc : Nat × (Nat → Int32)} {d : Nat} : ∀ q ∈ co_M_richest l d, am_ok l sc (d + 1) y_M_richest q.1 q.2 :=
  fa_cons (ok_aload_n (show decode (am_mB y_M_richest) 0 = .ok (.aload_n 0, 1) by decide +kernel) rfl) <|
  fa_cons (ok_aload_n (show decode (am_mB y_M_richest) 1 = .ok (.aload_n 0, 1) by decide +kernel) rfl) <|
  fa_cons (ok_iload_n (show decode (am_mB y_M_richest) 2 = .ok (.iload_n 1, 1) by decide +kernel) rfl) <|
  fa_cons (ok_cal ⟨rfl, rfl, rfl, rfl⟩ (ok_callV (show decode (am_mB y_M_richest) 3 = .ok (.invokevirtual 193, 3) by decide +kernel) cf_M_isColumn (by decide +kernel) ml_M_193 ci_M_isColumn cv_M_isColumn ⟨by decide, rfl⟩ rfl ⟨by decide +kernel, rfl⟩)) <|
  fa_cons (ok_if_eq (show decode (am_mB y_M_richest) 6 = .ok (.ifCond .eq 7, 3) by decide +kernel) (by decide)) <|
  fa_cons (ok_iconst (show decode (am_mB y_M_richest) 9 = .ok (.iconst 0, 1) by decide +kernel) rfl) <|
  fa_cons (ok_goto (show decode (am_mB y_M_richest) 10 = .ok (.goto 4, 3) by decide +kernel) (by decide)) <|
  fa_cons (ok_iconst (show decode (am_mB y_M_richest) 13 = .ok (.iconst 1, 1) by decide +kernel) rfl) <|
  fa_cons (ok_cal ⟨rfl, rfl, rfl, rfl⟩ (ok_callV (show decode (am_mB y_M_richest) 14 = .ok (.invokevirtual 128, 3) by decide +kernel) cf_M_refused (by decide +kernel) ml_M_128 ci_M_refused cv_M_refused ⟨by decide, rfl⟩ rfl ⟨by decide +kernel, rfl⟩)) <|
  fa_cons (ok_if_eq (show decode (am_mB y_M_richest) 17 = .ok (.ifCond .eq 5, 3) by decide +kernel) (by decide)) <|
  fa_cons (ok_iconst (show decode (am_mB y_M_richest) 20 = .ok (.iconst 0, 1) by decide +kernel) rfl) <|
  fa_cons (ok_iret (show decode (am_mB y_M_richest) 21 = .ok (.ireturn, 1) by decide +kernel) rfl) <|
  fa_cons (ok_aload_n (show decode (am_mB y_M_richest) 22 = .ok (.aload_n 0, 1) by decide +kernel) rfl) <|
  fa_cons (ok_aload_n (show decode (am_mB y_M_richest) 23 = .ok (.aload_n 0, 1) by decide +kernel) rfl) <|
  fa_cons (ok_getR (show decode (am_mB y_M_richest) 24 = .ok (.getfield 16, 3) by decide +kernel) fl_M_16 (by decide +kernel)) <|
  fa_cons (ok_cal ⟨rfl, rfl, rfl, rfl⟩ (ok_callV (show decode (am_mB y_M_richest) 27 = .ok (.invokevirtual 178, 3) by decide +kernel) cf_M_lay (by decide +kernel) ml_M_178 ci_M_lay cv_M_lay ⟨by decide, rfl⟩ rfl ⟨by decide +kernel, rfl⟩)) <|
  fa_cons (ok_pop (show decode (am_mB y_M_richest) 30 = .ok (.pop, 1) by decide +kernel)) <|
  fa_cons (ok_ldc (show decode (am_mB y_M_richest) 31 = .ok (.ldc 90, 2) by decide +kernel) w_1057) <|
  fa_cons (ok_istore_n (show decode (am_mB y_M_richest) 33 = .ok (.istore_n 2, 1) by decide +kernel) rfl (by decide +kernel)) <|
  fa_cons (ok_ldc (show decode (am_mB y_M_richest) 34 = .ok (.ldc 90, 2) by decide +kernel) w_1057) <|
  fa_cons (ok_istore_n (show decode (am_mB y_M_richest) 36 = .ok (.istore_n 3, 1) by decide +kernel) rfl (by decide +kernel)) <|
  fa_cons (ok_iconst (show decode (am_mB y_M_richest) 37 = .ok (.iconst 0, 1) by decide +kernel) rfl) <|
  fa_cons (ok_stp (σ := am_istore 4 40) (ok_istore (show decode (am_mB y_M_richest) 38 = .ok (.istore 4, 2) by decide +kernel) (by decide +kernel))) <|
  fa_cons (ok_iload (show decode (am_mB y_M_richest) 40 = .ok (.iload 4, 2) by decide +kernel)) <|
  fa_cons (ok_aload_n (show decode (am_mB y_M_richest) 42 = .ok (.aload_n 0, 1) by decide +kernel) rfl) <|
  fa_cons (ok_getI (show decode (am_mB y_M_richest) 43 = .ok (.getfield 94, 3) by decide +kernel) fl_M_94 (by decide +kernel)) <|
  fa_cons (ok_icmp_ge (show decode (am_mB y_M_richest) 46 = .ok (.if_icmp .ge 58, 3) by decide +kernel) (by decide)) <|
  fa_cons (ok_aload_n (show decode (am_mB y_M_richest) 49 = .ok (.aload_n 0, 1) by decide +kernel) rfl) <|
  fa_cons (ok_getR (show decode (am_mB y_M_richest) 50 = .ok (.getfield 16, 3) by decide +kernel) fl_M_16 (by decide +kernel)) <|
  fa_cons (ok_aload_n (show decode (am_mB y_M_richest) 53 = .ok (.aload_n 0, 1) by decide +kernel) rfl) <|
  fa_cons (ok_iload (show decode (am_mB y_M_richest) 54 = .ok (.iload 4, 2) by decide +kernel)) <|
  fa_cons (ok_cal ⟨rfl, rfl, rfl, rfl⟩ (ok_callV (show decode (am_mB y_M_richest) 56 = .ok (.invokevirtual 100, 3) by decide +kernel) cf_M_startOf (by decide +kernel) ml_M_100 ci_M_startOf cv_M_startOf ⟨by decide, rfl⟩ rfl ⟨by decide +kernel, rfl⟩)) <|
  fa_cons (ok_aload_n (show decode (am_mB y_M_richest) 59 = .ok (.aload_n 0, 1) by decide +kernel) rfl) <|
  fa_cons (ok_getR (show decode (am_mB y_M_richest) 60 = .ok (.getfield 32, 3) by decide +kernel) fl_M_32 (by decide +kernel)) <|
  fa_cons (ok_iload (show decode (am_mB y_M_richest) 63 = .ok (.iload 4, 2) by decide +kernel)) <|
  fa_cons (ok_iald (show decode (am_mB y_M_richest) 65 = .ok (.iaload, 1) by decide +kernel)) <|
  fa_cons (ok_iload_n (show decode (am_mB y_M_richest) 66 = .ok (.iload_n 1, 1) by decide +kernel) rfl) <|
  fa_cons (ok_cal ⟨rfl, rfl, rfl, rfl⟩ (ok_callS (show decode (am_mB y_M_richest) 67 = .ok (.invokestatic 208, 3) by decide +kernel) cf_M_sum (by decide +kernel) ml_M_208 cs_M_sum rfl ⟨by decide +kernel, rfl⟩)) <|
  fa_cons (ok_istore (show decode (am_mB y_M_richest) 70 = .ok (.istore 5, 2) by decide +kernel) (by decide +kernel)) <|
  fa_cons (ok_iload (show decode (am_mB y_M_richest) 72 = .ok (.iload 5, 2) by decide +kernel)) <|
  fa_cons (ok_iload_n (show decode (am_mB y_M_richest) 74 = .ok (.iload_n 3, 1) by decide +kernel) rfl) <|
  fa_cons (ok_icmp_le (show decode (am_mB y_M_richest) 75 = .ok (.if_icmp .le 8, 3) by decide +kernel) (by decide)) <|
  fa_cons (ok_iload (show decode (am_mB y_M_richest) 78 = .ok (.iload 4, 2) by decide +kernel)) <|
  fa_cons (ok_goto (show decode (am_mB y_M_richest) 80 = .ok (.goto 4, 3) by decide +kernel) (by decide)) <|
  fa_cons (ok_iload_n (show decode (am_mB y_M_richest) 83 = .ok (.iload_n 2, 1) by decide +kernel) rfl) <|
  fa_cons (ok_istore_n (show decode (am_mB y_M_richest) 84 = .ok (.istore_n 2, 1) by decide +kernel) rfl (by decide +kernel)) <|
  fa_cons (ok_iload (show decode (am_mB y_M_richest) 85 = .ok (.iload 5, 2) by decide +kernel)) <|
  fa_cons (ok_iload_n (show decode (am_mB y_M_richest) 87 = .ok (.iload_n 3, 1) by decide +kernel) rfl) <|
  fa_cons (ok_icmp_le (show decode (am_mB y_M_richest) 88 = .ok (.if_icmp .le 8, 3) by decide +kernel) (by decide)) <|
  fa_cons (ok_iload (show decode (am_mB y_M_richest) 91 = .ok (.iload 5, 2) by decide +kernel)) <|
  fa_cons (ok_goto (show decode (am_mB y_M_richest) 93 = .ok (.goto 4, 3) by decide +kernel) (by decide)) <|
  fa_cons (ok_iload_n (show decode (am_mB y_M_richest) 96 = .ok (.iload_n 3, 1) by decide +kernel) rfl) <|
  fa_cons (ok_istore_n (show decode (am_mB y_M_richest) 97 = .ok (.istore_n 3, 1) by decide +kernel) rfl (by decide +kernel)) <|
  fa_cons (ok_iinc (show decode (am_mB y_M_richest) 98 = .ok (.iinc 4 1, 3) by decide +kernel) (by decide +kernel) (by decide +kernel)) <|
  fa_cons (ok_stp (σ := am_goto 40) (ok_goto (show decode (am_mB y_M_richest) 101 = .ok (.goto (-61), 3) by decide +kernel) (by decide))) <|
  fa_cons (ok_iload_n (show decode (am_mB y_M_richest) 104 = .ok (.iload_n 2, 1) by decide +kernel) rfl) <|
  fa_cons (ok_iret (show decode (am_mB y_M_richest) 105 = .ok (.ireturn, 1) by decide +kernel) rfl) <|
  fa_nil
set_option maxRecDepth 100000 in
theorem cq_M_richest (l : Launch) (d : Nat) : am_lk (co_M_richest l d) 0 = am_aload 0 1 ∧ am_lk (co_M_richest l d) 1 = am_aload 0 2 ∧ am_lk (co_M_richest l d) 2 = am_iload 1 3 ∧ am_lk (co_M_richest l d) 3 = am_cal l d y_M_isColumn (some 9) 2 6 0 0 0 0 ∧ am_lk (co_M_richest l d) 6 = am_if_eq 9 13 ∧ am_lk (co_M_richest l d) 9 = am_push (vI 0) 10 ∧ am_lk (co_M_richest l d) 10 = am_goto 14 ∧ am_lk (co_M_richest l d) 13 = am_push (vI 1) 14 ∧ am_lk (co_M_richest l d) 14 = am_cal l d y_M_refused (some 9) 2 17 0 0 0 0 ∧ am_lk (co_M_richest l d) 17 = am_if_eq 20 22 ∧ am_lk (co_M_richest l d) 20 = am_push (vI 0) 21 ∧ am_lk (co_M_richest l d) 21 = am_iret false ∧ am_lk (co_M_richest l d) 22 = am_aload 0 23 ∧ am_lk (co_M_richest l d) 23 = am_aload 0 24 ∧ am_lk (co_M_richest l d) 24 = am_getR 9 6 27 ∧ am_lk (co_M_richest l d) 27 = am_cal l d y_M_lay (some 9) 2 30 0 0 0 0 ∧ am_lk (co_M_richest l d) 30 = am_pop 31 ∧ am_lk (co_M_richest l d) 31 = am_push (vI (-999999)) 33 ∧ am_lk (co_M_richest l d) 33 = am_istore 2 34 ∧ am_lk (co_M_richest l d) 34 = am_push (vI (-999999)) 36 ∧ am_lk (co_M_richest l d) 36 = am_istore 3 37 ∧ am_lk (co_M_richest l d) 37 = am_push (vI 0) 38 ∧ am_lk (co_M_richest l d) 38 = am_stp (am_istore 4 40) ∧ am_lk (co_M_richest l d) 40 = am_iload 4 42 ∧ am_lk (co_M_richest l d) 42 = am_aload 0 43 ∧ am_lk (co_M_richest l d) 43 = am_getI 9 13 46 ∧ am_lk (co_M_richest l d) 46 = am_icmp_ge 49 104 ∧ am_lk (co_M_richest l d) 49 = am_aload 0 50 ∧ am_lk (co_M_richest l d) 50 = am_getR 9 6 53 ∧ am_lk (co_M_richest l d) 53 = am_aload 0 54 ∧ am_lk (co_M_richest l d) 54 = am_iload 4 56 ∧ am_lk (co_M_richest l d) 56 = am_cal l d y_M_startOf (some 9) 2 59 0 0 0 0 ∧ am_lk (co_M_richest l d) 59 = am_aload 0 60 ∧ am_lk (co_M_richest l d) 60 = am_getR 9 12 63 ∧ am_lk (co_M_richest l d) 63 = am_iload 4 65 ∧ am_lk (co_M_richest l d) 65 = am_ald 0 66 ∧ am_lk (co_M_richest l d) 66 = am_iload 1 67 ∧ am_lk (co_M_richest l d) 67 = am_cal l d y_M_sum none 4 70 0 0 0 0 ∧ am_lk (co_M_richest l d) 70 = am_istore 5 72 ∧ am_lk (co_M_richest l d) 72 = am_iload 5 74 ∧ am_lk (co_M_richest l d) 74 = am_iload 3 75 ∧ am_lk (co_M_richest l d) 75 = am_icmp_le 78 83 ∧ am_lk (co_M_richest l d) 78 = am_iload 4 80 ∧ am_lk (co_M_richest l d) 80 = am_goto 84 ∧ am_lk (co_M_richest l d) 83 = am_iload 2 84 ∧ am_lk (co_M_richest l d) 84 = am_istore 2 85 ∧ am_lk (co_M_richest l d) 85 = am_iload 5 87 ∧ am_lk (co_M_richest l d) 87 = am_iload 3 88 ∧ am_lk (co_M_richest l d) 88 = am_icmp_le 91 96 ∧ am_lk (co_M_richest l d) 91 = am_iload 5 93 ∧ am_lk (co_M_richest l d) 93 = am_goto 97 ∧ am_lk (co_M_richest l d) 96 = am_iload 3 97 ∧ am_lk (co_M_richest l d) 97 = am_istore 3 98 ∧ am_lk (co_M_richest l d) 98 = am_iinc 4 1 101 ∧ am_lk (co_M_richest l d) 101 = am_stp (am_goto 40) ∧ am_lk (co_M_richest l d) 104 = am_iload 2 105 ∧ am_lk (co_M_richest l d) 105 = am_iret false := ⟨rfl, rfl, rfl, rfl, rfl, rfl, rfl, rfl, rfl, rfl, rfl, rfl, rfl, rfl, rfl, rfl, rfl, rfl, rfl, rfl, rfl, rfl, rfl, rfl, rfl, rfl, rfl, rfl, rfl, rfl, rfl, rfl, rfl, rfl, rfl, rfl, rfl, rfl, rfl, rfl, rfl, rfl, rfl, rfl, rfl, rfl, rfl, rfl, rfl, rfl, rfl, rfl, rfl, rfl, rfl, rfl, rfl⟩
theorem en_M_richest {l : Launch} {d : Nat} (n : Nat) {as : List am_V} {G : am_G} {I : am_I} {J : am_J} {P : am_P} (hlen : (as.map am_cat).sum ≤ 6) (h : am_go (am_lk (co_M_richest l d)) (am_X l (0, fun _ => 0) (d + 1) y_M_richest P) P n 0 (am_el 6 as) [] 0 0 G I J) : am_T l (d + 1) y_M_richest as G I J P :=
  am_T_of (sc := (0, fun _ => 0)) cf_M_richest (by decide +kernel) (by decide) (by decide +kernel) hlen (am_run (ok_lk _ (ck_M_richest)) n _ _ _ _ _ _ _ _ h)
theorem rn_M_richest {l : Launch} {sc : Nat × (Nat → Int32)} {d : Nat} {P : am_P} (n : Nat) {pc : Nat} {ls : am_L} {st : List am_V} {kc ks : Nat} {G : am_G} {I : am_I} {J : am_J} (h : am_go (am_lk (co_M_richest l d)) (am_X l sc (d + 1) y_M_richest P) P n pc ls st kc ks G I J) : am_X l sc (d + 1) y_M_richest P pc ls st kc ks G I J := am_run (ok_lk _ (ck_M_richest)) n _ _ _ _ _ _ _ _ h
def co_M_addRow (l : Launch) (d : Nat) : List (Nat × am_S) := [(0, am_aload 0 1), (1, am_iload 1 2), (2, am_i2l 3), (3, am_push (vL 1) 4), (4, am_push (vL 6) 7), (7, am_cal l d y_M_in none 3 10 0 0 0 0), (10, am_if_eq 13 25), (13, am_iload 2 14), (14, am_i2l 15), (15, am_push (vL 0) 16), (16, am_push (vL 6) 19), (19, am_cal l d y_M_in none 3 22 0 0 0 0), (22, am_if_ne 25 29), (25, am_push (vI 1) 26), (26, am_goto 45), (29, am_aload 0 30), (30, am_getR 9 6 33), (33, am_push (vI 1) 34), (34, am_ald 0 35), (35, am_push (vI 24) 37), (37, am_icmp_ne 40 44), (40, am_push (vI 2) 41), (41, am_goto 45), (44, am_push (vI 0) 45), (45, am_cal l d y_M_refused (some 9) 2 48 0 0 0 0), (48, am_if_eq 51 53), (51, am_push (vI 0) 52), (52, am_iret false), (53, am_aload 0 54), (54, am_cal l d y_M_remember (some 9) 1 57 0 0 0 0), (57, am_aload 0 58), (58, am_getR 9 6 61), (61, am_iload 1 62), (62, am_iload 2 63), (63, am_cal l d y_M_addTo none 3 66 0 0 0 0), (66, am_aload 0 67), (67, am_getR 9 6 70), (70, am_push (vI 1) 71), (71, am_ald 0 72), (72, am_push (vI 1) 73), (73, am_isub 74), (74, am_iret false)]
theorem ck_M_addRow {l : Launch} {sc : Nat × (Nat → Int32)} {d : Nat} : ∀ q ∈ co_M_addRow l d, am_ok l sc (d + 1) y_M_addRow q.1 q.2 :=
  fa_cons (ok_aload_n (show decode (am_mB y_M_addRow) 0 = .ok (.aload_n 0, 1) by decide +kernel) rfl) <|
  fa_cons (ok_iload_n (show decode (am_mB y_M_addRow) 1 = .ok (.iload_n 1, 1) by decide +kernel) rfl) <|
  fa_cons (ok_i2l (show decode (am_mB y_M_addRow) 2 = .ok (.i2l, 1) by decide +kernel)) <|
  fa_cons (ok_lconst (show decode (am_mB y_M_addRow) 3 = .ok (.lconst 1, 1) by decide +kernel) rfl) <|
  fa_cons (ok_ldc2 (show decode (am_mB y_M_addRow) 4 = .ok (.ldc2_w 201, 3) by decide +kernel) w_1180) <|
  fa_cons (ok_cal ⟨rfl, rfl, rfl, rfl⟩ (ok_callS (show decode (am_mB y_M_addRow) 7 = .ok (.invokestatic 113, 3) by decide +kernel) cf_M_in (by decide +kernel) ml_M_113 cs_M_in rfl ⟨by decide +kernel, rfl⟩)) <|
  fa_cons (ok_if_eq (show decode (am_mB y_M_addRow) 10 = .ok (.ifCond .eq 15, 3) by decide +kernel) (by decide)) <|
  fa_cons (ok_iload_n (show decode (am_mB y_M_addRow) 13 = .ok (.iload_n 2, 1) by decide +kernel) rfl) <|
  fa_cons (ok_i2l (show decode (am_mB y_M_addRow) 14 = .ok (.i2l, 1) by decide +kernel)) <|
  fa_cons (ok_lconst (show decode (am_mB y_M_addRow) 15 = .ok (.lconst 0, 1) by decide +kernel) rfl) <|
  fa_cons (ok_ldc2 (show decode (am_mB y_M_addRow) 16 = .ok (.ldc2_w 201, 3) by decide +kernel) w_1180) <|
  fa_cons (ok_cal ⟨rfl, rfl, rfl, rfl⟩ (ok_callS (show decode (am_mB y_M_addRow) 19 = .ok (.invokestatic 113, 3) by decide +kernel) cf_M_in (by decide +kernel) ml_M_113 cs_M_in rfl ⟨by decide +kernel, rfl⟩)) <|
  fa_cons (ok_if_ne (show decode (am_mB y_M_addRow) 22 = .ok (.ifCond .ne 7, 3) by decide +kernel) (by decide)) <|
  fa_cons (ok_iconst (show decode (am_mB y_M_addRow) 25 = .ok (.iconst 1, 1) by decide +kernel) rfl) <|
  fa_cons (ok_goto (show decode (am_mB y_M_addRow) 26 = .ok (.goto 19, 3) by decide +kernel) (by decide)) <|
  fa_cons (ok_aload_n (show decode (am_mB y_M_addRow) 29 = .ok (.aload_n 0, 1) by decide +kernel) rfl) <|
  fa_cons (ok_getR (show decode (am_mB y_M_addRow) 30 = .ok (.getfield 16, 3) by decide +kernel) fl_M_16 (by decide +kernel)) <|
  fa_cons (ok_iconst (show decode (am_mB y_M_addRow) 33 = .ok (.iconst 1, 1) by decide +kernel) rfl) <|
  fa_cons (ok_iald (show decode (am_mB y_M_addRow) 34 = .ok (.iaload, 1) by decide +kernel)) <|
  fa_cons (ok_bipush (show decode (am_mB y_M_addRow) 35 = .ok (.bipush 24, 2) by decide +kernel) (by decide +kernel)) <|
  fa_cons (ok_icmp_ne (show decode (am_mB y_M_addRow) 37 = .ok (.if_icmp .ne 7, 3) by decide +kernel) (by decide)) <|
  fa_cons (ok_iconst (show decode (am_mB y_M_addRow) 40 = .ok (.iconst 2, 1) by decide +kernel) rfl) <|
  fa_cons (ok_goto (show decode (am_mB y_M_addRow) 41 = .ok (.goto 4, 3) by decide +kernel) (by decide)) <|
  fa_cons (ok_iconst (show decode (am_mB y_M_addRow) 44 = .ok (.iconst 0, 1) by decide +kernel) rfl) <|
  fa_cons (ok_cal ⟨rfl, rfl, rfl, rfl⟩ (ok_callV (show decode (am_mB y_M_addRow) 45 = .ok (.invokevirtual 128, 3) by decide +kernel) cf_M_refused (by decide +kernel) ml_M_128 ci_M_refused cv_M_refused ⟨by decide, rfl⟩ rfl ⟨by decide +kernel, rfl⟩)) <|
  fa_cons (ok_if_eq (show decode (am_mB y_M_addRow) 48 = .ok (.ifCond .eq 5, 3) by decide +kernel) (by decide)) <|
  fa_cons (ok_iconst (show decode (am_mB y_M_addRow) 51 = .ok (.iconst 0, 1) by decide +kernel) rfl) <|
  fa_cons (ok_iret (show decode (am_mB y_M_addRow) 52 = .ok (.ireturn, 1) by decide +kernel) rfl) <|
  fa_cons (ok_aload_n (show decode (am_mB y_M_addRow) 53 = .ok (.aload_n 0, 1) by decide +kernel) rfl) <|
  fa_cons (ok_cal ⟨rfl, rfl, rfl, rfl⟩ (ok_callV (show decode (am_mB y_M_addRow) 54 = .ok (.invokevirtual 212, 3) by decide +kernel) cf_M_remember (by decide +kernel) ml_M_212 ci_M_remember cv_M_remember ⟨by decide, rfl⟩ rfl ⟨by decide +kernel, rfl⟩)) <|
  fa_cons (ok_aload_n (show decode (am_mB y_M_addRow) 57 = .ok (.aload_n 0, 1) by decide +kernel) rfl) <|
  fa_cons (ok_getR (show decode (am_mB y_M_addRow) 58 = .ok (.getfield 16, 3) by decide +kernel) fl_M_16 (by decide +kernel)) <|
  fa_cons (ok_iload_n (show decode (am_mB y_M_addRow) 61 = .ok (.iload_n 1, 1) by decide +kernel) rfl) <|
  fa_cons (ok_iload_n (show decode (am_mB y_M_addRow) 62 = .ok (.iload_n 2, 1) by decide +kernel) rfl) <|
  fa_cons (ok_cal ⟨rfl, rfl, rfl, rfl⟩ (ok_callS (show decode (am_mB y_M_addRow) 63 = .ok (.invokestatic 148, 3) by decide +kernel) cf_M_addTo (by decide +kernel) ml_M_148 cs_M_addTo rfl ⟨by decide +kernel, rfl⟩)) <|
  fa_cons (ok_aload_n (show decode (am_mB y_M_addRow) 66 = .ok (.aload_n 0, 1) by decide +kernel) rfl) <|
  fa_cons (ok_getR (show decode (am_mB y_M_addRow) 67 = .ok (.getfield 16, 3) by decide +kernel) fl_M_16 (by decide +kernel)) <|
  fa_cons (ok_iconst (show decode (am_mB y_M_addRow) 70 = .ok (.iconst 1, 1) by decide +kernel) rfl) <|
  fa_cons (ok_iald (show decode (am_mB y_M_addRow) 71 = .ok (.iaload, 1) by decide +kernel)) <|
  fa_cons (ok_iconst (show decode (am_mB y_M_addRow) 72 = .ok (.iconst 1, 1) by decide +kernel) rfl) <|
  fa_cons (ok_isub (show decode (am_mB y_M_addRow) 73 = .ok (.isub, 1) by decide +kernel)) <|
  fa_cons (ok_iret (show decode (am_mB y_M_addRow) 74 = .ok (.ireturn, 1) by decide +kernel) rfl) <|
  fa_nil
set_option maxRecDepth 100000 in
theorem cq_M_addRow (l : Launch) (d : Nat) : am_lk (co_M_addRow l d) 0 = am_aload 0 1 ∧ am_lk (co_M_addRow l d) 1 = am_iload 1 2 ∧ am_lk (co_M_addRow l d) 2 = am_i2l 3 ∧ am_lk (co_M_addRow l d) 3 = am_push (vL 1) 4 ∧ am_lk (co_M_addRow l d) 4 = am_push (vL 6) 7 ∧ am_lk (co_M_addRow l d) 7 = am_cal l d y_M_in none 3 10 0 0 0 0 ∧ am_lk (co_M_addRow l d) 10 = am_if_eq 13 25 ∧ am_lk (co_M_addRow l d) 13 = am_iload 2 14 ∧ am_lk (co_M_addRow l d) 14 = am_i2l 15 ∧ am_lk (co_M_addRow l d) 15 = am_push (vL 0) 16 ∧ am_lk (co_M_addRow l d) 16 = am_push (vL 6) 19 ∧ am_lk (co_M_addRow l d) 19 = am_cal l d y_M_in none 3 22 0 0 0 0 ∧ am_lk (co_M_addRow l d) 22 = am_if_ne 25 29 ∧ am_lk (co_M_addRow l d) 25 = am_push (vI 1) 26 ∧ am_lk (co_M_addRow l d) 26 = am_goto 45 ∧ am_lk (co_M_addRow l d) 29 = am_aload 0 30 ∧ am_lk (co_M_addRow l d) 30 = am_getR 9 6 33 ∧ am_lk (co_M_addRow l d) 33 = am_push (vI 1) 34 ∧ am_lk (co_M_addRow l d) 34 = am_ald 0 35 ∧ am_lk (co_M_addRow l d) 35 = am_push (vI 24) 37 ∧ am_lk (co_M_addRow l d) 37 = am_icmp_ne 40 44 ∧ am_lk (co_M_addRow l d) 40 = am_push (vI 2) 41 ∧ am_lk (co_M_addRow l d) 41 = am_goto 45 ∧ am_lk (co_M_addRow l d) 44 = am_push (vI 0) 45 ∧ am_lk (co_M_addRow l d) 45 = am_cal l d y_M_refused (some 9) 2 48 0 0 0 0 ∧ am_lk (co_M_addRow l d) 48 = am_if_eq 51 53 ∧ am_lk (co_M_addRow l d) 51 = am_push (vI 0) 52 ∧ am_lk (co_M_addRow l d) 52 = am_iret false ∧ am_lk (co_M_addRow l d) 53 = am_aload 0 54 ∧ am_lk (co_M_addRow l d) 54 = am_cal l d y_M_remember (some 9) 1 57 0 0 0 0 ∧ am_lk (co_M_addRow l d) 57 = am_aload 0 58 ∧ am_lk (co_M_addRow l d) 58 = am_getR 9 6 61 ∧ am_lk (co_M_addRow l d) 61 = am_iload 1 62 ∧ am_lk (co_M_addRow l d) 62 = am_iload 2 63 ∧ am_lk (co_M_addRow l d) 63 = am_cal l d y_M_addTo none 3 66 0 0 0 0 ∧ am_lk (co_M_addRow l d) 66 = am_aload 0 67 ∧ am_lk (co_M_addRow l d) 67 = am_getR 9 6 70 ∧ am_lk (co_M_addRow l d) 70 = am_push (vI 1) 71 ∧ am_lk (co_M_addRow l d) 71 = am_ald 0 72 ∧ am_lk (co_M_addRow l d) 72 = am_push (vI 1) 73 ∧ am_lk (co_M_addRow l d) 73 = am_isub 74 ∧ am_lk (co_M_addRow l d) 74 = am_iret false := ⟨rfl, rfl, rfl, rfl, rfl, rfl, rfl, rfl, rfl, rfl, rfl, rfl, rfl, rfl, rfl, rfl, rfl, rfl, rfl, rfl, rfl, rfl, rfl, rfl, rfl, rfl, rfl, rfl, rfl, rfl, rfl, rfl, rfl, rfl, rfl, rfl, rfl, rfl, rfl, rfl, rfl, rfl⟩
theorem en_M_addRow {l : Launch} {d : Nat} (n : Nat) {as : List am_V} {G : am_G} {I : am_I} {J : am_J} {P : am_P} (hlen : (as.map am_cat).sum ≤ 3) (h : am_go (am_lk (co_M_addRow l d)) (am_X l (0, fun _ => 0) (d + 1) y_M_addRow P) P n 0 (am_el 3 as) [] 0 0 G I J) : am_T l (d + 1) y_M_addRow as G I J P :=
  am_T_of (sc := (0, fun _ => 0)) cf_M_addRow (by decide +kernel) (by decide) (by decide +kernel) hlen (am_run (ok_lk _ (ck_M_addRow)) n _ _ _ _ _ _ _ _ h)
theorem rn_M_addRow {l : Launch} {sc : Nat × (Nat → Int32)} {d : Nat} {P : am_P} (n : Nat) {pc : Nat} {ls : am_L} {st : List am_V} {kc ks : Nat} {G : am_G} {I : am_I} {J : am_J} (h : am_go (am_lk (co_M_addRow l d)) (am_X l sc (d + 1) y_M_addRow P) P n pc ls st kc ks G I J) : am_X l sc (d + 1) y_M_addRow P pc ls st kc ks G I J := am_run (ok_lk _ (ck_M_addRow)) n _ _ _ _ _ _ _ _ h
def co_M_setAmount (l : Launch) (d : Nat) : List (Nat × am_S) := [(0, am_aload 0 1), (1, am_aload 0 2), (2, am_iload 1 3), (3, am_cal l d y_M_isRow (some 9) 2 6 0 0 0 0), (6, am_if_eq 9 17), (9, am_aload 0 10), (10, am_iload 2 11), (11, am_cal l d y_M_isColumn (some 9) 2 14 0 0 0 0), (14, am_if_ne 17 21), (17, am_push (vI 1) 18), (18, am_goto 40), (21, am_iload 3 22), (22, am_i2l 23), (23, am_push (vL (-99)) 26), (26, am_push (vL 99) 29), (29, am_cal l d y_M_in none 3 32 0 0 0 0), (32, am_if_eq 35 39), (35, am_push (vI 0) 36), (36, am_goto 40), (39, am_push (vI 2) 40), (40, am_cal l d y_M_refused (some 9) 2 43 0 0 0 0), (43, am_if_eq 46 48), (46, am_push (vI 0) 47), (47, am_iret false), (48, am_aload 0 49), (49, am_cal l d y_M_remember (some 9) 1 52 0 0 0 0), (52, am_aload 0 53), (53, am_getR 9 6 56), (56, am_iload 1 57), (57, am_push (vI 3) 58), (58, am_iload 2 59), (59, am_iadd 60), (60, am_cal l d y_M_cell none 2 63 0 0 0 0), (63, am_ald 0 64), (64, am_istore 4 66), (66, am_aload 0 67), (67, am_getR 9 6 70), (70, am_iload 1 71), (71, am_push (vI 3) 72), (72, am_iload 2 73), (73, am_iadd 74), (74, am_cal l d y_M_cell none 2 77 0 0 0 0), (77, am_iload 3 78), (78, am_ast 0 (fun x => x) 79), (79, am_iload 4 81), (81, am_iret false)]
theorem ck_M_setAmount {l : Launch} {sc : Nat × (Nat → Int32)} {d : Nat} : ∀ q ∈ co_M_setAmount l d, am_ok l sc (d + 1) y_M_setAmount q.1 q.2 :=
  fa_cons (ok_aload_n (show decode (am_mB y_M_setAmount) 0 = .ok (.aload_n 0, 1) by decide +kernel) rfl) <|
  fa_cons (ok_aload_n (show decode (am_mB y_M_setAmount) 1 = .ok (.aload_n 0, 1) by decide +kernel) rfl) <|
  fa_cons (ok_iload_n (show decode (am_mB y_M_setAmount) 2 = .ok (.iload_n 1, 1) by decide +kernel) rfl) <|
  fa_cons (ok_cal ⟨rfl, rfl, rfl, rfl⟩ (ok_callV (show decode (am_mB y_M_setAmount) 3 = .ok (.invokevirtual 188, 3) by decide +kernel) cf_M_isRow (by decide +kernel) ml_M_188 ci_M_isRow cv_M_isRow ⟨by decide, rfl⟩ rfl ⟨by decide +kernel, rfl⟩)) <|
  fa_cons (ok_if_eq (show decode (am_mB y_M_setAmount) 6 = .ok (.ifCond .eq 11, 3) by decide +kernel) (by decide)) <|
  fa_cons (ok_aload_n (show decode (am_mB y_M_setAmount) 9 = .ok (.aload_n 0, 1) by decide +kernel) rfl) <|
  fa_cons (ok_iload_n (show decode (am_mB y_M_setAmount) 10 = .ok (.iload_n 2, 1) by decide +kernel) rfl) <|
  fa_cons (ok_cal ⟨rfl, rfl, rfl, rfl⟩ (ok_callV (show decode (am_mB y_M_setAmount) 11 = .ok (.invokevirtual 193, 3) by decide +kernel) cf_M_isColumn (by decide +kernel) ml_M_193 ci_M_isColumn cv_M_isColumn ⟨by decide, rfl⟩ rfl ⟨by decide +kernel, rfl⟩)) <|
  fa_cons (ok_if_ne (show decode (am_mB y_M_setAmount) 14 = .ok (.ifCond .ne 7, 3) by decide +kernel) (by decide)) <|
  fa_cons (ok_iconst (show decode (am_mB y_M_setAmount) 17 = .ok (.iconst 1, 1) by decide +kernel) rfl) <|
  fa_cons (ok_goto (show decode (am_mB y_M_setAmount) 18 = .ok (.goto 22, 3) by decide +kernel) (by decide)) <|
  fa_cons (ok_iload_n (show decode (am_mB y_M_setAmount) 21 = .ok (.iload_n 3, 1) by decide +kernel) rfl) <|
  fa_cons (ok_i2l (show decode (am_mB y_M_setAmount) 22 = .ok (.i2l, 1) by decide +kernel)) <|
  fa_cons (ok_ldc2 (show decode (am_mB y_M_setAmount) 23 = .ok (.ldc2_w 215, 3) by decide +kernel) w_1217) <|
  fa_cons (ok_ldc2 (show decode (am_mB y_M_setAmount) 26 = .ok (.ldc2_w 217, 3) by decide +kernel) w_1218) <|
  fa_cons (ok_cal ⟨rfl, rfl, rfl, rfl⟩ (ok_callS (show decode (am_mB y_M_setAmount) 29 = .ok (.invokestatic 113, 3) by decide +kernel) cf_M_in (by decide +kernel) ml_M_113 cs_M_in rfl ⟨by decide +kernel, rfl⟩)) <|
  fa_cons (ok_if_eq (show decode (am_mB y_M_setAmount) 32 = .ok (.ifCond .eq 7, 3) by decide +kernel) (by decide)) <|
  fa_cons (ok_iconst (show decode (am_mB y_M_setAmount) 35 = .ok (.iconst 0, 1) by decide +kernel) rfl) <|
  fa_cons (ok_goto (show decode (am_mB y_M_setAmount) 36 = .ok (.goto 4, 3) by decide +kernel) (by decide)) <|
  fa_cons (ok_iconst (show decode (am_mB y_M_setAmount) 39 = .ok (.iconst 2, 1) by decide +kernel) rfl) <|
  fa_cons (ok_cal ⟨rfl, rfl, rfl, rfl⟩ (ok_callV (show decode (am_mB y_M_setAmount) 40 = .ok (.invokevirtual 128, 3) by decide +kernel) cf_M_refused (by decide +kernel) ml_M_128 ci_M_refused cv_M_refused ⟨by decide, rfl⟩ rfl ⟨by decide +kernel, rfl⟩)) <|
  fa_cons (ok_if_eq (show decode (am_mB y_M_setAmount) 43 = .ok (.ifCond .eq 5, 3) by decide +kernel) (by decide)) <|
  fa_cons (ok_iconst (show decode (am_mB y_M_setAmount) 46 = .ok (.iconst 0, 1) by decide +kernel) rfl) <|
  fa_cons (ok_iret (show decode (am_mB y_M_setAmount) 47 = .ok (.ireturn, 1) by decide +kernel) rfl) <|
  fa_cons (ok_aload_n (show decode (am_mB y_M_setAmount) 48 = .ok (.aload_n 0, 1) by decide +kernel) rfl) <|
  fa_cons (ok_cal ⟨rfl, rfl, rfl, rfl⟩ (ok_callV (show decode (am_mB y_M_setAmount) 49 = .ok (.invokevirtual 212, 3) by decide +kernel) cf_M_remember (by decide +kernel) ml_M_212 ci_M_remember cv_M_remember ⟨by decide, rfl⟩ rfl ⟨by decide +kernel, rfl⟩)) <|
  fa_cons (ok_aload_n (show decode (am_mB y_M_setAmount) 52 = .ok (.aload_n 0, 1) by decide +kernel) rfl) <|
  fa_cons (ok_getR (show decode (am_mB y_M_setAmount) 53 = .ok (.getfield 16, 3) by decide +kernel) fl_M_16 (by decide +kernel)) <|
  fa_cons (ok_iload_n (show decode (am_mB y_M_setAmount) 56 = .ok (.iload_n 1, 1) by decide +kernel) rfl) <|
  fa_cons (ok_iconst (show decode (am_mB y_M_setAmount) 57 = .ok (.iconst 3, 1) by decide +kernel) rfl) <|
  fa_cons (ok_iload_n (show decode (am_mB y_M_setAmount) 58 = .ok (.iload_n 2, 1) by decide +kernel) rfl) <|
  fa_cons (ok_iadd (show decode (am_mB y_M_setAmount) 59 = .ok (.iadd, 1) by decide +kernel)) <|
  fa_cons (ok_cal ⟨rfl, rfl, rfl, rfl⟩ (ok_callS (show decode (am_mB y_M_setAmount) 60 = .ok (.invokestatic 62, 3) by decide +kernel) cf_M_cell (by decide +kernel) ml_M_62 cs_M_cell rfl ⟨by decide +kernel, rfl⟩)) <|
  fa_cons (ok_iald (show decode (am_mB y_M_setAmount) 63 = .ok (.iaload, 1) by decide +kernel)) <|
  fa_cons (ok_istore (show decode (am_mB y_M_setAmount) 64 = .ok (.istore 4, 2) by decide +kernel) (by decide +kernel)) <|
  fa_cons (ok_aload_n (show decode (am_mB y_M_setAmount) 66 = .ok (.aload_n 0, 1) by decide +kernel) rfl) <|
  fa_cons (ok_getR (show decode (am_mB y_M_setAmount) 67 = .ok (.getfield 16, 3) by decide +kernel) fl_M_16 (by decide +kernel)) <|
  fa_cons (ok_iload_n (show decode (am_mB y_M_setAmount) 70 = .ok (.iload_n 1, 1) by decide +kernel) rfl) <|
  fa_cons (ok_iconst (show decode (am_mB y_M_setAmount) 71 = .ok (.iconst 3, 1) by decide +kernel) rfl) <|
  fa_cons (ok_iload_n (show decode (am_mB y_M_setAmount) 72 = .ok (.iload_n 2, 1) by decide +kernel) rfl) <|
  fa_cons (ok_iadd (show decode (am_mB y_M_setAmount) 73 = .ok (.iadd, 1) by decide +kernel)) <|
  fa_cons (ok_cal ⟨rfl, rfl, rfl, rfl⟩ (ok_callS (show decode (am_mB y_M_setAmount) 74 = .ok (.invokestatic 62, 3) by decide +kernel) cf_M_cell (by decide +kernel) ml_M_62 cs_M_cell rfl ⟨by decide +kernel, rfl⟩)) <|
  fa_cons (ok_iload_n (show decode (am_mB y_M_setAmount) 77 = .ok (.iload_n 3, 1) by decide +kernel) rfl) <|
  fa_cons (ok_iast (show decode (am_mB y_M_setAmount) 78 = .ok (.iastore, 1) by decide +kernel)) <|
  fa_cons (ok_iload (show decode (am_mB y_M_setAmount) 79 = .ok (.iload 4, 2) by decide +kernel)) <|
  fa_cons (ok_iret (show decode (am_mB y_M_setAmount) 81 = .ok (.ireturn, 1) by decide +kernel) rfl) <|
  fa_nil
set_option maxRecDepth 100000 in
theorem cq_M_setAmount (l : Launch) (d : Nat) : am_lk (co_M_setAmount l d) 0 = am_aload 0 1 ∧ am_lk (co_M_setAmount l d) 1 = am_aload 0 2 ∧ am_lk (co_M_setAmount l d) 2 = am_iload 1 3 ∧ am_lk (co_M_setAmount l d) 3 = am_cal l d y_M_isRow (some 9) 2 6 0 0 0 0 ∧ am_lk (co_M_setAmount l d) 6 = am_if_eq 9 17 ∧ am_lk (co_M_setAmount l d) 9 = am_aload 0 10 ∧ am_lk (co_M_setAmount l d) 10 = am_iload 2 11 ∧ am_lk (co_M_setAmount l d) 11 = am_cal l d y_M_isColumn (some 9) 2 14 0 0 0 0 ∧ am_lk (co_M_setAmount l d) 14 = am_if_ne 17 21 ∧ am_lk (co_M_setAmount l d) 17 = am_push (vI 1) 18 ∧ am_lk (co_M_setAmount l d) 18 = am_goto 40 ∧ am_lk (co_M_setAmount l d) 21 = am_iload 3 22 ∧ am_lk (co_M_setAmount l d) 22 = am_i2l 23 ∧ am_lk (co_M_setAmount l d) 23 = am_push (vL (-99)) 26 ∧ am_lk (co_M_setAmount l d) 26 = am_push (vL 99) 29 ∧ am_lk (co_M_setAmount l d) 29 = am_cal l d y_M_in none 3 32 0 0 0 0 ∧ am_lk (co_M_setAmount l d) 32 = am_if_eq 35 39 ∧ am_lk (co_M_setAmount l d) 35 = am_push (vI 0) 36 ∧ am_lk (co_M_setAmount l d) 36 = am_goto 40 ∧ am_lk (co_M_setAmount l d) 39 = am_push (vI 2) 40 ∧ am_lk (co_M_setAmount l d) 40 = am_cal l d y_M_refused (some 9) 2 43 0 0 0 0 ∧ am_lk (co_M_setAmount l d) 43 = am_if_eq 46 48 ∧ am_lk (co_M_setAmount l d) 46 = am_push (vI 0) 47 ∧ am_lk (co_M_setAmount l d) 47 = am_iret false ∧ am_lk (co_M_setAmount l d) 48 = am_aload 0 49 ∧ am_lk (co_M_setAmount l d) 49 = am_cal l d y_M_remember (some 9) 1 52 0 0 0 0 ∧ am_lk (co_M_setAmount l d) 52 = am_aload 0 53 ∧ am_lk (co_M_setAmount l d) 53 = am_getR 9 6 56 ∧ am_lk (co_M_setAmount l d) 56 = am_iload 1 57 ∧ am_lk (co_M_setAmount l d) 57 = am_push (vI 3) 58 ∧ am_lk (co_M_setAmount l d) 58 = am_iload 2 59 ∧ am_lk (co_M_setAmount l d) 59 = am_iadd 60 ∧ am_lk (co_M_setAmount l d) 60 = am_cal l d y_M_cell none 2 63 0 0 0 0 ∧ am_lk (co_M_setAmount l d) 63 = am_ald 0 64 ∧ am_lk (co_M_setAmount l d) 64 = am_istore 4 66 ∧ am_lk (co_M_setAmount l d) 66 = am_aload 0 67 ∧ am_lk (co_M_setAmount l d) 67 = am_getR 9 6 70 ∧ am_lk (co_M_setAmount l d) 70 = am_iload 1 71 ∧ am_lk (co_M_setAmount l d) 71 = am_push (vI 3) 72 ∧ am_lk (co_M_setAmount l d) 72 = am_iload 2 73 ∧ am_lk (co_M_setAmount l d) 73 = am_iadd 74 ∧ am_lk (co_M_setAmount l d) 74 = am_cal l d y_M_cell none 2 77 0 0 0 0 ∧ am_lk (co_M_setAmount l d) 77 = am_iload 3 78 ∧ am_lk (co_M_setAmount l d) 78 = am_ast 0 (fun x => x) 79 ∧ am_lk (co_M_setAmount l d) 79 = am_iload 4 81 ∧ am_lk (co_M_setAmount l d) 81 = am_iret false := ⟨rfl, rfl, rfl, rfl, rfl, rfl, rfl, rfl, rfl, rfl, rfl, rfl, rfl, rfl, rfl, rfl, rfl, rfl, rfl, rfl, rfl, rfl, rfl, rfl, rfl, rfl, rfl, rfl, rfl, rfl, rfl, rfl, rfl, rfl, rfl, rfl, rfl, rfl, rfl, rfl, rfl, rfl, rfl, rfl, rfl, rfl⟩
theorem en_M_setAmount {l : Launch} {d : Nat} (n : Nat) {as : List am_V} {G : am_G} {I : am_I} {J : am_J} {P : am_P} (hlen : (as.map am_cat).sum ≤ 5) (h : am_go (am_lk (co_M_setAmount l d)) (am_X l (0, fun _ => 0) (d + 1) y_M_setAmount P) P n 0 (am_el 5 as) [] 0 0 G I J) : am_T l (d + 1) y_M_setAmount as G I J P :=
  am_T_of (sc := (0, fun _ => 0)) cf_M_setAmount (by decide +kernel) (by decide) (by decide +kernel) hlen (am_run (ok_lk _ (ck_M_setAmount)) n _ _ _ _ _ _ _ _ h)
theorem rn_M_setAmount {l : Launch} {sc : Nat × (Nat → Int32)} {d : Nat} {P : am_P} (n : Nat) {pc : Nat} {ls : am_L} {st : List am_V} {kc ks : Nat} {G : am_G} {I : am_I} {J : am_J} (h : am_go (am_lk (co_M_setAmount l d)) (am_X l sc (d + 1) y_M_setAmount P) P n pc ls st kc ks G I J) : am_X l sc (d + 1) y_M_setAmount P pc ls st kc ks G I J := am_run (ok_lk _ (ck_M_setAmount)) n _ _ _ _ _ _ _ _ h
def co_M_keep (l : Launch) (d : Nat) : List (Nat × am_S) := [(0, am_aload 0 1), (1, am_aload 0 2), (2, am_iload 1 3), (3, am_cal l d y_M_isRow (some 9) 2 6 0 0 0 0), (6, am_if_eq 9 13), (9, am_push (vI 0) 10), (10, am_goto 14), (13, am_push (vI 1) 14), (14, am_cal l d y_M_refused (some 9) 2 17 0 0 0 0), (17, am_if_eq 20 22), (20, am_push (vI 0) 21), (21, am_iret false), (22, am_aload 0 23), (23, am_cal l d y_M_remember (some 9) 1 26 0 0 0 0), (26, am_aload 0 27), (27, am_getR 9 6 30), (30, am_iload 1 31), (31, am_push (vI 2) 32), (32, am_cal l d y_M_cell none 2 35 0 0 0 0), (35, am_iload 2 36), (36, am_if_eq 39 43), (39, am_push (vI 1) 40), (40, am_goto 44), (43, am_push (vI 0) 44), (44, am_ast 0 (fun x => x) 45), (45, am_aload 0 46), (46, am_aload 0 47), (47, am_getR 9 6 50), (50, am_cal l d y_M_lay (some 9) 2 53 0 0 0 0), (53, am_iret false)]
theorem ck_M_keep {l : Launch} {sc : Nat × (Nat → Int32)} {d : Nat} : ∀ q ∈ co_M_keep l d, am_ok l sc (d + 1) y_M_keep q.1 q.2 :=
  fa_cons (ok_aload_n (show decode (am_mB y_M_keep) 0 = .ok (.aload_n 0, 1) by decide +kernel) rfl) <|
  fa_cons (ok_aload_n (show decode (am_mB y_M_keep) 1 = .ok (.aload_n 0, 1) by decide +kernel) rfl) <|
  fa_cons (ok_iload_n (show decode (am_mB y_M_keep) 2 = .ok (.iload_n 1, 1) by decide +kernel) rfl) <|
  fa_cons (ok_cal ⟨rfl, rfl, rfl, rfl⟩ (ok_callV (show decode (am_mB y_M_keep) 3 = .ok (.invokevirtual 188, 3) by decide +kernel) cf_M_isRow (by decide +kernel) ml_M_188 ci_M_isRow cv_M_isRow ⟨by decide, rfl⟩ rfl ⟨by decide +kernel, rfl⟩)) <|
  fa_cons (ok_if_eq (show decode (am_mB y_M_keep) 6 = .ok (.ifCond .eq 7, 3) by decide +kernel) (by decide)) <|
  fa_cons (ok_iconst (show decode (am_mB y_M_keep) 9 = .ok (.iconst 0, 1) by decide +kernel) rfl) <|
  fa_cons (ok_goto (show decode (am_mB y_M_keep) 10 = .ok (.goto 4, 3) by decide +kernel) (by decide)) <|
  fa_cons (ok_iconst (show decode (am_mB y_M_keep) 13 = .ok (.iconst 1, 1) by decide +kernel) rfl) <|
  fa_cons (ok_cal ⟨rfl, rfl, rfl, rfl⟩ (ok_callV (show decode (am_mB y_M_keep) 14 = .ok (.invokevirtual 128, 3) by decide +kernel) cf_M_refused (by decide +kernel) ml_M_128 ci_M_refused cv_M_refused ⟨by decide, rfl⟩ rfl ⟨by decide +kernel, rfl⟩)) <|
  fa_cons (ok_if_eq (show decode (am_mB y_M_keep) 17 = .ok (.ifCond .eq 5, 3) by decide +kernel) (by decide)) <|
  fa_cons (ok_iconst (show decode (am_mB y_M_keep) 20 = .ok (.iconst 0, 1) by decide +kernel) rfl) <|
  fa_cons (ok_iret (show decode (am_mB y_M_keep) 21 = .ok (.ireturn, 1) by decide +kernel) rfl) <|
  fa_cons (ok_aload_n (show decode (am_mB y_M_keep) 22 = .ok (.aload_n 0, 1) by decide +kernel) rfl) <|
  fa_cons (ok_cal ⟨rfl, rfl, rfl, rfl⟩ (ok_callV (show decode (am_mB y_M_keep) 23 = .ok (.invokevirtual 212, 3) by decide +kernel) cf_M_remember (by decide +kernel) ml_M_212 ci_M_remember cv_M_remember ⟨by decide, rfl⟩ rfl ⟨by decide +kernel, rfl⟩)) <|
  fa_cons (ok_aload_n (show decode (am_mB y_M_keep) 26 = .ok (.aload_n 0, 1) by decide +kernel) rfl) <|
  fa_cons (ok_getR (show decode (am_mB y_M_keep) 27 = .ok (.getfield 16, 3) by decide +kernel) fl_M_16 (by decide +kernel)) <|
  fa_cons (ok_iload_n (show decode (am_mB y_M_keep) 30 = .ok (.iload_n 1, 1) by decide +kernel) rfl) <|
  fa_cons (ok_iconst (show decode (am_mB y_M_keep) 31 = .ok (.iconst 2, 1) by decide +kernel) rfl) <|
  fa_cons (ok_cal ⟨rfl, rfl, rfl, rfl⟩ (ok_callS (show decode (am_mB y_M_keep) 32 = .ok (.invokestatic 62, 3) by decide +kernel) cf_M_cell (by decide +kernel) ml_M_62 cs_M_cell rfl ⟨by decide +kernel, rfl⟩)) <|
  fa_cons (ok_iload_n (show decode (am_mB y_M_keep) 35 = .ok (.iload_n 2, 1) by decide +kernel) rfl) <|
  fa_cons (ok_if_eq (show decode (am_mB y_M_keep) 36 = .ok (.ifCond .eq 7, 3) by decide +kernel) (by decide)) <|
  fa_cons (ok_iconst (show decode (am_mB y_M_keep) 39 = .ok (.iconst 1, 1) by decide +kernel) rfl) <|
  fa_cons (ok_goto (show decode (am_mB y_M_keep) 40 = .ok (.goto 4, 3) by decide +kernel) (by decide)) <|
  fa_cons (ok_iconst (show decode (am_mB y_M_keep) 43 = .ok (.iconst 0, 1) by decide +kernel) rfl) <|
  fa_cons (ok_iast (show decode (am_mB y_M_keep) 44 = .ok (.iastore, 1) by decide +kernel)) <|
  fa_cons (ok_aload_n (show decode (am_mB y_M_keep) 45 = .ok (.aload_n 0, 1) by decide +kernel) rfl) <|
  fa_cons (ok_aload_n (show decode (am_mB y_M_keep) 46 = .ok (.aload_n 0, 1) by decide +kernel) rfl) <|
  fa_cons (ok_getR (show decode (am_mB y_M_keep) 47 = .ok (.getfield 16, 3) by decide +kernel) fl_M_16 (by decide +kernel)) <|
  fa_cons (ok_cal ⟨rfl, rfl, rfl, rfl⟩ (ok_callV (show decode (am_mB y_M_keep) 50 = .ok (.invokevirtual 178, 3) by decide +kernel) cf_M_lay (by decide +kernel) ml_M_178 ci_M_lay cv_M_lay ⟨by decide, rfl⟩ rfl ⟨by decide +kernel, rfl⟩)) <|
  fa_cons (ok_iret (show decode (am_mB y_M_keep) 53 = .ok (.ireturn, 1) by decide +kernel) rfl) <|
  fa_nil
set_option maxRecDepth 100000 in
theorem cq_M_keep (l : Launch) (d : Nat) : am_lk (co_M_keep l d) 0 = am_aload 0 1 ∧ am_lk (co_M_keep l d) 1 = am_aload 0 2 ∧ am_lk (co_M_keep l d) 2 = am_iload 1 3 ∧ am_lk (co_M_keep l d) 3 = am_cal l d y_M_isRow (some 9) 2 6 0 0 0 0 ∧ am_lk (co_M_keep l d) 6 = am_if_eq 9 13 ∧ am_lk (co_M_keep l d) 9 = am_push (vI 0) 10 ∧ am_lk (co_M_keep l d) 10 = am_goto 14 ∧ am_lk (co_M_keep l d) 13 = am_push (vI 1) 14 ∧ am_lk (co_M_keep l d) 14 = am_cal l d y_M_refused (some 9) 2 17 0 0 0 0 ∧ am_lk (co_M_keep l d) 17 = am_if_eq 20 22 ∧ am_lk (co_M_keep l d) 20 = am_push (vI 0) 21 ∧ am_lk (co_M_keep l d) 21 = am_iret false ∧ am_lk (co_M_keep l d) 22 = am_aload 0 23 ∧ am_lk (co_M_keep l d) 23 = am_cal l d y_M_remember (some 9) 1 26 0 0 0 0 ∧ am_lk (co_M_keep l d) 26 = am_aload 0 27 ∧ am_lk (co_M_keep l d) 27 = am_getR 9 6 30 ∧ am_lk (co_M_keep l d) 30 = am_iload 1 31 ∧ am_lk (co_M_keep l d) 31 = am_push (vI 2) 32 ∧ am_lk (co_M_keep l d) 32 = am_cal l d y_M_cell none 2 35 0 0 0 0 ∧ am_lk (co_M_keep l d) 35 = am_iload 2 36 ∧ am_lk (co_M_keep l d) 36 = am_if_eq 39 43 ∧ am_lk (co_M_keep l d) 39 = am_push (vI 1) 40 ∧ am_lk (co_M_keep l d) 40 = am_goto 44 ∧ am_lk (co_M_keep l d) 43 = am_push (vI 0) 44 ∧ am_lk (co_M_keep l d) 44 = am_ast 0 (fun x => x) 45 ∧ am_lk (co_M_keep l d) 45 = am_aload 0 46 ∧ am_lk (co_M_keep l d) 46 = am_aload 0 47 ∧ am_lk (co_M_keep l d) 47 = am_getR 9 6 50 ∧ am_lk (co_M_keep l d) 50 = am_cal l d y_M_lay (some 9) 2 53 0 0 0 0 ∧ am_lk (co_M_keep l d) 53 = am_iret false := ⟨rfl, rfl, rfl, rfl, rfl, rfl, rfl, rfl, rfl, rfl, rfl, rfl, rfl, rfl, rfl, rfl, rfl, rfl, rfl, rfl, rfl, rfl, rfl, rfl, rfl, rfl, rfl, rfl, rfl, rfl⟩
theorem en_M_keep {l : Launch} {d : Nat} (n : Nat) {as : List am_V} {G : am_G} {I : am_I} {J : am_J} {P : am_P} (hlen : (as.map am_cat).sum ≤ 3) (h : am_go (am_lk (co_M_keep l d)) (am_X l (0, fun _ => 0) (d + 1) y_M_keep P) P n 0 (am_el 3 as) [] 0 0 G I J) : am_T l (d + 1) y_M_keep as G I J P :=
  am_T_of (sc := (0, fun _ => 0)) cf_M_keep (by decide +kernel) (by decide) (by decide +kernel) hlen (am_run (ok_lk _ (ck_M_keep)) n _ _ _ _ _ _ _ _ h)
theorem rn_M_keep {l : Launch} {sc : Nat × (Nat → Int32)} {d : Nat} {P : am_P} (n : Nat) {pc : Nat} {ls : am_L} {st : List am_V} {kc ks : Nat} {G : am_G} {I : am_I} {J : am_J} (h : am_go (am_lk (co_M_keep l d)) (am_X l sc (d + 1) y_M_keep P) P n pc ls st kc ks G I J) : am_X l sc (d + 1) y_M_keep P pc ls st kc ks G I J := am_run (ok_lk _ (ck_M_keep)) n _ _ _ _ _ _ _ _ h
def co_M_removeRow (l : Launch) (d : Nat) : List (Nat × am_S) := [(0, am_aload 0 1), (1, am_aload 0 2), (2, am_iload 1 3), (3, am_cal l d y_M_isRow (some 9) 2 6 0 0 0 0), (6, am_if_eq 9 13), (9, am_push (vI 0) 10), (10, am_goto 14), (13, am_push (vI 1) 14), (14, am_cal l d y_M_refused (some 9) 2 17 0 0 0 0), (17, am_if_eq 20 22), (20, am_push (vI 0) 21), (21, am_iret false), (22, am_aload 0 23), (23, am_cal l d y_M_remember (some 9) 1 26 0 0 0 0), (26, am_aload 0 27), (27, am_getR 9 6 30), (30, am_iload 1 31), (31, am_cal l d y_M_dropRow none 2 34 0 0 0 0), (34, am_iret false)]
theorem ck_M_removeRow {l : Launch} {sc : Nat × (Nat → Int32)} {d : Nat} : ∀ q ∈ co_M_removeRow l d, am_ok l sc (d + 1) y_M_removeRow q.1 q.2 :=
  fa_cons (ok_aload_n (show decode (am_mB y_M_removeRow) 0 = .ok (.aload_n 0, 1) by decide +kernel) rfl) <|
  fa_cons (ok_aload_n (show decode (am_mB y_M_removeRow) 1 = .ok (.aload_n 0, 1) by decide +kernel) rfl) <|
  fa_cons (ok_iload_n (show decode (am_mB y_M_removeRow) 2 = .ok (.iload_n 1, 1) by decide +kernel) rfl) <|
  fa_cons (ok_cal ⟨rfl, rfl, rfl, rfl⟩ (ok_callV (show decode (am_mB y_M_removeRow) 3 = .ok (.invokevirtual 188, 3) by decide +kernel) cf_M_isRow (by decide +kernel) ml_M_188 ci_M_isRow cv_M_isRow ⟨by decide, rfl⟩ rfl ⟨by decide +kernel, rfl⟩)) <|
  fa_cons (ok_if_eq (show decode (am_mB y_M_removeRow) 6 = .ok (.ifCond .eq 7, 3) by decide +kernel) (by decide)) <|
  fa_cons (ok_iconst (show decode (am_mB y_M_removeRow) 9 = .ok (.iconst 0, 1) by decide +kernel) rfl) <|
  fa_cons (ok_goto (show decode (am_mB y_M_removeRow) 10 = .ok (.goto 4, 3) by decide +kernel) (by decide)) <|
  fa_cons (ok_iconst (show decode (am_mB y_M_removeRow) 13 = .ok (.iconst 1, 1) by decide +kernel) rfl) <|
  fa_cons (ok_cal ⟨rfl, rfl, rfl, rfl⟩ (ok_callV (show decode (am_mB y_M_removeRow) 14 = .ok (.invokevirtual 128, 3) by decide +kernel) cf_M_refused (by decide +kernel) ml_M_128 ci_M_refused cv_M_refused ⟨by decide, rfl⟩ rfl ⟨by decide +kernel, rfl⟩)) <|
  fa_cons (ok_if_eq (show decode (am_mB y_M_removeRow) 17 = .ok (.ifCond .eq 5, 3) by decide +kernel) (by decide)) <|
  fa_cons (ok_iconst (show decode (am_mB y_M_removeRow) 20 = .ok (.iconst 0, 1) by decide +kernel) rfl) <|
  fa_cons (ok_iret (show decode (am_mB y_M_removeRow) 21 = .ok (.ireturn, 1) by decide +kernel) rfl) <|
  fa_cons (ok_aload_n (show decode (am_mB y_M_removeRow) 22 = .ok (.aload_n 0, 1) by decide +kernel) rfl) <|
  fa_cons (ok_cal ⟨rfl, rfl, rfl, rfl⟩ (ok_callV (show decode (am_mB y_M_removeRow) 23 = .ok (.invokevirtual 212, 3) by decide +kernel) cf_M_remember (by decide +kernel) ml_M_212 ci_M_remember cv_M_remember ⟨by decide, rfl⟩ rfl ⟨by decide +kernel, rfl⟩)) <|
  fa_cons (ok_aload_n (show decode (am_mB y_M_removeRow) 26 = .ok (.aload_n 0, 1) by decide +kernel) rfl) <|
  fa_cons (ok_getR (show decode (am_mB y_M_removeRow) 27 = .ok (.getfield 16, 3) by decide +kernel) fl_M_16 (by decide +kernel)) <|
  fa_cons (ok_iload_n (show decode (am_mB y_M_removeRow) 30 = .ok (.iload_n 1, 1) by decide +kernel) rfl) <|
  fa_cons (ok_cal ⟨rfl, rfl, rfl, rfl⟩ (ok_callS (show decode (am_mB y_M_removeRow) 31 = .ok (.invokestatic 219, 3) by decide +kernel) cf_M_dropRow (by decide +kernel) ml_M_219 cs_M_dropRow rfl ⟨by decide +kernel, rfl⟩)) <|
  fa_cons (ok_iret (show decode (am_mB y_M_removeRow) 34 = .ok (.ireturn, 1) by decide +kernel) rfl) <|
  fa_nil
set_option maxRecDepth 100000 in
theorem cq_M_removeRow (l : Launch) (d : Nat) : am_lk (co_M_removeRow l d) 0 = am_aload 0 1 ∧ am_lk (co_M_removeRow l d) 1 = am_aload 0 2 ∧ am_lk (co_M_removeRow l d) 2 = am_iload 1 3 ∧ am_lk (co_M_removeRow l d) 3 = am_cal l d y_M_isRow (some 9) 2 6 0 0 0 0 ∧ am_lk (co_M_removeRow l d) 6 = am_if_eq 9 13 ∧ am_lk (co_M_removeRow l d) 9 = am_push (vI 0) 10 ∧ am_lk (co_M_removeRow l d) 10 = am_goto 14 ∧ am_lk (co_M_removeRow l d) 13 = am_push (vI 1) 14 ∧ am_lk (co_M_removeRow l d) 14 = am_cal l d y_M_refused (some 9) 2 17 0 0 0 0 ∧ am_lk (co_M_removeRow l d) 17 = am_if_eq 20 22 ∧ am_lk (co_M_removeRow l d) 20 = am_push (vI 0) 21 ∧ am_lk (co_M_removeRow l d) 21 = am_iret false ∧ am_lk (co_M_removeRow l d) 22 = am_aload 0 23 ∧ am_lk (co_M_removeRow l d) 23 = am_cal l d y_M_remember (some 9) 1 26 0 0 0 0 ∧ am_lk (co_M_removeRow l d) 26 = am_aload 0 27 ∧ am_lk (co_M_removeRow l d) 27 = am_getR 9 6 30 ∧ am_lk (co_M_removeRow l d) 30 = am_iload 1 31 ∧ am_lk (co_M_removeRow l d) 31 = am_cal l d y_M_dropRow none 2 34 0 0 0 0 ∧ am_lk (co_M_removeRow l d) 34 = am_iret false := ⟨rfl, rfl, rfl, rfl, rfl, rfl, rfl, rfl, rfl, rfl, rfl, rfl, rfl, rfl, rfl, rfl, rfl, rfl, rfl⟩
theorem en_M_removeRow {l : Launch} {d : Nat} (n : Nat) {as : List am_V} {G : am_G} {I : am_I} {J : am_J} {P : am_P} (hlen : (as.map am_cat).sum ≤ 2) (h : am_go (am_lk (co_M_removeRow l d)) (am_X l (0, fun _ => 0) (d + 1) y_M_removeRow P) P n 0 (am_el 2 as) [] 0 0 G I J) : am_T l (d + 1) y_M_removeRow as G I J P :=
  am_T_of (sc := (0, fun _ => 0)) cf_M_removeRow (by decide +kernel) (by decide) (by decide +kernel) hlen (am_run (ok_lk _ (ck_M_removeRow)) n _ _ _ _ _ _ _ _ h)
theorem rn_M_removeRow {l : Launch} {sc : Nat × (Nat → Int32)} {d : Nat} {P : am_P} (n : Nat) {pc : Nat} {ls : am_L} {st : List am_V} {kc ks : Nat} {G : am_G} {I : am_I} {J : am_J} (h : am_go (am_lk (co_M_removeRow l d)) (am_X l sc (d + 1) y_M_removeRow P) P n pc ls st kc ks G I J) : am_X l sc (d + 1) y_M_removeRow P pc ls st kc ks G I J := am_run (ok_lk _ (ck_M_removeRow)) n _ _ _ _ _ _ _ _ h
def co_M_addSpan (l : Launch) (d : Nat) : List (Nat × am_S) := [(0, am_aload 0 1), (1, am_aload 0 2), (2, am_iload 1 3), (3, am_cal l d y_M_isRow (some 9) 2 6 0 0 0 0), (6, am_if_eq 9 17), (9, am_aload 0 10), (10, am_iload 2 11), (11, am_cal l d y_M_isRow (some 9) 2 14 0 0 0 0), (14, am_if_ne 17 21), (17, am_push (vI 1) 18), (18, am_goto 46), (21, am_iload 2 22), (22, am_iload 1 23), (23, am_icmp_gt 26 30), (26, am_push (vI 2) 27), (27, am_goto 46), (30, am_aload 0 31), (31, am_getR 9 6 34), (34, am_push (vI 2) 35), (35, am_ald 0 36), (36, am_push (vI 6) 38), (38, am_icmp_ne 41 45), (41, am_push (vI 3) 42), (42, am_goto 46), (45, am_push (vI 0) 46), (46, am_cal l d y_M_refused (some 9) 2 49 0 0 0 0), (49, am_if_eq 52 54), (52, am_push (vI 0) 53), (53, am_iret false), (54, am_aload 0 55), (55, am_cal l d y_M_remember (some 9) 1 58 0 0 0 0), (58, am_aload 0 59), (59, am_getR 9 6 62), (62, am_iload 1 63), (63, am_iload 2 64), (64, am_iload 3 65), (65, am_if_eq 68 72), (68, am_push (vI 1) 69), (69, am_goto 73), (72, am_push (vI 0) 73), (73, am_cal l d y_M_putSpan none 4 76 0 0 0 0), (76, am_aload 0 77), (77, am_getR 9 6 80), (80, am_push (vI 2) 81), (81, am_ald 0 82), (82, am_push (vI 1) 83), (83, am_isub 84), (84, am_iret false)]
theorem ck_M_addSpan {l : Launch} {sc : Nat × (Nat → Int32)} {d : Nat} : ∀ q ∈ co_M_addSpan l d, am_ok l sc (d + 1) y_M_addSpan q.1 q.2 :=
  fa_cons (ok_aload_n (show decode (am_mB y_M_addSpan) 0 = .ok (.aload_n 0, 1) by decide +kernel) rfl) <|
  fa_cons (ok_aload_n (show decode (am_mB y_M_addSpan) 1 = .ok (.aload_n 0, 1) by decide +kernel) rfl) <|
  fa_cons (ok_iload_n (show decode (am_mB y_M_addSpan) 2 = .ok (.iload_n 1, 1) by decide +kernel) rfl) <|
  fa_cons (ok_cal ⟨rfl, rfl, rfl, rfl⟩ (ok_callV (show decode (am_mB y_M_addSpan) 3 = .ok (.invokevirtual 188, 3) by decide +kernel) cf_M_isRow (by decide +kernel) ml_M_188 ci_M_isRow cv_M_isRow ⟨by decide, rfl⟩ rfl ⟨by decide +kernel, rfl⟩)) <|
  fa_cons (ok_if_eq (show decode (am_mB y_M_addSpan) 6 = .ok (.ifCond .eq 11, 3) by decide +kernel) (by decide)) <|
  fa_cons (ok_aload_n (show decode (am_mB y_M_addSpan) 9 = .ok (.aload_n 0, 1) by decide +kernel) rfl) <|
  fa_cons (ok_iload_n (show decode (am_mB y_M_addSpan) 10 = .ok (.iload_n 2, 1) by decide +kernel) rfl) <|
  fa_cons (ok_cal ⟨rfl, rfl, rfl, rfl⟩ (ok_callV (show decode (am_mB y_M_addSpan) 11 = .ok (.invokevirtual 188, 3) by decide +kernel) cf_M_isRow (by decide +kernel) ml_M_188 ci_M_isRow cv_M_isRow ⟨by decide, rfl⟩ rfl ⟨by decide +kernel, rfl⟩)) <|
  fa_cons (ok_if_ne (show decode (am_mB y_M_addSpan) 14 = .ok (.ifCond .ne 7, 3) by decide +kernel) (by decide)) <|
  fa_cons (ok_iconst (show decode (am_mB y_M_addSpan) 17 = .ok (.iconst 1, 1) by decide +kernel) rfl) <|
  fa_cons (ok_goto (show decode (am_mB y_M_addSpan) 18 = .ok (.goto 28, 3) by decide +kernel) (by decide)) <|
  fa_cons (ok_iload_n (show decode (am_mB y_M_addSpan) 21 = .ok (.iload_n 2, 1) by decide +kernel) rfl) <|
  fa_cons (ok_iload_n (show decode (am_mB y_M_addSpan) 22 = .ok (.iload_n 1, 1) by decide +kernel) rfl) <|
  fa_cons (ok_icmp_gt (show decode (am_mB y_M_addSpan) 23 = .ok (.if_icmp .gt 7, 3) by decide +kernel) (by decide)) <|
  fa_cons (ok_iconst (show decode (am_mB y_M_addSpan) 26 = .ok (.iconst 2, 1) by decide +kernel) rfl) <|
  fa_cons (ok_goto (show decode (am_mB y_M_addSpan) 27 = .ok (.goto 19, 3) by decide +kernel) (by decide)) <|
  fa_cons (ok_aload_n (show decode (am_mB y_M_addSpan) 30 = .ok (.aload_n 0, 1) by decide +kernel) rfl) <|
  fa_cons (ok_getR (show decode (am_mB y_M_addSpan) 31 = .ok (.getfield 16, 3) by decide +kernel) fl_M_16 (by decide +kernel)) <|
  fa_cons (ok_iconst (show decode (am_mB y_M_addSpan) 34 = .ok (.iconst 2, 1) by decide +kernel) rfl) <|
  fa_cons (ok_iald (show decode (am_mB y_M_addSpan) 35 = .ok (.iaload, 1) by decide +kernel)) <|
  fa_cons (ok_bipush (show decode (am_mB y_M_addSpan) 36 = .ok (.bipush 6, 2) by decide +kernel) (by decide +kernel)) <|
  fa_cons (ok_icmp_ne (show decode (am_mB y_M_addSpan) 38 = .ok (.if_icmp .ne 7, 3) by decide +kernel) (by decide)) <|
  fa_cons (ok_iconst (show decode (am_mB y_M_addSpan) 41 = .ok (.iconst 3, 1) by decide +kernel) rfl) <|
  fa_cons (ok_goto (show decode (am_mB y_M_addSpan) 42 = .ok (.goto 4, 3) by decide +kernel) (by decide)) <|
  fa_cons (ok_iconst (show decode (am_mB y_M_addSpan) 45 = .ok (.iconst 0, 1) by decide +kernel) rfl) <|
  fa_cons (ok_cal ⟨rfl, rfl, rfl, rfl⟩ (ok_callV (show decode (am_mB y_M_addSpan) 46 = .ok (.invokevirtual 128, 3) by decide +kernel) cf_M_refused (by decide +kernel) ml_M_128 ci_M_refused cv_M_refused ⟨by decide, rfl⟩ rfl ⟨by decide +kernel, rfl⟩)) <|
  fa_cons (ok_if_eq (show decode (am_mB y_M_addSpan) 49 = .ok (.ifCond .eq 5, 3) by decide +kernel) (by decide)) <|
  fa_cons (ok_iconst (show decode (am_mB y_M_addSpan) 52 = .ok (.iconst 0, 1) by decide +kernel) rfl) <|
  fa_cons (ok_iret (show decode (am_mB y_M_addSpan) 53 = .ok (.ireturn, 1) by decide +kernel) rfl) <|
  fa_cons (ok_aload_n (show decode (am_mB y_M_addSpan) 54 = .ok (.aload_n 0, 1) by decide +kernel) rfl) <|
  fa_cons (ok_cal ⟨rfl, rfl, rfl, rfl⟩ (ok_callV (show decode (am_mB y_M_addSpan) 55 = .ok (.invokevirtual 212, 3) by decide +kernel) cf_M_remember (by decide +kernel) ml_M_212 ci_M_remember cv_M_remember ⟨by decide, rfl⟩ rfl ⟨by decide +kernel, rfl⟩)) <|
  fa_cons (ok_aload_n (show decode (am_mB y_M_addSpan) 58 = .ok (.aload_n 0, 1) by decide +kernel) rfl) <|
  fa_cons (ok_getR (show decode (am_mB y_M_addSpan) 59 = .ok (.getfield 16, 3) by decide +kernel) fl_M_16 (by decide +kernel)) <|
  fa_cons (ok_iload_n (show decode (am_mB y_M_addSpan) 62 = .ok (.iload_n 1, 1) by decide +kernel) rfl) <|
  fa_cons (ok_iload_n (show decode (am_mB y_M_addSpan) 63 = .ok (.iload_n 2, 1) by decide +kernel) rfl) <|
  fa_cons (ok_iload_n (show decode (am_mB y_M_addSpan) 64 = .ok (.iload_n 3, 1) by decide +kernel) rfl) <|
  fa_cons (ok_if_eq (show decode (am_mB y_M_addSpan) 65 = .ok (.ifCond .eq 7, 3) by decide +kernel) (by decide)) <|
  fa_cons (ok_iconst (show decode (am_mB y_M_addSpan) 68 = .ok (.iconst 1, 1) by decide +kernel) rfl) <|
  fa_cons (ok_goto (show decode (am_mB y_M_addSpan) 69 = .ok (.goto 4, 3) by decide +kernel) (by decide)) <|
  fa_cons (ok_iconst (show decode (am_mB y_M_addSpan) 72 = .ok (.iconst 0, 1) by decide +kernel) rfl) <|
  fa_cons (ok_cal ⟨rfl, rfl, rfl, rfl⟩ (ok_callS (show decode (am_mB y_M_addSpan) 73 = .ok (.invokestatic 158, 3) by decide +kernel) cf_M_putSpan (by decide +kernel) ml_M_158 cs_M_putSpan rfl ⟨by decide +kernel, rfl⟩)) <|
  fa_cons (ok_aload_n (show decode (am_mB y_M_addSpan) 76 = .ok (.aload_n 0, 1) by decide +kernel) rfl) <|
  fa_cons (ok_getR (show decode (am_mB y_M_addSpan) 77 = .ok (.getfield 16, 3) by decide +kernel) fl_M_16 (by decide +kernel)) <|
  fa_cons (ok_iconst (show decode (am_mB y_M_addSpan) 80 = .ok (.iconst 2, 1) by decide +kernel) rfl) <|
  fa_cons (ok_iald (show decode (am_mB y_M_addSpan) 81 = .ok (.iaload, 1) by decide +kernel)) <|
  fa_cons (ok_iconst (show decode (am_mB y_M_addSpan) 82 = .ok (.iconst 1, 1) by decide +kernel) rfl) <|
  fa_cons (ok_isub (show decode (am_mB y_M_addSpan) 83 = .ok (.isub, 1) by decide +kernel)) <|
  fa_cons (ok_iret (show decode (am_mB y_M_addSpan) 84 = .ok (.ireturn, 1) by decide +kernel) rfl) <|
  fa_nil
set_option maxRecDepth 100000 in
theorem cq_M_addSpan (l : Launch) (d : Nat) : am_lk (co_M_addSpan l d) 0 = am_aload 0 1 ∧ am_lk (co_M_addSpan l d) 1 = am_aload 0 2 ∧ am_lk (co_M_addSpan l d) 2 = am_iload 1 3 ∧ am_lk (co_M_addSpan l d) 3 = am_cal l d y_M_isRow (some 9) 2 6 0 0 0 0 ∧ am_lk (co_M_addSpan l d) 6 = am_if_eq 9 17 ∧ am_lk (co_M_addSpan l d) 9 = am_aload 0 10 ∧ am_lk (co_M_addSpan l d) 10 = am_iload 2 11 ∧ am_lk (co_M_addSpan l d) 11 = am_cal l d y_M_isRow (some 9) 2 14 0 0 0 0 ∧ am_lk (co_M_addSpan l d) 14 = am_if_ne 17 21 ∧ am_lk (co_M_addSpan l d) 17 = am_push (vI 1) 18 ∧ am_lk (co_M_addSpan l d) 18 = am_goto 46 ∧ am_lk (co_M_addSpan l d) 21 = am_iload 2 22 ∧ am_lk (co_M_addSpan l d) 22 = am_iload 1 23 ∧ am_lk (co_M_addSpan l d) 23 = am_icmp_gt 26 30 ∧ am_lk (co_M_addSpan l d) 26 = am_push (vI 2) 27 ∧ am_lk (co_M_addSpan l d) 27 = am_goto 46 ∧ am_lk (co_M_addSpan l d) 30 = am_aload 0 31 ∧ am_lk (co_M_addSpan l d) 31 = am_getR 9 6 34 ∧ am_lk (co_M_addSpan l d) 34 = am_push (vI 2) 35 ∧ am_lk (co_M_addSpan l d) 35 = am_ald 0 36 ∧ am_lk (co_M_addSpan l d) 36 = am_push (vI 6) 38 ∧ am_lk (co_M_addSpan l d) 38 = am_icmp_ne 41 45 ∧ am_lk (co_M_addSpan l d) 41 = am_push (vI 3) 42 ∧ am_lk (co_M_addSpan l d) 42 = am_goto 46 ∧ am_lk (co_M_addSpan l d) 45 = am_push (vI 0) 46 ∧ am_lk (co_M_addSpan l d) 46 = am_cal l d y_M_refused (some 9) 2 49 0 0 0 0 ∧ am_lk (co_M_addSpan l d) 49 = am_if_eq 52 54 ∧ am_lk (co_M_addSpan l d) 52 = am_push (vI 0) 53 ∧ am_lk (co_M_addSpan l d) 53 = am_iret false ∧ am_lk (co_M_addSpan l d) 54 = am_aload 0 55 ∧ am_lk (co_M_addSpan l d) 55 = am_cal l d y_M_remember (some 9) 1 58 0 0 0 0 ∧ am_lk (co_M_addSpan l d) 58 = am_aload 0 59 ∧ am_lk (co_M_addSpan l d) 59 = am_getR 9 6 62 ∧ am_lk (co_M_addSpan l d) 62 = am_iload 1 63 ∧ am_lk (co_M_addSpan l d) 63 = am_iload 2 64 ∧ am_lk (co_M_addSpan l d) 64 = am_iload 3 65 ∧ am_lk (co_M_addSpan l d) 65 = am_if_eq 68 72 ∧ am_lk (co_M_addSpan l d) 68 = am_push (vI 1) 69 ∧ am_lk (co_M_addSpan l d) 69 = am_goto 73 ∧ am_lk (co_M_addSpan l d) 72 = am_push (vI 0) 73 ∧ am_lk (co_M_addSpan l d) 73 = am_cal l d y_M_putSpan none 4 76 0 0 0 0 ∧ am_lk (co_M_addSpan l d) 76 = am_aload 0 77 ∧ am_lk (co_M_addSpan l d) 77 = am_getR 9 6 80 ∧ am_lk (co_M_addSpan l d) 80 = am_push (vI 2) 81 ∧ am_lk (co_M_addSpan l d) 81 = am_ald 0 82 ∧ am_lk (co_M_addSpan l d) 82 = am_push (vI 1) 83 ∧ am_lk (co_M_addSpan l d) 83 = am_isub 84 ∧ am_lk (co_M_addSpan l d) 84 = am_iret false := ⟨rfl, rfl, rfl, rfl, rfl, rfl, rfl, rfl, rfl, rfl, rfl, rfl, rfl, rfl, rfl, rfl, rfl, rfl, rfl, rfl, rfl, rfl, rfl, rfl, rfl, rfl, rfl, rfl, rfl, rfl, rfl, rfl, rfl, rfl, rfl, rfl, rfl, rfl, rfl, rfl, rfl, rfl, rfl, rfl, rfl, rfl, rfl, rfl⟩
theorem en_M_addSpan {l : Launch} {d : Nat} (n : Nat) {as : List am_V} {G : am_G} {I : am_I} {J : am_J} {P : am_P} (hlen : (as.map am_cat).sum ≤ 4) (h : am_go (am_lk (co_M_addSpan l d)) (am_X l (0, fun _ => 0) (d + 1) y_M_addSpan P) P n 0 (am_el 4 as) [] 0 0 G I J) : am_T l (d + 1) y_M_addSpan as G I J P :=
  am_T_of (sc := (0, fun _ => 0)) cf_M_addSpan (by decide +kernel) (by decide) (by decide +kernel) hlen (am_run (ok_lk _ (ck_M_addSpan)) n _ _ _ _ _ _ _ _ h)
theorem rn_M_addSpan {l : Launch} {sc : Nat × (Nat → Int32)} {d : Nat} {P : am_P} (n : Nat) {pc : Nat} {ls : am_L} {st : List am_V} {kc ks : Nat} {G : am_G} {I : am_I} {J : am_J} (h : am_go (am_lk (co_M_addSpan l d)) (am_X l sc (d + 1) y_M_addSpan P) P n pc ls st kc ks G I J) : am_X l sc (d + 1) y_M_addSpan P pc ls st kc ks G I J := am_run (ok_lk _ (ck_M_addSpan)) n _ _ _ _ _ _ _ _ h
def co_M_removeSpan (l : Launch) (d : Nat) : List (Nat × am_S) := [(0, am_aload 0 1), (1, am_aload 0 2), (2, am_iload 1 3), (3, am_cal l d y_M_isSpan (some 9) 2 6 0 0 0 0), (6, am_if_eq 9 13), (9, am_push (vI 0) 10), (10, am_goto 14), (13, am_push (vI 1) 14), (14, am_cal l d y_M_refused (some 9) 2 17 0 0 0 0), (17, am_if_eq 20 22), (20, am_push (vI 0) 21), (21, am_iret false), (22, am_aload 0 23), (23, am_cal l d y_M_remember (some 9) 1 26 0 0 0 0), (26, am_aload 0 27), (27, am_getR 9 6 30), (30, am_iload 1 31), (31, am_cal l d y_M_dropSpan none 2 34 0 0 0 0), (34, am_aload 0 35), (35, am_aload 0 36), (36, am_getR 9 6 39), (39, am_cal l d y_M_lay (some 9) 2 42 0 0 0 0), (42, am_iret false)]
theorem ck_M_removeSpan {l : Launch} {sc : Nat × (Nat → Int32)} {d : Nat} : ∀ q ∈ co_M_removeSpan l d, am_ok l sc (d + 1) y_M_removeSpan q.1 q.2 :=
  fa_cons (ok_aload_n (show decode (am_mB y_M_removeSpan) 0 = .ok (.aload_n 0, 1) by decide +kernel) rfl) <|
  fa_cons (ok_aload_n (show decode (am_mB y_M_removeSpan) 1 = .ok (.aload_n 0, 1) by decide +kernel) rfl) <|
  fa_cons (ok_iload_n (show decode (am_mB y_M_removeSpan) 2 = .ok (.iload_n 1, 1) by decide +kernel) rfl) <|
  fa_cons (ok_cal ⟨rfl, rfl, rfl, rfl⟩ (ok_callV (show decode (am_mB y_M_removeSpan) 3 = .ok (.invokevirtual 196, 3) by decide +kernel) cf_M_isSpan (by decide +kernel) ml_M_196 ci_M_isSpan cv_M_isSpan ⟨by decide, rfl⟩ rfl ⟨by decide +kernel, rfl⟩)) <|
  fa_cons (ok_if_eq (show decode (am_mB y_M_removeSpan) 6 = .ok (.ifCond .eq 7, 3) by decide +kernel) (by decide)) <|
  fa_cons (ok_iconst (show decode (am_mB y_M_removeSpan) 9 = .ok (.iconst 0, 1) by decide +kernel) rfl) <|
  fa_cons (ok_goto (show decode (am_mB y_M_removeSpan) 10 = .ok (.goto 4, 3) by decide +kernel) (by decide)) <|
  fa_cons (ok_iconst (show decode (am_mB y_M_removeSpan) 13 = .ok (.iconst 1, 1) by decide +kernel) rfl) <|
  fa_cons (ok_cal ⟨rfl, rfl, rfl, rfl⟩ (ok_callV (show decode (am_mB y_M_removeSpan) 14 = .ok (.invokevirtual 128, 3) by decide +kernel) cf_M_refused (by decide +kernel) ml_M_128 ci_M_refused cv_M_refused ⟨by decide, rfl⟩ rfl ⟨by decide +kernel, rfl⟩)) <|
  fa_cons (ok_if_eq (show decode (am_mB y_M_removeSpan) 17 = .ok (.ifCond .eq 5, 3) by decide +kernel) (by decide)) <|
  fa_cons (ok_iconst (show decode (am_mB y_M_removeSpan) 20 = .ok (.iconst 0, 1) by decide +kernel) rfl) <|
  fa_cons (ok_iret (show decode (am_mB y_M_removeSpan) 21 = .ok (.ireturn, 1) by decide +kernel) rfl) <|
  fa_cons (ok_aload_n (show decode (am_mB y_M_removeSpan) 22 = .ok (.aload_n 0, 1) by decide +kernel) rfl) <|
  fa_cons (ok_cal ⟨rfl, rfl, rfl, rfl⟩ (ok_callV (show decode (am_mB y_M_removeSpan) 23 = .ok (.invokevirtual 212, 3) by decide +kernel) cf_M_remember (by decide +kernel) ml_M_212 ci_M_remember cv_M_remember ⟨by decide, rfl⟩ rfl ⟨by decide +kernel, rfl⟩)) <|
  fa_cons (ok_aload_n (show decode (am_mB y_M_removeSpan) 26 = .ok (.aload_n 0, 1) by decide +kernel) rfl) <|
  fa_cons (ok_getR (show decode (am_mB y_M_removeSpan) 27 = .ok (.getfield 16, 3) by decide +kernel) fl_M_16 (by decide +kernel)) <|
  fa_cons (ok_iload_n (show decode (am_mB y_M_removeSpan) 30 = .ok (.iload_n 1, 1) by decide +kernel) rfl) <|
  fa_cons (ok_cal ⟨rfl, rfl, rfl, rfl⟩ (ok_callS (show decode (am_mB y_M_removeSpan) 31 = .ok (.invokestatic 107, 3) by decide +kernel) cf_M_dropSpan (by decide +kernel) ml_M_107 cs_M_dropSpan rfl ⟨by decide +kernel, rfl⟩)) <|
  fa_cons (ok_aload_n (show decode (am_mB y_M_removeSpan) 34 = .ok (.aload_n 0, 1) by decide +kernel) rfl) <|
  fa_cons (ok_aload_n (show decode (am_mB y_M_removeSpan) 35 = .ok (.aload_n 0, 1) by decide +kernel) rfl) <|
  fa_cons (ok_getR (show decode (am_mB y_M_removeSpan) 36 = .ok (.getfield 16, 3) by decide +kernel) fl_M_16 (by decide +kernel)) <|
  fa_cons (ok_cal ⟨rfl, rfl, rfl, rfl⟩ (ok_callV (show decode (am_mB y_M_removeSpan) 39 = .ok (.invokevirtual 178, 3) by decide +kernel) cf_M_lay (by decide +kernel) ml_M_178 ci_M_lay cv_M_lay ⟨by decide, rfl⟩ rfl ⟨by decide +kernel, rfl⟩)) <|
  fa_cons (ok_iret (show decode (am_mB y_M_removeSpan) 42 = .ok (.ireturn, 1) by decide +kernel) rfl) <|
  fa_nil
set_option maxRecDepth 100000 in
theorem cq_M_removeSpan (l : Launch) (d : Nat) : am_lk (co_M_removeSpan l d) 0 = am_aload 0 1 ∧ am_lk (co_M_removeSpan l d) 1 = am_aload 0 2 ∧ am_lk (co_M_removeSpan l d) 2 = am_iload 1 3 ∧ am_lk (co_M_removeSpan l d) 3 = am_cal l d y_M_isSpan (some 9) 2 6 0 0 0 0 ∧ am_lk (co_M_removeSpan l d) 6 = am_if_eq 9 13 ∧ am_lk (co_M_removeSpan l d) 9 = am_push (vI 0) 10 ∧ am_lk (co_M_removeSpan l d) 10 = am_goto 14 ∧ am_lk (co_M_removeSpan l d) 13 = am_push (vI 1) 14 ∧ am_lk (co_M_removeSpan l d) 14 = am_cal l d y_M_refused (some 9) 2 17 0 0 0 0 ∧ am_lk (co_M_removeSpan l d) 17 = am_if_eq 20 22 ∧ am_lk (co_M_removeSpan l d) 20 = am_push (vI 0) 21 ∧ am_lk (co_M_removeSpan l d) 21 = am_iret false ∧ am_lk (co_M_removeSpan l d) 22 = am_aload 0 23 ∧ am_lk (co_M_removeSpan l d) 23 = am_cal l d y_M_remember (some 9) 1 26 0 0 0 0 ∧ am_lk (co_M_removeSpan l d) 26 = am_aload 0 27 ∧ am_lk (co_M_removeSpan l d) 27 = am_getR 9 6 30 ∧ am_lk (co_M_removeSpan l d) 30 = am_iload 1 31 ∧ am_lk (co_M_removeSpan l d) 31 = am_cal l d y_M_dropSpan none 2 34 0 0 0 0 ∧ am_lk (co_M_removeSpan l d) 34 = am_aload 0 35 ∧ am_lk (co_M_removeSpan l d) 35 = am_aload 0 36 ∧ am_lk (co_M_removeSpan l d) 36 = am_getR 9 6 39 ∧ am_lk (co_M_removeSpan l d) 39 = am_cal l d y_M_lay (some 9) 2 42 0 0 0 0 ∧ am_lk (co_M_removeSpan l d) 42 = am_iret false := ⟨rfl, rfl, rfl, rfl, rfl, rfl, rfl, rfl, rfl, rfl, rfl, rfl, rfl, rfl, rfl, rfl, rfl, rfl, rfl, rfl, rfl, rfl, rfl⟩
theorem en_M_removeSpan {l : Launch} {d : Nat} (n : Nat) {as : List am_V} {G : am_G} {I : am_I} {J : am_J} {P : am_P} (hlen : (as.map am_cat).sum ≤ 2) (h : am_go (am_lk (co_M_removeSpan l d)) (am_X l (0, fun _ => 0) (d + 1) y_M_removeSpan P) P n 0 (am_el 2 as) [] 0 0 G I J) : am_T l (d + 1) y_M_removeSpan as G I J P :=
  am_T_of (sc := (0, fun _ => 0)) cf_M_removeSpan (by decide +kernel) (by decide) (by decide +kernel) hlen (am_run (ok_lk _ (ck_M_removeSpan)) n _ _ _ _ _ _ _ _ h)
theorem rn_M_removeSpan {l : Launch} {sc : Nat × (Nat → Int32)} {d : Nat} {P : am_P} (n : Nat) {pc : Nat} {ls : am_L} {st : List am_V} {kc ks : Nat} {G : am_G} {I : am_I} {J : am_J} (h : am_go (am_lk (co_M_removeSpan l d)) (am_X l sc (d + 1) y_M_removeSpan P) P n pc ls st kc ks G I J) : am_X l sc (d + 1) y_M_removeSpan P pc ls st kc ks G I J := am_run (ok_lk _ (ck_M_removeSpan)) n _ _ _ _ _ _ _ _ h
def co_M_setHeight (l : Launch) (d : Nat) : List (Nat × am_S) := [(0, am_aload 0 1), (1, am_iload 1 2), (2, am_iload 2 3), (3, am_cal l d y_M_isHeight none 2 6 0 0 0 0), (6, am_if_eq 9 13), (9, am_push (vI 0) 10), (10, am_goto 14), (13, am_push (vI 1) 14), (14, am_cal l d y_M_refused (some 9) 2 17 0 0 0 0), (17, am_if_eq 20 22), (20, am_push (vI 0) 21), (21, am_iret false), (22, am_aload 0 23), (23, am_cal l d y_M_remember (some 9) 1 26 0 0 0 0), (26, am_aload 0 27), (27, am_getR 9 6 30), (30, am_push (vI 3) 31), (31, am_iload 1 32), (32, am_iadd 33), (33, am_iload 2 34), (34, am_ast 0 (fun x => x) 35), (35, am_aload 0 36), (36, am_aload 0 37), (37, am_getR 9 6 40), (40, am_cal l d y_M_lay (some 9) 2 43 0 0 0 0), (43, am_iret false)]
theorem ck_M_setHeight {l : Launch} {sc : Nat × (Nat → Int32)} {d : Nat} : ∀ q ∈ co_M_setHeight l d, am_ok l sc (d + 1) y_M_setHeight q.1 q.2 :=
  fa_cons (ok_aload_n (show decode (am_mB y_M_setHeight) 0 = .ok (.aload_n 0, 1) by decide +kernel) rfl) <|
  fa_cons (ok_iload_n (show decode (am_mB y_M_setHeight) 1 = .ok (.iload_n 1, 1) by decide +kernel) rfl) <|
  fa_cons (ok_iload_n (show decode (am_mB y_M_setHeight) 2 = .ok (.iload_n 2, 1) by decide +kernel) rfl) <|
  fa_cons (ok_cal ⟨rfl, rfl, rfl, rfl⟩ (ok_callS (show decode (am_mB y_M_setHeight) 3 = .ok (.invokestatic 222, 3) by decide +kernel) cf_M_isHeight (by decide +kernel) ml_M_222 cs_M_isHeight rfl ⟨by decide +kernel, rfl⟩)) <|
  fa_cons (ok_if_eq (show decode (am_mB y_M_setHeight) 6 = .ok (.ifCond .eq 7, 3) by decide +kernel) (by decide)) <|
  fa_cons (ok_iconst (show decode (am_mB y_M_setHeight) 9 = .ok (.iconst 0, 1) by decide +kernel) rfl) <|
  fa_cons (ok_goto (show decode (am_mB y_M_setHeight) 10 = .ok (.goto 4, 3) by decide +kernel) (by decide)) <|
  fa_cons (ok_iconst (show decode (am_mB y_M_setHeight) 13 = .ok (.iconst 1, 1) by decide +kernel) rfl) <|
  fa_cons (ok_cal ⟨rfl, rfl, rfl, rfl⟩ (ok_callV (show decode (am_mB y_M_setHeight) 14 = .ok (.invokevirtual 128, 3) by decide +kernel) cf_M_refused (by decide +kernel) ml_M_128 ci_M_refused cv_M_refused ⟨by decide, rfl⟩ rfl ⟨by decide +kernel, rfl⟩)) <|
  fa_cons (ok_if_eq (show decode (am_mB y_M_setHeight) 17 = .ok (.ifCond .eq 5, 3) by decide +kernel) (by decide)) <|
  fa_cons (ok_iconst (show decode (am_mB y_M_setHeight) 20 = .ok (.iconst 0, 1) by decide +kernel) rfl) <|
  fa_cons (ok_iret (show decode (am_mB y_M_setHeight) 21 = .ok (.ireturn, 1) by decide +kernel) rfl) <|
  fa_cons (ok_aload_n (show decode (am_mB y_M_setHeight) 22 = .ok (.aload_n 0, 1) by decide +kernel) rfl) <|
  fa_cons (ok_cal ⟨rfl, rfl, rfl, rfl⟩ (ok_callV (show decode (am_mB y_M_setHeight) 23 = .ok (.invokevirtual 212, 3) by decide +kernel) cf_M_remember (by decide +kernel) ml_M_212 ci_M_remember cv_M_remember ⟨by decide, rfl⟩ rfl ⟨by decide +kernel, rfl⟩)) <|
  fa_cons (ok_aload_n (show decode (am_mB y_M_setHeight) 26 = .ok (.aload_n 0, 1) by decide +kernel) rfl) <|
  fa_cons (ok_getR (show decode (am_mB y_M_setHeight) 27 = .ok (.getfield 16, 3) by decide +kernel) fl_M_16 (by decide +kernel)) <|
  fa_cons (ok_iconst (show decode (am_mB y_M_setHeight) 30 = .ok (.iconst 3, 1) by decide +kernel) rfl) <|
  fa_cons (ok_iload_n (show decode (am_mB y_M_setHeight) 31 = .ok (.iload_n 1, 1) by decide +kernel) rfl) <|
  fa_cons (ok_iadd (show decode (am_mB y_M_setHeight) 32 = .ok (.iadd, 1) by decide +kernel)) <|
  fa_cons (ok_iload_n (show decode (am_mB y_M_setHeight) 33 = .ok (.iload_n 2, 1) by decide +kernel) rfl) <|
  fa_cons (ok_iast (show decode (am_mB y_M_setHeight) 34 = .ok (.iastore, 1) by decide +kernel)) <|
  fa_cons (ok_aload_n (show decode (am_mB y_M_setHeight) 35 = .ok (.aload_n 0, 1) by decide +kernel) rfl) <|
  fa_cons (ok_aload_n (show decode (am_mB y_M_setHeight) 36 = .ok (.aload_n 0, 1) by decide +kernel) rfl) <|
  fa_cons (ok_getR (show decode (am_mB y_M_setHeight) 37 = .ok (.getfield 16, 3) by decide +kernel) fl_M_16 (by decide +kernel)) <|
  fa_cons (ok_cal ⟨rfl, rfl, rfl, rfl⟩ (ok_callV (show decode (am_mB y_M_setHeight) 40 = .ok (.invokevirtual 178, 3) by decide +kernel) cf_M_lay (by decide +kernel) ml_M_178 ci_M_lay cv_M_lay ⟨by decide, rfl⟩ rfl ⟨by decide +kernel, rfl⟩)) <|
  fa_cons (ok_iret (show decode (am_mB y_M_setHeight) 43 = .ok (.ireturn, 1) by decide +kernel) rfl) <|
  fa_nil
set_option maxRecDepth 100000 in
theorem cq_M_setHeight (l : Launch) (d : Nat) : am_lk (co_M_setHeight l d) 0 = am_aload 0 1 ∧ am_lk (co_M_setHeight l d) 1 = am_iload 1 2 ∧ am_lk (co_M_setHeight l d) 2 = am_iload 2 3 ∧ am_lk (co_M_setHeight l d) 3 = am_cal l d y_M_isHeight none 2 6 0 0 0 0 ∧ am_lk (co_M_setHeight l d) 6 = am_if_eq 9 13 ∧ am_lk (co_M_setHeight l d) 9 = am_push (vI 0) 10 ∧ am_lk (co_M_setHeight l d) 10 = am_goto 14 ∧ am_lk (co_M_setHeight l d) 13 = am_push (vI 1) 14 ∧ am_lk (co_M_setHeight l d) 14 = am_cal l d y_M_refused (some 9) 2 17 0 0 0 0 ∧ am_lk (co_M_setHeight l d) 17 = am_if_eq 20 22 ∧ am_lk (co_M_setHeight l d) 20 = am_push (vI 0) 21 ∧ am_lk (co_M_setHeight l d) 21 = am_iret false ∧ am_lk (co_M_setHeight l d) 22 = am_aload 0 23 ∧ am_lk (co_M_setHeight l d) 23 = am_cal l d y_M_remember (some 9) 1 26 0 0 0 0 ∧ am_lk (co_M_setHeight l d) 26 = am_aload 0 27 ∧ am_lk (co_M_setHeight l d) 27 = am_getR 9 6 30 ∧ am_lk (co_M_setHeight l d) 30 = am_push (vI 3) 31 ∧ am_lk (co_M_setHeight l d) 31 = am_iload 1 32 ∧ am_lk (co_M_setHeight l d) 32 = am_iadd 33 ∧ am_lk (co_M_setHeight l d) 33 = am_iload 2 34 ∧ am_lk (co_M_setHeight l d) 34 = am_ast 0 (fun x => x) 35 ∧ am_lk (co_M_setHeight l d) 35 = am_aload 0 36 ∧ am_lk (co_M_setHeight l d) 36 = am_aload 0 37 ∧ am_lk (co_M_setHeight l d) 37 = am_getR 9 6 40 ∧ am_lk (co_M_setHeight l d) 40 = am_cal l d y_M_lay (some 9) 2 43 0 0 0 0 ∧ am_lk (co_M_setHeight l d) 43 = am_iret false := ⟨rfl, rfl, rfl, rfl, rfl, rfl, rfl, rfl, rfl, rfl, rfl, rfl, rfl, rfl, rfl, rfl, rfl, rfl, rfl, rfl, rfl, rfl, rfl, rfl, rfl, rfl⟩
theorem en_M_setHeight {l : Launch} {d : Nat} (n : Nat) {as : List am_V} {G : am_G} {I : am_I} {J : am_J} {P : am_P} (hlen : (as.map am_cat).sum ≤ 3) (h : am_go (am_lk (co_M_setHeight l d)) (am_X l (0, fun _ => 0) (d + 1) y_M_setHeight P) P n 0 (am_el 3 as) [] 0 0 G I J) : am_T l (d + 1) y_M_setHeight as G I J P :=
  am_T_of (sc := (0, fun _ => 0)) cf_M_setHeight (by decide +kernel) (by decide) (by decide +kernel) hlen (am_run (ok_lk _ (ck_M_setHeight)) n _ _ _ _ _ _ _ _ h)
theorem rn_M_setHeight {l : Launch} {sc : Nat × (Nat → Int32)} {d : Nat} {P : am_P} (n : Nat) {pc : Nat} {ls : am_L} {st : List am_V} {kc ks : Nat} {G : am_G} {I : am_I} {J : am_J} (h : am_go (am_lk (co_M_setHeight l d)) (am_X l sc (d + 1) y_M_setHeight P) P n pc ls st kc ks G I J) : am_X l sc (d + 1) y_M_setHeight P pc ls st kc ks G I J := am_run (ok_lk _ (ck_M_setHeight)) n _ _ _ _ _ _ _ _ h
def co_M_undo (l : Launch) (d : Nat) : List (Nat × am_S) := [(0, am_aload 0 1), (1, am_aload 0 2), (2, am_getI 9 9 5), (5, am_if_ne 8 12), (8, am_push (vI 1) 9), (9, am_goto 13), (12, am_push (vI 0) 13), (13, am_cal l d y_M_refused (some 9) 2 16 0 0 0 0), (16, am_if_eq 19 21), (19, am_push (vI 0) 20), (20, am_iret false), (21, am_aload 0 22), (22, am_dup 23), (23, am_getI 9 9 26), (26, am_push (vI 1) 27), (27, am_isub 28), (28, am_putI 9 9 31), (31, am_aload 0 32), (32, am_getR 9 8 35), (35, am_push (vI 197) 38), (38, am_aload 0 39), (39, am_getI 9 9 42), (42, am_imul 43), (43, am_aload 0 44), (44, am_getR 9 6 47), (47, am_push (vI 0) 48), (48, am_push (vI 197) 51), (51, am_cal l d y_M_copy none 5 54 0 0 0 0), (54, am_aload 0 55), (55, am_getI 9 9 58), (58, am_iret false)]
theorem ck_M_undo {l : Launch} {sc : Nat × (Nat → Int32)} {d : Nat} : ∀ q ∈ co_M_undo l d, am_ok l sc (d + 1) y_M_undo q.1 q.2 :=
  fa_cons (ok_aload_n (show decode (am_mB y_M_undo) 0 = .ok (.aload_n 0, 1) by decide +kernel) rfl) <|
  fa_cons (ok_aload_n (show decode (am_mB y_M_undo) 1 = .ok (.aload_n 0, 1) by decide +kernel) rfl) <|
  fa_cons (ok_getI (show decode (am_mB y_M_undo) 2 = .ok (.getfield 51, 3) by decide +kernel) fl_M_51 (by decide +kernel)) <|
  fa_cons (ok_if_ne (show decode (am_mB y_M_undo) 5 = .ok (.ifCond .ne 7, 3) by decide +kernel) (by decide)) <|
  fa_cons (ok_iconst (show decode (am_mB y_M_undo) 8 = .ok (.iconst 1, 1) by decide +kernel) rfl) <|
  fa_cons (ok_goto (show decode (am_mB y_M_undo) 9 = .ok (.goto 4, 3) by decide +kernel) (by decide)) <|
  fa_cons (ok_iconst (show decode (am_mB y_M_undo) 12 = .ok (.iconst 0, 1) by decide +kernel) rfl) <|
  fa_cons (ok_cal ⟨rfl, rfl, rfl, rfl⟩ (ok_callV (show decode (am_mB y_M_undo) 13 = .ok (.invokevirtual 128, 3) by decide +kernel) cf_M_refused (by decide +kernel) ml_M_128 ci_M_refused cv_M_refused ⟨by decide, rfl⟩ rfl ⟨by decide +kernel, rfl⟩)) <|
  fa_cons (ok_if_eq (show decode (am_mB y_M_undo) 16 = .ok (.ifCond .eq 5, 3) by decide +kernel) (by decide)) <|
  fa_cons (ok_iconst (show decode (am_mB y_M_undo) 19 = .ok (.iconst 0, 1) by decide +kernel) rfl) <|
  fa_cons (ok_iret (show decode (am_mB y_M_undo) 20 = .ok (.ireturn, 1) by decide +kernel) rfl) <|
  fa_cons (ok_aload_n (show decode (am_mB y_M_undo) 21 = .ok (.aload_n 0, 1) by decide +kernel) rfl) <|
  fa_cons (ok_dup (show decode (am_mB y_M_undo) 22 = .ok (.dup, 1) by decide +kernel)) <|
  fa_cons (ok_getI (show decode (am_mB y_M_undo) 23 = .ok (.getfield 51, 3) by decide +kernel) fl_M_51 (by decide +kernel)) <|
  fa_cons (ok_iconst (show decode (am_mB y_M_undo) 26 = .ok (.iconst 1, 1) by decide +kernel) rfl) <|
  fa_cons (ok_isub (show decode (am_mB y_M_undo) 27 = .ok (.isub, 1) by decide +kernel)) <|
  fa_cons (ok_putI (show decode (am_mB y_M_undo) 28 = .ok (.putfield 51, 3) by decide +kernel) fl_M_51 (by decide +kernel)) <|
  fa_cons (ok_aload_n (show decode (am_mB y_M_undo) 31 = .ok (.aload_n 0, 1) by decide +kernel) rfl) <|
  fa_cons (ok_getR (show decode (am_mB y_M_undo) 32 = .ok (.getfield 22, 3) by decide +kernel) fl_M_22 (by decide +kernel)) <|
  fa_cons (ok_sipush (show decode (am_mB y_M_undo) 35 = .ok (.sipush 197, 3) by decide +kernel) (by decide +kernel)) <|
  fa_cons (ok_aload_n (show decode (am_mB y_M_undo) 38 = .ok (.aload_n 0, 1) by decide +kernel) rfl) <|
  fa_cons (ok_getI (show decode (am_mB y_M_undo) 39 = .ok (.getfield 51, 3) by decide +kernel) fl_M_51 (by decide +kernel)) <|
  fa_cons (ok_imul (show decode (am_mB y_M_undo) 42 = .ok (.imul, 1) by decide +kernel)) <|
  fa_cons (ok_aload_n (show decode (am_mB y_M_undo) 43 = .ok (.aload_n 0, 1) by decide +kernel) rfl) <|
  fa_cons (ok_getR (show decode (am_mB y_M_undo) 44 = .ok (.getfield 16, 3) by decide +kernel) fl_M_16 (by decide +kernel)) <|
  fa_cons (ok_iconst (show decode (am_mB y_M_undo) 47 = .ok (.iconst 0, 1) by decide +kernel) rfl) <|
  fa_cons (ok_sipush (show decode (am_mB y_M_undo) 48 = .ok (.sipush 197, 3) by decide +kernel) (by decide +kernel)) <|
  fa_cons (ok_cal ⟨rfl, rfl, rfl, rfl⟩ (ok_callS (show decode (am_mB y_M_undo) 51 = .ok (.invokestatic 54, 3) by decide +kernel) cf_M_copy (by decide +kernel) ml_M_54 cs_M_copy rfl ⟨by decide +kernel, rfl⟩)) <|
  fa_cons (ok_aload_n (show decode (am_mB y_M_undo) 54 = .ok (.aload_n 0, 1) by decide +kernel) rfl) <|
  fa_cons (ok_getI (show decode (am_mB y_M_undo) 55 = .ok (.getfield 51, 3) by decide +kernel) fl_M_51 (by decide +kernel)) <|
  fa_cons (ok_iret (show decode (am_mB y_M_undo) 58 = .ok (.ireturn, 1) by decide +kernel) rfl) <|
  fa_nil
set_option maxRecDepth 100000 in
theorem cq_M_undo (l : Launch) (d : Nat) : am_lk (co_M_undo l d) 0 = am_aload 0 1 ∧ am_lk (co_M_undo l d) 1 = am_aload 0 2 ∧ am_lk (co_M_undo l d) 2 = am_getI 9 9 5 ∧ am_lk (co_M_undo l d) 5 = am_if_ne 8 12 ∧ am_lk (co_M_undo l d) 8 = am_push (vI 1) 9 ∧ am_lk (co_M_undo l d) 9 = am_goto 13 ∧ am_lk (co_M_undo l d) 12 = am_push (vI 0) 13 ∧ am_lk (co_M_undo l d) 13 = am_cal l d y_M_refused (some 9) 2 16 0 0 0 0 ∧ am_lk (co_M_undo l d) 16 = am_if_eq 19 21 ∧ am_lk (co_M_undo l d) 19 = am_push (vI 0) 20 ∧ am_lk (co_M_undo l d) 20 = am_iret false ∧ am_lk (co_M_undo l d) 21 = am_aload 0 22 ∧ am_lk (co_M_undo l d) 22 = am_dup 23 ∧ am_lk (co_M_undo l d) 23 = am_getI 9 9 26 ∧ am_lk (co_M_undo l d) 26 = am_push (vI 1) 27 ∧ am_lk (co_M_undo l d) 27 = am_isub 28 ∧ am_lk (co_M_undo l d) 28 = am_putI 9 9 31 ∧ am_lk (co_M_undo l d) 31 = am_aload 0 32 ∧ am_lk (co_M_undo l d) 32 = am_getR 9 8 35 ∧ am_lk (co_M_undo l d) 35 = am_push (vI 197) 38 ∧ am_lk (co_M_undo l d) 38 = am_aload 0 39 ∧ am_lk (co_M_undo l d) 39 = am_getI 9 9 42 ∧ am_lk (co_M_undo l d) 42 = am_imul 43 ∧ am_lk (co_M_undo l d) 43 = am_aload 0 44 ∧ am_lk (co_M_undo l d) 44 = am_getR 9 6 47 ∧ am_lk (co_M_undo l d) 47 = am_push (vI 0) 48 ∧ am_lk (co_M_undo l d) 48 = am_push (vI 197) 51 ∧ am_lk (co_M_undo l d) 51 = am_cal l d y_M_copy none 5 54 0 0 0 0 ∧ am_lk (co_M_undo l d) 54 = am_aload 0 55 ∧ am_lk (co_M_undo l d) 55 = am_getI 9 9 58 ∧ am_lk (co_M_undo l d) 58 = am_iret false := ⟨rfl, rfl, rfl, rfl, rfl, rfl, rfl, rfl, rfl, rfl, rfl, rfl, rfl, rfl, rfl, rfl, rfl, rfl, rfl, rfl, rfl, rfl, rfl, rfl, rfl, rfl, rfl, rfl, rfl, rfl, rfl⟩
theorem en_M_undo {l : Launch} {d : Nat} (n : Nat) {as : List am_V} {G : am_G} {I : am_I} {J : am_J} {P : am_P} (hlen : (as.map am_cat).sum ≤ 1) (h : am_go (am_lk (co_M_undo l d)) (am_X l (0, fun _ => 0) (d + 1) y_M_undo P) P n 0 (am_el 1 as) [] 0 0 G I J) : am_T l (d + 1) y_M_undo as G I J P :=
  am_T_of (sc := (0, fun _ => 0)) cf_M_undo (by decide +kernel) (by decide) (by decide +kernel) hlen (am_run (ok_lk _ (ck_M_undo)) n _ _ _ _ _ _ _ _ h)
theorem rn_M_undo {l : Launch} {sc : Nat × (Nat → Int32)} {d : Nat} {P : am_P} (n : Nat) {pc : Nat} {ls : am_L} {st : List am_V} {kc ks : Nat} {G : am_G} {I : am_I} {J : am_J} (h : am_go (am_lk (co_M_undo l d)) (am_X l sc (d + 1) y_M_undo P) P n pc ls st kc ks G I J) : am_X l sc (d + 1) y_M_undo P pc ls st kc ks G I J := am_run (ok_lk _ (ck_M_undo)) n _ _ _ _ _ _ _ _ h
def co_M_heightFor (l : Launch) (d : Nat) : List (Nat × am_S) := [(0, am_aload 0 1), (1, am_iload 1 2), (2, am_i2l 3), (3, am_push (vL 1) 4), (4, am_push (vL 24) 7), (7, am_cal l d y_M_in none 3 10 0 0 0 0), (10, am_if_eq 13 17), (13, am_push (vI 0) 14), (14, am_goto 18), (17, am_push (vI 1) 18), (18, am_cal l d y_M_refused (some 9) 2 21 0 0 0 0), (21, am_if_eq 24 26), (24, am_push (vI 0) 25), (25, am_iret false), (26, am_aload 0 27), (27, am_cal l d y_M_begin (some 9) 1 30 0 0 0 0), (30, am_push (vI 6) 32), (32, am_stp (am_istore 2 33)), (33, am_iload 2 34), (34, am_push (vI 40) 36), (36, am_icmp_gt 39 77), (39, am_aload 0 40), (40, am_getR 9 7 43), (43, am_push (vI 3) 44), (44, am_iload 2 45), (45, am_ast 0 (fun x => x) 46), (46, am_aload 0 47), (47, am_aload 0 48), (48, am_getR 9 7 51), (51, am_cal l d y_M_lay (some 9) 2 54 0 0 0 0), (54, am_iload 1 55), (55, am_icmp_gt 58 71), (58, am_aload 0 59), (59, am_aload 0 60), (60, am_getR 9 7 63), (63, am_cal l d y_M_overfull (some 9) 2 66 0 0 0 0), (66, am_if_ne 69 71), (69, am_iload 2 70), (70, am_iret false), (71, am_iinc 2 1 74), (74, am_stp (am_goto 33)), (77, am_push (vI (-999999)) 79), (79, am_iret false)]
theorem ck_M_heightFor {l : Launch} {sc : Nat × (Nat → Int32)} {d : Nat} : ∀ q ∈ co_M_heightFor l d, am_ok l sc (d + 1) y_M_heightFor q.1 q.2 :=
  fa_cons (ok_aload_n (show decode (am_mB y_M_heightFor) 0 = .ok (.aload_n 0, 1) by decide +kernel) rfl) <|
  fa_cons (ok_iload_n (show decode (am_mB y_M_heightFor) 1 = .ok (.iload_n 1, 1) by decide +kernel) rfl) <|
  fa_cons (ok_i2l (show decode (am_mB y_M_heightFor) 2 = .ok (.i2l, 1) by decide +kernel)) <|
  fa_cons (ok_lconst (show decode (am_mB y_M_heightFor) 3 = .ok (.lconst 1, 1) by decide +kernel) rfl) <|
  fa_cons (ok_ldc2 (show decode (am_mB y_M_heightFor) 4 = .ok (.ldc2_w 225, 3) by decide +kernel) w_1262) <|
  fa_cons (ok_cal ⟨rfl, rfl, rfl, rfl⟩ (ok_callS (show decode (am_mB y_M_heightFor) 7 = .ok (.invokestatic 113, 3) by decide +kernel) cf_M_in (by decide +kernel) ml_M_113 cs_M_in rfl ⟨by decide +kernel, rfl⟩)) <|
  fa_cons (ok_if_eq (show decode (am_mB y_M_heightFor) 10 = .ok (.ifCond .eq 7, 3) by decide +kernel) (by decide)) <|
  fa_cons (ok_iconst (show decode (am_mB y_M_heightFor) 13 = .ok (.iconst 0, 1) by decide +kernel) rfl) <|
  fa_cons (ok_goto (show decode (am_mB y_M_heightFor) 14 = .ok (.goto 4, 3) by decide +kernel) (by decide)) <|
  fa_cons (ok_iconst (show decode (am_mB y_M_heightFor) 17 = .ok (.iconst 1, 1) by decide +kernel) rfl) <|
  fa_cons (ok_cal ⟨rfl, rfl, rfl, rfl⟩ (ok_callV (show decode (am_mB y_M_heightFor) 18 = .ok (.invokevirtual 128, 3) by decide +kernel) cf_M_refused (by decide +kernel) ml_M_128 ci_M_refused cv_M_refused ⟨by decide, rfl⟩ rfl ⟨by decide +kernel, rfl⟩)) <|
  fa_cons (ok_if_eq (show decode (am_mB y_M_heightFor) 21 = .ok (.ifCond .eq 5, 3) by decide +kernel) (by decide)) <|
  fa_cons (ok_iconst (show decode (am_mB y_M_heightFor) 24 = .ok (.iconst 0, 1) by decide +kernel) rfl) <|
  fa_cons (ok_iret (show decode (am_mB y_M_heightFor) 25 = .ok (.ireturn, 1) by decide +kernel) rfl) <|
  fa_cons (ok_aload_n (show decode (am_mB y_M_heightFor) 26 = .ok (.aload_n 0, 1) by decide +kernel) rfl) <|
  fa_cons (ok_cal ⟨rfl, rfl, rfl, rfl⟩ (ok_callV (show decode (am_mB y_M_heightFor) 27 = .ok (.invokevirtual 227, 3) by decide +kernel) cf_M_begin (by decide +kernel) ml_M_227 ci_M_begin cv_M_begin ⟨by decide, rfl⟩ rfl ⟨by decide +kernel, rfl⟩)) <|
  fa_cons (ok_bipush (show decode (am_mB y_M_heightFor) 30 = .ok (.bipush 6, 2) by decide +kernel) (by decide +kernel)) <|
  fa_cons (ok_stp (σ := am_istore 2 33) (ok_istore_n (show decode (am_mB y_M_heightFor) 32 = .ok (.istore_n 2, 1) by decide +kernel) rfl (by decide +kernel))) <|
  fa_cons (ok_iload_n (show decode (am_mB y_M_heightFor) 33 = .ok (.iload_n 2, 1) by decide +kernel) rfl) <|
  fa_cons (ok_bipush (show decode (am_mB y_M_heightFor) 34 = .ok (.bipush 40, 2) by decide +kernel) (by decide +kernel)) <|
  fa_cons (ok_icmp_gt (show decode (am_mB y_M_heightFor) 36 = .ok (.if_icmp .gt 41, 3) by decide +kernel) (by decide)) <|
  fa_cons (ok_aload_n (show decode (am_mB y_M_heightFor) 39 = .ok (.aload_n 0, 1) by decide +kernel) rfl) <|
  fa_cons (ok_getR (show decode (am_mB y_M_heightFor) 40 = .ok (.getfield 19, 3) by decide +kernel) fl_M_19 (by decide +kernel)) <|
  fa_cons (ok_iconst (show decode (am_mB y_M_heightFor) 43 = .ok (.iconst 3, 1) by decide +kernel) rfl) <|
  fa_cons (ok_iload_n (show decode (am_mB y_M_heightFor) 44 = .ok (.iload_n 2, 1) by decide +kernel) rfl) <|
  fa_cons (ok_iast (show decode (am_mB y_M_heightFor) 45 = .ok (.iastore, 1) by decide +kernel)) <|
  fa_cons (ok_aload_n (show decode (am_mB y_M_heightFor) 46 = .ok (.aload_n 0, 1) by decide +kernel) rfl) <|
  fa_cons (ok_aload_n (show decode (am_mB y_M_heightFor) 47 = .ok (.aload_n 0, 1) by decide +kernel) rfl) <|
  fa_cons (ok_getR (show decode (am_mB y_M_heightFor) 48 = .ok (.getfield 19, 3) by decide +kernel) fl_M_19 (by decide +kernel)) <|
  fa_cons (ok_cal ⟨rfl, rfl, rfl, rfl⟩ (ok_callV (show decode (am_mB y_M_heightFor) 51 = .ok (.invokevirtual 178, 3) by decide +kernel) cf_M_lay (by decide +kernel) ml_M_178 ci_M_lay cv_M_lay ⟨by decide, rfl⟩ rfl ⟨by decide +kernel, rfl⟩)) <|
  fa_cons (ok_iload_n (show decode (am_mB y_M_heightFor) 54 = .ok (.iload_n 1, 1) by decide +kernel) rfl) <|
  fa_cons (ok_icmp_gt (show decode (am_mB y_M_heightFor) 55 = .ok (.if_icmp .gt 16, 3) by decide +kernel) (by decide)) <|
  fa_cons (ok_aload_n (show decode (am_mB y_M_heightFor) 58 = .ok (.aload_n 0, 1) by decide +kernel) rfl) <|
  fa_cons (ok_aload_n (show decode (am_mB y_M_heightFor) 59 = .ok (.aload_n 0, 1) by decide +kernel) rfl) <|
  fa_cons (ok_getR (show decode (am_mB y_M_heightFor) 60 = .ok (.getfield 19, 3) by decide +kernel) fl_M_19 (by decide +kernel)) <|
  fa_cons (ok_cal ⟨rfl, rfl, rfl, rfl⟩ (ok_callV (show decode (am_mB y_M_heightFor) 63 = .ok (.invokevirtual 182, 3) by decide +kernel) cf_M_overfull (by decide +kernel) ml_M_182 ci_M_overfull cv_M_overfull ⟨by decide, rfl⟩ rfl ⟨by decide +kernel, rfl⟩)) <|
  fa_cons (ok_if_ne (show decode (am_mB y_M_heightFor) 66 = .ok (.ifCond .ne 5, 3) by decide +kernel) (by decide)) <|
  fa_cons (ok_iload_n (show decode (am_mB y_M_heightFor) 69 = .ok (.iload_n 2, 1) by decide +kernel) rfl) <|
  fa_cons (ok_iret (show decode (am_mB y_M_heightFor) 70 = .ok (.ireturn, 1) by decide +kernel) rfl) <|
  fa_cons (ok_iinc (show decode (am_mB y_M_heightFor) 71 = .ok (.iinc 2 1, 3) by decide +kernel) (by decide +kernel) (by decide +kernel)) <|
  fa_cons (ok_stp (σ := am_goto 33) (ok_goto (show decode (am_mB y_M_heightFor) 74 = .ok (.goto (-41), 3) by decide +kernel) (by decide))) <|
  fa_cons (ok_ldc (show decode (am_mB y_M_heightFor) 77 = .ok (.ldc 90, 2) by decide +kernel) w_1057) <|
  fa_cons (ok_iret (show decode (am_mB y_M_heightFor) 79 = .ok (.ireturn, 1) by decide +kernel) rfl) <|
  fa_nil
set_option maxRecDepth 100000 in
theorem cq_M_heightFor (l : Launch) (d : Nat) : am_lk (co_M_heightFor l d) 0 = am_aload 0 1 ∧ am_lk (co_M_heightFor l d) 1 = am_iload 1 2 ∧ am_lk (co_M_heightFor l d) 2 = am_i2l 3 ∧ am_lk (co_M_heightFor l d) 3 = am_push (vL 1) 4 ∧ am_lk (co_M_heightFor l d) 4 = am_push (vL 24) 7 ∧ am_lk (co_M_heightFor l d) 7 = am_cal l d y_M_in none 3 10 0 0 0 0 ∧ am_lk (co_M_heightFor l d) 10 = am_if_eq 13 17 ∧ am_lk (co_M_heightFor l d) 13 = am_push (vI 0) 14 ∧ am_lk (co_M_heightFor l d) 14 = am_goto 18 ∧ am_lk (co_M_heightFor l d) 17 = am_push (vI 1) 18 ∧ am_lk (co_M_heightFor l d) 18 = am_cal l d y_M_refused (some 9) 2 21 0 0 0 0 ∧ am_lk (co_M_heightFor l d) 21 = am_if_eq 24 26 ∧ am_lk (co_M_heightFor l d) 24 = am_push (vI 0) 25 ∧ am_lk (co_M_heightFor l d) 25 = am_iret false ∧ am_lk (co_M_heightFor l d) 26 = am_aload 0 27 ∧ am_lk (co_M_heightFor l d) 27 = am_cal l d y_M_begin (some 9) 1 30 0 0 0 0 ∧ am_lk (co_M_heightFor l d) 30 = am_push (vI 6) 32 ∧ am_lk (co_M_heightFor l d) 32 = am_stp (am_istore 2 33) ∧ am_lk (co_M_heightFor l d) 33 = am_iload 2 34 ∧ am_lk (co_M_heightFor l d) 34 = am_push (vI 40) 36 ∧ am_lk (co_M_heightFor l d) 36 = am_icmp_gt 39 77 ∧ am_lk (co_M_heightFor l d) 39 = am_aload 0 40 ∧ am_lk (co_M_heightFor l d) 40 = am_getR 9 7 43 ∧ am_lk (co_M_heightFor l d) 43 = am_push (vI 3) 44 ∧ am_lk (co_M_heightFor l d) 44 = am_iload 2 45 ∧ am_lk (co_M_heightFor l d) 45 = am_ast 0 (fun x => x) 46 ∧ am_lk (co_M_heightFor l d) 46 = am_aload 0 47 ∧ am_lk (co_M_heightFor l d) 47 = am_aload 0 48 ∧ am_lk (co_M_heightFor l d) 48 = am_getR 9 7 51 ∧ am_lk (co_M_heightFor l d) 51 = am_cal l d y_M_lay (some 9) 2 54 0 0 0 0 ∧ am_lk (co_M_heightFor l d) 54 = am_iload 1 55 ∧ am_lk (co_M_heightFor l d) 55 = am_icmp_gt 58 71 ∧ am_lk (co_M_heightFor l d) 58 = am_aload 0 59 ∧ am_lk (co_M_heightFor l d) 59 = am_aload 0 60 ∧ am_lk (co_M_heightFor l d) 60 = am_getR 9 7 63 ∧ am_lk (co_M_heightFor l d) 63 = am_cal l d y_M_overfull (some 9) 2 66 0 0 0 0 ∧ am_lk (co_M_heightFor l d) 66 = am_if_ne 69 71 ∧ am_lk (co_M_heightFor l d) 69 = am_iload 2 70 ∧ am_lk (co_M_heightFor l d) 70 = am_iret false ∧ am_lk (co_M_heightFor l d) 71 = am_iinc 2 1 74 ∧ am_lk (co_M_heightFor l d) 74 = am_stp (am_goto 33) ∧ am_lk (co_M_heightFor l d) 77 = am_push (vI (-999999)) 79 ∧ am_lk (co_M_heightFor l d) 79 = am_iret false := ⟨rfl, rfl, rfl, rfl, rfl, rfl, rfl, rfl, rfl, rfl, rfl, rfl, rfl, rfl, rfl, rfl, rfl, rfl, rfl, rfl, rfl, rfl, rfl, rfl, rfl, rfl, rfl, rfl, rfl, rfl, rfl, rfl, rfl, rfl, rfl, rfl, rfl, rfl, rfl, rfl, rfl, rfl, rfl⟩
theorem en_M_heightFor {l : Launch} {d : Nat} (n : Nat) {as : List am_V} {G : am_G} {I : am_I} {J : am_J} {P : am_P} (hlen : (as.map am_cat).sum ≤ 3) (h : am_go (am_lk (co_M_heightFor l d)) (am_X l (0, fun _ => 0) (d + 1) y_M_heightFor P) P n 0 (am_el 3 as) [] 0 0 G I J) : am_T l (d + 1) y_M_heightFor as G I J P :=
  am_T_of (sc := (0, fun _ => 0)) cf_M_heightFor (by decide +kernel) (by decide) (by decide +kernel) hlen (am_run (ok_lk _ (ck_M_heightFor)) n _ _ _ _ _ _ _ _ h)
theorem rn_M_heightFor {l : Launch} {sc : Nat × (Nat → Int32)} {d : Nat} {P : am_P} (n : Nat) {pc : Nat} {ls : am_L} {st : List am_V} {kc ks : Nat} {G : am_G} {I : am_I} {J : am_J} (h : am_go (am_lk (co_M_heightFor l d)) (am_X l sc (d + 1) y_M_heightFor P) P n pc ls st kc ks G I J) : am_X l sc (d + 1) y_M_heightFor P pc ls st kc ks G I J := am_run (ok_lk _ (ck_M_heightFor)) n _ _ _ _ _ _ _ _ h
def co_M_costOf (l : Launch) (d : Nat) : List (Nat × am_S) := [(0, am_aload 0 1), (1, am_getR 9 6 4), (4, am_push (vI 3) 5), (5, am_ald 0 6), (6, am_aload 0 7), (7, am_getR 9 6 10), (10, am_iload 1 11), (11, am_iload 2 12), (12, am_cal l d y_M_lines none 3 15 0 0 0 0), (15, am_isub 16), (16, am_istore 3 17), (17, am_iload 3 18), (18, am_if_ge 21 29), (21, am_push (vI (-1000)) 24), (24, am_iload 3 25), (25, am_imul 26), (26, am_goto 48), (29, am_iload 2 30), (30, am_aload 0 31), (31, am_getR 9 6 34), (34, am_push (vI 1) 35), (35, am_ald 0 36), (36, am_push (vI 1) 37), (37, am_isub 38), (38, am_icmp_ne 41 45), (41, am_push (vI 0) 42), (42, am_goto 48), (45, am_iload 3 46), (46, am_iload 3 47), (47, am_imul 48), (48, am_iret false)]
theorem ck_M_costOf {l : Launch} {sc : Nat × (Nat → Int32)} {d : Nat} : ∀ q ∈ co_M_costOf l d, am_ok l sc (d + 1) y_M_costOf q.1 q.2 :=
  fa_cons (ok_aload_n (show decode (am_mB y_M_costOf) 0 = .ok (.aload_n 0, 1) by decide +kernel) rfl) <|
  fa_cons (ok_getR (show decode (am_mB y_M_costOf) 1 = .ok (.getfield 16, 3) by decide +kernel) fl_M_16 (by decide +kernel)) <|
  fa_cons (ok_iconst (show decode (am_mB y_M_costOf) 4 = .ok (.iconst 3, 1) by decide +kernel) rfl) <|
  fa_cons (ok_iald (show decode (am_mB y_M_costOf) 5 = .ok (.iaload, 1) by decide +kernel)) <|
  fa_cons (ok_aload_n (show decode (am_mB y_M_costOf) 6 = .ok (.aload_n 0, 1) by decide +kernel) rfl) <|
  fa_cons (ok_getR (show decode (am_mB y_M_costOf) 7 = .ok (.getfield 16, 3) by decide +kernel) fl_M_16 (by decide +kernel)) <|
  fa_cons (ok_iload_n (show decode (am_mB y_M_costOf) 10 = .ok (.iload_n 1, 1) by decide +kernel) rfl) <|
  fa_cons (ok_iload_n (show decode (am_mB y_M_costOf) 11 = .ok (.iload_n 2, 1) by decide +kernel) rfl) <|
  fa_cons (ok_cal ⟨rfl, rfl, rfl, rfl⟩ (ok_callS (show decode (am_mB y_M_costOf) 12 = .ok (.invokestatic 87, 3) by decide +kernel) cf_M_lines (by decide +kernel) ml_M_87 cs_M_lines rfl ⟨by decide +kernel, rfl⟩)) <|
  fa_cons (ok_isub (show decode (am_mB y_M_costOf) 15 = .ok (.isub, 1) by decide +kernel)) <|
  fa_cons (ok_istore_n (show decode (am_mB y_M_costOf) 16 = .ok (.istore_n 3, 1) by decide +kernel) rfl (by decide +kernel)) <|
  fa_cons (ok_iload_n (show decode (am_mB y_M_costOf) 17 = .ok (.iload_n 3, 1) by decide +kernel) rfl) <|
  fa_cons (ok_if_ge (show decode (am_mB y_M_costOf) 18 = .ok (.ifCond .ge 11, 3) by decide +kernel) (by decide)) <|
  fa_cons (ok_sipush (show decode (am_mB y_M_costOf) 21 = .ok (.sipush (-1000), 3) by decide +kernel) (by decide +kernel)) <|
  fa_cons (ok_iload_n (show decode (am_mB y_M_costOf) 24 = .ok (.iload_n 3, 1) by decide +kernel) rfl) <|
  fa_cons (ok_imul (show decode (am_mB y_M_costOf) 25 = .ok (.imul, 1) by decide +kernel)) <|
  fa_cons (ok_goto (show decode (am_mB y_M_costOf) 26 = .ok (.goto 22, 3) by decide +kernel) (by decide)) <|
  fa_cons (ok_iload_n (show decode (am_mB y_M_costOf) 29 = .ok (.iload_n 2, 1) by decide +kernel) rfl) <|
  fa_cons (ok_aload_n (show decode (am_mB y_M_costOf) 30 = .ok (.aload_n 0, 1) by decide +kernel) rfl) <|
  fa_cons (ok_getR (show decode (am_mB y_M_costOf) 31 = .ok (.getfield 16, 3) by decide +kernel) fl_M_16 (by decide +kernel)) <|
  fa_cons (ok_iconst (show decode (am_mB y_M_costOf) 34 = .ok (.iconst 1, 1) by decide +kernel) rfl) <|
  fa_cons (ok_iald (show decode (am_mB y_M_costOf) 35 = .ok (.iaload, 1) by decide +kernel)) <|
  fa_cons (ok_iconst (show decode (am_mB y_M_costOf) 36 = .ok (.iconst 1, 1) by decide +kernel) rfl) <|
  fa_cons (ok_isub (show decode (am_mB y_M_costOf) 37 = .ok (.isub, 1) by decide +kernel)) <|
  fa_cons (ok_icmp_ne (show decode (am_mB y_M_costOf) 38 = .ok (.if_icmp .ne 7, 3) by decide +kernel) (by decide)) <|
  fa_cons (ok_iconst (show decode (am_mB y_M_costOf) 41 = .ok (.iconst 0, 1) by decide +kernel) rfl) <|
  fa_cons (ok_goto (show decode (am_mB y_M_costOf) 42 = .ok (.goto 6, 3) by decide +kernel) (by decide)) <|
  fa_cons (ok_iload_n (show decode (am_mB y_M_costOf) 45 = .ok (.iload_n 3, 1) by decide +kernel) rfl) <|
  fa_cons (ok_iload_n (show decode (am_mB y_M_costOf) 46 = .ok (.iload_n 3, 1) by decide +kernel) rfl) <|
  fa_cons (ok_imul (show decode (am_mB y_M_costOf) 47 = .ok (.imul, 1) by decide +kernel)) <|
  fa_cons (ok_iret (show decode (am_mB y_M_costOf) 48 = .ok (.ireturn, 1) by decide +kernel) rfl) <|
  fa_nil
set_option maxRecDepth 100000 in
theorem cq_M_costOf (l : Launch) (d : Nat) : am_lk (co_M_costOf l d) 0 = am_aload 0 1 ∧ am_lk (co_M_costOf l d) 1 = am_getR 9 6 4 ∧ am_lk (co_M_costOf l d) 4 = am_push (vI 3) 5 ∧ am_lk (co_M_costOf l d) 5 = am_ald 0 6 ∧ am_lk (co_M_costOf l d) 6 = am_aload 0 7 ∧ am_lk (co_M_costOf l d) 7 = am_getR 9 6 10 ∧ am_lk (co_M_costOf l d) 10 = am_iload 1 11 ∧ am_lk (co_M_costOf l d) 11 = am_iload 2 12 ∧ am_lk (co_M_costOf l d) 12 = am_cal l d y_M_lines none 3 15 0 0 0 0 ∧ am_lk (co_M_costOf l d) 15 = am_isub 16 ∧ am_lk (co_M_costOf l d) 16 = am_istore 3 17 ∧ am_lk (co_M_costOf l d) 17 = am_iload 3 18 ∧ am_lk (co_M_costOf l d) 18 = am_if_ge 21 29 ∧ am_lk (co_M_costOf l d) 21 = am_push (vI (-1000)) 24 ∧ am_lk (co_M_costOf l d) 24 = am_iload 3 25 ∧ am_lk (co_M_costOf l d) 25 = am_imul 26 ∧ am_lk (co_M_costOf l d) 26 = am_goto 48 ∧ am_lk (co_M_costOf l d) 29 = am_iload 2 30 ∧ am_lk (co_M_costOf l d) 30 = am_aload 0 31 ∧ am_lk (co_M_costOf l d) 31 = am_getR 9 6 34 ∧ am_lk (co_M_costOf l d) 34 = am_push (vI 1) 35 ∧ am_lk (co_M_costOf l d) 35 = am_ald 0 36 ∧ am_lk (co_M_costOf l d) 36 = am_push (vI 1) 37 ∧ am_lk (co_M_costOf l d) 37 = am_isub 38 ∧ am_lk (co_M_costOf l d) 38 = am_icmp_ne 41 45 ∧ am_lk (co_M_costOf l d) 41 = am_push (vI 0) 42 ∧ am_lk (co_M_costOf l d) 42 = am_goto 48 ∧ am_lk (co_M_costOf l d) 45 = am_iload 3 46 ∧ am_lk (co_M_costOf l d) 46 = am_iload 3 47 ∧ am_lk (co_M_costOf l d) 47 = am_imul 48 ∧ am_lk (co_M_costOf l d) 48 = am_iret false := ⟨rfl, rfl, rfl, rfl, rfl, rfl, rfl, rfl, rfl, rfl, rfl, rfl, rfl, rfl, rfl, rfl, rfl, rfl, rfl, rfl, rfl, rfl, rfl, rfl, rfl, rfl, rfl, rfl, rfl, rfl, rfl⟩
theorem en_M_costOf {l : Launch} {d : Nat} (n : Nat) {as : List am_V} {G : am_G} {I : am_I} {J : am_J} {P : am_P} (hlen : (as.map am_cat).sum ≤ 4) (h : am_go (am_lk (co_M_costOf l d)) (am_X l (0, fun _ => 0) (d + 1) y_M_costOf P) P n 0 (am_el 4 as) [] 0 0 G I J) : am_T l (d + 1) y_M_costOf as G I J P :=
  am_T_of (sc := (0, fun _ => 0)) cf_M_costOf (by decide +kernel) (by decide) (by decide +kernel) hlen (am_run (ok_lk _ (ck_M_costOf)) n _ _ _ _ _ _ _ _ h)
theorem rn_M_costOf {l : Launch} {sc : Nat × (Nat → Int32)} {d : Nat} {P : am_P} (n : Nat) {pc : Nat} {ls : am_L} {st : List am_V} {kc ks : Nat} {G : am_G} {I : am_I} {J : am_J} (h : am_go (am_lk (co_M_costOf l d)) (am_X l sc (d + 1) y_M_costOf P) P n pc ls st kc ks G I J) : am_X l sc (d + 1) y_M_costOf P pc ls st kc ks G I J := am_run (ok_lk _ (ck_M_costOf)) n _ _ _ _ _ _ _ _ h
def co_M_layCuts (l : Launch) (d : Nat) : List (Nat × am_S) := [(0, am_aload 0 1), (1, am_getR 9 14 4), (4, am_aload 0 5), (5, am_getR 9 6 8), (8, am_push (vI 1) 9), (9, am_ald 0 10), (10, am_push (vI 0) 11), (11, am_ast 0 (fun x => x) 12), (12, am_aload 0 13), (13, am_getR 9 6 16), (16, am_push (vI 1) 17), (17, am_ald 0 18), (18, am_push (vI 1) 19), (19, am_isub 20), (20, am_stp (am_istore 1 21)), (21, am_iload 1 22), (22, am_if_lt 25 154), (25, am_aload 0 26), (26, am_getR 9 15 29), (29, am_iload 1 30), (30, am_push (vI (-999999)) 32), (32, am_ast 0 (fun x => x) 33), (33, am_iload 1 34), (34, am_stp (am_istore 2 35)), (35, am_iload 2 36), (36, am_aload 0 37), (37, am_getR 9 6 40), (40, am_push (vI 1) 41), (41, am_ald 0 42), (42, am_icmp_ge 45 148), (45, am_aload 0 46), (46, am_getR 9 6 49), (49, am_iload 2 50), (50, am_cal l d y_M_mayEnd none 2 53 0 0 0 0), (53, am_if_eq 56 142), (56, am_aload 0 57), (57, am_iload 1 58), (58, am_iload 2 59), (59, am_cal l d y_M_costOf (some 9) 3 62 0 0 0 0), (62, am_aload 0 63), (63, am_getR 9 14 66), (66, am_iload 2 67), (67, am_push (vI 1) 68), (68, am_iadd 69), (69, am_ald 0 70), (70, am_iadd 71), (71, am_istore 3 72), (72, am_aload 0 73), (73, am_getR 9 15 76), (76, am_iload 1 77), (77, am_ald 0 78), (78, am_push (vI (-999999)) 80), (80, am_icmp_eq 83 93), (83, am_iload 3 84), (84, am_aload 0 85), (85, am_getR 9 14 88), (88, am_iload 1 89), (89, am_ald 0 90), (90, am_icmp_ge 93 97), (93, am_push (vI 1) 94), (94, am_goto 98), (97, am_push (vI 0) 98), (98, am_istore 4 100), (100, am_aload 0 101), (101, am_getR 9 14 104), (104, am_iload 1 105), (105, am_iload 4 107), (107, am_if_eq 110 114), (110, am_iload 3 111), (111, am_goto 120), (114, am_aload 0 115), (115, am_getR 9 14 118), (118, am_iload 1 119), (119, am_ald 0 120), (120, am_ast 0 (fun x => x) 121), (121, am_aload 0 122), (122, am_getR 9 15 125), (125, am_iload 1 126), (126, am_iload 4 128), (128, am_if_eq 131 135), (131, am_iload 2 132), (132, am_goto 141), (135, am_aload 0 136), (136, am_getR 9 15 139), (139, am_iload 1 140), (140, am_ald 0 141), (141, am_ast 0 (fun x => x) 142), (142, am_iinc 2 1 145), (145, am_stp (am_goto 35)), (148, am_iinc 1 (-1) 151), (151, am_stp (am_goto 21)), (154, am_aload 0 155), (155, am_getR 9 14 158), (158, am_push (vI 0) 159), (159, am_ald 0 160), (160, am_iret false)]
theorem ck_M_layCuts {l : Launch} {sc : Nat × (Nat → Int32)} {d : Nat} : ∀ q ∈ co_M_layCuts l d, am_ok l sc (d + 1) y_M_layCuts q.1 q.2 :=
  fa_cons (ok_aload_n (show decode (am_mB y_M_layCuts) 0 = .ok (.aload_n 0, 1) by decide +kernel) rfl) <|
  fa_cons (ok_getR (show decode (am_mB y_M_layCuts) 1 = .ok (.getfield 35, 3) by decide +kernel) fl_M_35 (by decide +kernel)) <|
  fa_cons (ok_aload_n (show decode (am_mB y_M_layCuts) 4 = .ok (.aload_n 0, 1) by decide +kernel) rfl) <|
  fa_cons (ok_getR (show decode (am_mB y_M_layCuts) 5 = .ok (.getfield 16, 3) by decide +kernel) fl_M_16 (by decide +kernel)) <|
  fa_cons (ok_iconst (show decode (am_mB y_M_layCuts) 8 = .ok (.iconst 1, 1) by decide +kernel) rfl) <|
  fa_cons (ok_iald (show decode (am_mB y_M_layCuts) 9 = .ok (.iaload, 1) by decide +kernel)) <|
  fa_cons (ok_iconst (show decode (am_mB y_M_layCuts) 10 = .ok (.iconst 0, 1) by decide +kernel) rfl) <|
  fa_cons (ok_iast (show decode (am_mB y_M_layCuts) 11 = .ok (.iastore, 1) by decide +kernel)) <|
  fa_cons (ok_aload_n (show decode (am_mB y_M_layCuts) 12 = .ok (.aload_n 0, 1) by decide +kernel) rfl) <|
  fa_cons (ok_getR (show decode (am_mB y_M_layCuts) 13 = .ok (.getfield 16, 3) by decide +kernel) fl_M_16 (by decide +kernel)) <|
  fa_cons (ok_iconst (show decode (am_mB y_M_layCuts) 16 = .ok (.iconst 1, 1) by decide +kernel) rfl) <|
  fa_cons (ok_iald (show decode (am_mB y_M_layCuts) 17 = .ok (.iaload, 1) by decide +kernel)) <|
  fa_cons (ok_iconst (show decode (am_mB y_M_layCuts) 18 = .ok (.iconst 1, 1) by decide +kernel) rfl) <|
  fa_cons (ok_isub (show decode (am_mB y_M_layCuts) 19 = .ok (.isub, 1) by decide +kernel)) <|
  fa_cons (ok_stp (σ := am_istore 1 21) (ok_istore_n (show decode (am_mB y_M_layCuts) 20 = .ok (.istore_n 1, 1) by decide +kernel) rfl (by decide +kernel))) <|
  fa_cons (ok_iload_n (show decode (am_mB y_M_layCuts) 21 = .ok (.iload_n 1, 1) by decide +kernel) rfl) <|
  fa_cons (ok_if_lt (show decode (am_mB y_M_layCuts) 22 = .ok (.ifCond .lt 132, 3) by decide +kernel) (by decide)) <|
  fa_cons (ok_aload_n (show decode (am_mB y_M_layCuts) 25 = .ok (.aload_n 0, 1) by decide +kernel) rfl) <|
  fa_cons (ok_getR (show decode (am_mB y_M_layCuts) 26 = .ok (.getfield 38, 3) by decide +kernel) fl_M_38 (by decide +kernel)) <|
  fa_cons (ok_iload_n (show decode (am_mB y_M_layCuts) 29 = .ok (.iload_n 1, 1) by decide +kernel) rfl) <|
  fa_cons (ok_ldc (show decode (am_mB y_M_layCuts) 30 = .ok (.ldc 90, 2) by decide +kernel) w_1057) <|
  fa_cons (ok_iast (show decode (am_mB y_M_layCuts) 32 = .ok (.iastore, 1) by decide +kernel)) <|
  fa_cons (ok_iload_n (show decode (am_mB y_M_layCuts) 33 = .ok (.iload_n 1, 1) by decide +kernel) rfl) <|
  fa_cons (ok_stp (σ := am_istore 2 35) (ok_istore_n (show decode (am_mB y_M_layCuts) 34 = .ok (.istore_n 2, 1) by decide +kernel) rfl (by decide +kernel))) <|
  fa_cons (ok_iload_n (show decode (am_mB y_M_layCuts) 35 = .ok (.iload_n 2, 1) by decide +kernel) rfl) <|
  fa_cons (ok_aload_n (show decode (am_mB y_M_layCuts) 36 = .ok (.aload_n 0, 1) by decide +kernel) rfl) <|
  fa_cons (ok_getR (show decode (am_mB y_M_layCuts) 37 = .ok (.getfield 16, 3) by decide +kernel) fl_M_16 (by decide +kernel)) <|
  fa_cons (ok_iconst (show decode (am_mB y_M_layCuts) 40 = .ok (.iconst 1, 1) by decide +kernel) rfl) <|
  fa_cons (ok_iald (show decode (am_mB y_M_layCuts) 41 = .ok (.iaload, 1) by decide +kernel)) <|
  fa_cons (ok_icmp_ge (show decode (am_mB y_M_layCuts) 42 = .ok (.if_icmp .ge 106, 3) by decide +kernel) (by decide)) <|
  fa_cons (ok_aload_n (show decode (am_mB y_M_layCuts) 45 = .ok (.aload_n 0, 1) by decide +kernel) rfl) <|
  fa_cons (ok_getR (show decode (am_mB y_M_layCuts) 46 = .ok (.getfield 16, 3) by decide +kernel) fl_M_16 (by decide +kernel)) <|
  fa_cons (ok_iload_n (show decode (am_mB y_M_layCuts) 49 = .ok (.iload_n 2, 1) by decide +kernel) rfl) <|
  fa_cons (ok_cal ⟨rfl, rfl, rfl, rfl⟩ (ok_callS (show decode (am_mB y_M_layCuts) 50 = .ok (.invokestatic 84, 3) by decide +kernel) cf_M_mayEnd (by decide +kernel) ml_M_84 cs_M_mayEnd rfl ⟨by decide +kernel, rfl⟩)) <|
  fa_cons (ok_if_eq (show decode (am_mB y_M_layCuts) 53 = .ok (.ifCond .eq 89, 3) by decide +kernel) (by decide)) <|
  fa_cons (ok_aload_n (show decode (am_mB y_M_layCuts) 56 = .ok (.aload_n 0, 1) by decide +kernel) rfl) <|
  fa_cons (ok_iload_n (show decode (am_mB y_M_layCuts) 57 = .ok (.iload_n 1, 1) by decide +kernel) rfl) <|
  fa_cons (ok_iload_n (show decode (am_mB y_M_layCuts) 58 = .ok (.iload_n 2, 1) by decide +kernel) rfl) <|
  fa_cons (ok_cal ⟨rfl, rfl, rfl, rfl⟩ (ok_callV (show decode (am_mB y_M_layCuts) 59 = .ok (.invokevirtual 230, 3) by decide +kernel) cf_M_costOf (by decide +kernel) ml_M_230 ci_M_costOf cv_M_costOf ⟨by decide, rfl⟩ rfl ⟨by decide +kernel, rfl⟩)) <|
  fa_cons (ok_aload_n (show decode (am_mB y_M_layCuts) 62 = .ok (.aload_n 0, 1) by decide +kernel) rfl) <|
  fa_cons (ok_getR (show decode (am_mB y_M_layCuts) 63 = .ok (.getfield 35, 3) by decide +kernel) fl_M_35 (by decide +kernel)) <|
  fa_cons (ok_iload_n (show decode (am_mB y_M_layCuts) 66 = .ok (.iload_n 2, 1) by decide +kernel) rfl) <|
  fa_cons (ok_iconst (show decode (am_mB y_M_layCuts) 67 = .ok (.iconst 1, 1) by decide +kernel) rfl) <|
  fa_cons (ok_iadd (show decode (am_mB y_M_layCuts) 68 = .ok (.iadd, 1) by decide +kernel)) <|
  fa_cons (ok_iald (show decode (am_mB y_M_layCuts) 69 = .ok (.iaload, 1) by decide +kernel)) <|
  fa_cons (ok_iadd (show decode (am_mB y_M_layCuts) 70 = .ok (.iadd, 1) by decide +kernel)) <|
  fa_cons (ok_istore_n (show decode (am_mB y_M_layCuts) 71 = .ok (.istore_n 3, 1) by decide +kernel) rfl (by decide +kernel)) <|
  fa_cons (ok_aload_n (show decode (am_mB y_M_layCuts) 72 = .ok (.aload_n 0, 1) by decide +kernel) rfl) <|
  fa_cons (ok_getR (show decode (am_mB y_M_layCuts) 73 = .ok (.getfield 38, 3) by decide +kernel) fl_M_38 (by decide +kernel)) <|
  fa_cons (ok_iload_n (show decode (am_mB y_M_layCuts) 76 = .ok (.iload_n 1, 1) by decide +kernel) rfl) <|
  fa_cons (ok_iald (show decode (am_mB y_M_layCuts) 77 = .ok (.iaload, 1) by decide +kernel)) <|
  fa_cons (ok_ldc (show decode (am_mB y_M_layCuts) 78 = .ok (.ldc 90, 2) by decide +kernel) w_1057) <|
  fa_cons (ok_icmp_eq (show decode (am_mB y_M_layCuts) 80 = .ok (.if_icmp .eq 13, 3) by decide +kernel) (by decide)) <|
  fa_cons (ok_iload_n (show decode (am_mB y_M_layCuts) 83 = .ok (.iload_n 3, 1) by decide +kernel) rfl) <|
  fa_cons (ok_aload_n (show decode (am_mB y_M_layCuts) 84 = .ok (.aload_n 0, 1) by decide +kernel) rfl) <|
  fa_cons (ok_getR (show decode (am_mB y_M_layCuts) 85 = .ok (.getfield 35, 3) by decide +kernel) fl_M_35 (by decide +kernel)) <|
  fa_cons (ok_iload_n (show decode (am_mB y_M_layCuts) 88 = .ok (.iload_n 1, 1) by decide +kernel) rfl) <|
  fa_cons (ok_iald (show decode (am_mB y_M_layCuts) 89 = .ok (.iaload, 1) by decide +kernel)) <|
  fa_cons (ok_icmp_ge (show decode (am_mB y_M_layCuts) 90 = .ok (.if_icmp .ge 7, 3) by decide +kernel) (by decide)) <|
  fa_cons (ok_iconst (show decode (am_mB y_M_layCuts) 93 = .ok (.iconst 1, 1) by decide +kernel) rfl) <|
  fa_cons (ok_goto (show decode (am_mB y_M_layCuts) 94 = .ok (.goto 4, 3) by decide +kernel) (by decide)) <|
  fa_cons (ok_iconst (show decode (am_mB y_M_layCuts) 97 = .ok (.iconst 0, 1) by decide +kernel) rfl) <|
  fa_cons (ok_istore (show decode (am_mB y_M_layCuts) 98 = .ok (.istore 4, 2) by decide +kernel) (by decide +kernel)) <|
  fa_cons (ok_aload_n (show decode (am_mB y_M_layCuts) 100 = .ok (.aload_n 0, 1) by decide +kernel) rfl) <|
  fa_cons (ok_getR (show decode (am_mB y_M_layCuts) 101 = .ok (.getfield 35, 3) by decide +kernel) fl_M_35 (by decide +kernel)) <|
  fa_cons (ok_iload_n (show decode (am_mB y_M_layCuts) 104 = .ok (.iload_n 1, 1) by decide +kernel) rfl) <|
  fa_cons (ok_iload (show decode (am_mB y_M_layCuts) 105 = .ok (.iload 4, 2) by decide +kernel)) <|
  fa_cons (ok_if_eq (show decode (am_mB y_M_layCuts) 107 = .ok (.ifCond .eq 7, 3) by decide +kernel) (by decide)) <|
  fa_cons (ok_iload_n (show decode (am_mB y_M_layCuts) 110 = .ok (.iload_n 3, 1) by decide +kernel) rfl) <|
  fa_cons (ok_goto (show decode (am_mB y_M_layCuts) 111 = .ok (.goto 9, 3) by decide +kernel) (by decide)) <|
  fa_cons (ok_aload_n (show decode (am_mB y_M_layCuts) 114 = .ok (.aload_n 0, 1) by decide +kernel) rfl) <|
  fa_cons (ok_getR (show decode (am_mB y_M_layCuts) 115 = .ok (.getfield 35, 3) by decide +kernel) fl_M_35 (by decide +kernel)) <|
  fa_cons (ok_iload_n (show decode (am_mB y_M_layCuts) 118 = .ok (.iload_n 1, 1) by decide +kernel) rfl) <|
  fa_cons (ok_iald (show decode (am_mB y_M_layCuts) 119 = .ok (.iaload, 1) by decide +kernel)) <|
  fa_cons (ok_iast (show decode (am_mB y_M_layCuts) 120 = .ok (.iastore, 1) by decide +kernel)) <|
  fa_cons (ok_aload_n (show decode (am_mB y_M_layCuts) 121 = .ok (.aload_n 0, 1) by decide +kernel) rfl) <|
  fa_cons (ok_getR (show decode (am_mB y_M_layCuts) 122 = .ok (.getfield 38, 3) by decide +kernel) fl_M_38 (by decide +kernel)) <|
  fa_cons (ok_iload_n (show decode (am_mB y_M_layCuts) 125 = .ok (.iload_n 1, 1) by decide +kernel) rfl) <|
  fa_cons (ok_iload (show decode (am_mB y_M_layCuts) 126 = .ok (.iload 4, 2) by decide +kernel)) <|
  fa_cons (ok_if_eq (show decode (am_mB y_M_layCuts) 128 = .ok (.ifCond .eq 7, 3) by decide +kernel) (by decide)) <|
  fa_cons (ok_iload_n (show decode (am_mB y_M_layCuts) 131 = .ok (.iload_n 2, 1) by decide +kernel) rfl) <|
  fa_cons (ok_goto (show decode (am_mB y_M_layCuts) 132 = .ok (.goto 9, 3) by decide +kernel) (by decide)) <|
  fa_cons (ok_aload_n (show decode (am_mB y_M_layCuts) 135 = .ok (.aload_n 0, 1) by decide +kernel) rfl) <|
  fa_cons (ok_getR (show decode (am_mB y_M_layCuts) 136 = .ok (.getfield 38, 3) by decide +kernel) fl_M_38 (by decide +kernel)) <|
  fa_cons (ok_iload_n (show decode (am_mB y_M_layCuts) 139 = .ok (.iload_n 1, 1) by decide +kernel) rfl) <|
  fa_cons (ok_iald (show decode (am_mB y_M_layCuts) 140 = .ok (.iaload, 1) by decide +kernel)) <|
  fa_cons (ok_iast (show decode (am_mB y_M_layCuts) 141 = .ok (.iastore, 1) by decide +kernel)) <|
  fa_cons (ok_iinc (show decode (am_mB y_M_layCuts) 142 = .ok (.iinc 2 1, 3) by decide +kernel) (by decide +kernel) (by decide +kernel)) <|
  fa_cons (ok_stp (σ := am_goto 35) (ok_goto (show decode (am_mB y_M_layCuts) 145 = .ok (.goto (-110), 3) by decide +kernel) (by decide))) <|
  fa_cons (ok_iinc (show decode (am_mB y_M_layCuts) 148 = .ok (.iinc 1 (-1), 3) by decide +kernel) (by decide +kernel) (by decide +kernel)) <|
  fa_cons (ok_stp (σ := am_goto 21) (ok_goto (show decode (am_mB y_M_layCuts) 151 = .ok (.goto (-130), 3) by decide +kernel) (by decide))) <|
  fa_cons (ok_aload_n (show decode (am_mB y_M_layCuts) 154 = .ok (.aload_n 0, 1) by decide +kernel) rfl) <|
  fa_cons (ok_getR (show decode (am_mB y_M_layCuts) 155 = .ok (.getfield 35, 3) by decide +kernel) fl_M_35 (by decide +kernel)) <|
  fa_cons (ok_iconst (show decode (am_mB y_M_layCuts) 158 = .ok (.iconst 0, 1) by decide +kernel) rfl) <|
  fa_cons (ok_iald (show decode (am_mB y_M_layCuts) 159 = .ok (.iaload, 1) by decide +kernel)) <|
  fa_cons (ok_iret (show decode (am_mB y_M_layCuts) 160 = .ok (.ireturn, 1) by decide +kernel) rfl) <|
  fa_nil
set_option maxRecDepth 100000 in
theorem cq_M_layCuts (l : Launch) (d : Nat) : am_lk (co_M_layCuts l d) 0 = am_aload 0 1 ∧ am_lk (co_M_layCuts l d) 1 = am_getR 9 14 4 ∧ am_lk (co_M_layCuts l d) 4 = am_aload 0 5 ∧ am_lk (co_M_layCuts l d) 5 = am_getR 9 6 8 ∧ am_lk (co_M_layCuts l d) 8 = am_push (vI 1) 9 ∧ am_lk (co_M_layCuts l d) 9 = am_ald 0 10 ∧ am_lk (co_M_layCuts l d) 10 = am_push (vI 0) 11 ∧ am_lk (co_M_layCuts l d) 11 = am_ast 0 (fun x => x) 12 ∧ am_lk (co_M_layCuts l d) 12 = am_aload 0 13 ∧ am_lk (co_M_layCuts l d) 13 = am_getR 9 6 16 ∧ am_lk (co_M_layCuts l d) 16 = am_push (vI 1) 17 ∧ am_lk (co_M_layCuts l d) 17 = am_ald 0 18 ∧ am_lk (co_M_layCuts l d) 18 = am_push (vI 1) 19 ∧ am_lk (co_M_layCuts l d) 19 = am_isub 20 ∧ am_lk (co_M_layCuts l d) 20 = am_stp (am_istore 1 21) ∧ am_lk (co_M_layCuts l d) 21 = am_iload 1 22 ∧ am_lk (co_M_layCuts l d) 22 = am_if_lt 25 154 ∧ am_lk (co_M_layCuts l d) 25 = am_aload 0 26 ∧ am_lk (co_M_layCuts l d) 26 = am_getR 9 15 29 ∧ am_lk (co_M_layCuts l d) 29 = am_iload 1 30 ∧ am_lk (co_M_layCuts l d) 30 = am_push (vI (-999999)) 32 ∧ am_lk (co_M_layCuts l d) 32 = am_ast 0 (fun x => x) 33 ∧ am_lk (co_M_layCuts l d) 33 = am_iload 1 34 ∧ am_lk (co_M_layCuts l d) 34 = am_stp (am_istore 2 35) ∧ am_lk (co_M_layCuts l d) 35 = am_iload 2 36 ∧ am_lk (co_M_layCuts l d) 36 = am_aload 0 37 ∧ am_lk (co_M_layCuts l d) 37 = am_getR 9 6 40 ∧ am_lk (co_M_layCuts l d) 40 = am_push (vI 1) 41 ∧ am_lk (co_M_layCuts l d) 41 = am_ald 0 42 ∧ am_lk (co_M_layCuts l d) 42 = am_icmp_ge 45 148 ∧ am_lk (co_M_layCuts l d) 45 = am_aload 0 46 ∧ am_lk (co_M_layCuts l d) 46 = am_getR 9 6 49 ∧ am_lk (co_M_layCuts l d) 49 = am_iload 2 50 ∧ am_lk (co_M_layCuts l d) 50 = am_cal l d y_M_mayEnd none 2 53 0 0 0 0 ∧ am_lk (co_M_layCuts l d) 53 = am_if_eq 56 142 ∧ am_lk (co_M_layCuts l d) 56 = am_aload 0 57 ∧ am_lk (co_M_layCuts l d) 57 = am_iload 1 58 ∧ am_lk (co_M_layCuts l d) 58 = am_iload 2 59 ∧ am_lk (co_M_layCuts l d) 59 = am_cal l d y_M_costOf (some 9) 3 62 0 0 0 0 ∧ am_lk (co_M_layCuts l d) 62 = am_aload 0 63 ∧ am_lk (co_M_layCuts l d) 63 = am_getR 9 14 66 ∧ am_lk (co_M_layCuts l d) 66 = am_iload 2 67 ∧ am_lk (co_M_layCuts l d) 67 = am_push (vI 1) 68 ∧ am_lk (co_M_layCuts l d) 68 = am_iadd 69 ∧ am_lk (co_M_layCuts l d) 69 = am_ald 0 70 ∧ am_lk (co_M_layCuts l d) 70 = am_iadd 71 ∧ am_lk (co_M_layCuts l d) 71 = am_istore 3 72 ∧ am_lk (co_M_layCuts l d) 72 = am_aload 0 73 ∧ am_lk (co_M_layCuts l d) 73 = am_getR 9 15 76 ∧ am_lk (co_M_layCuts l d) 76 = am_iload 1 77 ∧ am_lk (co_M_layCuts l d) 77 = am_ald 0 78 ∧ am_lk (co_M_layCuts l d) 78 = am_push (vI (-999999)) 80 ∧ am_lk (co_M_layCuts l d) 80 = am_icmp_eq 83 93 ∧ am_lk (co_M_layCuts l d) 83 = am_iload 3 84 ∧ am_lk (co_M_layCuts l d) 84 = am_aload 0 85 ∧ am_lk (co_M_layCuts l d) 85 = am_getR 9 14 88 ∧ am_lk (co_M_layCuts l d) 88 = am_iload 1 89 ∧ am_lk (co_M_layCuts l d) 89 = am_ald 0 90 ∧ am_lk (co_M_layCuts l d) 90 = am_icmp_ge 93 97 ∧ am_lk (co_M_layCuts l d) 93 = am_push (vI 1) 94 ∧ am_lk (co_M_layCuts l d) 94 = am_goto 98 ∧ am_lk (co_M_layCuts l d) 97 = am_push (vI 0) 98 ∧ am_lk (co_M_layCuts l d) 98 = am_istore 4 100 ∧ am_lk (co_M_layCuts l d) 100 = am_aload 0 101 ∧ am_lk (co_M_layCuts l d) 101 = am_getR 9 14 104 ∧ am_lk (co_M_layCuts l d) 104 = am_iload 1 105 ∧ am_lk (co_M_layCuts l d) 105 = am_iload 4 107 ∧ am_lk (co_M_layCuts l d) 107 = am_if_eq 110 114 ∧ am_lk (co_M_layCuts l d) 110 = am_iload 3 111 ∧ am_lk (co_M_layCuts l d) 111 = am_goto 120 ∧ am_lk (co_M_layCuts l d) 114 = am_aload 0 115 ∧ am_lk (co_M_layCuts l d) 115 = am_getR 9 14 118 ∧ am_lk (co_M_layCuts l d) 118 = am_iload 1 119 ∧ am_lk (co_M_layCuts l d) 119 = am_ald 0 120 ∧ am_lk (co_M_layCuts l d) 120 = am_ast 0 (fun x => x) 121 ∧ am_lk (co_M_layCuts l d) 121 = am_aload 0 122 ∧ am_lk (co_M_layCuts l d) 122 = am_getR 9 15 125 ∧ am_lk (co_M_layCuts l d) 125 = am_iload 1 126 ∧ am_lk (co_M_layCuts l d) 126 = am_iload 4 128 ∧ am_lk (co_M_layCuts l d) 128 = am_if_eq 131 135 ∧ am_lk (co_M_layCuts l d) 131 = am_iload 2 132 ∧ am_lk (co_M_layCuts l d) 132 = am_goto 141 ∧ am_lk (co_M_layCuts l d) 135 = am_aload 0 136 ∧ am_lk (co_M_layCuts l d) 136 = am_getR 9 15 139 ∧ am_lk (co_M_layCuts l d) 139 = am_iload 1 140 ∧ am_lk (co_M_layCuts l d) 140 = am_ald 0 141 ∧ am_lk (co_M_layCuts l d) 141 = am_ast 0 (fun x => x) 142 ∧ am_lk (co_M_layCuts l d) 142 = am_iinc 2 1 145 ∧ am_lk (co_M_layCuts l d) 145 = am_stp (am_goto 35) ∧ am_lk (co_M_layCuts l d) 148 = am_iinc 1 (-1) 151 ∧ am_lk (co_M_layCuts l d) 151 = am_stp (am_goto 21) ∧ am_lk (co_M_layCuts l d) 154 = am_aload 0 155 ∧ am_lk (co_M_layCuts l d) 155 = am_getR 9 14 158 ∧ am_lk (co_M_layCuts l d) 158 = am_push (vI 0) 159 ∧ am_lk (co_M_layCuts l d) 159 = am_ald 0 160 ∧ am_lk (co_M_layCuts l d) 160 = am_iret false := ⟨rfl, rfl, rfl, rfl, rfl, rfl, rfl, rfl, rfl, rfl, rfl, rfl, rfl, rfl, rfl, rfl, rfl, rfl, rfl, rfl, rfl, rfl, rfl, rfl, rfl, rfl, rfl, rfl, rfl, rfl, rfl, rfl, rfl, rfl, rfl, rfl, rfl, rfl, rfl, rfl, rfl, rfl, rfl, rfl, rfl, rfl, rfl, rfl, rfl, rfl, rfl, rfl, rfl, rfl, rfl, rfl, rfl, rfl, rfl, rfl, rfl, rfl, rfl, rfl, rfl, rfl, rfl, rfl, rfl, rfl, rfl, rfl, rfl, rfl, rfl, rfl, rfl, rfl, rfl, rfl, rfl, rfl, rfl, rfl, rfl, rfl, rfl, rfl, rfl, rfl, rfl, rfl, rfl, rfl, rfl, rfl⟩
theorem en_M_layCuts {l : Launch} {d : Nat} (n : Nat) {as : List am_V} {G : am_G} {I : am_I} {J : am_J} {P : am_P} (hlen : (as.map am_cat).sum ≤ 5) (h : am_go (am_lk (co_M_layCuts l d)) (am_X l (0, fun _ => 0) (d + 1) y_M_layCuts P) P n 0 (am_el 5 as) [] 0 0 G I J) : am_T l (d + 1) y_M_layCuts as G I J P :=
  am_T_of (sc := (0, fun _ => 0)) cf_M_layCuts (by decide +kernel) (by decide) (by decide +kernel) hlen (am_run (ok_lk _ (ck_M_layCuts)) n _ _ _ _ _ _ _ _ h)
theorem rn_M_layCuts {l : Launch} {sc : Nat × (Nat → Int32)} {d : Nat} {P : am_P} (n : Nat) {pc : Nat} {ls : am_L} {st : List am_V} {kc ks : Nat} {G : am_G} {I : am_I} {J : am_J} (h : am_go (am_lk (co_M_layCuts l d)) (am_X l sc (d + 1) y_M_layCuts P) P n pc ls st kc ks G I J) : am_X l sc (d + 1) y_M_layCuts P pc ls st kc ks G I J := am_run (ok_lk _ (ck_M_layCuts)) n _ _ _ _ _ _ _ _ h
def co_M_evenest (l : Launch) (d : Nat) : List (Nat × am_S) := [(0, am_aload 0 1), (1, am_push (vI 0) 2), (2, am_putI 9 0 5), (5, am_aload 0 6), (6, am_cal l d y_M_layCuts (some 9) 1 9 0 0 0 0), (9, am_iret false)]
theorem ck_M_evenest {l : Launch} {sc : Nat × (Nat → Int32)} {d : Nat} : ∀ q ∈ co_M_evenest l d, am_ok l sc (d + 1) y_M_evenest q.1 q.2 :=
  fa_cons (ok_aload_n (show decode (am_mB y_M_evenest) 0 = .ok (.aload_n 0, 1) by decide +kernel) rfl) <|
  fa_cons (ok_iconst (show decode (am_mB y_M_evenest) 1 = .ok (.iconst 0, 1) by decide +kernel) rfl) <|
  fa_cons (ok_putI (show decode (am_mB y_M_evenest) 2 = .ok (.putfield 45, 3) by decide +kernel) fl_M_45 (by decide +kernel)) <|
  fa_cons (ok_aload_n (show decode (am_mB y_M_evenest) 5 = .ok (.aload_n 0, 1) by decide +kernel) rfl) <|
  fa_cons (ok_cal ⟨rfl, rfl, rfl, rfl⟩ (ok_callV (show decode (am_mB y_M_evenest) 6 = .ok (.invokevirtual 233, 3) by decide +kernel) cf_M_layCuts (by decide +kernel) ml_M_233 ci_M_layCuts cv_M_layCuts ⟨by decide, rfl⟩ rfl ⟨by decide +kernel, rfl⟩)) <|
  fa_cons (ok_iret (show decode (am_mB y_M_evenest) 9 = .ok (.ireturn, 1) by decide +kernel) rfl) <|
  fa_nil
set_option maxRecDepth 100000 in
theorem cq_M_evenest (l : Launch) (d : Nat) : am_lk (co_M_evenest l d) 0 = am_aload 0 1 ∧ am_lk (co_M_evenest l d) 1 = am_push (vI 0) 2 ∧ am_lk (co_M_evenest l d) 2 = am_putI 9 0 5 ∧ am_lk (co_M_evenest l d) 5 = am_aload 0 6 ∧ am_lk (co_M_evenest l d) 6 = am_cal l d y_M_layCuts (some 9) 1 9 0 0 0 0 ∧ am_lk (co_M_evenest l d) 9 = am_iret false := ⟨rfl, rfl, rfl, rfl, rfl, rfl⟩
theorem en_M_evenest {l : Launch} {d : Nat} (n : Nat) {as : List am_V} {G : am_G} {I : am_I} {J : am_J} {P : am_P} (hlen : (as.map am_cat).sum ≤ 1) (h : am_go (am_lk (co_M_evenest l d)) (am_X l (0, fun _ => 0) (d + 1) y_M_evenest P) P n 0 (am_el 1 as) [] 0 0 G I J) : am_T l (d + 1) y_M_evenest as G I J P :=
  am_T_of (sc := (0, fun _ => 0)) cf_M_evenest (by decide +kernel) (by decide) (by decide +kernel) hlen (am_run (ok_lk _ (ck_M_evenest)) n _ _ _ _ _ _ _ _ h)
theorem rn_M_evenest {l : Launch} {sc : Nat × (Nat → Int32)} {d : Nat} {P : am_P} (n : Nat) {pc : Nat} {ls : am_L} {st : List am_V} {kc ks : Nat} {G : am_G} {I : am_I} {J : am_J} (h : am_go (am_lk (co_M_evenest l d)) (am_X l sc (d + 1) y_M_evenest P) P n pc ls st kc ks G I J) : am_X l sc (d + 1) y_M_evenest P pc ls st kc ks G I J := am_run (ok_lk _ (ck_M_evenest)) n _ _ _ _ _ _ _ _ h
def co_M_evenCut (l : Launch) (d : Nat) : List (Nat × am_S) := [(0, am_aload 0 1), (1, am_iload 1 2), (2, am_if_ge 5 9), (5, am_push (vI 1) 6), (6, am_goto 10), (9, am_push (vI 0) 10), (10, am_cal l d y_M_refused (some 9) 2 13 0 0 0 0), (13, am_if_eq 16 18), (16, am_push (vI 0) 17), (17, am_iret false), (18, am_aload 0 19), (19, am_cal l d y_M_layCuts (some 9) 1 22 0 0 0 0), (22, am_pop 23), (23, am_push (vI 0) 24), (24, am_istore 2 25), (25, am_push (vI 0) 26), (26, am_stp (am_istore 3 27)), (27, am_iload 3 28), (28, am_iload 1 29), (29, am_icmp_ge 32 57), (32, am_iload 2 33), (33, am_aload 0 34), (34, am_getR 9 6 37), (37, am_push (vI 1) 38), (38, am_ald 0 39), (39, am_icmp_ge 42 57), (42, am_aload 0 43), (43, am_getR 9 15 46), (46, am_iload 2 47), (47, am_ald 0 48), (48, am_push (vI 1) 49), (49, am_iadd 50), (50, am_istore 2 51), (51, am_iinc 3 1 54), (54, am_stp (am_goto 27)), (57, am_iload 2 58), (58, am_aload 0 59), (59, am_getR 9 6 62), (62, am_push (vI 1) 63), (63, am_ald 0 64), (64, am_icmp_ge 67 76), (67, am_aload 0 68), (68, am_getR 9 15 71), (71, am_iload 2 72), (72, am_ald 0 73), (73, am_goto 78), (76, am_push (vI (-999999)) 78), (78, am_iret false)]
theorem ck_M_evenCut {l : Launch} {sc : Nat × (Nat → Int32)} {d : Nat} : ∀ q ∈ co_M_evenCut l d, am_ok l sc (d + 1) y_M_evenCut q.1 q.2 :=
  fa_cons (ok_aload_n (show decode (am_mB y_M_evenCut) 0 = .ok (.aload_n 0, 1) by decide +kernel) rfl) <|
  fa_cons (ok_iload_n (show decode (am_mB y_M_evenCut) 1 = .ok (.iload_n 1, 1) by decide +kernel) rfl) <|
  fa_cons (ok_if_ge (show decode (am_mB y_M_evenCut) 2 = .ok (.ifCond .ge 7, 3) by decide +kernel) (by decide)) <|
  fa_cons (ok_iconst (show decode (am_mB y_M_evenCut) 5 = .ok (.iconst 1, 1) by decide +kernel) rfl) <|
  fa_cons (ok_goto (show decode (am_mB y_M_evenCut) 6 = .ok (.goto 4, 3) by decide +kernel) (by decide)) <|
  fa_cons (ok_iconst (show decode (am_mB y_M_evenCut) 9 = .ok (.iconst 0, 1) by decide +kernel) rfl) <|
  fa_cons (ok_cal ⟨rfl, rfl, rfl, rfl⟩ (ok_callV (show decode (am_mB y_M_evenCut) 10 = .ok (.invokevirtual 128, 3) by decide +kernel) cf_M_refused (by decide +kernel) ml_M_128 ci_M_refused cv_M_refused ⟨by decide, rfl⟩ rfl ⟨by decide +kernel, rfl⟩)) <|
  fa_cons (ok_if_eq (show decode (am_mB y_M_evenCut) 13 = .ok (.ifCond .eq 5, 3) by decide +kernel) (by decide)) <|
  fa_cons (ok_iconst (show decode (am_mB y_M_evenCut) 16 = .ok (.iconst 0, 1) by decide +kernel) rfl) <|
  fa_cons (ok_iret (show decode (am_mB y_M_evenCut) 17 = .ok (.ireturn, 1) by decide +kernel) rfl) <|
  fa_cons (ok_aload_n (show decode (am_mB y_M_evenCut) 18 = .ok (.aload_n 0, 1) by decide +kernel) rfl) <|
  fa_cons (ok_cal ⟨rfl, rfl, rfl, rfl⟩ (ok_callV (show decode (am_mB y_M_evenCut) 19 = .ok (.invokevirtual 233, 3) by decide +kernel) cf_M_layCuts (by decide +kernel) ml_M_233 ci_M_layCuts cv_M_layCuts ⟨by decide, rfl⟩ rfl ⟨by decide +kernel, rfl⟩)) <|
  fa_cons (ok_pop (show decode (am_mB y_M_evenCut) 22 = .ok (.pop, 1) by decide +kernel)) <|
  fa_cons (ok_iconst (show decode (am_mB y_M_evenCut) 23 = .ok (.iconst 0, 1) by decide +kernel) rfl) <|
  fa_cons (ok_istore_n (show decode (am_mB y_M_evenCut) 24 = .ok (.istore_n 2, 1) by decide +kernel) rfl (by decide +kernel)) <|
  fa_cons (ok_iconst (show decode (am_mB y_M_evenCut) 25 = .ok (.iconst 0, 1) by decide +kernel) rfl) <|
  fa_cons (ok_stp (σ := am_istore 3 27) (ok_istore_n (show decode (am_mB y_M_evenCut) 26 = .ok (.istore_n 3, 1) by decide +kernel) rfl (by decide +kernel))) <|
  fa_cons (ok_iload_n (show decode (am_mB y_M_evenCut) 27 = .ok (.iload_n 3, 1) by decide +kernel) rfl) <|
  fa_cons (ok_iload_n (show decode (am_mB y_M_evenCut) 28 = .ok (.iload_n 1, 1) by decide +kernel) rfl) <|
  fa_cons (ok_icmp_ge (show decode (am_mB y_M_evenCut) 29 = .ok (.if_icmp .ge 28, 3) by decide +kernel) (by decide)) <|
  fa_cons (ok_iload_n (show decode (am_mB y_M_evenCut) 32 = .ok (.iload_n 2, 1) by decide +kernel) rfl) <|
  fa_cons (ok_aload_n (show decode (am_mB y_M_evenCut) 33 = .ok (.aload_n 0, 1) by decide +kernel) rfl) <|
  fa_cons (ok_getR (show decode (am_mB y_M_evenCut) 34 = .ok (.getfield 16, 3) by decide +kernel) fl_M_16 (by decide +kernel)) <|
  fa_cons (ok_iconst (show decode (am_mB y_M_evenCut) 37 = .ok (.iconst 1, 1) by decide +kernel) rfl) <|
  fa_cons (ok_iald (show decode (am_mB y_M_evenCut) 38 = .ok (.iaload, 1) by decide +kernel)) <|
  fa_cons (ok_icmp_ge (show decode (am_mB y_M_evenCut) 39 = .ok (.if_icmp .ge 18, 3) by decide +kernel) (by decide)) <|
  fa_cons (ok_aload_n (show decode (am_mB y_M_evenCut) 42 = .ok (.aload_n 0, 1) by decide +kernel) rfl) <|
  fa_cons (ok_getR (show decode (am_mB y_M_evenCut) 43 = .ok (.getfield 38, 3) by decide +kernel) fl_M_38 (by decide +kernel)) <|
  fa_cons (ok_iload_n (show decode (am_mB y_M_evenCut) 46 = .ok (.iload_n 2, 1) by decide +kernel) rfl) <|
  fa_cons (ok_iald (show decode (am_mB y_M_evenCut) 47 = .ok (.iaload, 1) by decide +kernel)) <|
  fa_cons (ok_iconst (show decode (am_mB y_M_evenCut) 48 = .ok (.iconst 1, 1) by decide +kernel) rfl) <|
  fa_cons (ok_iadd (show decode (am_mB y_M_evenCut) 49 = .ok (.iadd, 1) by decide +kernel)) <|
  fa_cons (ok_istore_n (show decode (am_mB y_M_evenCut) 50 = .ok (.istore_n 2, 1) by decide +kernel) rfl (by decide +kernel)) <|
  fa_cons (ok_iinc (show decode (am_mB y_M_evenCut) 51 = .ok (.iinc 3 1, 3) by decide +kernel) (by decide +kernel) (by decide +kernel)) <|
  fa_cons (ok_stp (σ := am_goto 27) (ok_goto (show decode (am_mB y_M_evenCut) 54 = .ok (.goto (-27), 3) by decide +kernel) (by decide))) <|
  fa_cons (ok_iload_n (show decode (am_mB y_M_evenCut) 57 = .ok (.iload_n 2, 1) by decide +kernel) rfl) <|
  fa_cons (ok_aload_n (show decode (am_mB y_M_evenCut) 58 = .ok (.aload_n 0, 1) by decide +kernel) rfl) <|
  fa_cons (ok_getR (show decode (am_mB y_M_evenCut) 59 = .ok (.getfield 16, 3) by decide +kernel) fl_M_16 (by decide +kernel)) <|
  fa_cons (ok_iconst (show decode (am_mB y_M_evenCut) 62 = .ok (.iconst 1, 1) by decide +kernel) rfl) <|
  fa_cons (ok_iald (show decode (am_mB y_M_evenCut) 63 = .ok (.iaload, 1) by decide +kernel)) <|
  fa_cons (ok_icmp_ge (show decode (am_mB y_M_evenCut) 64 = .ok (.if_icmp .ge 12, 3) by decide +kernel) (by decide)) <|
  fa_cons (ok_aload_n (show decode (am_mB y_M_evenCut) 67 = .ok (.aload_n 0, 1) by decide +kernel) rfl) <|
  fa_cons (ok_getR (show decode (am_mB y_M_evenCut) 68 = .ok (.getfield 38, 3) by decide +kernel) fl_M_38 (by decide +kernel)) <|
  fa_cons (ok_iload_n (show decode (am_mB y_M_evenCut) 71 = .ok (.iload_n 2, 1) by decide +kernel) rfl) <|
  fa_cons (ok_iald (show decode (am_mB y_M_evenCut) 72 = .ok (.iaload, 1) by decide +kernel)) <|
  fa_cons (ok_goto (show decode (am_mB y_M_evenCut) 73 = .ok (.goto 5, 3) by decide +kernel) (by decide)) <|
  fa_cons (ok_ldc (show decode (am_mB y_M_evenCut) 76 = .ok (.ldc 90, 2) by decide +kernel) w_1057) <|
  fa_cons (ok_iret (show decode (am_mB y_M_evenCut) 78 = .ok (.ireturn, 1) by decide +kernel) rfl) <|
  fa_nil
set_option maxRecDepth 100000 in
theorem cq_M_evenCut (l : Launch) (d : Nat) : am_lk (co_M_evenCut l d) 0 = am_aload 0 1 ∧ am_lk (co_M_evenCut l d) 1 = am_iload 1 2 ∧ am_lk (co_M_evenCut l d) 2 = am_if_ge 5 9 ∧ am_lk (co_M_evenCut l d) 5 = am_push (vI 1) 6 ∧ am_lk (co_M_evenCut l d) 6 = am_goto 10 ∧ am_lk (co_M_evenCut l d) 9 = am_push (vI 0) 10 ∧ am_lk (co_M_evenCut l d) 10 = am_cal l d y_M_refused (some 9) 2 13 0 0 0 0 ∧ am_lk (co_M_evenCut l d) 13 = am_if_eq 16 18 ∧ am_lk (co_M_evenCut l d) 16 = am_push (vI 0) 17 ∧ am_lk (co_M_evenCut l d) 17 = am_iret false ∧ am_lk (co_M_evenCut l d) 18 = am_aload 0 19 ∧ am_lk (co_M_evenCut l d) 19 = am_cal l d y_M_layCuts (some 9) 1 22 0 0 0 0 ∧ am_lk (co_M_evenCut l d) 22 = am_pop 23 ∧ am_lk (co_M_evenCut l d) 23 = am_push (vI 0) 24 ∧ am_lk (co_M_evenCut l d) 24 = am_istore 2 25 ∧ am_lk (co_M_evenCut l d) 25 = am_push (vI 0) 26 ∧ am_lk (co_M_evenCut l d) 26 = am_stp (am_istore 3 27) ∧ am_lk (co_M_evenCut l d) 27 = am_iload 3 28 ∧ am_lk (co_M_evenCut l d) 28 = am_iload 1 29 ∧ am_lk (co_M_evenCut l d) 29 = am_icmp_ge 32 57 ∧ am_lk (co_M_evenCut l d) 32 = am_iload 2 33 ∧ am_lk (co_M_evenCut l d) 33 = am_aload 0 34 ∧ am_lk (co_M_evenCut l d) 34 = am_getR 9 6 37 ∧ am_lk (co_M_evenCut l d) 37 = am_push (vI 1) 38 ∧ am_lk (co_M_evenCut l d) 38 = am_ald 0 39 ∧ am_lk (co_M_evenCut l d) 39 = am_icmp_ge 42 57 ∧ am_lk (co_M_evenCut l d) 42 = am_aload 0 43 ∧ am_lk (co_M_evenCut l d) 43 = am_getR 9 15 46 ∧ am_lk (co_M_evenCut l d) 46 = am_iload 2 47 ∧ am_lk (co_M_evenCut l d) 47 = am_ald 0 48 ∧ am_lk (co_M_evenCut l d) 48 = am_push (vI 1) 49 ∧ am_lk (co_M_evenCut l d) 49 = am_iadd 50 ∧ am_lk (co_M_evenCut l d) 50 = am_istore 2 51 ∧ am_lk (co_M_evenCut l d) 51 = am_iinc 3 1 54 ∧ am_lk (co_M_evenCut l d) 54 = am_stp (am_goto 27) ∧ am_lk (co_M_evenCut l d) 57 = am_iload 2 58 ∧ am_lk (co_M_evenCut l d) 58 = am_aload 0 59 ∧ am_lk (co_M_evenCut l d) 59 = am_getR 9 6 62 ∧ am_lk (co_M_evenCut l d) 62 = am_push (vI 1) 63 ∧ am_lk (co_M_evenCut l d) 63 = am_ald 0 64 ∧ am_lk (co_M_evenCut l d) 64 = am_icmp_ge 67 76 ∧ am_lk (co_M_evenCut l d) 67 = am_aload 0 68 ∧ am_lk (co_M_evenCut l d) 68 = am_getR 9 15 71 ∧ am_lk (co_M_evenCut l d) 71 = am_iload 2 72 ∧ am_lk (co_M_evenCut l d) 72 = am_ald 0 73 ∧ am_lk (co_M_evenCut l d) 73 = am_goto 78 ∧ am_lk (co_M_evenCut l d) 76 = am_push (vI (-999999)) 78 ∧ am_lk (co_M_evenCut l d) 78 = am_iret false := ⟨rfl, rfl, rfl, rfl, rfl, rfl, rfl, rfl, rfl, rfl, rfl, rfl, rfl, rfl, rfl, rfl, rfl, rfl, rfl, rfl, rfl, rfl, rfl, rfl, rfl, rfl, rfl, rfl, rfl, rfl, rfl, rfl, rfl, rfl, rfl, rfl, rfl, rfl, rfl, rfl, rfl, rfl, rfl, rfl, rfl, rfl, rfl, rfl⟩
theorem en_M_evenCut {l : Launch} {d : Nat} (n : Nat) {as : List am_V} {G : am_G} {I : am_I} {J : am_J} {P : am_P} (hlen : (as.map am_cat).sum ≤ 4) (h : am_go (am_lk (co_M_evenCut l d)) (am_X l (0, fun _ => 0) (d + 1) y_M_evenCut P) P n 0 (am_el 4 as) [] 0 0 G I J) : am_T l (d + 1) y_M_evenCut as G I J P :=
  am_T_of (sc := (0, fun _ => 0)) cf_M_evenCut (by decide +kernel) (by decide) (by decide +kernel) hlen (am_run (ok_lk _ (ck_M_evenCut)) n _ _ _ _ _ _ _ _ h)
theorem rn_M_evenCut {l : Launch} {sc : Nat × (Nat → Int32)} {d : Nat} {P : am_P} (n : Nat) {pc : Nat} {ls : am_L} {st : List am_V} {kc ks : Nat} {G : am_G} {I : am_I} {J : am_J} (h : am_go (am_lk (co_M_evenCut l d)) (am_X l sc (d + 1) y_M_evenCut P) P n pc ls st kc ks G I J) : am_X l sc (d + 1) y_M_evenCut P pc ls st kc ks G I J := am_run (ok_lk _ (ck_M_evenCut)) n _ _ _ _ _ _ _ _ h
def co_M_emptyFrom (l : Launch) (d : Nat) : List (Nat × am_S) := [(0, am_aload 0 1), (1, am_aload 0 2), (2, am_iload 1 3), (3, am_cal l d y_M_isRow (some 9) 2 6 0 0 0 0), (6, am_if_eq 9 13), (9, am_push (vI 0) 10), (10, am_goto 14), (13, am_push (vI 1) 14), (14, am_cal l d y_M_refused (some 9) 2 17 0 0 0 0), (17, am_if_eq 20 22), (20, am_push (vI 0) 21), (21, am_iret false), (22, am_aload 0 23), (23, am_getR 9 6 26), (26, am_iload 1 27), (27, am_cal l d y_M_lastFor none 2 30 0 0 0 0), (30, am_istore 2 31), (31, am_iload 2 32), (32, am_push (vI (-999999)) 34), (34, am_icmp_ne 37 42), (37, am_push (vI (-999999)) 39), (39, am_goto 58), (42, am_aload 0 43), (43, am_getR 9 6 46), (46, am_push (vI 3) 47), (47, am_ald 0 48), (48, am_aload 0 49), (49, am_getR 9 6 52), (52, am_iload 1 53), (53, am_iload 2 54), (54, am_cal l d y_M_lines none 3 57 0 0 0 0), (57, am_isub 58), (58, am_iret false)]
theorem ck_M_emptyFrom {l : Launch} {sc : Nat × (Nat → Int32)} {d : Nat} : ∀ q ∈ co_M_emptyFrom l d, am_ok l sc (d + 1) y_M_emptyFrom q.1 q.2 :=
  fa_cons (ok_aload_n (show decode (am_mB y_M_emptyFrom) 0 = .ok (.aload_n 0, 1) by decide +kernel) rfl) <|
  fa_cons (ok_aload_n (show decode (am_mB y_M_emptyFrom) 1 = .ok (.aload_n 0, 1) by decide +kernel) rfl) <|
  fa_cons (ok_iload_n (show decode (am_mB y_M_emptyFrom) 2 = .ok (.iload_n 1, 1) by decide +kernel) rfl) <|
  fa_cons (ok_cal ⟨rfl, rfl, rfl, rfl⟩ (ok_callV (show decode (am_mB y_M_emptyFrom) 3 = .ok (.invokevirtual 188, 3) by decide +kernel) cf_M_isRow (by decide +kernel) ml_M_188 ci_M_isRow cv_M_isRow ⟨by decide, rfl⟩ rfl ⟨by decide +kernel, rfl⟩)) <|
  fa_cons (ok_if_eq (show decode (am_mB y_M_emptyFrom) 6 = .ok (.ifCond .eq 7, 3) by decide +kernel) (by decide)) <|
  fa_cons (ok_iconst (show decode (am_mB y_M_emptyFrom) 9 = .ok (.iconst 0, 1) by decide +kernel) rfl) <|
  fa_cons (ok_goto (show decode (am_mB y_M_emptyFrom) 10 = .ok (.goto 4, 3) by decide +kernel) (by decide)) <|
  fa_cons (ok_iconst (show decode (am_mB y_M_emptyFrom) 13 = .ok (.iconst 1, 1) by decide +kernel) rfl) <|
  fa_cons (ok_cal ⟨rfl, rfl, rfl, rfl⟩ (ok_callV (show decode (am_mB y_M_emptyFrom) 14 = .ok (.invokevirtual 128, 3) by decide +kernel) cf_M_refused (by decide +kernel) ml_M_128 ci_M_refused cv_M_refused ⟨by decide, rfl⟩ rfl ⟨by decide +kernel, rfl⟩)) <|
  fa_cons (ok_if_eq (show decode (am_mB y_M_emptyFrom) 17 = .ok (.ifCond .eq 5, 3) by decide +kernel) (by decide)) <|
  fa_cons (ok_iconst (show decode (am_mB y_M_emptyFrom) 20 = .ok (.iconst 0, 1) by decide +kernel) rfl) <|
  fa_cons (ok_iret (show decode (am_mB y_M_emptyFrom) 21 = .ok (.ireturn, 1) by decide +kernel) rfl) <|
  fa_cons (ok_aload_n (show decode (am_mB y_M_emptyFrom) 22 = .ok (.aload_n 0, 1) by decide +kernel) rfl) <|
  fa_cons (ok_getR (show decode (am_mB y_M_emptyFrom) 23 = .ok (.getfield 16, 3) by decide +kernel) fl_M_16 (by decide +kernel)) <|
  fa_cons (ok_iload_n (show decode (am_mB y_M_emptyFrom) 26 = .ok (.iload_n 1, 1) by decide +kernel) rfl) <|
  fa_cons (ok_cal ⟨rfl, rfl, rfl, rfl⟩ (ok_callS (show decode (am_mB y_M_emptyFrom) 27 = .ok (.invokestatic 91, 3) by decide +kernel) cf_M_lastFor (by decide +kernel) ml_M_91 cs_M_lastFor rfl ⟨by decide +kernel, rfl⟩)) <|
  fa_cons (ok_istore_n (show decode (am_mB y_M_emptyFrom) 30 = .ok (.istore_n 2, 1) by decide +kernel) rfl (by decide +kernel)) <|
  fa_cons (ok_iload_n (show decode (am_mB y_M_emptyFrom) 31 = .ok (.iload_n 2, 1) by decide +kernel) rfl) <|
  fa_cons (ok_ldc (show decode (am_mB y_M_emptyFrom) 32 = .ok (.ldc 90, 2) by decide +kernel) w_1057) <|
  fa_cons (ok_icmp_ne (show decode (am_mB y_M_emptyFrom) 34 = .ok (.if_icmp .ne 8, 3) by decide +kernel) (by decide)) <|
  fa_cons (ok_ldc (show decode (am_mB y_M_emptyFrom) 37 = .ok (.ldc 90, 2) by decide +kernel) w_1057) <|
  fa_cons (ok_goto (show decode (am_mB y_M_emptyFrom) 39 = .ok (.goto 19, 3) by decide +kernel) (by decide)) <|
  fa_cons (ok_aload_n (show decode (am_mB y_M_emptyFrom) 42 = .ok (.aload_n 0, 1) by decide +kernel) rfl) <|
  fa_cons (ok_getR (show decode (am_mB y_M_emptyFrom) 43 = .ok (.getfield 16, 3) by decide +kernel) fl_M_16 (by decide +kernel)) <|
  fa_cons (ok_iconst (show decode (am_mB y_M_emptyFrom) 46 = .ok (.iconst 3, 1) by decide +kernel) rfl) <|
  fa_cons (ok_iald (show decode (am_mB y_M_emptyFrom) 47 = .ok (.iaload, 1) by decide +kernel)) <|
  fa_cons (ok_aload_n (show decode (am_mB y_M_emptyFrom) 48 = .ok (.aload_n 0, 1) by decide +kernel) rfl) <|
  fa_cons (ok_getR (show decode (am_mB y_M_emptyFrom) 49 = .ok (.getfield 16, 3) by decide +kernel) fl_M_16 (by decide +kernel)) <|
  fa_cons (ok_iload_n (show decode (am_mB y_M_emptyFrom) 52 = .ok (.iload_n 1, 1) by decide +kernel) rfl) <|
  fa_cons (ok_iload_n (show decode (am_mB y_M_emptyFrom) 53 = .ok (.iload_n 2, 1) by decide +kernel) rfl) <|
  fa_cons (ok_cal ⟨rfl, rfl, rfl, rfl⟩ (ok_callS (show decode (am_mB y_M_emptyFrom) 54 = .ok (.invokestatic 87, 3) by decide +kernel) cf_M_lines (by decide +kernel) ml_M_87 cs_M_lines rfl ⟨by decide +kernel, rfl⟩)) <|
  fa_cons (ok_isub (show decode (am_mB y_M_emptyFrom) 57 = .ok (.isub, 1) by decide +kernel)) <|
  fa_cons (ok_iret (show decode (am_mB y_M_emptyFrom) 58 = .ok (.ireturn, 1) by decide +kernel) rfl) <|
  fa_nil
set_option maxRecDepth 100000 in
theorem cq_M_emptyFrom (l : Launch) (d : Nat) : am_lk (co_M_emptyFrom l d) 0 = am_aload 0 1 ∧ am_lk (co_M_emptyFrom l d) 1 = am_aload 0 2 ∧ am_lk (co_M_emptyFrom l d) 2 = am_iload 1 3 ∧ am_lk (co_M_emptyFrom l d) 3 = am_cal l d y_M_isRow (some 9) 2 6 0 0 0 0 ∧ am_lk (co_M_emptyFrom l d) 6 = am_if_eq 9 13 ∧ am_lk (co_M_emptyFrom l d) 9 = am_push (vI 0) 10 ∧ am_lk (co_M_emptyFrom l d) 10 = am_goto 14 ∧ am_lk (co_M_emptyFrom l d) 13 = am_push (vI 1) 14 ∧ am_lk (co_M_emptyFrom l d) 14 = am_cal l d y_M_refused (some 9) 2 17 0 0 0 0 ∧ am_lk (co_M_emptyFrom l d) 17 = am_if_eq 20 22 ∧ am_lk (co_M_emptyFrom l d) 20 = am_push (vI 0) 21 ∧ am_lk (co_M_emptyFrom l d) 21 = am_iret false ∧ am_lk (co_M_emptyFrom l d) 22 = am_aload 0 23 ∧ am_lk (co_M_emptyFrom l d) 23 = am_getR 9 6 26 ∧ am_lk (co_M_emptyFrom l d) 26 = am_iload 1 27 ∧ am_lk (co_M_emptyFrom l d) 27 = am_cal l d y_M_lastFor none 2 30 0 0 0 0 ∧ am_lk (co_M_emptyFrom l d) 30 = am_istore 2 31 ∧ am_lk (co_M_emptyFrom l d) 31 = am_iload 2 32 ∧ am_lk (co_M_emptyFrom l d) 32 = am_push (vI (-999999)) 34 ∧ am_lk (co_M_emptyFrom l d) 34 = am_icmp_ne 37 42 ∧ am_lk (co_M_emptyFrom l d) 37 = am_push (vI (-999999)) 39 ∧ am_lk (co_M_emptyFrom l d) 39 = am_goto 58 ∧ am_lk (co_M_emptyFrom l d) 42 = am_aload 0 43 ∧ am_lk (co_M_emptyFrom l d) 43 = am_getR 9 6 46 ∧ am_lk (co_M_emptyFrom l d) 46 = am_push (vI 3) 47 ∧ am_lk (co_M_emptyFrom l d) 47 = am_ald 0 48 ∧ am_lk (co_M_emptyFrom l d) 48 = am_aload 0 49 ∧ am_lk (co_M_emptyFrom l d) 49 = am_getR 9 6 52 ∧ am_lk (co_M_emptyFrom l d) 52 = am_iload 1 53 ∧ am_lk (co_M_emptyFrom l d) 53 = am_iload 2 54 ∧ am_lk (co_M_emptyFrom l d) 54 = am_cal l d y_M_lines none 3 57 0 0 0 0 ∧ am_lk (co_M_emptyFrom l d) 57 = am_isub 58 ∧ am_lk (co_M_emptyFrom l d) 58 = am_iret false := ⟨rfl, rfl, rfl, rfl, rfl, rfl, rfl, rfl, rfl, rfl, rfl, rfl, rfl, rfl, rfl, rfl, rfl, rfl, rfl, rfl, rfl, rfl, rfl, rfl, rfl, rfl, rfl, rfl, rfl, rfl, rfl, rfl, rfl⟩
theorem en_M_emptyFrom {l : Launch} {d : Nat} (n : Nat) {as : List am_V} {G : am_G} {I : am_I} {J : am_J} {P : am_P} (hlen : (as.map am_cat).sum ≤ 3) (h : am_go (am_lk (co_M_emptyFrom l d)) (am_X l (0, fun _ => 0) (d + 1) y_M_emptyFrom P) P n 0 (am_el 3 as) [] 0 0 G I J) : am_T l (d + 1) y_M_emptyFrom as G I J P :=
  am_T_of (sc := (0, fun _ => 0)) cf_M_emptyFrom (by decide +kernel) (by decide) (by decide +kernel) hlen (am_run (ok_lk _ (ck_M_emptyFrom)) n _ _ _ _ _ _ _ _ h)
theorem rn_M_emptyFrom {l : Launch} {sc : Nat × (Nat → Int32)} {d : Nat} {P : am_P} (n : Nat) {pc : Nat} {ls : am_L} {st : List am_V} {kc ks : Nat} {G : am_G} {I : am_I} {J : am_J} (h : am_go (am_lk (co_M_emptyFrom l d)) (am_X l sc (d + 1) y_M_emptyFrom P) P n pc ls st kc ks G I J) : am_X l sc (d + 1) y_M_emptyFrom P pc ls st kc ks G I J := am_run (ok_lk _ (ck_M_emptyFrom)) n _ _ _ _ _ _ _ _ h
def co_M_does (l : Launch) (d : Nat) : List (Nat × am_S) := [(0, am_iload 1 1), (1, am_push (vI 10000) 4), (4, am_idiv 5), (5, am_istore 2 6), (6, am_iload 1 7), (7, am_push (vI 1000) 10), (10, am_idiv 11), (11, am_push (vI 10) 13), (13, am_irem 14), (14, am_istore 3 15), (15, am_iload 1 16), (16, am_push (vI 100) 18), (18, am_idiv 19), (19, am_push (vI 10) 21), (21, am_irem 22), (22, am_istore 4 24), (24, am_iload 1 25), (25, am_push (vI 10) 27), (27, am_idiv 28), (28, am_push (vI 10) 30), (30, am_irem 31), (31, am_istore 5 33), (33, am_iload 1 34), (34, am_push (vI 10) 36), (36, am_irem 37), (37, am_istore 6 39), (39, am_iload 1 40), (40, am_push (vI 100) 42), (42, am_idiv 43), (43, am_push (vI 100) 45), (45, am_irem 46), (46, am_istore 7 48), (48, am_iload 7 50), (50, am_aload 0 51), (51, am_getR 9 7 54), (54, am_push (vI 1) 55), (55, am_ald 0 56), (56, am_icmp_ge 59 63), (59, am_push (vI 1) 60), (60, am_goto 64), (63, am_push (vI 0) 64), (64, am_istore 8 66), (66, am_iload 2 67), (67, am_tsw 1 [116, 170, 206, 239, 268, 308, 342, 379, 430] 474), (116, am_iload 3 117), (117, am_i2l 118), (118, am_push (vL 1) 119), (119, am_push (vL 6) 122), (122, am_cal l d y_M_in none 3 125 0 0 0 0), (125, am_if_eq 128 156), (128, am_iload 4 130), (130, am_push (vI 6) 132), (132, am_icmp_gt 135 156), (135, am_iload 5 137), (137, am_if_ne 140 156), (140, am_iload 6 142), (142, am_if_ne 145 156), (145, am_aload 0 146), (146, am_getR 9 7 149), (149, am_push (vI 1) 150), (150, am_ald 0 151), (151, am_push (vI 24) 153), (153, am_icmp_ne 156 158), (156, am_push (vI 0) 157), (157, am_iret true), (158, am_aload 0 159), (159, am_getR 9 7 162), (162, am_iload 3 163), (163, am_iload 4 165), (165, am_cal l d y_M_addTo none 3 168 0 0 0 0), (168, am_push (vI 1) 169), (169, am_iret true), (170, am_iload 8 172), (172, am_if_eq 175 186), (175, am_iload 5 177), (177, am_aload 0 178), (178, am_getR 9 7 181), (181, am_push (vI 0) 182), (182, am_ald 0 183), (183, am_icmp_lt 186 188), (186, am_push (vI 0) 187), (187, am_iret true), (188, am_aload 0 189), (189, am_getR 9 7 192), (192, am_iload 7 194), (194, am_push (vI 3) 195), (195, am_iload 5 197), (197, am_iadd 198), (198, am_cal l d y_M_cell none 2 201 0 0 0 0), (201, am_iload 6 203), (203, am_ast 0 (fun x => x) 204), (204, am_push (vI 1) 205), (205, am_iret true), (206, am_iload 8 208), (208, am_if_eq 211 222), (211, am_iload 5 213), (213, am_push (vI 1) 214), (214, am_icmp_gt 217 222), (217, am_iload 6 219), (219, am_if_eq 222 224), (222, am_push (vI 0) 223), (223, am_iret true), (224, am_aload 0 225), (225, am_getR 9 7 228), (228, am_iload 7 230), (230, am_push (vI 2) 231), (231, am_cal l d y_M_cell none 2 234 0 0 0 0), (234, am_iload 5 236), (236, am_ast 0 (fun x => x) 237), (237, am_push (vI 1) 238), (238, am_iret true), (239, am_iload 8 241), (241, am_if_eq 244 254), (244, am_iload 5 246), (246, am_if_ne 249 254), (249, am_iload 6 251), (251, am_if_eq 254 256), (254, am_push (vI 0) 255), (255, am_iret true), (256, am_aload 0 257), (257, am_getR 9 7 260), (260, am_iload 7 262), (262, am_cal l d y_M_dropRow none 2 265 0 0 0 0), (265, am_pop 266), (266, am_push (vI 1) 267), (267, am_iret true), (268, am_iload 3 269), (269, am_push (vI 10) 271), (271, am_iload 4 273), (273, am_imul 274), (274, am_iload 5 276), (276, am_iadd 277), (277, am_cal l d y_M_isHeight none 2 280 0 0 0 0), (280, am_if_eq 283 288), (283, am_iload 6 285), (285, am_if_eq 288 290), (288, am_push (vI 0) 289), (289, am_iret true), (290, am_aload 0 291), (291, am_getR 9 7 294), (294, am_push (vI 3) 295), (295, am_iload 3 296), (296, am_iadd 297), (297, am_push (vI 10) 299), (299, am_iload 4 301), (301, am_imul 302), (302, am_iload 5 304), (304, am_iadd 305), (305, am_ast 0 (fun x => x) 306), (306, am_push (vI 1) 307), (307, am_iret true), (308, am_iload 3 309), (309, am_if_ne 312 340), (312, am_iload 4 314), (314, am_if_ne 317 340), (317, am_aload 0 318), (318, am_aload 0 319), (319, am_getR 9 7 322), (322, am_cal l d y_M_lay (some 9) 2 325 0 0 0 0), (325, am_push (vI 10) 327), (327, am_iload 5 329), (329, am_imul 330), (330, am_iload 6 332), (332, am_iadd 333), (333, am_icmp_gt 336 340), (336, am_push (vI 1) 337), (337, am_goto 341), (340, am_push (vI 0) 341), (341, am_iret true), (342, am_iload 7 344), (344, am_aload 0 345), (345, am_aload 0 346), (346, am_getR 9 7 349), (349, am_cal l d y_M_lay (some 9) 2 352 0 0 0 0), (352, am_icmp_ge 355 377), (355, am_aload 0 356), (356, am_getR 9 12 359), (359, am_iload 7 361), (361, am_ald 0 362), (362, am_push (vI 10) 364), (364, am_iload 5 366), (366, am_imul 367), (367, am_iload 6 369), (369, am_iadd 370), (370, am_icmp_ne 373 377), (373, am_push (vI 1) 374), (374, am_goto 378), (377, am_push (vI 0) 378), (378, am_iret true), (379, am_iload 3 380), (380, am_aload 0 381), (381, am_getR 9 7 384), (384, am_push (vI 2) 385), (385, am_ald 0 386), (386, am_icmp_ge 389 428), (389, am_iload 5 391), (391, am_if_ne 394 428), (394, am_iload 6 396), (396, am_if_ne 399 428), (399, am_aload 0 400), (400, am_aload 0 401), (401, am_getR 9 7 404), (404, am_cal l d y_M_lay (some 9) 2 407 0 0 0 0), (407, am_if_le 410 428), (410, am_aload 0 411), (411, am_aload 0 412), (412, am_getR 9 7 415), (415, am_iload 3 416), (416, am_cal l d y_M_pagesOf (some 9) 3 419 0 0 0 0), (419, am_iload 4 421), (421, am_icmp_ne 424 428), (424, am_push (vI 1) 425), (425, am_goto 429), (428, am_push (vI 0) 429), (429, am_iret true), (430, am_iload 3 431), (431, am_if_ne 434 472), (434, am_iload 4 436), (436, am_if_ne 439 472), (439, am_iload 5 441), (441, am_if_ne 444 472), (444, am_aload 0 445), (445, am_aload 0 446), (446, am_getR 9 7 449), (449, am_cal l d y_M_lay (some 9) 2 452 0 0 0 0), (452, am_if_lt 455 472), (455, am_aload 0 456), (456, am_aload 0 457), (457, am_getR 9 7 460), (460, am_cal l d y_M_overfull (some 9) 2 463 0 0 0 0), (463, am_iload 6 465), (465, am_icmp_gt 468 472), (468, am_push (vI 1) 469), (469, am_goto 473), (472, am_push (vI 0) 473), (473, am_iret true), (474, am_push (vI 0) 475), (475, am_iret true)]
theorem ck_M_does {l : Launch} {sc : Nat × (Nat → Int32)} {d : Nat} : ∀ q ∈ co_M_does l d, am_ok l sc (d + 1) y_M_does q.1 q.2 :=
  fa_cons (ok_iload_n (show decode (am_mB y_M_does) 0 = .ok (.iload_n 1, 1) by decide +kernel) rfl) <|
  fa_cons (ok_sipush (show decode (am_mB y_M_does) 1 = .ok (.sipush 10000, 3) by decide +kernel) (by decide +kernel)) <|
  fa_cons (ok_idiv (show decode (am_mB y_M_does) 4 = .ok (.idiv, 1) by decide +kernel)) <|
  fa_cons (ok_istore_n (show decode (am_mB y_M_does) 5 = .ok (.istore_n 2, 1) by decide +kernel) rfl (by decide +kernel)) <|
  fa_cons (ok_iload_n (show decode (am_mB y_M_does) 6 = .ok (.iload_n 1, 1) by decide +kernel) rfl) <|
  fa_cons (ok_sipush (show decode (am_mB y_M_does) 7 = .ok (.sipush 1000, 3) by decide +kernel) (by decide +kernel)) <|
  fa_cons (ok_idiv (show decode (am_mB y_M_does) 10 = .ok (.idiv, 1) by decide +kernel)) <|
  fa_cons (ok_bipush (show decode (am_mB y_M_does) 11 = .ok (.bipush 10, 2) by decide +kernel) (by decide +kernel)) <|
  fa_cons (ok_irem (show decode (am_mB y_M_does) 13 = .ok (.irem, 1) by decide +kernel)) <|
  fa_cons (ok_istore_n (show decode (am_mB y_M_does) 14 = .ok (.istore_n 3, 1) by decide +kernel) rfl (by decide +kernel)) <|
  fa_cons (ok_iload_n (show decode (am_mB y_M_does) 15 = .ok (.iload_n 1, 1) by decide +kernel) rfl) <|
  fa_cons (ok_bipush (show decode (am_mB y_M_does) 16 = .ok (.bipush 100, 2) by decide +kernel) (by decide +kernel)) <|
  fa_cons (ok_idiv (show decode (am_mB y_M_does) 18 = .ok (.idiv, 1) by decide +kernel)) <|
  fa_cons (ok_bipush (show decode (am_mB y_M_does) 19 = .ok (.bipush 10, 2) by decide +kernel) (by decide +kernel)) <|
  fa_cons (ok_irem (show decode (am_mB y_M_does) 21 = .ok (.irem, 1) by decide +kernel)) <|
  fa_cons (ok_istore (show decode (am_mB y_M_does) 22 = .ok (.istore 4, 2) by decide +kernel) (by decide +kernel)) <|
  fa_cons (ok_iload_n (show decode (am_mB y_M_does) 24 = .ok (.iload_n 1, 1) by decide +kernel) rfl) <|
  fa_cons (ok_bipush (show decode (am_mB y_M_does) 25 = .ok (.bipush 10, 2) by decide +kernel) (by decide +kernel)) <|
  fa_cons (ok_idiv (show decode (am_mB y_M_does) 27 = .ok (.idiv, 1) by decide +kernel)) <|
  fa_cons (ok_bipush (show decode (am_mB y_M_does) 28 = .ok (.bipush 10, 2) by decide +kernel) (by decide +kernel)) <|
  fa_cons (ok_irem (show decode (am_mB y_M_does) 30 = .ok (.irem, 1) by decide +kernel)) <|
  fa_cons (ok_istore (show decode (am_mB y_M_does) 31 = .ok (.istore 5, 2) by decide +kernel) (by decide +kernel)) <|
  fa_cons (ok_iload_n (show decode (am_mB y_M_does) 33 = .ok (.iload_n 1, 1) by decide +kernel) rfl) <|
  fa_cons (ok_bipush (show decode (am_mB y_M_does) 34 = .ok (.bipush 10, 2) by decide +kernel) (by decide +kernel)) <|
  fa_cons (ok_irem (show decode (am_mB y_M_does) 36 = .ok (.irem, 1) by decide +kernel)) <|
  fa_cons (ok_istore (show decode (am_mB y_M_does) 37 = .ok (.istore 6, 2) by decide +kernel) (by decide +kernel)) <|
  fa_cons (ok_iload_n (show decode (am_mB y_M_does) 39 = .ok (.iload_n 1, 1) by decide +kernel) rfl) <|
  fa_cons (ok_bipush (show decode (am_mB y_M_does) 40 = .ok (.bipush 100, 2) by decide +kernel) (by decide +kernel)) <|
  fa_cons (ok_idiv (show decode (am_mB y_M_does) 42 = .ok (.idiv, 1) by decide +kernel)) <|
  fa_cons (ok_bipush (show decode (am_mB y_M_does) 43 = .ok (.bipush 100, 2) by decide +kernel) (by decide +kernel)) <|
  fa_cons (ok_irem (show decode (am_mB y_M_does) 45 = .ok (.irem, 1) by decide +kernel)) <|
  fa_cons (ok_istore (show decode (am_mB y_M_does) 46 = .ok (.istore 7, 2) by decide +kernel) (by decide +kernel)) <|
  fa_cons (ok_iload (show decode (am_mB y_M_does) 48 = .ok (.iload 7, 2) by decide +kernel)) <|
  fa_cons (ok_aload_n (show decode (am_mB y_M_does) 50 = .ok (.aload_n 0, 1) by decide +kernel) rfl) <|
  fa_cons (ok_getR (show decode (am_mB y_M_does) 51 = .ok (.getfield 19, 3) by decide +kernel) fl_M_19 (by decide +kernel)) <|
  fa_cons (ok_iconst (show decode (am_mB y_M_does) 54 = .ok (.iconst 1, 1) by decide +kernel) rfl) <|
  fa_cons (ok_iald (show decode (am_mB y_M_does) 55 = .ok (.iaload, 1) by decide +kernel)) <|
  fa_cons (ok_icmp_ge (show decode (am_mB y_M_does) 56 = .ok (.if_icmp .ge 7, 3) by decide +kernel) (by decide)) <|
  fa_cons (ok_iconst (show decode (am_mB y_M_does) 59 = .ok (.iconst 1, 1) by decide +kernel) rfl) <|
  fa_cons (ok_goto (show decode (am_mB y_M_does) 60 = .ok (.goto 4, 3) by decide +kernel) (by decide)) <|
  fa_cons (ok_iconst (show decode (am_mB y_M_does) 63 = .ok (.iconst 0, 1) by decide +kernel) rfl) <|
  fa_cons (ok_istore (show decode (am_mB y_M_does) 64 = .ok (.istore 8, 2) by decide +kernel) (by decide +kernel)) <|
  fa_cons (ok_iload_n (show decode (am_mB y_M_does) 66 = .ok (.iload_n 2, 1) by decide +kernel) rfl) <|
  fa_cons (ok_tsw (show decode (am_mB y_M_does) 67 = .ok (.tableswitch 407 1 9 #[49, 103, 139, 172, 201, 241, 275, 312, 363], 49) by decide +kernel) (by decide) (by decide) (by decide)) <|
  fa_cons (ok_iload_n (show decode (am_mB y_M_does) 116 = .ok (.iload_n 3, 1) by decide +kernel) rfl) <|
  fa_cons (ok_i2l (show decode (am_mB y_M_does) 117 = .ok (.i2l, 1) by decide +kernel)) <|
  fa_cons (ok_lconst (show decode (am_mB y_M_does) 118 = .ok (.lconst 1, 1) by decide +kernel) rfl) <|
  fa_cons (ok_ldc2 (show decode (am_mB y_M_does) 119 = .ok (.ldc2_w 201, 3) by decide +kernel) w_1180) <|
  fa_cons (ok_cal ⟨rfl, rfl, rfl, rfl⟩ (ok_callS (show decode (am_mB y_M_does) 122 = .ok (.invokestatic 113, 3) by decide +kernel) cf_M_in (by decide +kernel) ml_M_113 cs_M_in rfl ⟨by decide +kernel, rfl⟩)) <|
  fa_cons (ok_if_eq (show decode (am_mB y_M_does) 125 = .ok (.ifCond .eq 31, 3) by decide +kernel) (by decide)) <|
  fa_cons (ok_iload (show decode (am_mB y_M_does) 128 = .ok (.iload 4, 2) by decide +kernel)) <|
  fa_cons (ok_bipush (show decode (am_mB y_M_does) 130 = .ok (.bipush 6, 2) by decide +kernel) (by decide +kernel)) <|
  fa_cons (ok_icmp_gt (show decode (am_mB y_M_does) 132 = .ok (.if_icmp .gt 24, 3) by decide +kernel) (by decide)) <|
  fa_cons (ok_iload (show decode (am_mB y_M_does) 135 = .ok (.iload 5, 2) by decide +kernel)) <|
  fa_cons (ok_if_ne (show decode (am_mB y_M_does) 137 = .ok (.ifCond .ne 19, 3) by decide +kernel) (by decide)) <|
  fa_cons (ok_iload (show decode (am_mB y_M_does) 140 = .ok (.iload 6, 2) by decide +kernel)) <|
  fa_cons (ok_if_ne (show decode (am_mB y_M_does) 142 = .ok (.ifCond .ne 14, 3) by decide +kernel) (by decide)) <|
  fa_cons (ok_aload_n (show decode (am_mB y_M_does) 145 = .ok (.aload_n 0, 1) by decide +kernel) rfl) <|
  fa_cons (ok_getR (show decode (am_mB y_M_does) 146 = .ok (.getfield 19, 3) by decide +kernel) fl_M_19 (by decide +kernel)) <|
  fa_cons (ok_iconst (show decode (am_mB y_M_does) 149 = .ok (.iconst 1, 1) by decide +kernel) rfl) <|
  fa_cons (ok_iald (show decode (am_mB y_M_does) 150 = .ok (.iaload, 1) by decide +kernel)) <|
  fa_cons (ok_bipush (show decode (am_mB y_M_does) 151 = .ok (.bipush 24, 2) by decide +kernel) (by decide +kernel)) <|
  fa_cons (ok_icmp_ne (show decode (am_mB y_M_does) 153 = .ok (.if_icmp .ne 5, 3) by decide +kernel) (by decide)) <|
  fa_cons (ok_iconst (show decode (am_mB y_M_does) 156 = .ok (.iconst 0, 1) by decide +kernel) rfl) <|
  fa_cons (ok_iret (show decode (am_mB y_M_does) 157 = .ok (.ireturn, 1) by decide +kernel) rfl) <|
  fa_cons (ok_aload_n (show decode (am_mB y_M_does) 158 = .ok (.aload_n 0, 1) by decide +kernel) rfl) <|
  fa_cons (ok_getR (show decode (am_mB y_M_does) 159 = .ok (.getfield 19, 3) by decide +kernel) fl_M_19 (by decide +kernel)) <|
  fa_cons (ok_iload_n (show decode (am_mB y_M_does) 162 = .ok (.iload_n 3, 1) by decide +kernel) rfl) <|
  fa_cons (ok_iload (show decode (am_mB y_M_does) 163 = .ok (.iload 4, 2) by decide +kernel)) <|
  fa_cons (ok_cal ⟨rfl, rfl, rfl, rfl⟩ (ok_callS (show decode (am_mB y_M_does) 165 = .ok (.invokestatic 148, 3) by decide +kernel) cf_M_addTo (by decide +kernel) ml_M_148 cs_M_addTo rfl ⟨by decide +kernel, rfl⟩)) <|
  fa_cons (ok_iconst (show decode (am_mB y_M_does) 168 = .ok (.iconst 1, 1) by decide +kernel) rfl) <|
  fa_cons (ok_iret (show decode (am_mB y_M_does) 169 = .ok (.ireturn, 1) by decide +kernel) rfl) <|
  fa_cons (ok_iload (show decode (am_mB y_M_does) 170 = .ok (.iload 8, 2) by decide +kernel)) <|
  fa_cons (ok_if_eq (show decode (am_mB y_M_does) 172 = .ok (.ifCond .eq 14, 3) by decide +kernel) (by decide)) <|
  fa_cons (ok_iload (show decode (am_mB y_M_does) 175 = .ok (.iload 5, 2) by decide +kernel)) <|
  fa_cons (ok_aload_n (show decode (am_mB y_M_does) 177 = .ok (.aload_n 0, 1) by decide +kernel) rfl) <|
  fa_cons (ok_getR (show decode (am_mB y_M_does) 178 = .ok (.getfield 19, 3) by decide +kernel) fl_M_19 (by decide +kernel)) <|
  fa_cons (ok_iconst (show decode (am_mB y_M_does) 181 = .ok (.iconst 0, 1) by decide +kernel) rfl) <|
  fa_cons (ok_iald (show decode (am_mB y_M_does) 182 = .ok (.iaload, 1) by decide +kernel)) <|
  fa_cons (ok_icmp_lt (show decode (am_mB y_M_does) 183 = .ok (.if_icmp .lt 5, 3) by decide +kernel) (by decide)) <|
  fa_cons (ok_iconst (show decode (am_mB y_M_does) 186 = .ok (.iconst 0, 1) by decide +kernel) rfl) <|
  fa_cons (ok_iret (show decode (am_mB y_M_does) 187 = .ok (.ireturn, 1) by decide +kernel) rfl) <|
  fa_cons (ok_aload_n (show decode (am_mB y_M_does) 188 = .ok (.aload_n 0, 1) by decide +kernel) rfl) <|
  fa_cons (ok_getR (show decode (am_mB y_M_does) 189 = .ok (.getfield 19, 3) by decide +kernel) fl_M_19 (by decide +kernel)) <|
  fa_cons (ok_iload (show decode (am_mB y_M_does) 192 = .ok (.iload 7, 2) by decide +kernel)) <|
  fa_cons (ok_iconst (show decode (am_mB y_M_does) 194 = .ok (.iconst 3, 1) by decide +kernel) rfl) <|
  fa_cons (ok_iload (show decode (am_mB y_M_does) 195 = .ok (.iload 5, 2) by decide +kernel)) <|
  fa_cons (ok_iadd (show decode (am_mB y_M_does) 197 = .ok (.iadd, 1) by decide +kernel)) <|
  fa_cons (ok_cal ⟨rfl, rfl, rfl, rfl⟩ (ok_callS (show decode (am_mB y_M_does) 198 = .ok (.invokestatic 62, 3) by decide +kernel) cf_M_cell (by decide +kernel) ml_M_62 cs_M_cell rfl ⟨by decide +kernel, rfl⟩)) <|
  fa_cons (ok_iload (show decode (am_mB y_M_does) 201 = .ok (.iload 6, 2) by decide +kernel)) <|
  fa_cons (ok_iast (show decode (am_mB y_M_does) 203 = .ok (.iastore, 1) by decide +kernel)) <|
  fa_cons (ok_iconst (show decode (am_mB y_M_does) 204 = .ok (.iconst 1, 1) by decide +kernel) rfl) <|
  fa_cons (ok_iret (show decode (am_mB y_M_does) 205 = .ok (.ireturn, 1) by decide +kernel) rfl) <|
  fa_cons (ok_iload (show decode (am_mB y_M_does) 206 = .ok (.iload 8, 2) by decide +kernel)) <|
  fa_cons (ok_if_eq (show decode (am_mB y_M_does) 208 = .ok (.ifCond .eq 14, 3) by decide +kernel) (by decide)) <|
  fa_cons (ok_iload (show decode (am_mB y_M_does) 211 = .ok (.iload 5, 2) by decide +kernel)) <|
  fa_cons (ok_iconst (show decode (am_mB y_M_does) 213 = .ok (.iconst 1, 1) by decide +kernel) rfl) <|
  fa_cons (ok_icmp_gt (show decode (am_mB y_M_does) 214 = .ok (.if_icmp .gt 8, 3) by decide +kernel) (by decide)) <|
  fa_cons (ok_iload (show decode (am_mB y_M_does) 217 = .ok (.iload 6, 2) by decide +kernel)) <|
  fa_cons (ok_if_eq (show decode (am_mB y_M_does) 219 = .ok (.ifCond .eq 5, 3) by decide +kernel) (by decide)) <|
  fa_cons (ok_iconst (show decode (am_mB y_M_does) 222 = .ok (.iconst 0, 1) by decide +kernel) rfl) <|
  fa_cons (ok_iret (show decode (am_mB y_M_does) 223 = .ok (.ireturn, 1) by decide +kernel) rfl) <|
  fa_cons (ok_aload_n (show decode (am_mB y_M_does) 224 = .ok (.aload_n 0, 1) by decide +kernel) rfl) <|
  fa_cons (ok_getR (show decode (am_mB y_M_does) 225 = .ok (.getfield 19, 3) by decide +kernel) fl_M_19 (by decide +kernel)) <|
  fa_cons (ok_iload (show decode (am_mB y_M_does) 228 = .ok (.iload 7, 2) by decide +kernel)) <|
  fa_cons (ok_iconst (show decode (am_mB y_M_does) 230 = .ok (.iconst 2, 1) by decide +kernel) rfl) <|
  fa_cons (ok_cal ⟨rfl, rfl, rfl, rfl⟩ (ok_callS (show decode (am_mB y_M_does) 231 = .ok (.invokestatic 62, 3) by decide +kernel) cf_M_cell (by decide +kernel) ml_M_62 cs_M_cell rfl ⟨by decide +kernel, rfl⟩)) <|
  fa_cons (ok_iload (show decode (am_mB y_M_does) 234 = .ok (.iload 5, 2) by decide +kernel)) <|
  fa_cons (ok_iast (show decode (am_mB y_M_does) 236 = .ok (.iastore, 1) by decide +kernel)) <|
  fa_cons (ok_iconst (show decode (am_mB y_M_does) 237 = .ok (.iconst 1, 1) by decide +kernel) rfl) <|
  fa_cons (ok_iret (show decode (am_mB y_M_does) 238 = .ok (.ireturn, 1) by decide +kernel) rfl) <|
  fa_cons (ok_iload (show decode (am_mB y_M_does) 239 = .ok (.iload 8, 2) by decide +kernel)) <|
  fa_cons (ok_if_eq (show decode (am_mB y_M_does) 241 = .ok (.ifCond .eq 13, 3) by decide +kernel) (by decide)) <|
  fa_cons (ok_iload (show decode (am_mB y_M_does) 244 = .ok (.iload 5, 2) by decide +kernel)) <|
  fa_cons (ok_if_ne (show decode (am_mB y_M_does) 246 = .ok (.ifCond .ne 8, 3) by decide +kernel) (by decide)) <|
  fa_cons (ok_iload (show decode (am_mB y_M_does) 249 = .ok (.iload 6, 2) by decide +kernel)) <|
  fa_cons (ok_if_eq (show decode (am_mB y_M_does) 251 = .ok (.ifCond .eq 5, 3) by decide +kernel) (by decide)) <|
  fa_cons (ok_iconst (show decode (am_mB y_M_does) 254 = .ok (.iconst 0, 1) by decide +kernel) rfl) <|
  fa_cons (ok_iret (show decode (am_mB y_M_does) 255 = .ok (.ireturn, 1) by decide +kernel) rfl) <|
  fa_cons (ok_aload_n (show decode (am_mB y_M_does) 256 = .ok (.aload_n 0, 1) by decide +kernel) rfl) <|
  fa_cons (ok_getR (show decode (am_mB y_M_does) 257 = .ok (.getfield 19, 3) by decide +kernel) fl_M_19 (by decide +kernel)) <|
  fa_cons (ok_iload (show decode (am_mB y_M_does) 260 = .ok (.iload 7, 2) by decide +kernel)) <|
  fa_cons (ok_cal ⟨rfl, rfl, rfl, rfl⟩ (ok_callS (show decode (am_mB y_M_does) 262 = .ok (.invokestatic 219, 3) by decide +kernel) cf_M_dropRow (by decide +kernel) ml_M_219 cs_M_dropRow rfl ⟨by decide +kernel, rfl⟩)) <|
  fa_cons (ok_pop (show decode (am_mB y_M_does) 265 = .ok (.pop, 1) by decide +kernel)) <|
  fa_cons (ok_iconst (show decode (am_mB y_M_does) 266 = .ok (.iconst 1, 1) by decide +kernel) rfl) <|
  fa_cons (ok_iret (show decode (am_mB y_M_does) 267 = .ok (.ireturn, 1) by decide +kernel) rfl) <|
  fa_cons (ok_iload_n (show decode (am_mB y_M_does) 268 = .ok (.iload_n 3, 1) by decide +kernel) rfl) <|
  fa_cons (ok_bipush (show decode (am_mB y_M_does) 269 = .ok (.bipush 10, 2) by decide +kernel) (by decide +kernel)) <|
  fa_cons (ok_iload (show decode (am_mB y_M_does) 271 = .ok (.iload 4, 2) by decide +kernel)) <|
  fa_cons (ok_imul (show decode (am_mB y_M_does) 273 = .ok (.imul, 1) by decide +kernel)) <|
  fa_cons (ok_iload (show decode (am_mB y_M_does) 274 = .ok (.iload 5, 2) by decide +kernel)) <|
  fa_cons (ok_iadd (show decode (am_mB y_M_does) 276 = .ok (.iadd, 1) by decide +kernel)) <|
  fa_cons (ok_cal ⟨rfl, rfl, rfl, rfl⟩ (ok_callS (show decode (am_mB y_M_does) 277 = .ok (.invokestatic 222, 3) by decide +kernel) cf_M_isHeight (by decide +kernel) ml_M_222 cs_M_isHeight rfl ⟨by decide +kernel, rfl⟩)) <|
  fa_cons (ok_if_eq (show decode (am_mB y_M_does) 280 = .ok (.ifCond .eq 8, 3) by decide +kernel) (by decide)) <|
  fa_cons (ok_iload (show decode (am_mB y_M_does) 283 = .ok (.iload 6, 2) by decide +kernel)) <|
  fa_cons (ok_if_eq (show decode (am_mB y_M_does) 285 = .ok (.ifCond .eq 5, 3) by decide +kernel) (by decide)) <|
  fa_cons (ok_iconst (show decode (am_mB y_M_does) 288 = .ok (.iconst 0, 1) by decide +kernel) rfl) <|
  fa_cons (ok_iret (show decode (am_mB y_M_does) 289 = .ok (.ireturn, 1) by decide +kernel) rfl) <|
  fa_cons (ok_aload_n (show decode (am_mB y_M_does) 290 = .ok (.aload_n 0, 1) by decide +kernel) rfl) <|
  fa_cons (ok_getR (show decode (am_mB y_M_does) 291 = .ok (.getfield 19, 3) by decide +kernel) fl_M_19 (by decide +kernel)) <|
  fa_cons (ok_iconst (show decode (am_mB y_M_does) 294 = .ok (.iconst 3, 1) by decide +kernel) rfl) <|
  fa_cons (ok_iload_n (show decode (am_mB y_M_does) 295 = .ok (.iload_n 3, 1) by decide +kernel) rfl) <|
  fa_cons (ok_iadd (show decode (am_mB y_M_does) 296 = .ok (.iadd, 1) by decide +kernel)) <|
  fa_cons (ok_bipush (show decode (am_mB y_M_does) 297 = .ok (.bipush 10, 2) by decide +kernel) (by decide +kernel)) <|
  fa_cons (ok_iload (show decode (am_mB y_M_does) 299 = .ok (.iload 4, 2) by decide +kernel)) <|
  fa_cons (ok_imul (show decode (am_mB y_M_does) 301 = .ok (.imul, 1) by decide +kernel)) <|
  fa_cons (ok_iload (show decode (am_mB y_M_does) 302 = .ok (.iload 5, 2) by decide +kernel)) <|
  fa_cons (ok_iadd (show decode (am_mB y_M_does) 304 = .ok (.iadd, 1) by decide +kernel)) <|
  fa_cons (ok_iast (show decode (am_mB y_M_does) 305 = .ok (.iastore, 1) by decide +kernel)) <|
  fa_cons (ok_iconst (show decode (am_mB y_M_does) 306 = .ok (.iconst 1, 1) by decide +kernel) rfl) <|
  fa_cons (ok_iret (show decode (am_mB y_M_does) 307 = .ok (.ireturn, 1) by decide +kernel) rfl) <|
  fa_cons (ok_iload_n (show decode (am_mB y_M_does) 308 = .ok (.iload_n 3, 1) by decide +kernel) rfl) <|
  fa_cons (ok_if_ne (show decode (am_mB y_M_does) 309 = .ok (.ifCond .ne 31, 3) by decide +kernel) (by decide)) <|
  fa_cons (ok_iload (show decode (am_mB y_M_does) 312 = .ok (.iload 4, 2) by decide +kernel)) <|
  fa_cons (ok_if_ne (show decode (am_mB y_M_does) 314 = .ok (.ifCond .ne 26, 3) by decide +kernel) (by decide)) <|
  fa_cons (ok_aload_n (show decode (am_mB y_M_does) 317 = .ok (.aload_n 0, 1) by decide +kernel) rfl) <|
  fa_cons (ok_aload_n (show decode (am_mB y_M_does) 318 = .ok (.aload_n 0, 1) by decide +kernel) rfl) <|
  fa_cons (ok_getR (show decode (am_mB y_M_does) 319 = .ok (.getfield 19, 3) by decide +kernel) fl_M_19 (by decide +kernel)) <|
  fa_cons (ok_cal ⟨rfl, rfl, rfl, rfl⟩ (ok_callV (show decode (am_mB y_M_does) 322 = .ok (.invokevirtual 178, 3) by decide +kernel) cf_M_lay (by decide +kernel) ml_M_178 ci_M_lay cv_M_lay ⟨by decide, rfl⟩ rfl ⟨by decide +kernel, rfl⟩)) <|
  fa_cons (ok_bipush (show decode (am_mB y_M_does) 325 = .ok (.bipush 10, 2) by decide +kernel) (by decide +kernel)) <|
  fa_cons (ok_iload (show decode (am_mB y_M_does) 327 = .ok (.iload 5, 2) by decide +kernel)) <|
  fa_cons (ok_imul (show decode (am_mB y_M_does) 329 = .ok (.imul, 1) by decide +kernel)) <|
  fa_cons (ok_iload (show decode (am_mB y_M_does) 330 = .ok (.iload 6, 2) by decide +kernel)) <|
  fa_cons (ok_iadd (show decode (am_mB y_M_does) 332 = .ok (.iadd, 1) by decide +kernel)) <|
  fa_cons (ok_icmp_gt (show decode (am_mB y_M_does) 333 = .ok (.if_icmp .gt 7, 3) by decide +kernel) (by decide)) <|
  fa_cons (ok_iconst (show decode (am_mB y_M_does) 336 = .ok (.iconst 1, 1) by decide +kernel) rfl) <|
  fa_cons (ok_goto (show decode (am_mB y_M_does) 337 = .ok (.goto 4, 3) by decide +kernel) (by decide)) <|
  fa_cons (ok_iconst (show decode (am_mB y_M_does) 340 = .ok (.iconst 0, 1) by decide +kernel) rfl) <|
  fa_cons (ok_iret (show decode (am_mB y_M_does) 341 = .ok (.ireturn, 1) by decide +kernel) rfl) <|
  fa_cons (ok_iload (show decode (am_mB y_M_does) 342 = .ok (.iload 7, 2) by decide +kernel)) <|
  fa_cons (ok_aload_n (show decode (am_mB y_M_does) 344 = .ok (.aload_n 0, 1) by decide +kernel) rfl) <|
  fa_cons (ok_aload_n (show decode (am_mB y_M_does) 345 = .ok (.aload_n 0, 1) by decide +kernel) rfl) <|
  fa_cons (ok_getR (show decode (am_mB y_M_does) 346 = .ok (.getfield 19, 3) by decide +kernel) fl_M_19 (by decide +kernel)) <|
  fa_cons (ok_cal ⟨rfl, rfl, rfl, rfl⟩ (ok_callV (show decode (am_mB y_M_does) 349 = .ok (.invokevirtual 178, 3) by decide +kernel) cf_M_lay (by decide +kernel) ml_M_178 ci_M_lay cv_M_lay ⟨by decide, rfl⟩ rfl ⟨by decide +kernel, rfl⟩)) <|
  fa_cons (ok_icmp_ge (show decode (am_mB y_M_does) 352 = .ok (.if_icmp .ge 25, 3) by decide +kernel) (by decide)) <|
  fa_cons (ok_aload_n (show decode (am_mB y_M_does) 355 = .ok (.aload_n 0, 1) by decide +kernel) rfl) <|
  fa_cons (ok_getR (show decode (am_mB y_M_does) 356 = .ok (.getfield 32, 3) by decide +kernel) fl_M_32 (by decide +kernel)) <|
  fa_cons (ok_iload (show decode (am_mB y_M_does) 359 = .ok (.iload 7, 2) by decide +kernel)) <|
  fa_cons (ok_iald (show decode (am_mB y_M_does) 361 = .ok (.iaload, 1) by decide +kernel)) <|
  fa_cons (ok_bipush (show decode (am_mB y_M_does) 362 = .ok (.bipush 10, 2) by decide +kernel) (by decide +kernel)) <|
  fa_cons (ok_iload (show decode (am_mB y_M_does) 364 = .ok (.iload 5, 2) by decide +kernel)) <|
  fa_cons (ok_imul (show decode (am_mB y_M_does) 366 = .ok (.imul, 1) by decide +kernel)) <|
  fa_cons (ok_iload (show decode (am_mB y_M_does) 367 = .ok (.iload 6, 2) by decide +kernel)) <|
  fa_cons (ok_iadd (show decode (am_mB y_M_does) 369 = .ok (.iadd, 1) by decide +kernel)) <|
  fa_cons (ok_icmp_ne (show decode (am_mB y_M_does) 370 = .ok (.if_icmp .ne 7, 3) by decide +kernel) (by decide)) <|
  fa_cons (ok_iconst (show decode (am_mB y_M_does) 373 = .ok (.iconst 1, 1) by decide +kernel) rfl) <|
  fa_cons (ok_goto (show decode (am_mB y_M_does) 374 = .ok (.goto 4, 3) by decide +kernel) (by decide)) <|
  fa_cons (ok_iconst (show decode (am_mB y_M_does) 377 = .ok (.iconst 0, 1) by decide +kernel) rfl) <|
  fa_cons (ok_iret (show decode (am_mB y_M_does) 378 = .ok (.ireturn, 1) by decide +kernel) rfl) <|
  fa_cons (ok_iload_n (show decode (am_mB y_M_does) 379 = .ok (.iload_n 3, 1) by decide +kernel) rfl) <|
  fa_cons (ok_aload_n (show decode (am_mB y_M_does) 380 = .ok (.aload_n 0, 1) by decide +kernel) rfl) <|
  fa_cons (ok_getR (show decode (am_mB y_M_does) 381 = .ok (.getfield 19, 3) by decide +kernel) fl_M_19 (by decide +kernel)) <|
  fa_cons (ok_iconst (show decode (am_mB y_M_does) 384 = .ok (.iconst 2, 1) by decide +kernel) rfl) <|
  fa_cons (ok_iald (show decode (am_mB y_M_does) 385 = .ok (.iaload, 1) by decide +kernel)) <|
  fa_cons (ok_icmp_ge (show decode (am_mB y_M_does) 386 = .ok (.if_icmp .ge 42, 3) by decide +kernel) (by decide)) <|
  fa_cons (ok_iload (show decode (am_mB y_M_does) 389 = .ok (.iload 5, 2) by decide +kernel)) <|
  fa_cons (ok_if_ne (show decode (am_mB y_M_does) 391 = .ok (.ifCond .ne 37, 3) by decide +kernel) (by decide)) <|
  fa_cons (ok_iload (show decode (am_mB y_M_does) 394 = .ok (.iload 6, 2) by decide +kernel)) <|
  fa_cons (ok_if_ne (show decode (am_mB y_M_does) 396 = .ok (.ifCond .ne 32, 3) by decide +kernel) (by decide)) <|
  fa_cons (ok_aload_n (show decode (am_mB y_M_does) 399 = .ok (.aload_n 0, 1) by decide +kernel) rfl) <|
  fa_cons (ok_aload_n (show decode (am_mB y_M_does) 400 = .ok (.aload_n 0, 1) by decide +kernel) rfl) <|
  fa_cons (ok_getR (show decode (am_mB y_M_does) 401 = .ok (.getfield 19, 3) by decide +kernel) fl_M_19 (by decide +kernel)) <|
  fa_cons (ok_cal ⟨rfl, rfl, rfl, rfl⟩ (ok_callV (show decode (am_mB y_M_does) 404 = .ok (.invokevirtual 178, 3) by decide +kernel) cf_M_lay (by decide +kernel) ml_M_178 ci_M_lay cv_M_lay ⟨by decide, rfl⟩ rfl ⟨by decide +kernel, rfl⟩)) <|
  fa_cons (ok_if_le (show decode (am_mB y_M_does) 407 = .ok (.ifCond .le 21, 3) by decide +kernel) (by decide)) <|
  fa_cons (ok_aload_n (show decode (am_mB y_M_does) 410 = .ok (.aload_n 0, 1) by decide +kernel) rfl) <|
  fa_cons (ok_aload_n (show decode (am_mB y_M_does) 411 = .ok (.aload_n 0, 1) by decide +kernel) rfl) <|
  fa_cons (ok_getR (show decode (am_mB y_M_does) 412 = .ok (.getfield 19, 3) by decide +kernel) fl_M_19 (by decide +kernel)) <|
  fa_cons (ok_iload_n (show decode (am_mB y_M_does) 415 = .ok (.iload_n 3, 1) by decide +kernel) rfl) <|
  fa_cons (ok_cal ⟨rfl, rfl, rfl, rfl⟩ (ok_callV (show decode (am_mB y_M_does) 416 = .ok (.invokevirtual 175, 3) by decide +kernel) cf_M_pagesOf (by decide +kernel) ml_M_175 ci_M_pagesOf cv_M_pagesOf ⟨by decide, rfl⟩ rfl ⟨by decide +kernel, rfl⟩)) <|
  fa_cons (ok_iload (show decode (am_mB y_M_does) 419 = .ok (.iload 4, 2) by decide +kernel)) <|
  fa_cons (ok_icmp_ne (show decode (am_mB y_M_does) 421 = .ok (.if_icmp .ne 7, 3) by decide +kernel) (by decide)) <|
  fa_cons (ok_iconst (show decode (am_mB y_M_does) 424 = .ok (.iconst 1, 1) by decide +kernel) rfl) <|
  fa_cons (ok_goto (show decode (am_mB y_M_does) 425 = .ok (.goto 4, 3) by decide +kernel) (by decide)) <|
  fa_cons (ok_iconst (show decode (am_mB y_M_does) 428 = .ok (.iconst 0, 1) by decide +kernel) rfl) <|
  fa_cons (ok_iret (show decode (am_mB y_M_does) 429 = .ok (.ireturn, 1) by decide +kernel) rfl) <|
  fa_cons (ok_iload_n (show decode (am_mB y_M_does) 430 = .ok (.iload_n 3, 1) by decide +kernel) rfl) <|
  fa_cons (ok_if_ne (show decode (am_mB y_M_does) 431 = .ok (.ifCond .ne 41, 3) by decide +kernel) (by decide)) <|
  fa_cons (ok_iload (show decode (am_mB y_M_does) 434 = .ok (.iload 4, 2) by decide +kernel)) <|
  fa_cons (ok_if_ne (show decode (am_mB y_M_does) 436 = .ok (.ifCond .ne 36, 3) by decide +kernel) (by decide)) <|
  fa_cons (ok_iload (show decode (am_mB y_M_does) 439 = .ok (.iload 5, 2) by decide +kernel)) <|
  fa_cons (ok_if_ne (show decode (am_mB y_M_does) 441 = .ok (.ifCond .ne 31, 3) by decide +kernel) (by decide)) <|
  fa_cons (ok_aload_n (show decode (am_mB y_M_does) 444 = .ok (.aload_n 0, 1) by decide +kernel) rfl) <|
  fa_cons (ok_aload_n (show decode (am_mB y_M_does) 445 = .ok (.aload_n 0, 1) by decide +kernel) rfl) <|
  fa_cons (ok_getR (show decode (am_mB y_M_does) 446 = .ok (.getfield 19, 3) by decide +kernel) fl_M_19 (by decide +kernel)) <|
  fa_cons (ok_cal ⟨rfl, rfl, rfl, rfl⟩ (ok_callV (show decode (am_mB y_M_does) 449 = .ok (.invokevirtual 178, 3) by decide +kernel) cf_M_lay (by decide +kernel) ml_M_178 ci_M_lay cv_M_lay ⟨by decide, rfl⟩ rfl ⟨by decide +kernel, rfl⟩)) <|
  fa_cons (ok_if_lt (show decode (am_mB y_M_does) 452 = .ok (.ifCond .lt 20, 3) by decide +kernel) (by decide)) <|
  fa_cons (ok_aload_n (show decode (am_mB y_M_does) 455 = .ok (.aload_n 0, 1) by decide +kernel) rfl) <|
  fa_cons (ok_aload_n (show decode (am_mB y_M_does) 456 = .ok (.aload_n 0, 1) by decide +kernel) rfl) <|
  fa_cons (ok_getR (show decode (am_mB y_M_does) 457 = .ok (.getfield 19, 3) by decide +kernel) fl_M_19 (by decide +kernel)) <|
  fa_cons (ok_cal ⟨rfl, rfl, rfl, rfl⟩ (ok_callV (show decode (am_mB y_M_does) 460 = .ok (.invokevirtual 182, 3) by decide +kernel) cf_M_overfull (by decide +kernel) ml_M_182 ci_M_overfull cv_M_overfull ⟨by decide, rfl⟩ rfl ⟨by decide +kernel, rfl⟩)) <|
  fa_cons (ok_iload (show decode (am_mB y_M_does) 463 = .ok (.iload 6, 2) by decide +kernel)) <|
  fa_cons (ok_icmp_gt (show decode (am_mB y_M_does) 465 = .ok (.if_icmp .gt 7, 3) by decide +kernel) (by decide)) <|
  fa_cons (ok_iconst (show decode (am_mB y_M_does) 468 = .ok (.iconst 1, 1) by decide +kernel) rfl) <|
  fa_cons (ok_goto (show decode (am_mB y_M_does) 469 = .ok (.goto 4, 3) by decide +kernel) (by decide)) <|
  fa_cons (ok_iconst (show decode (am_mB y_M_does) 472 = .ok (.iconst 0, 1) by decide +kernel) rfl) <|
  fa_cons (ok_iret (show decode (am_mB y_M_does) 473 = .ok (.ireturn, 1) by decide +kernel) rfl) <|
  fa_cons (ok_iconst (show decode (am_mB y_M_does) 474 = .ok (.iconst 0, 1) by decide +kernel) rfl) <|
  fa_cons (ok_iret (show decode (am_mB y_M_does) 475 = .ok (.ireturn, 1) by decide +kernel) rfl) <|
  fa_nil
set_option maxRecDepth 100000 in
theorem cq_M_does (l : Launch) (d : Nat) : am_lk (co_M_does l d) 0 = am_iload 1 1 ∧ am_lk (co_M_does l d) 1 = am_push (vI 10000) 4 ∧ am_lk (co_M_does l d) 4 = am_idiv 5 ∧ am_lk (co_M_does l d) 5 = am_istore 2 6 ∧ am_lk (co_M_does l d) 6 = am_iload 1 7 ∧ am_lk (co_M_does l d) 7 = am_push (vI 1000) 10 ∧ am_lk (co_M_does l d) 10 = am_idiv 11 ∧ am_lk (co_M_does l d) 11 = am_push (vI 10) 13 ∧ am_lk (co_M_does l d) 13 = am_irem 14 ∧ am_lk (co_M_does l d) 14 = am_istore 3 15 ∧ am_lk (co_M_does l d) 15 = am_iload 1 16 ∧ am_lk (co_M_does l d) 16 = am_push (vI 100) 18 ∧ am_lk (co_M_does l d) 18 = am_idiv 19 ∧ am_lk (co_M_does l d) 19 = am_push (vI 10) 21 ∧ am_lk (co_M_does l d) 21 = am_irem 22 ∧ am_lk (co_M_does l d) 22 = am_istore 4 24 ∧ am_lk (co_M_does l d) 24 = am_iload 1 25 ∧ am_lk (co_M_does l d) 25 = am_push (vI 10) 27 ∧ am_lk (co_M_does l d) 27 = am_idiv 28 ∧ am_lk (co_M_does l d) 28 = am_push (vI 10) 30 ∧ am_lk (co_M_does l d) 30 = am_irem 31 ∧ am_lk (co_M_does l d) 31 = am_istore 5 33 ∧ am_lk (co_M_does l d) 33 = am_iload 1 34 ∧ am_lk (co_M_does l d) 34 = am_push (vI 10) 36 ∧ am_lk (co_M_does l d) 36 = am_irem 37 ∧ am_lk (co_M_does l d) 37 = am_istore 6 39 ∧ am_lk (co_M_does l d) 39 = am_iload 1 40 ∧ am_lk (co_M_does l d) 40 = am_push (vI 100) 42 ∧ am_lk (co_M_does l d) 42 = am_idiv 43 ∧ am_lk (co_M_does l d) 43 = am_push (vI 100) 45 ∧ am_lk (co_M_does l d) 45 = am_irem 46 ∧ am_lk (co_M_does l d) 46 = am_istore 7 48 ∧ am_lk (co_M_does l d) 48 = am_iload 7 50 ∧ am_lk (co_M_does l d) 50 = am_aload 0 51 ∧ am_lk (co_M_does l d) 51 = am_getR 9 7 54 ∧ am_lk (co_M_does l d) 54 = am_push (vI 1) 55 ∧ am_lk (co_M_does l d) 55 = am_ald 0 56 ∧ am_lk (co_M_does l d) 56 = am_icmp_ge 59 63 ∧ am_lk (co_M_does l d) 59 = am_push (vI 1) 60 ∧ am_lk (co_M_does l d) 60 = am_goto 64 ∧ am_lk (co_M_does l d) 63 = am_push (vI 0) 64 ∧ am_lk (co_M_does l d) 64 = am_istore 8 66 ∧ am_lk (co_M_does l d) 66 = am_iload 2 67 ∧ am_lk (co_M_does l d) 67 = am_tsw 1 [116, 170, 206, 239, 268, 308, 342, 379, 430] 474 ∧ am_lk (co_M_does l d) 116 = am_iload 3 117 ∧ am_lk (co_M_does l d) 117 = am_i2l 118 ∧ am_lk (co_M_does l d) 118 = am_push (vL 1) 119 ∧ am_lk (co_M_does l d) 119 = am_push (vL 6) 122 ∧ am_lk (co_M_does l d) 122 = am_cal l d y_M_in none 3 125 0 0 0 0 ∧ am_lk (co_M_does l d) 125 = am_if_eq 128 156 ∧ am_lk (co_M_does l d) 128 = am_iload 4 130 ∧ am_lk (co_M_does l d) 130 = am_push (vI 6) 132 ∧ am_lk (co_M_does l d) 132 = am_icmp_gt 135 156 ∧ am_lk (co_M_does l d) 135 = am_iload 5 137 ∧ am_lk (co_M_does l d) 137 = am_if_ne 140 156 ∧ am_lk (co_M_does l d) 140 = am_iload 6 142 ∧ am_lk (co_M_does l d) 142 = am_if_ne 145 156 ∧ am_lk (co_M_does l d) 145 = am_aload 0 146 ∧ am_lk (co_M_does l d) 146 = am_getR 9 7 149 ∧ am_lk (co_M_does l d) 149 = am_push (vI 1) 150 ∧ am_lk (co_M_does l d) 150 = am_ald 0 151 ∧ am_lk (co_M_does l d) 151 = am_push (vI 24) 153 ∧ am_lk (co_M_does l d) 153 = am_icmp_ne 156 158 ∧ am_lk (co_M_does l d) 156 = am_push (vI 0) 157 ∧ am_lk (co_M_does l d) 157 = am_iret true ∧ am_lk (co_M_does l d) 158 = am_aload 0 159 ∧ am_lk (co_M_does l d) 159 = am_getR 9 7 162 ∧ am_lk (co_M_does l d) 162 = am_iload 3 163 ∧ am_lk (co_M_does l d) 163 = am_iload 4 165 ∧ am_lk (co_M_does l d) 165 = am_cal l d y_M_addTo none 3 168 0 0 0 0 ∧ am_lk (co_M_does l d) 168 = am_push (vI 1) 169 ∧ am_lk (co_M_does l d) 169 = am_iret true ∧ am_lk (co_M_does l d) 170 = am_iload 8 172 ∧ am_lk (co_M_does l d) 172 = am_if_eq 175 186 ∧ am_lk (co_M_does l d) 175 = am_iload 5 177 ∧ am_lk (co_M_does l d) 177 = am_aload 0 178 ∧ am_lk (co_M_does l d) 178 = am_getR 9 7 181 ∧ am_lk (co_M_does l d) 181 = am_push (vI 0) 182 ∧ am_lk (co_M_does l d) 182 = am_ald 0 183 ∧ am_lk (co_M_does l d) 183 = am_icmp_lt 186 188 ∧ am_lk (co_M_does l d) 186 = am_push (vI 0) 187 ∧ am_lk (co_M_does l d) 187 = am_iret true ∧ am_lk (co_M_does l d) 188 = am_aload 0 189 ∧ am_lk (co_M_does l d) 189 = am_getR 9 7 192 ∧ am_lk (co_M_does l d) 192 = am_iload 7 194 ∧ am_lk (co_M_does l d) 194 = am_push (vI 3) 195 ∧ am_lk (co_M_does l d) 195 = am_iload 5 197 ∧ am_lk (co_M_does l d) 197 = am_iadd 198 ∧ am_lk (co_M_does l d) 198 = am_cal l d y_M_cell none 2 201 0 0 0 0 ∧ am_lk (co_M_does l d) 201 = am_iload 6 203 ∧ am_lk (co_M_does l d) 203 = am_ast 0 (fun x => x) 204 ∧ am_lk (co_M_does l d) 204 = am_push (vI 1) 205 ∧ am_lk (co_M_does l d) 205 = am_iret true ∧ am_lk (co_M_does l d) 206 = am_iload 8 208 ∧ am_lk (co_M_does l d) 208 = am_if_eq 211 222 ∧ am_lk (co_M_does l d) 211 = am_iload 5 213 ∧ am_lk (co_M_does l d) 213 = am_push (vI 1) 214 ∧ am_lk (co_M_does l d) 214 = am_icmp_gt 217 222 ∧ am_lk (co_M_does l d) 217 = am_iload 6 219 ∧ am_lk (co_M_does l d) 219 = am_if_eq 222 224 ∧ am_lk (co_M_does l d) 222 = am_push (vI 0) 223 ∧ am_lk (co_M_does l d) 223 = am_iret true ∧ am_lk (co_M_does l d) 224 = am_aload 0 225 ∧ am_lk (co_M_does l d) 225 = am_getR 9 7 228 ∧ am_lk (co_M_does l d) 228 = am_iload 7 230 ∧ am_lk (co_M_does l d) 230 = am_push (vI 2) 231 ∧ am_lk (co_M_does l d) 231 = am_cal l d y_M_cell none 2 234 0 0 0 0 ∧ am_lk (co_M_does l d) 234 = am_iload 5 236 ∧ am_lk (co_M_does l d) 236 = am_ast 0 (fun x => x) 237 ∧ am_lk (co_M_does l d) 237 = am_push (vI 1) 238 ∧ am_lk (co_M_does l d) 238 = am_iret true ∧ am_lk (co_M_does l d) 239 = am_iload 8 241 ∧ am_lk (co_M_does l d) 241 = am_if_eq 244 254 ∧ am_lk (co_M_does l d) 244 = am_iload 5 246 ∧ am_lk (co_M_does l d) 246 = am_if_ne 249 254 ∧ am_lk (co_M_does l d) 249 = am_iload 6 251 ∧ am_lk (co_M_does l d) 251 = am_if_eq 254 256 ∧ am_lk (co_M_does l d) 254 = am_push (vI 0) 255 ∧ am_lk (co_M_does l d) 255 = am_iret true ∧ am_lk (co_M_does l d) 256 = am_aload 0 257 ∧ am_lk (co_M_does l d) 257 = am_getR 9 7 260 ∧ am_lk (co_M_does l d) 260 = am_iload 7 262 ∧ am_lk (co_M_does l d) 262 = am_cal l d y_M_dropRow none 2 265 0 0 0 0 ∧ am_lk (co_M_does l d) 265 = am_pop 266 ∧ am_lk (co_M_does l d) 266 = am_push (vI 1) 267 ∧ am_lk (co_M_does l d) 267 = am_iret true ∧ am_lk (co_M_does l d) 268 = am_iload 3 269 ∧ am_lk (co_M_does l d) 269 = am_push (vI 10) 271 ∧ am_lk (co_M_does l d) 271 = am_iload 4 273 ∧ am_lk (co_M_does l d) 273 = am_imul 274 ∧ am_lk (co_M_does l d) 274 = am_iload 5 276 ∧ am_lk (co_M_does l d) 276 = am_iadd 277 ∧ am_lk (co_M_does l d) 277 = am_cal l d y_M_isHeight none 2 280 0 0 0 0 ∧ am_lk (co_M_does l d) 280 = am_if_eq 283 288 ∧ am_lk (co_M_does l d) 283 = am_iload 6 285 ∧ am_lk (co_M_does l d) 285 = am_if_eq 288 290 ∧ am_lk (co_M_does l d) 288 = am_push (vI 0) 289 ∧ am_lk (co_M_does l d) 289 = am_iret true ∧ am_lk (co_M_does l d) 290 = am_aload 0 291 ∧ am_lk (co_M_does l d) 291 = am_getR 9 7 294 ∧ am_lk (co_M_does l d) 294 = am_push (vI 3) 295 ∧ am_lk (co_M_does l d) 295 = am_iload 3 296 ∧ am_lk (co_M_does l d) 296 = am_iadd 297 ∧ am_lk (co_M_does l d) 297 = am_push (vI 10) 299 ∧ am_lk (co_M_does l d) 299 = am_iload 4 301 ∧ am_lk (co_M_does l d) 301 = am_imul 302 ∧ am_lk (co_M_does l d) 302 = am_iload 5 304 ∧ am_lk (co_M_does l d) 304 = am_iadd 305 ∧ am_lk (co_M_does l d) 305 = am_ast 0 (fun x => x) 306 ∧ am_lk (co_M_does l d) 306 = am_push (vI 1) 307 ∧ am_lk (co_M_does l d) 307 = am_iret true ∧ am_lk (co_M_does l d) 308 = am_iload 3 309 ∧ am_lk (co_M_does l d) 309 = am_if_ne 312 340 ∧ am_lk (co_M_does l d) 312 = am_iload 4 314 ∧ am_lk (co_M_does l d) 314 = am_if_ne 317 340 ∧ am_lk (co_M_does l d) 317 = am_aload 0 318 ∧ am_lk (co_M_does l d) 318 = am_aload 0 319 ∧ am_lk (co_M_does l d) 319 = am_getR 9 7 322 ∧ am_lk (co_M_does l d) 322 = am_cal l d y_M_lay (some 9) 2 325 0 0 0 0 ∧ am_lk (co_M_does l d) 325 = am_push (vI 10) 327 ∧ am_lk (co_M_does l d) 327 = am_iload 5 329 ∧ am_lk (co_M_does l d) 329 = am_imul 330 ∧ am_lk (co_M_does l d) 330 = am_iload 6 332 ∧ am_lk (co_M_does l d) 332 = am_iadd 333 ∧ am_lk (co_M_does l d) 333 = am_icmp_gt 336 340 ∧ am_lk (co_M_does l d) 336 = am_push (vI 1) 337 ∧ am_lk (co_M_does l d) 337 = am_goto 341 ∧ am_lk (co_M_does l d) 340 = am_push (vI 0) 341 ∧ am_lk (co_M_does l d) 341 = am_iret true ∧ am_lk (co_M_does l d) 342 = am_iload 7 344 ∧ am_lk (co_M_does l d) 344 = am_aload 0 345 ∧ am_lk (co_M_does l d) 345 = am_aload 0 346 ∧ am_lk (co_M_does l d) 346 = am_getR 9 7 349 ∧ am_lk (co_M_does l d) 349 = am_cal l d y_M_lay (some 9) 2 352 0 0 0 0 ∧ am_lk (co_M_does l d) 352 = am_icmp_ge 355 377 ∧ am_lk (co_M_does l d) 355 = am_aload 0 356 ∧ am_lk (co_M_does l d) 356 = am_getR 9 12 359 ∧ am_lk (co_M_does l d) 359 = am_iload 7 361 ∧ am_lk (co_M_does l d) 361 = am_ald 0 362 ∧ am_lk (co_M_does l d) 362 = am_push (vI 10) 364 ∧ am_lk (co_M_does l d) 364 = am_iload 5 366 ∧ am_lk (co_M_does l d) 366 = am_imul 367 ∧ am_lk (co_M_does l d) 367 = am_iload 6 369 ∧ am_lk (co_M_does l d) 369 = am_iadd 370 ∧ am_lk (co_M_does l d) 370 = am_icmp_ne 373 377 ∧ am_lk (co_M_does l d) 373 = am_push (vI 1) 374 ∧ am_lk (co_M_does l d) 374 = am_goto 378 ∧ am_lk (co_M_does l d) 377 = am_push (vI 0) 378 ∧ am_lk (co_M_does l d) 378 = am_iret true ∧ am_lk (co_M_does l d) 379 = am_iload 3 380 ∧ am_lk (co_M_does l d) 380 = am_aload 0 381 ∧ am_lk (co_M_does l d) 381 = am_getR 9 7 384 ∧ am_lk (co_M_does l d) 384 = am_push (vI 2) 385 ∧ am_lk (co_M_does l d) 385 = am_ald 0 386 ∧ am_lk (co_M_does l d) 386 = am_icmp_ge 389 428 ∧ am_lk (co_M_does l d) 389 = am_iload 5 391 ∧ am_lk (co_M_does l d) 391 = am_if_ne 394 428 ∧ am_lk (co_M_does l d) 394 = am_iload 6 396 ∧ am_lk (co_M_does l d) 396 = am_if_ne 399 428 ∧ am_lk (co_M_does l d) 399 = am_aload 0 400 ∧ am_lk (co_M_does l d) 400 = am_aload 0 401 ∧ am_lk (co_M_does l d) 401 = am_getR 9 7 404 ∧ am_lk (co_M_does l d) 404 = am_cal l d y_M_lay (some 9) 2 407 0 0 0 0 ∧ am_lk (co_M_does l d) 407 = am_if_le 410 428 ∧ am_lk (co_M_does l d) 410 = am_aload 0 411 ∧ am_lk (co_M_does l d) 411 = am_aload 0 412 ∧ am_lk (co_M_does l d) 412 = am_getR 9 7 415 ∧ am_lk (co_M_does l d) 415 = am_iload 3 416 ∧ am_lk (co_M_does l d) 416 = am_cal l d y_M_pagesOf (some 9) 3 419 0 0 0 0 ∧ am_lk (co_M_does l d) 419 = am_iload 4 421 ∧ am_lk (co_M_does l d) 421 = am_icmp_ne 424 428 ∧ am_lk (co_M_does l d) 424 = am_push (vI 1) 425 ∧ am_lk (co_M_does l d) 425 = am_goto 429 ∧ am_lk (co_M_does l d) 428 = am_push (vI 0) 429 ∧ am_lk (co_M_does l d) 429 = am_iret true ∧ am_lk (co_M_does l d) 430 = am_iload 3 431 ∧ am_lk (co_M_does l d) 431 = am_if_ne 434 472 ∧ am_lk (co_M_does l d) 434 = am_iload 4 436 ∧ am_lk (co_M_does l d) 436 = am_if_ne 439 472 ∧ am_lk (co_M_does l d) 439 = am_iload 5 441 ∧ am_lk (co_M_does l d) 441 = am_if_ne 444 472 ∧ am_lk (co_M_does l d) 444 = am_aload 0 445 ∧ am_lk (co_M_does l d) 445 = am_aload 0 446 ∧ am_lk (co_M_does l d) 446 = am_getR 9 7 449 ∧ am_lk (co_M_does l d) 449 = am_cal l d y_M_lay (some 9) 2 452 0 0 0 0 ∧ am_lk (co_M_does l d) 452 = am_if_lt 455 472 ∧ am_lk (co_M_does l d) 455 = am_aload 0 456 ∧ am_lk (co_M_does l d) 456 = am_aload 0 457 ∧ am_lk (co_M_does l d) 457 = am_getR 9 7 460 ∧ am_lk (co_M_does l d) 460 = am_cal l d y_M_overfull (some 9) 2 463 0 0 0 0 ∧ am_lk (co_M_does l d) 463 = am_iload 6 465 ∧ am_lk (co_M_does l d) 465 = am_icmp_gt 468 472 ∧ am_lk (co_M_does l d) 468 = am_push (vI 1) 469 ∧ am_lk (co_M_does l d) 469 = am_goto 473 ∧ am_lk (co_M_does l d) 472 = am_push (vI 0) 473 ∧ am_lk (co_M_does l d) 473 = am_iret true ∧ am_lk (co_M_does l d) 474 = am_push (vI 0) 475 ∧ am_lk (co_M_does l d) 475 = am_iret true := ⟨rfl, rfl, rfl, rfl, rfl, rfl, rfl, rfl, rfl, rfl, rfl, rfl, rfl, rfl, rfl, rfl, rfl, rfl, rfl, rfl, rfl, rfl, rfl, rfl, rfl, rfl, rfl, rfl, rfl, rfl, rfl, rfl, rfl, rfl, rfl, rfl, rfl, rfl, rfl, rfl, rfl, rfl, rfl, rfl, rfl, rfl, rfl, rfl, rfl, rfl, rfl, rfl, rfl, rfl, rfl, rfl, rfl, rfl, rfl, rfl, rfl, rfl, rfl, rfl, rfl, rfl, rfl, rfl, rfl, rfl, rfl, rfl, rfl, rfl, rfl, rfl, rfl, rfl, rfl, rfl, rfl, rfl, rfl, rfl, rfl, rfl, rfl, rfl, rfl, rfl, rfl, rfl, rfl, rfl, rfl, rfl, rfl, rfl, rfl, rfl, rfl, rfl, rfl, rfl, rfl, rfl, rfl, rfl, rfl, rfl, rfl, rfl, rfl, rfl, rfl, rfl, rfl, rfl, rfl, rfl, rfl, rfl, rfl, rfl, rfl, rfl, rfl, rfl, rfl, rfl, rfl, rfl, rfl, rfl, rfl, rfl, rfl, rfl, rfl, rfl, rfl, rfl, rfl, rfl, rfl, rfl, rfl, rfl, rfl, rfl, rfl, rfl, rfl, rfl, rfl, rfl, rfl, rfl, rfl, rfl, rfl, rfl, rfl, rfl, rfl, rfl, rfl, rfl, rfl, rfl, rfl, rfl, rfl, rfl, rfl, rfl, rfl, rfl, rfl, rfl, rfl, rfl, rfl, rfl, rfl, rfl, rfl, rfl, rfl, rfl, rfl, rfl, rfl, rfl, rfl, rfl, rfl, rfl, rfl, rfl, rfl, rfl, rfl, rfl, rfl, rfl, rfl, rfl, rfl, rfl, rfl, rfl, rfl, rfl, rfl, rfl, rfl, rfl, rfl, rfl, rfl, rfl, rfl, rfl, rfl, rfl, rfl, rfl, rfl, rfl, rfl, rfl, rfl, rfl, rfl, rfl, rfl, rfl⟩
theorem en_M_does {l : Launch} {d : Nat} (n : Nat) {as : List am_V} {G : am_G} {I : am_I} {J : am_J} {P : am_P} (hlen : (as.map am_cat).sum ≤ 9) (h : am_go (am_lk (co_M_does l d)) (am_X l (0, fun _ => 0) (d + 1) y_M_does P) P n 0 (am_el 9 as) [] 0 0 G I J) : am_T l (d + 1) y_M_does as G I J P :=
  am_T_of (sc := (0, fun _ => 0)) cf_M_does (by decide +kernel) (by decide) (by decide +kernel) hlen (am_run (ok_lk _ (ck_M_does)) n _ _ _ _ _ _ _ _ h)
theorem rn_M_does {l : Launch} {sc : Nat × (Nat → Int32)} {d : Nat} {P : am_P} (n : Nat) {pc : Nat} {ls : am_L} {st : List am_V} {kc ks : Nat} {G : am_G} {I : am_I} {J : am_J} (h : am_go (am_lk (co_M_does l d)) (am_X l sc (d + 1) y_M_does P) P n pc ls st kc ks G I J) : am_X l sc (d + 1) y_M_does P pc ls st kc ks G I J := am_run (ok_lk _ (ck_M_does)) n _ _ _ _ _ _ _ _ h
def co_M_runScript (l : Launch) (d : Nat) : List (Nat × am_S) := [(0, am_iload 1 1), (1, am_i2l 2), (2, am_push (vL 1) 3), (3, am_push (vL 3) 6), (6, am_cal l d y_M_in none 3 9 0 0 0 0), (9, am_istore 4 11), (11, am_aload 0 12), (12, am_iload 4 14), (14, am_if_eq 17 46), (17, am_lload 2 18), (18, am_push (vL 0) 19), (19, am_iload 4 21), (21, am_if_eq 24 30), (24, am_push (vI 5) 25), (25, am_iload 1 26), (26, am_imul 27), (27, am_goto 31), (30, am_push (vI 0) 31), (31, am_cal l d y_M_tenTo none 1 34 0 0 0 0), (34, am_push (vL 1) 35), (35, am_lsub 36), (36, am_cal l d y_M_in none 3 39 0 0 0 0), (39, am_if_eq 42 46), (42, am_push (vI 0) 43), (43, am_goto 47), (46, am_push (vI 1) 47), (47, am_cal l d y_M_refused (some 9) 2 50 0 0 0 0), (50, am_if_eq 53 55), (53, am_push (vI 0) 54), (54, am_iret false), (55, am_aload 0 56), (56, am_cal l d y_M_begin (some 9) 1 59 0 0 0 0), (59, am_push (vI 0) 60), (60, am_stp (am_istore 5 62)), (62, am_iload 5 64), (64, am_iload 1 65), (65, am_icmp_ge 68 102), (68, am_aload 0 69), (69, am_lload 2 70), (70, am_push (vI 5) 71), (71, am_iload 1 72), (72, am_push (vI 1) 73), (73, am_isub 74), (74, am_iload 5 76), (76, am_isub 77), (77, am_imul 78), (78, am_cal l d y_M_tenTo none 1 81 0 0 0 0), (81, am_ldiv 82), (82, am_push (vL 100000) 85), (85, am_lrem 86), (86, am_l2i 87), (87, am_cal l d y_M_does (some 9) 2 90 0 0 0 0), (90, am_if_ne 93 96), (93, am_iload 5 95), (95, am_iret false), (96, am_iinc 5 1 99), (99, am_stp (am_goto 62)), (102, am_push (vI (-999999)) 104), (104, am_iret false)]
theorem ck_M_runScript {l : Launch} {sc : Nat × (Nat → Int32)} {d : Nat} : ∀ q ∈ co_M_runScript l d, am_ok l sc (d + 1) y_M_runScript q.1 q.2 :=
  fa_cons (ok_iload_n (show decode (am_mB y_M_runScript) 0 = .ok (.iload_n 1, 1) by decide +kernel) rfl) <|
  fa_cons (ok_i2l (show decode (am_mB y_M_runScript) 1 = .ok (.i2l, 1) by decide +kernel)) <|
  fa_cons (ok_lconst (show decode (am_mB y_M_runScript) 2 = .ok (.lconst 1, 1) by decide +kernel) rfl) <|
  fa_cons (ok_ldc2 (show decode (am_mB y_M_runScript) 3 = .ok (.ldc2_w 199, 3) by decide +kernel) w_1175) <|
  fa_cons (ok_cal ⟨rfl, rfl, rfl, rfl⟩ (ok_callS (show decode (am_mB y_M_runScript) 6 = .ok (.invokestatic 113, 3) by decide +kernel) cf_M_in (by decide +kernel) ml_M_113 cs_M_in rfl ⟨by decide +kernel, rfl⟩)) <|
  fa_cons (ok_istore (show decode (am_mB y_M_runScript) 9 = .ok (.istore 4, 2) by decide +kernel) (by decide +kernel)) <|
  fa_cons (ok_aload_n (show decode (am_mB y_M_runScript) 11 = .ok (.aload_n 0, 1) by decide +kernel) rfl) <|
  fa_cons (ok_iload (show decode (am_mB y_M_runScript) 12 = .ok (.iload 4, 2) by decide +kernel)) <|
  fa_cons (ok_if_eq (show decode (am_mB y_M_runScript) 14 = .ok (.ifCond .eq 32, 3) by decide +kernel) (by decide)) <|
  fa_cons (ok_lload_n (show decode (am_mB y_M_runScript) 17 = .ok (.lload_n 2, 1) by decide +kernel) rfl) <|
  fa_cons (ok_lconst (show decode (am_mB y_M_runScript) 18 = .ok (.lconst 0, 1) by decide +kernel) rfl) <|
  fa_cons (ok_iload (show decode (am_mB y_M_runScript) 19 = .ok (.iload 4, 2) by decide +kernel)) <|
  fa_cons (ok_if_eq (show decode (am_mB y_M_runScript) 21 = .ok (.ifCond .eq 9, 3) by decide +kernel) (by decide)) <|
  fa_cons (ok_iconst (show decode (am_mB y_M_runScript) 24 = .ok (.iconst 5, 1) by decide +kernel) rfl) <|
  fa_cons (ok_iload_n (show decode (am_mB y_M_runScript) 25 = .ok (.iload_n 1, 1) by decide +kernel) rfl) <|
  fa_cons (ok_imul (show decode (am_mB y_M_runScript) 26 = .ok (.imul, 1) by decide +kernel)) <|
  fa_cons (ok_goto (show decode (am_mB y_M_runScript) 27 = .ok (.goto 4, 3) by decide +kernel) (by decide)) <|
  fa_cons (ok_iconst (show decode (am_mB y_M_runScript) 30 = .ok (.iconst 0, 1) by decide +kernel) rfl) <|
  fa_cons (ok_cal ⟨rfl, rfl, rfl, rfl⟩ (ok_callS (show decode (am_mB y_M_runScript) 31 = .ok (.invokestatic 236, 3) by decide +kernel) cf_M_tenTo (by decide +kernel) ml_M_236 cs_M_tenTo rfl ⟨by decide +kernel, rfl⟩)) <|
  fa_cons (ok_lconst (show decode (am_mB y_M_runScript) 34 = .ok (.lconst 1, 1) by decide +kernel) rfl) <|
  fa_cons (ok_lsub (show decode (am_mB y_M_runScript) 35 = .ok (.lsub, 1) by decide +kernel)) <|
  fa_cons (ok_cal ⟨rfl, rfl, rfl, rfl⟩ (ok_callS (show decode (am_mB y_M_runScript) 36 = .ok (.invokestatic 113, 3) by decide +kernel) cf_M_in (by decide +kernel) ml_M_113 cs_M_in rfl ⟨by decide +kernel, rfl⟩)) <|
  fa_cons (ok_if_eq (show decode (am_mB y_M_runScript) 39 = .ok (.ifCond .eq 7, 3) by decide +kernel) (by decide)) <|
  fa_cons (ok_iconst (show decode (am_mB y_M_runScript) 42 = .ok (.iconst 0, 1) by decide +kernel) rfl) <|
  fa_cons (ok_goto (show decode (am_mB y_M_runScript) 43 = .ok (.goto 4, 3) by decide +kernel) (by decide)) <|
  fa_cons (ok_iconst (show decode (am_mB y_M_runScript) 46 = .ok (.iconst 1, 1) by decide +kernel) rfl) <|
  fa_cons (ok_cal ⟨rfl, rfl, rfl, rfl⟩ (ok_callV (show decode (am_mB y_M_runScript) 47 = .ok (.invokevirtual 128, 3) by decide +kernel) cf_M_refused (by decide +kernel) ml_M_128 ci_M_refused cv_M_refused ⟨by decide, rfl⟩ rfl ⟨by decide +kernel, rfl⟩)) <|
  fa_cons (ok_if_eq (show decode (am_mB y_M_runScript) 50 = .ok (.ifCond .eq 5, 3) by decide +kernel) (by decide)) <|
  fa_cons (ok_iconst (show decode (am_mB y_M_runScript) 53 = .ok (.iconst 0, 1) by decide +kernel) rfl) <|
  fa_cons (ok_iret (show decode (am_mB y_M_runScript) 54 = .ok (.ireturn, 1) by decide +kernel) rfl) <|
  fa_cons (ok_aload_n (show decode (am_mB y_M_runScript) 55 = .ok (.aload_n 0, 1) by decide +kernel) rfl) <|
  fa_cons (ok_cal ⟨rfl, rfl, rfl, rfl⟩ (ok_callV (show decode (am_mB y_M_runScript) 56 = .ok (.invokevirtual 227, 3) by decide +kernel) cf_M_begin (by decide +kernel) ml_M_227 ci_M_begin cv_M_begin ⟨by decide, rfl⟩ rfl ⟨by decide +kernel, rfl⟩)) <|
  fa_cons (ok_iconst (show decode (am_mB y_M_runScript) 59 = .ok (.iconst 0, 1) by decide +kernel) rfl) <|
  fa_cons (ok_stp (σ := am_istore 5 62) (ok_istore (show decode (am_mB y_M_runScript) 60 = .ok (.istore 5, 2) by decide +kernel) (by decide +kernel))) <|
  fa_cons (ok_iload (show decode (am_mB y_M_runScript) 62 = .ok (.iload 5, 2) by decide +kernel)) <|
  fa_cons (ok_iload_n (show decode (am_mB y_M_runScript) 64 = .ok (.iload_n 1, 1) by decide +kernel) rfl) <|
  fa_cons (ok_icmp_ge (show decode (am_mB y_M_runScript) 65 = .ok (.if_icmp .ge 37, 3) by decide +kernel) (by decide)) <|
  fa_cons (ok_aload_n (show decode (am_mB y_M_runScript) 68 = .ok (.aload_n 0, 1) by decide +kernel) rfl) <|
  fa_cons (ok_lload_n (show decode (am_mB y_M_runScript) 69 = .ok (.lload_n 2, 1) by decide +kernel) rfl) <|
  fa_cons (ok_iconst (show decode (am_mB y_M_runScript) 70 = .ok (.iconst 5, 1) by decide +kernel) rfl) <|
  fa_cons (ok_iload_n (show decode (am_mB y_M_runScript) 71 = .ok (.iload_n 1, 1) by decide +kernel) rfl) <|
  fa_cons (ok_iconst (show decode (am_mB y_M_runScript) 72 = .ok (.iconst 1, 1) by decide +kernel) rfl) <|
  fa_cons (ok_isub (show decode (am_mB y_M_runScript) 73 = .ok (.isub, 1) by decide +kernel)) <|
  fa_cons (ok_iload (show decode (am_mB y_M_runScript) 74 = .ok (.iload 5, 2) by decide +kernel)) <|
  fa_cons (ok_isub (show decode (am_mB y_M_runScript) 76 = .ok (.isub, 1) by decide +kernel)) <|
  fa_cons (ok_imul (show decode (am_mB y_M_runScript) 77 = .ok (.imul, 1) by decide +kernel)) <|
  fa_cons (ok_cal ⟨rfl, rfl, rfl, rfl⟩ (ok_callS (show decode (am_mB y_M_runScript) 78 = .ok (.invokestatic 236, 3) by decide +kernel) cf_M_tenTo (by decide +kernel) ml_M_236 cs_M_tenTo rfl ⟨by decide +kernel, rfl⟩)) <|
  fa_cons (ok_ldiv (show decode (am_mB y_M_runScript) 81 = .ok (.ldiv, 1) by decide +kernel)) <|
  fa_cons (ok_ldc2 (show decode (am_mB y_M_runScript) 82 = .ok (.ldc2_w 240, 3) by decide +kernel) w_1295) <|
  fa_cons (ok_lrem (show decode (am_mB y_M_runScript) 85 = .ok (.lrem, 1) by decide +kernel)) <|
  fa_cons (ok_l2i (show decode (am_mB y_M_runScript) 86 = .ok (.l2i, 1) by decide +kernel)) <|
  fa_cons (ok_cal ⟨rfl, rfl, rfl, rfl⟩ (ok_callV (show decode (am_mB y_M_runScript) 87 = .ok (.invokevirtual 242, 3) by decide +kernel) cf_M_does (by decide +kernel) ml_M_242 ci_M_does cv_M_does ⟨by decide, rfl⟩ rfl ⟨by decide +kernel, rfl⟩)) <|
  fa_cons (ok_if_ne (show decode (am_mB y_M_runScript) 90 = .ok (.ifCond .ne 6, 3) by decide +kernel) (by decide)) <|
  fa_cons (ok_iload (show decode (am_mB y_M_runScript) 93 = .ok (.iload 5, 2) by decide +kernel)) <|
  fa_cons (ok_iret (show decode (am_mB y_M_runScript) 95 = .ok (.ireturn, 1) by decide +kernel) rfl) <|
  fa_cons (ok_iinc (show decode (am_mB y_M_runScript) 96 = .ok (.iinc 5 1, 3) by decide +kernel) (by decide +kernel) (by decide +kernel)) <|
  fa_cons (ok_stp (σ := am_goto 62) (ok_goto (show decode (am_mB y_M_runScript) 99 = .ok (.goto (-37), 3) by decide +kernel) (by decide))) <|
  fa_cons (ok_ldc (show decode (am_mB y_M_runScript) 102 = .ok (.ldc 90, 2) by decide +kernel) w_1057) <|
  fa_cons (ok_iret (show decode (am_mB y_M_runScript) 104 = .ok (.ireturn, 1) by decide +kernel) rfl) <|
  fa_nil
set_option maxRecDepth 100000 in
theorem cq_M_runScript (l : Launch) (d : Nat) : am_lk (co_M_runScript l d) 0 = am_iload 1 1 ∧ am_lk (co_M_runScript l d) 1 = am_i2l 2 ∧ am_lk (co_M_runScript l d) 2 = am_push (vL 1) 3 ∧ am_lk (co_M_runScript l d) 3 = am_push (vL 3) 6 ∧ am_lk (co_M_runScript l d) 6 = am_cal l d y_M_in none 3 9 0 0 0 0 ∧ am_lk (co_M_runScript l d) 9 = am_istore 4 11 ∧ am_lk (co_M_runScript l d) 11 = am_aload 0 12 ∧ am_lk (co_M_runScript l d) 12 = am_iload 4 14 ∧ am_lk (co_M_runScript l d) 14 = am_if_eq 17 46 ∧ am_lk (co_M_runScript l d) 17 = am_lload 2 18 ∧ am_lk (co_M_runScript l d) 18 = am_push (vL 0) 19 ∧ am_lk (co_M_runScript l d) 19 = am_iload 4 21 ∧ am_lk (co_M_runScript l d) 21 = am_if_eq 24 30 ∧ am_lk (co_M_runScript l d) 24 = am_push (vI 5) 25 ∧ am_lk (co_M_runScript l d) 25 = am_iload 1 26 ∧ am_lk (co_M_runScript l d) 26 = am_imul 27 ∧ am_lk (co_M_runScript l d) 27 = am_goto 31 ∧ am_lk (co_M_runScript l d) 30 = am_push (vI 0) 31 ∧ am_lk (co_M_runScript l d) 31 = am_cal l d y_M_tenTo none 1 34 0 0 0 0 ∧ am_lk (co_M_runScript l d) 34 = am_push (vL 1) 35 ∧ am_lk (co_M_runScript l d) 35 = am_lsub 36 ∧ am_lk (co_M_runScript l d) 36 = am_cal l d y_M_in none 3 39 0 0 0 0 ∧ am_lk (co_M_runScript l d) 39 = am_if_eq 42 46 ∧ am_lk (co_M_runScript l d) 42 = am_push (vI 0) 43 ∧ am_lk (co_M_runScript l d) 43 = am_goto 47 ∧ am_lk (co_M_runScript l d) 46 = am_push (vI 1) 47 ∧ am_lk (co_M_runScript l d) 47 = am_cal l d y_M_refused (some 9) 2 50 0 0 0 0 ∧ am_lk (co_M_runScript l d) 50 = am_if_eq 53 55 ∧ am_lk (co_M_runScript l d) 53 = am_push (vI 0) 54 ∧ am_lk (co_M_runScript l d) 54 = am_iret false ∧ am_lk (co_M_runScript l d) 55 = am_aload 0 56 ∧ am_lk (co_M_runScript l d) 56 = am_cal l d y_M_begin (some 9) 1 59 0 0 0 0 ∧ am_lk (co_M_runScript l d) 59 = am_push (vI 0) 60 ∧ am_lk (co_M_runScript l d) 60 = am_stp (am_istore 5 62) ∧ am_lk (co_M_runScript l d) 62 = am_iload 5 64 ∧ am_lk (co_M_runScript l d) 64 = am_iload 1 65 ∧ am_lk (co_M_runScript l d) 65 = am_icmp_ge 68 102 ∧ am_lk (co_M_runScript l d) 68 = am_aload 0 69 ∧ am_lk (co_M_runScript l d) 69 = am_lload 2 70 ∧ am_lk (co_M_runScript l d) 70 = am_push (vI 5) 71 ∧ am_lk (co_M_runScript l d) 71 = am_iload 1 72 ∧ am_lk (co_M_runScript l d) 72 = am_push (vI 1) 73 ∧ am_lk (co_M_runScript l d) 73 = am_isub 74 ∧ am_lk (co_M_runScript l d) 74 = am_iload 5 76 ∧ am_lk (co_M_runScript l d) 76 = am_isub 77 ∧ am_lk (co_M_runScript l d) 77 = am_imul 78 ∧ am_lk (co_M_runScript l d) 78 = am_cal l d y_M_tenTo none 1 81 0 0 0 0 ∧ am_lk (co_M_runScript l d) 81 = am_ldiv 82 ∧ am_lk (co_M_runScript l d) 82 = am_push (vL 100000) 85 ∧ am_lk (co_M_runScript l d) 85 = am_lrem 86 ∧ am_lk (co_M_runScript l d) 86 = am_l2i 87 ∧ am_lk (co_M_runScript l d) 87 = am_cal l d y_M_does (some 9) 2 90 0 0 0 0 ∧ am_lk (co_M_runScript l d) 90 = am_if_ne 93 96 ∧ am_lk (co_M_runScript l d) 93 = am_iload 5 95 ∧ am_lk (co_M_runScript l d) 95 = am_iret false ∧ am_lk (co_M_runScript l d) 96 = am_iinc 5 1 99 ∧ am_lk (co_M_runScript l d) 99 = am_stp (am_goto 62) ∧ am_lk (co_M_runScript l d) 102 = am_push (vI (-999999)) 104 ∧ am_lk (co_M_runScript l d) 104 = am_iret false := ⟨rfl, rfl, rfl, rfl, rfl, rfl, rfl, rfl, rfl, rfl, rfl, rfl, rfl, rfl, rfl, rfl, rfl, rfl, rfl, rfl, rfl, rfl, rfl, rfl, rfl, rfl, rfl, rfl, rfl, rfl, rfl, rfl, rfl, rfl, rfl, rfl, rfl, rfl, rfl, rfl, rfl, rfl, rfl, rfl, rfl, rfl, rfl, rfl, rfl, rfl, rfl, rfl, rfl, rfl, rfl, rfl, rfl, rfl, rfl⟩
theorem en_M_runScript {l : Launch} {d : Nat} (n : Nat) {as : List am_V} {G : am_G} {I : am_I} {J : am_J} {P : am_P} (hlen : (as.map am_cat).sum ≤ 6) (h : am_go (am_lk (co_M_runScript l d)) (am_X l (0, fun _ => 0) (d + 1) y_M_runScript P) P n 0 (am_el 6 as) [] 0 0 G I J) : am_T l (d + 1) y_M_runScript as G I J P :=
  am_T_of (sc := (0, fun _ => 0)) cf_M_runScript (by decide +kernel) (by decide) (by decide +kernel) hlen (am_run (ok_lk _ (ck_M_runScript)) n _ _ _ _ _ _ _ _ h)
theorem rn_M_runScript {l : Launch} {sc : Nat × (Nat → Int32)} {d : Nat} {P : am_P} (n : Nat) {pc : Nat} {ls : am_L} {st : List am_V} {kc ks : Nat} {G : am_G} {I : am_I} {J : am_J} (h : am_go (am_lk (co_M_runScript l d)) (am_X l sc (d + 1) y_M_runScript P) P n pc ls st kc ks G I J) : am_X l sc (d + 1) y_M_runScript P pc ls st kc ks G I J := am_run (ok_lk _ (ck_M_runScript)) n _ _ _ _ _ _ _ _ h
def co_M_round (l : Launch) (d : Nat) : List (Nat × am_S) := [(0, am_aload 0 1), (1, am_getR 9 7 4), (4, am_push (vI 1) 5), (5, am_ald 0 6), (6, am_istore 2 7), (7, am_iload 1 8), (8, am_push (vI 3) 9), (9, am_irem 10), (10, am_if_ne 13 44), (13, am_iload 2 14), (14, am_push (vI 24) 16), (16, am_icmp_ge 19 44), (19, am_aload 0 20), (20, am_getR 9 7 23), (23, am_push (vI 1) 24), (24, am_iload 1 25), (25, am_push (vI 4) 26), (26, am_idiv 27), (27, am_push (vI 6) 29), (29, am_irem 30), (30, am_iadd 31), (31, am_iload 1 32), (32, am_push (vI 32) 34), (34, am_idiv 35), (35, am_push (vI 7) 37), (37, am_irem 38), (38, am_cal l d y_M_addTo none 3 41 0 0 0 0), (41, am_goto 112), (44, am_iload 1 45), (45, am_push (vI 3) 46), (46, am_irem 47), (47, am_push (vI 1) 48), (48, am_icmp_ne 51 88), (51, am_iload 2 52), (52, am_if_le 55 88), (55, am_aload 0 56), (56, am_getR 9 7 59), (59, am_iload 1 60), (60, am_push (vI 4) 61), (61, am_idiv 62), (62, am_iload 2 63), (63, am_irem 64), (64, am_push (vI 2) 65), (65, am_cal l d y_M_cell none 2 68 0 0 0 0), (68, am_push (vI 1) 69), (69, am_aload 0 70), (70, am_getR 9 7 73), (73, am_iload 1 74), (74, am_push (vI 4) 75), (75, am_idiv 76), (76, am_iload 2 77), (77, am_irem 78), (78, am_push (vI 2) 79), (79, am_cal l d y_M_cell none 2 82 0 0 0 0), (82, am_ald 0 83), (83, am_isub 84), (84, am_ast 0 (fun x => x) 85), (85, am_goto 112), (88, am_iload 1 89), (89, am_push (vI 3) 90), (90, am_irem 91), (91, am_push (vI 2) 92), (92, am_icmp_ne 95 112), (95, am_iload 2 96), (96, am_if_le 99 112), (99, am_aload 0 100), (100, am_getR 9 7 103), (103, am_iload 1 104), (104, am_push (vI 4) 105), (105, am_idiv 106), (106, am_iload 2 107), (107, am_irem 108), (108, am_cal l d y_M_dropRow none 2 111 0 0 0 0), (111, am_pop 112), (112, am_vret)]
theorem ck_M_round {l : Launch} {sc : Nat × (Nat → Int32)} {d : Nat} : ∀ q ∈ co_M_round l d, am_ok l sc (d + 1) y_M_round q.1 q.2 :=
  fa_cons (ok_aload_n (show decode (am_mB y_M_round) 0 = .ok (.aload_n 0, 1) by decide +kernel) rfl) <|
  fa_cons (ok_getR (show decode (am_mB y_M_round) 1 = .ok (.getfield 19, 3) by decide +kernel) fl_M_19 (by decide +kernel)) <|
  fa_cons (ok_iconst (show decode (am_mB y_M_round) 4 = .ok (.iconst 1, 1) by decide +kernel) rfl) <|
  fa_cons (ok_iald (show decode (am_mB y_M_round) 5 = .ok (.iaload, 1) by decide +kernel)) <|
  fa_cons (ok_istore_n (show decode (am_mB y_M_round) 6 = .ok (.istore_n 2, 1) by decide +kernel) rfl (by decide +kernel)) <|
  fa_cons (ok_iload_n (show decode (am_mB y_M_round) 7 = .ok (.iload_n 1, 1) by decide +kernel) rfl) <|
  fa_cons (ok_iconst (show decode (am_mB y_M_round) 8 = .ok (.iconst 3, 1) by decide +kernel) rfl) <|
  fa_cons (ok_irem (show decode (am_mB y_M_round) 9 = .ok (.irem, 1) by decide +kernel)) <|
  fa_cons (ok_if_ne (show decode (am_mB y_M_round) 10 = .ok (.ifCond .ne 34, 3) by decide +kernel) (by decide)) <|
  fa_cons (ok_iload_n (show decode (am_mB y_M_round) 13 = .ok (.iload_n 2, 1) by decide +kernel) rfl) <|
  fa_cons (ok_bipush (show decode (am_mB y_M_round) 14 = .ok (.bipush 24, 2) by decide +kernel) (by decide +kernel)) <|
  fa_cons (ok_icmp_ge (show decode (am_mB y_M_round) 16 = .ok (.if_icmp .ge 28, 3) by decide +kernel) (by decide)) <|
  fa_cons (ok_aload_n (show decode (am_mB y_M_round) 19 = .ok (.aload_n 0, 1) by decide +kernel) rfl) <|
  fa_cons (ok_getR (show decode (am_mB y_M_round) 20 = .ok (.getfield 19, 3) by decide +kernel) fl_M_19 (by decide +kernel)) <|
  fa_cons (ok_iconst (show decode (am_mB y_M_round) 23 = .ok (.iconst 1, 1) by decide +kernel) rfl) <|
  fa_cons (ok_iload_n (show decode (am_mB y_M_round) 24 = .ok (.iload_n 1, 1) by decide +kernel) rfl) <|
  fa_cons (ok_iconst (show decode (am_mB y_M_round) 25 = .ok (.iconst 4, 1) by decide +kernel) rfl) <|
  fa_cons (ok_idiv (show decode (am_mB y_M_round) 26 = .ok (.idiv, 1) by decide +kernel)) <|
  fa_cons (ok_bipush (show decode (am_mB y_M_round) 27 = .ok (.bipush 6, 2) by decide +kernel) (by decide +kernel)) <|
  fa_cons (ok_irem (show decode (am_mB y_M_round) 29 = .ok (.irem, 1) by decide +kernel)) <|
  fa_cons (ok_iadd (show decode (am_mB y_M_round) 30 = .ok (.iadd, 1) by decide +kernel)) <|
  fa_cons (ok_iload_n (show decode (am_mB y_M_round) 31 = .ok (.iload_n 1, 1) by decide +kernel) rfl) <|
  fa_cons (ok_bipush (show decode (am_mB y_M_round) 32 = .ok (.bipush 32, 2) by decide +kernel) (by decide +kernel)) <|
  fa_cons (ok_idiv (show decode (am_mB y_M_round) 34 = .ok (.idiv, 1) by decide +kernel)) <|
  fa_cons (ok_bipush (show decode (am_mB y_M_round) 35 = .ok (.bipush 7, 2) by decide +kernel) (by decide +kernel)) <|
  fa_cons (ok_irem (show decode (am_mB y_M_round) 37 = .ok (.irem, 1) by decide +kernel)) <|
  fa_cons (ok_cal ⟨rfl, rfl, rfl, rfl⟩ (ok_callS (show decode (am_mB y_M_round) 38 = .ok (.invokestatic 148, 3) by decide +kernel) cf_M_addTo (by decide +kernel) ml_M_148 cs_M_addTo rfl ⟨by decide +kernel, rfl⟩)) <|
  fa_cons (ok_goto (show decode (am_mB y_M_round) 41 = .ok (.goto 71, 3) by decide +kernel) (by decide)) <|
  fa_cons (ok_iload_n (show decode (am_mB y_M_round) 44 = .ok (.iload_n 1, 1) by decide +kernel) rfl) <|
  fa_cons (ok_iconst (show decode (am_mB y_M_round) 45 = .ok (.iconst 3, 1) by decide +kernel) rfl) <|
  fa_cons (ok_irem (show decode (am_mB y_M_round) 46 = .ok (.irem, 1) by decide +kernel)) <|
  fa_cons (ok_iconst (show decode (am_mB y_M_round) 47 = .ok (.iconst 1, 1) by decide +kernel) rfl) <|
  fa_cons (ok_icmp_ne (show decode (am_mB y_M_round) 48 = .ok (.if_icmp .ne 40, 3) by decide +kernel) (by decide)) <|
  fa_cons (ok_iload_n (show decode (am_mB y_M_round) 51 = .ok (.iload_n 2, 1) by decide +kernel) rfl) <|
  fa_cons (ok_if_le (show decode (am_mB y_M_round) 52 = .ok (.ifCond .le 36, 3) by decide +kernel) (by decide)) <|
  fa_cons (ok_aload_n (show decode (am_mB y_M_round) 55 = .ok (.aload_n 0, 1) by decide +kernel) rfl) <|
  fa_cons (ok_getR (show decode (am_mB y_M_round) 56 = .ok (.getfield 19, 3) by decide +kernel) fl_M_19 (by decide +kernel)) <|
  fa_cons (ok_iload_n (show decode (am_mB y_M_round) 59 = .ok (.iload_n 1, 1) by decide +kernel) rfl) <|
  fa_cons (ok_iconst (show decode (am_mB y_M_round) 60 = .ok (.iconst 4, 1) by decide +kernel) rfl) <|
  fa_cons (ok_idiv (show decode (am_mB y_M_round) 61 = .ok (.idiv, 1) by decide +kernel)) <|
  fa_cons (ok_iload_n (show decode (am_mB y_M_round) 62 = .ok (.iload_n 2, 1) by decide +kernel) rfl) <|
  fa_cons (ok_irem (show decode (am_mB y_M_round) 63 = .ok (.irem, 1) by decide +kernel)) <|
  fa_cons (ok_iconst (show decode (am_mB y_M_round) 64 = .ok (.iconst 2, 1) by decide +kernel) rfl) <|
  fa_cons (ok_cal ⟨rfl, rfl, rfl, rfl⟩ (ok_callS (show decode (am_mB y_M_round) 65 = .ok (.invokestatic 62, 3) by decide +kernel) cf_M_cell (by decide +kernel) ml_M_62 cs_M_cell rfl ⟨by decide +kernel, rfl⟩)) <|
  fa_cons (ok_iconst (show decode (am_mB y_M_round) 68 = .ok (.iconst 1, 1) by decide +kernel) rfl) <|
  fa_cons (ok_aload_n (show decode (am_mB y_M_round) 69 = .ok (.aload_n 0, 1) by decide +kernel) rfl) <|
  fa_cons (ok_getR (show decode (am_mB y_M_round) 70 = .ok (.getfield 19, 3) by decide +kernel) fl_M_19 (by decide +kernel)) <|
  fa_cons (ok_iload_n (show decode (am_mB y_M_round) 73 = .ok (.iload_n 1, 1) by decide +kernel) rfl) <|
  fa_cons (ok_iconst (show decode (am_mB y_M_round) 74 = .ok (.iconst 4, 1) by decide +kernel) rfl) <|
  fa_cons (ok_idiv (show decode (am_mB y_M_round) 75 = .ok (.idiv, 1) by decide +kernel)) <|
  fa_cons (ok_iload_n (show decode (am_mB y_M_round) 76 = .ok (.iload_n 2, 1) by decide +kernel) rfl) <|
  fa_cons (ok_irem (show decode (am_mB y_M_round) 77 = .ok (.irem, 1) by decide +kernel)) <|
  fa_cons (ok_iconst (show decode (am_mB y_M_round) 78 = .ok (.iconst 2, 1) by decide +kernel) rfl) <|
  fa_cons (ok_cal ⟨rfl, rfl, rfl, rfl⟩ (ok_callS (show decode (am_mB y_M_round) 79 = .ok (.invokestatic 62, 3) by decide +kernel) cf_M_cell (by decide +kernel) ml_M_62 cs_M_cell rfl ⟨by decide +kernel, rfl⟩)) <|
  fa_cons (ok_iald (show decode (am_mB y_M_round) 82 = .ok (.iaload, 1) by decide +kernel)) <|
  fa_cons (ok_isub (show decode (am_mB y_M_round) 83 = .ok (.isub, 1) by decide +kernel)) <|
  fa_cons (ok_iast (show decode (am_mB y_M_round) 84 = .ok (.iastore, 1) by decide +kernel)) <|
  fa_cons (ok_goto (show decode (am_mB y_M_round) 85 = .ok (.goto 27, 3) by decide +kernel) (by decide)) <|
  fa_cons (ok_iload_n (show decode (am_mB y_M_round) 88 = .ok (.iload_n 1, 1) by decide +kernel) rfl) <|
  fa_cons (ok_iconst (show decode (am_mB y_M_round) 89 = .ok (.iconst 3, 1) by decide +kernel) rfl) <|
  fa_cons (ok_irem (show decode (am_mB y_M_round) 90 = .ok (.irem, 1) by decide +kernel)) <|
  fa_cons (ok_iconst (show decode (am_mB y_M_round) 91 = .ok (.iconst 2, 1) by decide +kernel) rfl) <|
  fa_cons (ok_icmp_ne (show decode (am_mB y_M_round) 92 = .ok (.if_icmp .ne 20, 3) by decide +kernel) (by decide)) <|
  fa_cons (ok_iload_n (show decode (am_mB y_M_round) 95 = .ok (.iload_n 2, 1) by decide +kernel) rfl) <|
  fa_cons (ok_if_le (show decode (am_mB y_M_round) 96 = .ok (.ifCond .le 16, 3) by decide +kernel) (by decide)) <|
  fa_cons (ok_aload_n (show decode (am_mB y_M_round) 99 = .ok (.aload_n 0, 1) by decide +kernel) rfl) <|
  fa_cons (ok_getR (show decode (am_mB y_M_round) 100 = .ok (.getfield 19, 3) by decide +kernel) fl_M_19 (by decide +kernel)) <|
  fa_cons (ok_iload_n (show decode (am_mB y_M_round) 103 = .ok (.iload_n 1, 1) by decide +kernel) rfl) <|
  fa_cons (ok_iconst (show decode (am_mB y_M_round) 104 = .ok (.iconst 4, 1) by decide +kernel) rfl) <|
  fa_cons (ok_idiv (show decode (am_mB y_M_round) 105 = .ok (.idiv, 1) by decide +kernel)) <|
  fa_cons (ok_iload_n (show decode (am_mB y_M_round) 106 = .ok (.iload_n 2, 1) by decide +kernel) rfl) <|
  fa_cons (ok_irem (show decode (am_mB y_M_round) 107 = .ok (.irem, 1) by decide +kernel)) <|
  fa_cons (ok_cal ⟨rfl, rfl, rfl, rfl⟩ (ok_callS (show decode (am_mB y_M_round) 108 = .ok (.invokestatic 219, 3) by decide +kernel) cf_M_dropRow (by decide +kernel) ml_M_219 cs_M_dropRow rfl ⟨by decide +kernel, rfl⟩)) <|
  fa_cons (ok_pop (show decode (am_mB y_M_round) 111 = .ok (.pop, 1) by decide +kernel)) <|
  fa_cons (ok_vret (show decode (am_mB y_M_round) 112 = .ok (.return_, 1) by decide +kernel) rfl (by decide +kernel)) <|
  fa_nil
set_option maxRecDepth 100000 in
theorem cq_M_round (l : Launch) (d : Nat) : am_lk (co_M_round l d) 0 = am_aload 0 1 ∧ am_lk (co_M_round l d) 1 = am_getR 9 7 4 ∧ am_lk (co_M_round l d) 4 = am_push (vI 1) 5 ∧ am_lk (co_M_round l d) 5 = am_ald 0 6 ∧ am_lk (co_M_round l d) 6 = am_istore 2 7 ∧ am_lk (co_M_round l d) 7 = am_iload 1 8 ∧ am_lk (co_M_round l d) 8 = am_push (vI 3) 9 ∧ am_lk (co_M_round l d) 9 = am_irem 10 ∧ am_lk (co_M_round l d) 10 = am_if_ne 13 44 ∧ am_lk (co_M_round l d) 13 = am_iload 2 14 ∧ am_lk (co_M_round l d) 14 = am_push (vI 24) 16 ∧ am_lk (co_M_round l d) 16 = am_icmp_ge 19 44 ∧ am_lk (co_M_round l d) 19 = am_aload 0 20 ∧ am_lk (co_M_round l d) 20 = am_getR 9 7 23 ∧ am_lk (co_M_round l d) 23 = am_push (vI 1) 24 ∧ am_lk (co_M_round l d) 24 = am_iload 1 25 ∧ am_lk (co_M_round l d) 25 = am_push (vI 4) 26 ∧ am_lk (co_M_round l d) 26 = am_idiv 27 ∧ am_lk (co_M_round l d) 27 = am_push (vI 6) 29 ∧ am_lk (co_M_round l d) 29 = am_irem 30 ∧ am_lk (co_M_round l d) 30 = am_iadd 31 ∧ am_lk (co_M_round l d) 31 = am_iload 1 32 ∧ am_lk (co_M_round l d) 32 = am_push (vI 32) 34 ∧ am_lk (co_M_round l d) 34 = am_idiv 35 ∧ am_lk (co_M_round l d) 35 = am_push (vI 7) 37 ∧ am_lk (co_M_round l d) 37 = am_irem 38 ∧ am_lk (co_M_round l d) 38 = am_cal l d y_M_addTo none 3 41 0 0 0 0 ∧ am_lk (co_M_round l d) 41 = am_goto 112 ∧ am_lk (co_M_round l d) 44 = am_iload 1 45 ∧ am_lk (co_M_round l d) 45 = am_push (vI 3) 46 ∧ am_lk (co_M_round l d) 46 = am_irem 47 ∧ am_lk (co_M_round l d) 47 = am_push (vI 1) 48 ∧ am_lk (co_M_round l d) 48 = am_icmp_ne 51 88 ∧ am_lk (co_M_round l d) 51 = am_iload 2 52 ∧ am_lk (co_M_round l d) 52 = am_if_le 55 88 ∧ am_lk (co_M_round l d) 55 = am_aload 0 56 ∧ am_lk (co_M_round l d) 56 = am_getR 9 7 59 ∧ am_lk (co_M_round l d) 59 = am_iload 1 60 ∧ am_lk (co_M_round l d) 60 = am_push (vI 4) 61 ∧ am_lk (co_M_round l d) 61 = am_idiv 62 ∧ am_lk (co_M_round l d) 62 = am_iload 2 63 ∧ am_lk (co_M_round l d) 63 = am_irem 64 ∧ am_lk (co_M_round l d) 64 = am_push (vI 2) 65 ∧ am_lk (co_M_round l d) 65 = am_cal l d y_M_cell none 2 68 0 0 0 0 ∧ am_lk (co_M_round l d) 68 = am_push (vI 1) 69 ∧ am_lk (co_M_round l d) 69 = am_aload 0 70 ∧ am_lk (co_M_round l d) 70 = am_getR 9 7 73 ∧ am_lk (co_M_round l d) 73 = am_iload 1 74 ∧ am_lk (co_M_round l d) 74 = am_push (vI 4) 75 ∧ am_lk (co_M_round l d) 75 = am_idiv 76 ∧ am_lk (co_M_round l d) 76 = am_iload 2 77 ∧ am_lk (co_M_round l d) 77 = am_irem 78 ∧ am_lk (co_M_round l d) 78 = am_push (vI 2) 79 ∧ am_lk (co_M_round l d) 79 = am_cal l d y_M_cell none 2 82 0 0 0 0 ∧ am_lk (co_M_round l d) 82 = am_ald 0 83 ∧ am_lk (co_M_round l d) 83 = am_isub 84 ∧ am_lk (co_M_round l d) 84 = am_ast 0 (fun x => x) 85 ∧ am_lk (co_M_round l d) 85 = am_goto 112 ∧ am_lk (co_M_round l d) 88 = am_iload 1 89 ∧ am_lk (co_M_round l d) 89 = am_push (vI 3) 90 ∧ am_lk (co_M_round l d) 90 = am_irem 91 ∧ am_lk (co_M_round l d) 91 = am_push (vI 2) 92 ∧ am_lk (co_M_round l d) 92 = am_icmp_ne 95 112 ∧ am_lk (co_M_round l d) 95 = am_iload 2 96 ∧ am_lk (co_M_round l d) 96 = am_if_le 99 112 ∧ am_lk (co_M_round l d) 99 = am_aload 0 100 ∧ am_lk (co_M_round l d) 100 = am_getR 9 7 103 ∧ am_lk (co_M_round l d) 103 = am_iload 1 104 ∧ am_lk (co_M_round l d) 104 = am_push (vI 4) 105 ∧ am_lk (co_M_round l d) 105 = am_idiv 106 ∧ am_lk (co_M_round l d) 106 = am_iload 2 107 ∧ am_lk (co_M_round l d) 107 = am_irem 108 ∧ am_lk (co_M_round l d) 108 = am_cal l d y_M_dropRow none 2 111 0 0 0 0 ∧ am_lk (co_M_round l d) 111 = am_pop 112 ∧ am_lk (co_M_round l d) 112 = am_vret := ⟨rfl, rfl, rfl, rfl, rfl, rfl, rfl, rfl, rfl, rfl, rfl, rfl, rfl, rfl, rfl, rfl, rfl, rfl, rfl, rfl, rfl, rfl, rfl, rfl, rfl, rfl, rfl, rfl, rfl, rfl, rfl, rfl, rfl, rfl, rfl, rfl, rfl, rfl, rfl, rfl, rfl, rfl, rfl, rfl, rfl, rfl, rfl, rfl, rfl, rfl, rfl, rfl, rfl, rfl, rfl, rfl, rfl, rfl, rfl, rfl, rfl, rfl, rfl, rfl, rfl, rfl, rfl, rfl, rfl, rfl, rfl, rfl, rfl, rfl, rfl⟩
theorem en_M_round {l : Launch} {d : Nat} (n : Nat) {as : List am_V} {G : am_G} {I : am_I} {J : am_J} {P : am_P} (hlen : (as.map am_cat).sum ≤ 3) (h : am_go (am_lk (co_M_round l d)) (am_X l (0, fun _ => 0) (d + 1) y_M_round P) P n 0 (am_el 3 as) [] 0 0 G I J) : am_T l (d + 1) y_M_round as G I J P :=
  am_T_of (sc := (0, fun _ => 0)) cf_M_round (by decide +kernel) (by decide) (by decide +kernel) hlen (am_run (ok_lk _ (ck_M_round)) n _ _ _ _ _ _ _ _ h)
theorem rn_M_round {l : Launch} {sc : Nat × (Nat → Int32)} {d : Nat} {P : am_P} (n : Nat) {pc : Nat} {ls : am_L} {st : List am_V} {kc ks : Nat} {G : am_G} {I : am_I} {J : am_J} (h : am_go (am_lk (co_M_round l d)) (am_X l sc (d + 1) y_M_round P) P n pc ls st kc ks G I J) : am_X l sc (d + 1) y_M_round P pc ls st kc ks G I J := am_run (ok_lk _ (ck_M_round)) n _ _ _ _ _ _ _ _ h
def co_M_simulate (l : Launch) (d : Nat) : List (Nat × am_S) := [(0, am_aload 0 1), (1, am_iload 3 2), (2, am_i2l 3), (3, am_push (vL 1) 4), (4, am_push (vL 99) 7), (7, am_cal l d y_M_in none 3 10 0 0 0 0), (10, am_if_eq 13 17), (13, am_push (vI 0) 14), (14, am_goto 18), (17, am_push (vI 1) 18), (18, am_cal l d y_M_refused (some 9) 2 21 0 0 0 0), (21, am_if_eq 24 26), (24, am_push (vI 0) 25), (25, am_iret false), (26, am_aload 0 27), (27, am_cal l d y_M_begin (some 9) 1 30 0 0 0 0), (30, am_lload 1 31), (31, am_lstore 4 33), (33, am_push (vI 0) 34), (34, am_stp (am_istore 6 36)), (36, am_iload 6 38), (38, am_iload 3 39), (39, am_icmp_ge 42 70), (42, am_lload 4 44), (44, am_push (vL 6364136223846793005) 47), (47, am_lmul 48), (48, am_push (vL 1442695040888963407) 51), (51, am_ladd 52), (52, am_lstore 4 54), (54, am_aload 0 55), (55, am_lload 4 57), (57, am_push (vI 33) 59), (59, am_lushr 60), (60, am_l2i 61), (61, am_cal l d y_M_round (some 9) 2 64 0 0 0 0), (64, am_iinc 6 1 67), (67, am_stp (am_goto 36)), (70, am_aload 0 71), (71, am_aload 0 72), (72, am_getR 9 7 75), (75, am_cal l d y_M_lay (some 9) 2 78 0 0 0 0), (78, am_istore 6 80), (80, am_aload 0 81), (81, am_aload 0 82), (82, am_getR 9 7 85), (85, am_cal l d y_M_overfull (some 9) 2 88 0 0 0 0), (88, am_istore 7 90), (90, am_push (vI 1000) 93), (93, am_iload 6 95), (95, am_imul 96), (96, am_push (vI 100) 98), (98, am_iload 7 100), (100, am_push (vI 9) 102), (102, am_icmp_le 105 110), (105, am_push (vI 9) 107), (107, am_goto 112), (110, am_iload 7 112), (112, am_imul 113), (113, am_iadd 114), (114, am_aload 0 115), (115, am_getR 9 7 118), (118, am_push (vI 1) 119), (119, am_ald 0 120), (120, am_iadd 121), (121, am_iret false)]
theorem ck_M_simulate {l : Launch} {sc : Nat × (Nat → Int32)} {d : Nat} : ∀ q ∈ co_M_simulate l d, am_ok l sc (d + 1) y_M_simulate q.1 q.2 :=
  fa_cons (ok_aload_n (show decode (am_mB y_M_simulate) 0 = .ok (.aload_n 0, 1) by decide +kernel) rfl) <|
  fa_cons (ok_iload_n (show decode (am_mB y_M_simulate) 1 = .ok (.iload_n 3, 1) by decide +kernel) rfl) <|
  fa_cons (ok_i2l (show decode (am_mB y_M_simulate) 2 = .ok (.i2l, 1) by decide +kernel)) <|
  fa_cons (ok_lconst (show decode (am_mB y_M_simulate) 3 = .ok (.lconst 1, 1) by decide +kernel) rfl) <|
  fa_cons (ok_ldc2 (show decode (am_mB y_M_simulate) 4 = .ok (.ldc2_w 217, 3) by decide +kernel) w_1218) <|
  fa_cons (ok_cal ⟨rfl, rfl, rfl, rfl⟩ (ok_callS (show decode (am_mB y_M_simulate) 7 = .ok (.invokestatic 113, 3) by decide +kernel) cf_M_in (by decide +kernel) ml_M_113 cs_M_in rfl ⟨by decide +kernel, rfl⟩)) <|
  fa_cons (ok_if_eq (show decode (am_mB y_M_simulate) 10 = .ok (.ifCond .eq 7, 3) by decide +kernel) (by decide)) <|
  fa_cons (ok_iconst (show decode (am_mB y_M_simulate) 13 = .ok (.iconst 0, 1) by decide +kernel) rfl) <|
  fa_cons (ok_goto (show decode (am_mB y_M_simulate) 14 = .ok (.goto 4, 3) by decide +kernel) (by decide)) <|
  fa_cons (ok_iconst (show decode (am_mB y_M_simulate) 17 = .ok (.iconst 1, 1) by decide +kernel) rfl) <|
  fa_cons (ok_cal ⟨rfl, rfl, rfl, rfl⟩ (ok_callV (show decode (am_mB y_M_simulate) 18 = .ok (.invokevirtual 128, 3) by decide +kernel) cf_M_refused (by decide +kernel) ml_M_128 ci_M_refused cv_M_refused ⟨by decide, rfl⟩ rfl ⟨by decide +kernel, rfl⟩)) <|
  fa_cons (ok_if_eq (show decode (am_mB y_M_simulate) 21 = .ok (.ifCond .eq 5, 3) by decide +kernel) (by decide)) <|
  fa_cons (ok_iconst (show decode (am_mB y_M_simulate) 24 = .ok (.iconst 0, 1) by decide +kernel) rfl) <|
  fa_cons (ok_iret (show decode (am_mB y_M_simulate) 25 = .ok (.ireturn, 1) by decide +kernel) rfl) <|
  fa_cons (ok_aload_n (show decode (am_mB y_M_simulate) 26 = .ok (.aload_n 0, 1) by decide +kernel) rfl) <|
  fa_cons (ok_cal ⟨rfl, rfl, rfl, rfl⟩ (ok_callV (show decode (am_mB y_M_simulate) 27 = .ok (.invokevirtual 227, 3) by decide +kernel) cf_M_begin (by decide +kernel) ml_M_227 ci_M_begin cv_M_begin ⟨by decide, rfl⟩ rfl ⟨by decide +kernel, rfl⟩)) <|
  fa_cons (ok_lload_n (show decode (am_mB y_M_simulate) 30 = .ok (.lload_n 1, 1) by decide +kernel) rfl) <|
  fa_cons (ok_lstore (show decode (am_mB y_M_simulate) 31 = .ok (.lstore 4, 2) by decide +kernel) (by decide +kernel)) <|
  fa_cons (ok_iconst (show decode (am_mB y_M_simulate) 33 = .ok (.iconst 0, 1) by decide +kernel) rfl) <|
  fa_cons (ok_stp (σ := am_istore 6 36) (ok_istore (show decode (am_mB y_M_simulate) 34 = .ok (.istore 6, 2) by decide +kernel) (by decide +kernel))) <|
  fa_cons (ok_iload (show decode (am_mB y_M_simulate) 36 = .ok (.iload 6, 2) by decide +kernel)) <|
  fa_cons (ok_iload_n (show decode (am_mB y_M_simulate) 38 = .ok (.iload_n 3, 1) by decide +kernel) rfl) <|
  fa_cons (ok_icmp_ge (show decode (am_mB y_M_simulate) 39 = .ok (.if_icmp .ge 31, 3) by decide +kernel) (by decide)) <|
  fa_cons (ok_lload (show decode (am_mB y_M_simulate) 42 = .ok (.lload 4, 2) by decide +kernel)) <|
  fa_cons (ok_ldc2 (show decode (am_mB y_M_simulate) 44 = .ok (.ldc2_w 245, 3) by decide +kernel) w_1304) <|
  fa_cons (ok_lmul (show decode (am_mB y_M_simulate) 47 = .ok (.lmul, 1) by decide +kernel)) <|
  fa_cons (ok_ldc2 (show decode (am_mB y_M_simulate) 48 = .ok (.ldc2_w 247, 3) by decide +kernel) w_1305) <|
  fa_cons (ok_ladd (show decode (am_mB y_M_simulate) 51 = .ok (.ladd, 1) by decide +kernel)) <|
  fa_cons (ok_lstore (show decode (am_mB y_M_simulate) 52 = .ok (.lstore 4, 2) by decide +kernel) (by decide +kernel)) <|
  fa_cons (ok_aload_n (show decode (am_mB y_M_simulate) 54 = .ok (.aload_n 0, 1) by decide +kernel) rfl) <|
  fa_cons (ok_lload (show decode (am_mB y_M_simulate) 55 = .ok (.lload 4, 2) by decide +kernel)) <|
  fa_cons (ok_bipush (show decode (am_mB y_M_simulate) 57 = .ok (.bipush 33, 2) by decide +kernel) (by decide +kernel)) <|
  fa_cons (ok_lushr (show decode (am_mB y_M_simulate) 59 = .ok (.lushr, 1) by decide +kernel)) <|
  fa_cons (ok_l2i (show decode (am_mB y_M_simulate) 60 = .ok (.l2i, 1) by decide +kernel)) <|
  fa_cons (ok_cal ⟨rfl, rfl, rfl, rfl⟩ (ok_callV (show decode (am_mB y_M_simulate) 61 = .ok (.invokevirtual 249, 3) by decide +kernel) cf_M_round (by decide +kernel) ml_M_249 ci_M_round cv_M_round ⟨by decide, rfl⟩ rfl ⟨by decide +kernel, rfl⟩)) <|
  fa_cons (ok_iinc (show decode (am_mB y_M_simulate) 64 = .ok (.iinc 6 1, 3) by decide +kernel) (by decide +kernel) (by decide +kernel)) <|
  fa_cons (ok_stp (σ := am_goto 36) (ok_goto (show decode (am_mB y_M_simulate) 67 = .ok (.goto (-31), 3) by decide +kernel) (by decide))) <|
  fa_cons (ok_aload_n (show decode (am_mB y_M_simulate) 70 = .ok (.aload_n 0, 1) by decide +kernel) rfl) <|
  fa_cons (ok_aload_n (show decode (am_mB y_M_simulate) 71 = .ok (.aload_n 0, 1) by decide +kernel) rfl) <|
  fa_cons (ok_getR (show decode (am_mB y_M_simulate) 72 = .ok (.getfield 19, 3) by decide +kernel) fl_M_19 (by decide +kernel)) <|
  fa_cons (ok_cal ⟨rfl, rfl, rfl, rfl⟩ (ok_callV (show decode (am_mB y_M_simulate) 75 = .ok (.invokevirtual 178, 3) by decide +kernel) cf_M_lay (by decide +kernel) ml_M_178 ci_M_lay cv_M_lay ⟨by decide, rfl⟩ rfl ⟨by decide +kernel, rfl⟩)) <|
  fa_cons (ok_istore (show decode (am_mB y_M_simulate) 78 = .ok (.istore 6, 2) by decide +kernel) (by decide +kernel)) <|
  fa_cons (ok_aload_n (show decode (am_mB y_M_simulate) 80 = .ok (.aload_n 0, 1) by decide +kernel) rfl) <|
  fa_cons (ok_aload_n (show decode (am_mB y_M_simulate) 81 = .ok (.aload_n 0, 1) by decide +kernel) rfl) <|
  fa_cons (ok_getR (show decode (am_mB y_M_simulate) 82 = .ok (.getfield 19, 3) by decide +kernel) fl_M_19 (by decide +kernel)) <|
  fa_cons (ok_cal ⟨rfl, rfl, rfl, rfl⟩ (ok_callV (show decode (am_mB y_M_simulate) 85 = .ok (.invokevirtual 182, 3) by decide +kernel) cf_M_overfull (by decide +kernel) ml_M_182 ci_M_overfull cv_M_overfull ⟨by decide, rfl⟩ rfl ⟨by decide +kernel, rfl⟩)) <|
  fa_cons (ok_istore (show decode (am_mB y_M_simulate) 88 = .ok (.istore 7, 2) by decide +kernel) (by decide +kernel)) <|
  fa_cons (ok_sipush (show decode (am_mB y_M_simulate) 90 = .ok (.sipush 1000, 3) by decide +kernel) (by decide +kernel)) <|
  fa_cons (ok_iload (show decode (am_mB y_M_simulate) 93 = .ok (.iload 6, 2) by decide +kernel)) <|
  fa_cons (ok_imul (show decode (am_mB y_M_simulate) 95 = .ok (.imul, 1) by decide +kernel)) <|
  fa_cons (ok_bipush (show decode (am_mB y_M_simulate) 96 = .ok (.bipush 100, 2) by decide +kernel) (by decide +kernel)) <|
  fa_cons (ok_iload (show decode (am_mB y_M_simulate) 98 = .ok (.iload 7, 2) by decide +kernel)) <|
  fa_cons (ok_bipush (show decode (am_mB y_M_simulate) 100 = .ok (.bipush 9, 2) by decide +kernel) (by decide +kernel)) <|
  fa_cons (ok_icmp_le (show decode (am_mB y_M_simulate) 102 = .ok (.if_icmp .le 8, 3) by decide +kernel) (by decide)) <|
  fa_cons (ok_bipush (show decode (am_mB y_M_simulate) 105 = .ok (.bipush 9, 2) by decide +kernel) (by decide +kernel)) <|
  fa_cons (ok_goto (show decode (am_mB y_M_simulate) 107 = .ok (.goto 5, 3) by decide +kernel) (by decide)) <|
  fa_cons (ok_iload (show decode (am_mB y_M_simulate) 110 = .ok (.iload 7, 2) by decide +kernel)) <|
  fa_cons (ok_imul (show decode (am_mB y_M_simulate) 112 = .ok (.imul, 1) by decide +kernel)) <|
  fa_cons (ok_iadd (show decode (am_mB y_M_simulate) 113 = .ok (.iadd, 1) by decide +kernel)) <|
  fa_cons (ok_aload_n (show decode (am_mB y_M_simulate) 114 = .ok (.aload_n 0, 1) by decide +kernel) rfl) <|
  fa_cons (ok_getR (show decode (am_mB y_M_simulate) 115 = .ok (.getfield 19, 3) by decide +kernel) fl_M_19 (by decide +kernel)) <|
  fa_cons (ok_iconst (show decode (am_mB y_M_simulate) 118 = .ok (.iconst 1, 1) by decide +kernel) rfl) <|
  fa_cons (ok_iald (show decode (am_mB y_M_simulate) 119 = .ok (.iaload, 1) by decide +kernel)) <|
  fa_cons (ok_iadd (show decode (am_mB y_M_simulate) 120 = .ok (.iadd, 1) by decide +kernel)) <|
  fa_cons (ok_iret (show decode (am_mB y_M_simulate) 121 = .ok (.ireturn, 1) by decide +kernel) rfl) <|
  fa_nil
set_option maxRecDepth 100000 in
theorem cq_M_simulate (l : Launch) (d : Nat) : am_lk (co_M_simulate l d) 0 = am_aload 0 1 ∧ am_lk (co_M_simulate l d) 1 = am_iload 3 2 ∧ am_lk (co_M_simulate l d) 2 = am_i2l 3 ∧ am_lk (co_M_simulate l d) 3 = am_push (vL 1) 4 ∧ am_lk (co_M_simulate l d) 4 = am_push (vL 99) 7 ∧ am_lk (co_M_simulate l d) 7 = am_cal l d y_M_in none 3 10 0 0 0 0 ∧ am_lk (co_M_simulate l d) 10 = am_if_eq 13 17 ∧ am_lk (co_M_simulate l d) 13 = am_push (vI 0) 14 ∧ am_lk (co_M_simulate l d) 14 = am_goto 18 ∧ am_lk (co_M_simulate l d) 17 = am_push (vI 1) 18 ∧ am_lk (co_M_simulate l d) 18 = am_cal l d y_M_refused (some 9) 2 21 0 0 0 0 ∧ am_lk (co_M_simulate l d) 21 = am_if_eq 24 26 ∧ am_lk (co_M_simulate l d) 24 = am_push (vI 0) 25 ∧ am_lk (co_M_simulate l d) 25 = am_iret false ∧ am_lk (co_M_simulate l d) 26 = am_aload 0 27 ∧ am_lk (co_M_simulate l d) 27 = am_cal l d y_M_begin (some 9) 1 30 0 0 0 0 ∧ am_lk (co_M_simulate l d) 30 = am_lload 1 31 ∧ am_lk (co_M_simulate l d) 31 = am_lstore 4 33 ∧ am_lk (co_M_simulate l d) 33 = am_push (vI 0) 34 ∧ am_lk (co_M_simulate l d) 34 = am_stp (am_istore 6 36) ∧ am_lk (co_M_simulate l d) 36 = am_iload 6 38 ∧ am_lk (co_M_simulate l d) 38 = am_iload 3 39 ∧ am_lk (co_M_simulate l d) 39 = am_icmp_ge 42 70 ∧ am_lk (co_M_simulate l d) 42 = am_lload 4 44 ∧ am_lk (co_M_simulate l d) 44 = am_push (vL 6364136223846793005) 47 ∧ am_lk (co_M_simulate l d) 47 = am_lmul 48 ∧ am_lk (co_M_simulate l d) 48 = am_push (vL 1442695040888963407) 51 ∧ am_lk (co_M_simulate l d) 51 = am_ladd 52 ∧ am_lk (co_M_simulate l d) 52 = am_lstore 4 54 ∧ am_lk (co_M_simulate l d) 54 = am_aload 0 55 ∧ am_lk (co_M_simulate l d) 55 = am_lload 4 57 ∧ am_lk (co_M_simulate l d) 57 = am_push (vI 33) 59 ∧ am_lk (co_M_simulate l d) 59 = am_lushr 60 ∧ am_lk (co_M_simulate l d) 60 = am_l2i 61 ∧ am_lk (co_M_simulate l d) 61 = am_cal l d y_M_round (some 9) 2 64 0 0 0 0 ∧ am_lk (co_M_simulate l d) 64 = am_iinc 6 1 67 ∧ am_lk (co_M_simulate l d) 67 = am_stp (am_goto 36) ∧ am_lk (co_M_simulate l d) 70 = am_aload 0 71 ∧ am_lk (co_M_simulate l d) 71 = am_aload 0 72 ∧ am_lk (co_M_simulate l d) 72 = am_getR 9 7 75 ∧ am_lk (co_M_simulate l d) 75 = am_cal l d y_M_lay (some 9) 2 78 0 0 0 0 ∧ am_lk (co_M_simulate l d) 78 = am_istore 6 80 ∧ am_lk (co_M_simulate l d) 80 = am_aload 0 81 ∧ am_lk (co_M_simulate l d) 81 = am_aload 0 82 ∧ am_lk (co_M_simulate l d) 82 = am_getR 9 7 85 ∧ am_lk (co_M_simulate l d) 85 = am_cal l d y_M_overfull (some 9) 2 88 0 0 0 0 ∧ am_lk (co_M_simulate l d) 88 = am_istore 7 90 ∧ am_lk (co_M_simulate l d) 90 = am_push (vI 1000) 93 ∧ am_lk (co_M_simulate l d) 93 = am_iload 6 95 ∧ am_lk (co_M_simulate l d) 95 = am_imul 96 ∧ am_lk (co_M_simulate l d) 96 = am_push (vI 100) 98 ∧ am_lk (co_M_simulate l d) 98 = am_iload 7 100 ∧ am_lk (co_M_simulate l d) 100 = am_push (vI 9) 102 ∧ am_lk (co_M_simulate l d) 102 = am_icmp_le 105 110 ∧ am_lk (co_M_simulate l d) 105 = am_push (vI 9) 107 ∧ am_lk (co_M_simulate l d) 107 = am_goto 112 ∧ am_lk (co_M_simulate l d) 110 = am_iload 7 112 ∧ am_lk (co_M_simulate l d) 112 = am_imul 113 ∧ am_lk (co_M_simulate l d) 113 = am_iadd 114 ∧ am_lk (co_M_simulate l d) 114 = am_aload 0 115 ∧ am_lk (co_M_simulate l d) 115 = am_getR 9 7 118 ∧ am_lk (co_M_simulate l d) 118 = am_push (vI 1) 119 ∧ am_lk (co_M_simulate l d) 119 = am_ald 0 120 ∧ am_lk (co_M_simulate l d) 120 = am_iadd 121 ∧ am_lk (co_M_simulate l d) 121 = am_iret false := ⟨rfl, rfl, rfl, rfl, rfl, rfl, rfl, rfl, rfl, rfl, rfl, rfl, rfl, rfl, rfl, rfl, rfl, rfl, rfl, rfl, rfl, rfl, rfl, rfl, rfl, rfl, rfl, rfl, rfl, rfl, rfl, rfl, rfl, rfl, rfl, rfl, rfl, rfl, rfl, rfl, rfl, rfl, rfl, rfl, rfl, rfl, rfl, rfl, rfl, rfl, rfl, rfl, rfl, rfl, rfl, rfl, rfl, rfl, rfl, rfl, rfl, rfl, rfl, rfl, rfl⟩
theorem en_M_simulate {l : Launch} {d : Nat} (n : Nat) {as : List am_V} {G : am_G} {I : am_I} {J : am_J} {P : am_P} (hlen : (as.map am_cat).sum ≤ 8) (h : am_go (am_lk (co_M_simulate l d)) (am_X l (0, fun _ => 0) (d + 1) y_M_simulate P) P n 0 (am_el 8 as) [] 0 0 G I J) : am_T l (d + 1) y_M_simulate as G I J P :=
  am_T_of (sc := (0, fun _ => 0)) cf_M_simulate (by decide +kernel) (by decide) (by decide +kernel) hlen (am_run (ok_lk _ (ck_M_simulate)) n _ _ _ _ _ _ _ _ h)
theorem rn_M_simulate {l : Launch} {sc : Nat × (Nat → Int32)} {d : Nat} {P : am_P} (n : Nat) {pc : Nat} {ls : am_L} {st : List am_V} {kc ks : Nat} {G : am_G} {I : am_I} {J : am_J} (h : am_go (am_lk (co_M_simulate l d)) (am_X l sc (d + 1) y_M_simulate P) P n pc ls st kc ks G I J) : am_X l sc (d + 1) y_M_simulate P pc ls st kc ks G I J := am_run (ok_lk _ (ck_M_simulate)) n _ _ _ _ _ _ _ _ h
def co_M_save (l : Launch) (d : Nat) : List (Nat × am_S) := [(0, am_aload 0 1), (1, am_iload 1 2), (2, am_i2l 3), (3, am_push (vL 0) 4), (4, am_push (vL 1) 5), (5, am_cal l d y_M_in none 3 8 0 0 0 0), (8, am_if_eq 11 15), (11, am_push (vI 0) 12), (12, am_goto 16), (15, am_push (vI 1) 16), (16, am_cal l d y_M_refused (some 9) 2 19 0 0 0 0), (19, am_if_eq 22 24), (22, am_push (vI 0) 23), (23, am_iret false), (24, am_aload 0 25), (25, am_getR 9 6 28), (28, am_push (vI 0) 29), (29, am_aload 0 30), (30, am_getR 9 10 33), (33, am_push (vI 197) 36), (36, am_iload 1 37), (37, am_imul 38), (38, am_push (vI 197) 41), (41, am_cal l d y_M_copy none 5 44 0 0 0 0), (44, am_aload 0 45), (45, am_getR 9 11 48), (48, am_iload 1 49), (49, am_push (vI 1) 50), (50, am_ast 1 (vp_nar .boolean) 51), (51, am_aload 0 52), (52, am_getR 9 6 55), (55, am_push (vI 1) 56), (56, am_ald 0 57), (57, am_iret false)]
theorem ck_M_save {l : Launch} {sc : Nat × (Nat → Int32)} {d : Nat} : ∀ q ∈ co_M_save l d, am_ok l sc (d + 1) y_M_save q.1 q.2 :=
  fa_cons (ok_aload_n (show decode (am_mB y_M_save) 0 = .ok (.aload_n 0, 1) by decide +kernel) rfl) <|
  fa_cons (ok_iload_n (show decode (am_mB y_M_save) 1 = .ok (.iload_n 1, 1) by decide +kernel) rfl) <|
  fa_cons (ok_i2l (show decode (am_mB y_M_save) 2 = .ok (.i2l, 1) by decide +kernel)) <|
  fa_cons (ok_lconst (show decode (am_mB y_M_save) 3 = .ok (.lconst 0, 1) by decide +kernel) rfl) <|
  fa_cons (ok_lconst (show decode (am_mB y_M_save) 4 = .ok (.lconst 1, 1) by decide +kernel) rfl) <|
  fa_cons (ok_cal ⟨rfl, rfl, rfl, rfl⟩ (ok_callS (show decode (am_mB y_M_save) 5 = .ok (.invokestatic 113, 3) by decide +kernel) cf_M_in (by decide +kernel) ml_M_113 cs_M_in rfl ⟨by decide +kernel, rfl⟩)) <|
  fa_cons (ok_if_eq (show decode (am_mB y_M_save) 8 = .ok (.ifCond .eq 7, 3) by decide +kernel) (by decide)) <|
  fa_cons (ok_iconst (show decode (am_mB y_M_save) 11 = .ok (.iconst 0, 1) by decide +kernel) rfl) <|
  fa_cons (ok_goto (show decode (am_mB y_M_save) 12 = .ok (.goto 4, 3) by decide +kernel) (by decide)) <|
  fa_cons (ok_iconst (show decode (am_mB y_M_save) 15 = .ok (.iconst 1, 1) by decide +kernel) rfl) <|
  fa_cons (ok_cal ⟨rfl, rfl, rfl, rfl⟩ (ok_callV (show decode (am_mB y_M_save) 16 = .ok (.invokevirtual 128, 3) by decide +kernel) cf_M_refused (by decide +kernel) ml_M_128 ci_M_refused cv_M_refused ⟨by decide, rfl⟩ rfl ⟨by decide +kernel, rfl⟩)) <|
  fa_cons (ok_if_eq (show decode (am_mB y_M_save) 19 = .ok (.ifCond .eq 5, 3) by decide +kernel) (by decide)) <|
  fa_cons (ok_iconst (show decode (am_mB y_M_save) 22 = .ok (.iconst 0, 1) by decide +kernel) rfl) <|
  fa_cons (ok_iret (show decode (am_mB y_M_save) 23 = .ok (.ireturn, 1) by decide +kernel) rfl) <|
  fa_cons (ok_aload_n (show decode (am_mB y_M_save) 24 = .ok (.aload_n 0, 1) by decide +kernel) rfl) <|
  fa_cons (ok_getR (show decode (am_mB y_M_save) 25 = .ok (.getfield 16, 3) by decide +kernel) fl_M_16 (by decide +kernel)) <|
  fa_cons (ok_iconst (show decode (am_mB y_M_save) 28 = .ok (.iconst 0, 1) by decide +kernel) rfl) <|
  fa_cons (ok_aload_n (show decode (am_mB y_M_save) 29 = .ok (.aload_n 0, 1) by decide +kernel) rfl) <|
  fa_cons (ok_getR (show decode (am_mB y_M_save) 30 = .ok (.getfield 25, 3) by decide +kernel) fl_M_25 (by decide +kernel)) <|
  fa_cons (ok_sipush (show decode (am_mB y_M_save) 33 = .ok (.sipush 197, 3) by decide +kernel) (by decide +kernel)) <|
  fa_cons (ok_iload_n (show decode (am_mB y_M_save) 36 = .ok (.iload_n 1, 1) by decide +kernel) rfl) <|
  fa_cons (ok_imul (show decode (am_mB y_M_save) 37 = .ok (.imul, 1) by decide +kernel)) <|
  fa_cons (ok_sipush (show decode (am_mB y_M_save) 38 = .ok (.sipush 197, 3) by decide +kernel) (by decide +kernel)) <|
  fa_cons (ok_cal ⟨rfl, rfl, rfl, rfl⟩ (ok_callS (show decode (am_mB y_M_save) 41 = .ok (.invokestatic 54, 3) by decide +kernel) cf_M_copy (by decide +kernel) ml_M_54 cs_M_copy rfl ⟨by decide +kernel, rfl⟩)) <|
  fa_cons (ok_aload_n (show decode (am_mB y_M_save) 44 = .ok (.aload_n 0, 1) by decide +kernel) rfl) <|
  fa_cons (ok_getR (show decode (am_mB y_M_save) 45 = .ok (.getfield 28, 3) by decide +kernel) fl_M_28 (by decide +kernel)) <|
  fa_cons (ok_iload_n (show decode (am_mB y_M_save) 48 = .ok (.iload_n 1, 1) by decide +kernel) rfl) <|
  fa_cons (ok_iconst (show decode (am_mB y_M_save) 49 = .ok (.iconst 1, 1) by decide +kernel) rfl) <|
  fa_cons (ok_zast (show decode (am_mB y_M_save) 50 = .ok (.bastore, 1) by decide +kernel)) <|
  fa_cons (ok_aload_n (show decode (am_mB y_M_save) 51 = .ok (.aload_n 0, 1) by decide +kernel) rfl) <|
  fa_cons (ok_getR (show decode (am_mB y_M_save) 52 = .ok (.getfield 16, 3) by decide +kernel) fl_M_16 (by decide +kernel)) <|
  fa_cons (ok_iconst (show decode (am_mB y_M_save) 55 = .ok (.iconst 1, 1) by decide +kernel) rfl) <|
  fa_cons (ok_iald (show decode (am_mB y_M_save) 56 = .ok (.iaload, 1) by decide +kernel)) <|
  fa_cons (ok_iret (show decode (am_mB y_M_save) 57 = .ok (.ireturn, 1) by decide +kernel) rfl) <|
  fa_nil
set_option maxRecDepth 100000 in
theorem cq_M_save (l : Launch) (d : Nat) : am_lk (co_M_save l d) 0 = am_aload 0 1 ∧ am_lk (co_M_save l d) 1 = am_iload 1 2 ∧ am_lk (co_M_save l d) 2 = am_i2l 3 ∧ am_lk (co_M_save l d) 3 = am_push (vL 0) 4 ∧ am_lk (co_M_save l d) 4 = am_push (vL 1) 5 ∧ am_lk (co_M_save l d) 5 = am_cal l d y_M_in none 3 8 0 0 0 0 ∧ am_lk (co_M_save l d) 8 = am_if_eq 11 15 ∧ am_lk (co_M_save l d) 11 = am_push (vI 0) 12 ∧ am_lk (co_M_save l d) 12 = am_goto 16 ∧ am_lk (co_M_save l d) 15 = am_push (vI 1) 16 ∧ am_lk (co_M_save l d) 16 = am_cal l d y_M_refused (some 9) 2 19 0 0 0 0 ∧ am_lk (co_M_save l d) 19 = am_if_eq 22 24 ∧ am_lk (co_M_save l d) 22 = am_push (vI 0) 23 ∧ am_lk (co_M_save l d) 23 = am_iret false ∧ am_lk (co_M_save l d) 24 = am_aload 0 25 ∧ am_lk (co_M_save l d) 25 = am_getR 9 6 28 ∧ am_lk (co_M_save l d) 28 = am_push (vI 0) 29 ∧ am_lk (co_M_save l d) 29 = am_aload 0 30 ∧ am_lk (co_M_save l d) 30 = am_getR 9 10 33 ∧ am_lk (co_M_save l d) 33 = am_push (vI 197) 36 ∧ am_lk (co_M_save l d) 36 = am_iload 1 37 ∧ am_lk (co_M_save l d) 37 = am_imul 38 ∧ am_lk (co_M_save l d) 38 = am_push (vI 197) 41 ∧ am_lk (co_M_save l d) 41 = am_cal l d y_M_copy none 5 44 0 0 0 0 ∧ am_lk (co_M_save l d) 44 = am_aload 0 45 ∧ am_lk (co_M_save l d) 45 = am_getR 9 11 48 ∧ am_lk (co_M_save l d) 48 = am_iload 1 49 ∧ am_lk (co_M_save l d) 49 = am_push (vI 1) 50 ∧ am_lk (co_M_save l d) 50 = am_ast 1 (vp_nar .boolean) 51 ∧ am_lk (co_M_save l d) 51 = am_aload 0 52 ∧ am_lk (co_M_save l d) 52 = am_getR 9 6 55 ∧ am_lk (co_M_save l d) 55 = am_push (vI 1) 56 ∧ am_lk (co_M_save l d) 56 = am_ald 0 57 ∧ am_lk (co_M_save l d) 57 = am_iret false := ⟨rfl, rfl, rfl, rfl, rfl, rfl, rfl, rfl, rfl, rfl, rfl, rfl, rfl, rfl, rfl, rfl, rfl, rfl, rfl, rfl, rfl, rfl, rfl, rfl, rfl, rfl, rfl, rfl, rfl, rfl, rfl, rfl, rfl, rfl⟩
theorem en_M_save {l : Launch} {d : Nat} (n : Nat) {as : List am_V} {G : am_G} {I : am_I} {J : am_J} {P : am_P} (hlen : (as.map am_cat).sum ≤ 2) (h : am_go (am_lk (co_M_save l d)) (am_X l (0, fun _ => 0) (d + 1) y_M_save P) P n 0 (am_el 2 as) [] 0 0 G I J) : am_T l (d + 1) y_M_save as G I J P :=
  am_T_of (sc := (0, fun _ => 0)) cf_M_save (by decide +kernel) (by decide) (by decide +kernel) hlen (am_run (ok_lk _ (ck_M_save)) n _ _ _ _ _ _ _ _ h)
theorem rn_M_save {l : Launch} {sc : Nat × (Nat → Int32)} {d : Nat} {P : am_P} (n : Nat) {pc : Nat} {ls : am_L} {st : List am_V} {kc ks : Nat} {G : am_G} {I : am_I} {J : am_J} (h : am_go (am_lk (co_M_save l d)) (am_X l sc (d + 1) y_M_save P) P n pc ls st kc ks G I J) : am_X l sc (d + 1) y_M_save P pc ls st kc ks G I J := am_run (ok_lk _ (ck_M_save)) n _ _ _ _ _ _ _ _ h
def co_M_restore (l : Launch) (d : Nat) : List (Nat × am_S) := [(0, am_aload 0 1), (1, am_iload 1 2), (2, am_i2l 3), (3, am_push (vL 0) 4), (4, am_push (vL 1) 5), (5, am_cal l d y_M_in none 3 8 0 0 0 0), (8, am_if_ne 11 15), (11, am_push (vI 1) 12), (12, am_goto 29), (15, am_aload 0 16), (16, am_getR 9 11 19), (19, am_iload 1 20), (20, am_ald 1 21), (21, am_if_eq 24 28), (24, am_push (vI 0) 25), (25, am_goto 29), (28, am_push (vI 2) 29), (29, am_cal l d y_M_refused (some 9) 2 32 0 0 0 0), (32, am_if_eq 35 37), (35, am_push (vI 0) 36), (36, am_iret false), (37, am_aload 0 38), (38, am_getR 9 10 41), (41, am_push (vI 197) 44), (44, am_iload 1 45), (45, am_imul 46), (46, am_aload 0 47), (47, am_getR 9 6 50), (50, am_push (vI 0) 51), (51, am_push (vI 197) 54), (54, am_cal l d y_M_copy none 5 57 0 0 0 0), (57, am_aload 0 58), (58, am_push (vI 0) 59), (59, am_putI 9 9 62), (62, am_aload 0 63), (63, am_getR 9 6 66), (66, am_push (vI 1) 67), (67, am_ald 0 68), (68, am_iret false)]
theorem ck_M_restore {l : Launch} {sc : Nat × (Nat → Int32)} {d : Nat} : ∀ q ∈ co_M_restore l d, am_ok l sc (d + 1) y_M_restore q.1 q.2 :=
  fa_cons (ok_aload_n (show decode (am_mB y_M_restore) 0 = .ok (.aload_n 0, 1) by decide +kernel) rfl) <|
  fa_cons (ok_iload_n (show decode (am_mB y_M_restore) 1 = .ok (.iload_n 1, 1) by decide +kernel) rfl) <|
  fa_cons (ok_i2l (show decode (am_mB y_M_restore) 2 = .ok (.i2l, 1) by decide +kernel)) <|
  fa_cons (ok_lconst (show decode (am_mB y_M_restore) 3 = .ok (.lconst 0, 1) by decide +kernel) rfl) <|
  fa_cons (ok_lconst (show decode (am_mB y_M_restore) 4 = .ok (.lconst 1, 1) by decide +kernel) rfl) <|
  fa_cons (ok_cal ⟨rfl, rfl, rfl, rfl⟩ (ok_callS (show decode (am_mB y_M_restore) 5 = .ok (.invokestatic 113, 3) by decide +kernel) cf_M_in (by decide +kernel) ml_M_113 cs_M_in rfl ⟨by decide +kernel, rfl⟩)) <|
  fa_cons (ok_if_ne (show decode (am_mB y_M_restore) 8 = .ok (.ifCond .ne 7, 3) by decide +kernel) (by decide)) <|
  fa_cons (ok_iconst (show decode (am_mB y_M_restore) 11 = .ok (.iconst 1, 1) by decide +kernel) rfl) <|
  fa_cons (ok_goto (show decode (am_mB y_M_restore) 12 = .ok (.goto 17, 3) by decide +kernel) (by decide)) <|
  fa_cons (ok_aload_n (show decode (am_mB y_M_restore) 15 = .ok (.aload_n 0, 1) by decide +kernel) rfl) <|
  fa_cons (ok_getR (show decode (am_mB y_M_restore) 16 = .ok (.getfield 28, 3) by decide +kernel) fl_M_28 (by decide +kernel)) <|
  fa_cons (ok_iload_n (show decode (am_mB y_M_restore) 19 = .ok (.iload_n 1, 1) by decide +kernel) rfl) <|
  fa_cons (ok_zald (show decode (am_mB y_M_restore) 20 = .ok (.baload, 1) by decide +kernel)) <|
  fa_cons (ok_if_eq (show decode (am_mB y_M_restore) 21 = .ok (.ifCond .eq 7, 3) by decide +kernel) (by decide)) <|
  fa_cons (ok_iconst (show decode (am_mB y_M_restore) 24 = .ok (.iconst 0, 1) by decide +kernel) rfl) <|
  fa_cons (ok_goto (show decode (am_mB y_M_restore) 25 = .ok (.goto 4, 3) by decide +kernel) (by decide)) <|
  fa_cons (ok_iconst (show decode (am_mB y_M_restore) 28 = .ok (.iconst 2, 1) by decide +kernel) rfl) <|
  fa_cons (ok_cal ⟨rfl, rfl, rfl, rfl⟩ (ok_callV (show decode (am_mB y_M_restore) 29 = .ok (.invokevirtual 128, 3) by decide +kernel) cf_M_refused (by decide +kernel) ml_M_128 ci_M_refused cv_M_refused ⟨by decide, rfl⟩ rfl ⟨by decide +kernel, rfl⟩)) <|
  fa_cons (ok_if_eq (show decode (am_mB y_M_restore) 32 = .ok (.ifCond .eq 5, 3) by decide +kernel) (by decide)) <|
  fa_cons (ok_iconst (show decode (am_mB y_M_restore) 35 = .ok (.iconst 0, 1) by decide +kernel) rfl) <|
  fa_cons (ok_iret (show decode (am_mB y_M_restore) 36 = .ok (.ireturn, 1) by decide +kernel) rfl) <|
  fa_cons (ok_aload_n (show decode (am_mB y_M_restore) 37 = .ok (.aload_n 0, 1) by decide +kernel) rfl) <|
  fa_cons (ok_getR (show decode (am_mB y_M_restore) 38 = .ok (.getfield 25, 3) by decide +kernel) fl_M_25 (by decide +kernel)) <|
  fa_cons (ok_sipush (show decode (am_mB y_M_restore) 41 = .ok (.sipush 197, 3) by decide +kernel) (by decide +kernel)) <|
  fa_cons (ok_iload_n (show decode (am_mB y_M_restore) 44 = .ok (.iload_n 1, 1) by decide +kernel) rfl) <|
  fa_cons (ok_imul (show decode (am_mB y_M_restore) 45 = .ok (.imul, 1) by decide +kernel)) <|
  fa_cons (ok_aload_n (show decode (am_mB y_M_restore) 46 = .ok (.aload_n 0, 1) by decide +kernel) rfl) <|
  fa_cons (ok_getR (show decode (am_mB y_M_restore) 47 = .ok (.getfield 16, 3) by decide +kernel) fl_M_16 (by decide +kernel)) <|
  fa_cons (ok_iconst (show decode (am_mB y_M_restore) 50 = .ok (.iconst 0, 1) by decide +kernel) rfl) <|
  fa_cons (ok_sipush (show decode (am_mB y_M_restore) 51 = .ok (.sipush 197, 3) by decide +kernel) (by decide +kernel)) <|
  fa_cons (ok_cal ⟨rfl, rfl, rfl, rfl⟩ (ok_callS (show decode (am_mB y_M_restore) 54 = .ok (.invokestatic 54, 3) by decide +kernel) cf_M_copy (by decide +kernel) ml_M_54 cs_M_copy rfl ⟨by decide +kernel, rfl⟩)) <|
  fa_cons (ok_aload_n (show decode (am_mB y_M_restore) 57 = .ok (.aload_n 0, 1) by decide +kernel) rfl) <|
  fa_cons (ok_iconst (show decode (am_mB y_M_restore) 58 = .ok (.iconst 0, 1) by decide +kernel) rfl) <|
  fa_cons (ok_putI (show decode (am_mB y_M_restore) 59 = .ok (.putfield 51, 3) by decide +kernel) fl_M_51 (by decide +kernel)) <|
  fa_cons (ok_aload_n (show decode (am_mB y_M_restore) 62 = .ok (.aload_n 0, 1) by decide +kernel) rfl) <|
  fa_cons (ok_getR (show decode (am_mB y_M_restore) 63 = .ok (.getfield 16, 3) by decide +kernel) fl_M_16 (by decide +kernel)) <|
  fa_cons (ok_iconst (show decode (am_mB y_M_restore) 66 = .ok (.iconst 1, 1) by decide +kernel) rfl) <|
  fa_cons (ok_iald (show decode (am_mB y_M_restore) 67 = .ok (.iaload, 1) by decide +kernel)) <|
  fa_cons (ok_iret (show decode (am_mB y_M_restore) 68 = .ok (.ireturn, 1) by decide +kernel) rfl) <|
  fa_nil
set_option maxRecDepth 100000 in
theorem cq_M_restore (l : Launch) (d : Nat) : am_lk (co_M_restore l d) 0 = am_aload 0 1 ∧ am_lk (co_M_restore l d) 1 = am_iload 1 2 ∧ am_lk (co_M_restore l d) 2 = am_i2l 3 ∧ am_lk (co_M_restore l d) 3 = am_push (vL 0) 4 ∧ am_lk (co_M_restore l d) 4 = am_push (vL 1) 5 ∧ am_lk (co_M_restore l d) 5 = am_cal l d y_M_in none 3 8 0 0 0 0 ∧ am_lk (co_M_restore l d) 8 = am_if_ne 11 15 ∧ am_lk (co_M_restore l d) 11 = am_push (vI 1) 12 ∧ am_lk (co_M_restore l d) 12 = am_goto 29 ∧ am_lk (co_M_restore l d) 15 = am_aload 0 16 ∧ am_lk (co_M_restore l d) 16 = am_getR 9 11 19 ∧ am_lk (co_M_restore l d) 19 = am_iload 1 20 ∧ am_lk (co_M_restore l d) 20 = am_ald 1 21 ∧ am_lk (co_M_restore l d) 21 = am_if_eq 24 28 ∧ am_lk (co_M_restore l d) 24 = am_push (vI 0) 25 ∧ am_lk (co_M_restore l d) 25 = am_goto 29 ∧ am_lk (co_M_restore l d) 28 = am_push (vI 2) 29 ∧ am_lk (co_M_restore l d) 29 = am_cal l d y_M_refused (some 9) 2 32 0 0 0 0 ∧ am_lk (co_M_restore l d) 32 = am_if_eq 35 37 ∧ am_lk (co_M_restore l d) 35 = am_push (vI 0) 36 ∧ am_lk (co_M_restore l d) 36 = am_iret false ∧ am_lk (co_M_restore l d) 37 = am_aload 0 38 ∧ am_lk (co_M_restore l d) 38 = am_getR 9 10 41 ∧ am_lk (co_M_restore l d) 41 = am_push (vI 197) 44 ∧ am_lk (co_M_restore l d) 44 = am_iload 1 45 ∧ am_lk (co_M_restore l d) 45 = am_imul 46 ∧ am_lk (co_M_restore l d) 46 = am_aload 0 47 ∧ am_lk (co_M_restore l d) 47 = am_getR 9 6 50 ∧ am_lk (co_M_restore l d) 50 = am_push (vI 0) 51 ∧ am_lk (co_M_restore l d) 51 = am_push (vI 197) 54 ∧ am_lk (co_M_restore l d) 54 = am_cal l d y_M_copy none 5 57 0 0 0 0 ∧ am_lk (co_M_restore l d) 57 = am_aload 0 58 ∧ am_lk (co_M_restore l d) 58 = am_push (vI 0) 59 ∧ am_lk (co_M_restore l d) 59 = am_putI 9 9 62 ∧ am_lk (co_M_restore l d) 62 = am_aload 0 63 ∧ am_lk (co_M_restore l d) 63 = am_getR 9 6 66 ∧ am_lk (co_M_restore l d) 66 = am_push (vI 1) 67 ∧ am_lk (co_M_restore l d) 67 = am_ald 0 68 ∧ am_lk (co_M_restore l d) 68 = am_iret false := ⟨rfl, rfl, rfl, rfl, rfl, rfl, rfl, rfl, rfl, rfl, rfl, rfl, rfl, rfl, rfl, rfl, rfl, rfl, rfl, rfl, rfl, rfl, rfl, rfl, rfl, rfl, rfl, rfl, rfl, rfl, rfl, rfl, rfl, rfl, rfl, rfl, rfl, rfl, rfl⟩
theorem en_M_restore {l : Launch} {d : Nat} (n : Nat) {as : List am_V} {G : am_G} {I : am_I} {J : am_J} {P : am_P} (hlen : (as.map am_cat).sum ≤ 2) (h : am_go (am_lk (co_M_restore l d)) (am_X l (0, fun _ => 0) (d + 1) y_M_restore P) P n 0 (am_el 2 as) [] 0 0 G I J) : am_T l (d + 1) y_M_restore as G I J P :=
  am_T_of (sc := (0, fun _ => 0)) cf_M_restore (by decide +kernel) (by decide) (by decide +kernel) hlen (am_run (ok_lk _ (ck_M_restore)) n _ _ _ _ _ _ _ _ h)
theorem rn_M_restore {l : Launch} {sc : Nat × (Nat → Int32)} {d : Nat} {P : am_P} (n : Nat) {pc : Nat} {ls : am_L} {st : List am_V} {kc ks : Nat} {G : am_G} {I : am_I} {J : am_J} (h : am_go (am_lk (co_M_restore l d)) (am_X l sc (d + 1) y_M_restore P) P n pc ls st kc ks G I J) : am_X l sc (d + 1) y_M_restore P pc ls st kc ks G I J := am_run (ok_lk _ (ck_M_restore)) n _ _ _ _ _ _ _ _ h
