/-! written by wip/whole/gen.py: the code of Txt -/
def co_Text_init (l : Launch) (d : Nat) : List (Nat × am_S) := [(0, am_aload 0 1), (1, am_oinit 4), (4, am_aload 0 5), (5, am_push (vI 160) 8), (8, am_mka 2 10 1 160), (10, am_putR 8 0 13), (13, am_vret)]
theorem ck_Text_init {l : Launch} {sc : Nat × (Nat → Int32)} {d : Nat} : ∀ q ∈ co_Text_init l d, am_ok l sc (d + 1) y_Text_init q.1 q.2 :=
  fa_cons (ok_aload_n (show decode (am_mB y_Text_init) 0 = .ok (.aload_n 0, 1) by decide +kernel) rfl) <|
  fa_cons (ok_oinit (show decode (am_mB y_Text_init) 1 = .ok (.invokespecial 3, 3) by decide +kernel) w_32 w_25 w_26 (by omega)) <|
  fa_cons (ok_aload_n (show decode (am_mB y_Text_init) 4 = .ok (.aload_n 0, 1) by decide +kernel) rfl) <|
  fa_cons (ok_sipush (show decode (am_mB y_Text_init) 5 = .ok (.sipush 160, 3) by decide +kernel) (by decide +kernel)) <|
  fa_cons (ok_mka ⟨rfl, rfl⟩ (ok_newa (show decode (am_mB y_Text_init) 8 = .ok (.newarray .char, 2) by decide +kernel) w_44 (by decide +kernel))) <|
  fa_cons (ok_putR (show decode (am_mB y_Text_init) 10 = .ok (.putfield 9, 3) by decide +kernel) w_33 (by decide +kernel) (by decide +kernel)) <|
  fa_cons (ok_vret (show decode (am_mB y_Text_init) 13 = .ok (.return_, 1) by decide +kernel) rfl (by decide +kernel)) <|
  fa_nil
set_option maxRecDepth 100000 in
theorem cq_Text_init (l : Launch) (d : Nat) : am_lk (co_Text_init l d) 0 = am_aload 0 1 ∧ am_lk (co_Text_init l d) 1 = am_oinit 4 ∧ am_lk (co_Text_init l d) 4 = am_aload 0 5 ∧ am_lk (co_Text_init l d) 5 = am_push (vI 160) 8 ∧ am_lk (co_Text_init l d) 8 = am_mka 2 10 1 160 ∧ am_lk (co_Text_init l d) 10 = am_putR 8 0 13 ∧ am_lk (co_Text_init l d) 13 = am_vret := ⟨rfl, rfl, rfl, rfl, rfl, rfl, rfl⟩
theorem en_Text_init {l : Launch} {d : Nat} (n : Nat) {as : List am_V} {G : am_G} {I : am_I} {J : am_J} {P : am_P} (hlen : (as.map am_cat).sum ≤ 1) (h : am_go (am_lk (co_Text_init l d)) (am_X l (0, fun _ => 0) (d + 1) y_Text_init P) P n 0 (am_el 1 as) [] 0 0 G I J) : am_T l (d + 1) y_Text_init as G I J P :=
  am_T_of (sc := (0, fun _ => 0)) cf_Text_init (by decide +kernel) (by decide) (by decide +kernel) hlen (am_run (ok_lk _ (ck_Text_init)) n _ _ _ _ _ _ _ _ h)
theorem rn_Text_init {l : Launch} {sc : Nat × (Nat → Int32)} {d : Nat} {P : am_P} (n : Nat) {pc : Nat} {ls : am_L} {st : List am_V} {kc ks : Nat} {G : am_G} {I : am_I} {J : am_J} (h : am_go (am_lk (co_Text_init l d)) (am_X l sc (d + 1) y_Text_init P) P n pc ls st kc ks G I J) : am_X l sc (d + 1) y_Text_init P pc ls st kc ks G I J := am_run (ok_lk _ (ck_Text_init)) n _ _ _ _ _ _ _ _ h
def co_Text_isFull (l : Launch) (d : Nat) : List (Nat × am_S) := [(0, am_aload 0 1), (1, am_getI 8 1 4), (4, am_push (vI 160) 7), (7, am_icmp_lt 10 14), (10, am_push (vI 1) 11), (11, am_goto 15), (14, am_push (vI 0) 15), (15, am_iret true)]
theorem ck_Text_isFull {l : Launch} {sc : Nat × (Nat → Int32)} {d : Nat} : ∀ q ∈ co_Text_isFull l d, am_ok l sc (d + 1) y_Text_isFull q.1 q.2 :=
  fa_cons (ok_aload_n (show decode (am_mB y_Text_isFull) 0 = .ok (.aload_n 0, 1) by decide +kernel) rfl) <|
  fa_cons (ok_getI (show decode (am_mB y_Text_isFull) 1 = .ok (.getfield 15, 3) by decide +kernel) fl_Text_15 (by decide +kernel)) <|
  fa_cons (ok_sipush (show decode (am_mB y_Text_isFull) 4 = .ok (.sipush 160, 3) by decide +kernel) (by decide +kernel)) <|
  fa_cons (ok_icmp_lt (show decode (am_mB y_Text_isFull) 7 = .ok (.if_icmp .lt 7, 3) by decide +kernel) (by decide)) <|
  fa_cons (ok_iconst (show decode (am_mB y_Text_isFull) 10 = .ok (.iconst 1, 1) by decide +kernel) rfl) <|
  fa_cons (ok_goto (show decode (am_mB y_Text_isFull) 11 = .ok (.goto 4, 3) by decide +kernel) (by decide)) <|
  fa_cons (ok_iconst (show decode (am_mB y_Text_isFull) 14 = .ok (.iconst 0, 1) by decide +kernel) rfl) <|
  fa_cons (ok_iret (show decode (am_mB y_Text_isFull) 15 = .ok (.ireturn, 1) by decide +kernel) rfl) <|
  fa_nil
set_option maxRecDepth 100000 in
theorem cq_Text_isFull (l : Launch) (d : Nat) : am_lk (co_Text_isFull l d) 0 = am_aload 0 1 ∧ am_lk (co_Text_isFull l d) 1 = am_getI 8 1 4 ∧ am_lk (co_Text_isFull l d) 4 = am_push (vI 160) 7 ∧ am_lk (co_Text_isFull l d) 7 = am_icmp_lt 10 14 ∧ am_lk (co_Text_isFull l d) 10 = am_push (vI 1) 11 ∧ am_lk (co_Text_isFull l d) 11 = am_goto 15 ∧ am_lk (co_Text_isFull l d) 14 = am_push (vI 0) 15 ∧ am_lk (co_Text_isFull l d) 15 = am_iret true := ⟨rfl, rfl, rfl, rfl, rfl, rfl, rfl, rfl⟩
theorem en_Text_isFull {l : Launch} {d : Nat} (n : Nat) {as : List am_V} {G : am_G} {I : am_I} {J : am_J} {P : am_P} (hlen : (as.map am_cat).sum ≤ 1) (h : am_go (am_lk (co_Text_isFull l d)) (am_X l (0, fun _ => 0) (d + 1) y_Text_isFull P) P n 0 (am_el 1 as) [] 0 0 G I J) : am_T l (d + 1) y_Text_isFull as G I J P :=
  am_T_of (sc := (0, fun _ => 0)) cf_Text_isFull (by decide +kernel) (by decide) (by decide +kernel) hlen (am_run (ok_lk _ (ck_Text_isFull)) n _ _ _ _ _ _ _ _ h)
theorem rn_Text_isFull {l : Launch} {sc : Nat × (Nat → Int32)} {d : Nat} {P : am_P} (n : Nat) {pc : Nat} {ls : am_L} {st : List am_V} {kc ks : Nat} {G : am_G} {I : am_I} {J : am_J} (h : am_go (am_lk (co_Text_isFull l d)) (am_X l sc (d + 1) y_Text_isFull P) P n pc ls st kc ks G I J) : am_X l sc (d + 1) y_Text_isFull P pc ls st kc ks G I J := am_run (ok_lk _ (ck_Text_isFull)) n _ _ _ _ _ _ _ _ h
def co_Text_put (l : Launch) (d : Nat) : List (Nat × am_S) := [(0, am_aload 0 1), (1, am_getR 8 0 4), (4, am_aload 0 5), (5, am_getI 8 1 8), (8, am_iload 1 9), (9, am_ast 2 (vp_nar .char) 10), (10, am_aload 0 11), (11, am_dup 12), (12, am_getI 8 1 15), (15, am_push (vI 1) 16), (16, am_iadd 17), (17, am_putI 8 1 20), (20, am_vret)]
theorem ck_Text_put {l : Launch} {sc : Nat × (Nat → Int32)} {d : Nat} : ∀ q ∈ co_Text_put l d, am_ok l sc (d + 1) y_Text_put q.1 q.2 :=
  fa_cons (ok_aload_n (show decode (am_mB y_Text_put) 0 = .ok (.aload_n 0, 1) by decide +kernel) rfl) <|
  fa_cons (ok_getR (show decode (am_mB y_Text_put) 1 = .ok (.getfield 9, 3) by decide +kernel) fl_Text_9 (by decide +kernel)) <|
  fa_cons (ok_aload_n (show decode (am_mB y_Text_put) 4 = .ok (.aload_n 0, 1) by decide +kernel) rfl) <|
  fa_cons (ok_getI (show decode (am_mB y_Text_put) 5 = .ok (.getfield 15, 3) by decide +kernel) fl_Text_15 (by decide +kernel)) <|
  fa_cons (ok_iload_n (show decode (am_mB y_Text_put) 8 = .ok (.iload_n 1, 1) by decide +kernel) rfl) <|
  fa_cons (ok_cast (show decode (am_mB y_Text_put) 9 = .ok (.castore, 1) by decide +kernel)) <|
  fa_cons (ok_aload_n (show decode (am_mB y_Text_put) 10 = .ok (.aload_n 0, 1) by decide +kernel) rfl) <|
  fa_cons (ok_dup (show decode (am_mB y_Text_put) 11 = .ok (.dup, 1) by decide +kernel)) <|
  fa_cons (ok_getI (show decode (am_mB y_Text_put) 12 = .ok (.getfield 15, 3) by decide +kernel) fl_Text_15 (by decide +kernel)) <|
  fa_cons (ok_iconst (show decode (am_mB y_Text_put) 15 = .ok (.iconst 1, 1) by decide +kernel) rfl) <|
  fa_cons (ok_iadd (show decode (am_mB y_Text_put) 16 = .ok (.iadd, 1) by decide +kernel)) <|
  fa_cons (ok_putI (show decode (am_mB y_Text_put) 17 = .ok (.putfield 15, 3) by decide +kernel) fl_Text_15 (by decide +kernel)) <|
  fa_cons (ok_vret (show decode (am_mB y_Text_put) 20 = .ok (.return_, 1) by decide +kernel) rfl (by decide +kernel)) <|
  fa_nil
set_option maxRecDepth 100000 in
theorem cq_Text_put (l : Launch) (d : Nat) : am_lk (co_Text_put l d) 0 = am_aload 0 1 ∧ am_lk (co_Text_put l d) 1 = am_getR 8 0 4 ∧ am_lk (co_Text_put l d) 4 = am_aload 0 5 ∧ am_lk (co_Text_put l d) 5 = am_getI 8 1 8 ∧ am_lk (co_Text_put l d) 8 = am_iload 1 9 ∧ am_lk (co_Text_put l d) 9 = am_ast 2 (vp_nar .char) 10 ∧ am_lk (co_Text_put l d) 10 = am_aload 0 11 ∧ am_lk (co_Text_put l d) 11 = am_dup 12 ∧ am_lk (co_Text_put l d) 12 = am_getI 8 1 15 ∧ am_lk (co_Text_put l d) 15 = am_push (vI 1) 16 ∧ am_lk (co_Text_put l d) 16 = am_iadd 17 ∧ am_lk (co_Text_put l d) 17 = am_putI 8 1 20 ∧ am_lk (co_Text_put l d) 20 = am_vret := ⟨rfl, rfl, rfl, rfl, rfl, rfl, rfl, rfl, rfl, rfl, rfl, rfl, rfl⟩
theorem en_Text_put {l : Launch} {d : Nat} (n : Nat) {as : List am_V} {G : am_G} {I : am_I} {J : am_J} {P : am_P} (hlen : (as.map am_cat).sum ≤ 2) (h : am_go (am_lk (co_Text_put l d)) (am_X l (0, fun _ => 0) (d + 1) y_Text_put P) P n 0 (am_el 2 as) [] 0 0 G I J) : am_T l (d + 1) y_Text_put as G I J P :=
  am_T_of (sc := (0, fun _ => 0)) cf_Text_put (by decide +kernel) (by decide) (by decide +kernel) hlen (am_run (ok_lk _ (ck_Text_put)) n _ _ _ _ _ _ _ _ h)
theorem rn_Text_put {l : Launch} {sc : Nat × (Nat → Int32)} {d : Nat} {P : am_P} (n : Nat) {pc : Nat} {ls : am_L} {st : List am_V} {kc ks : Nat} {G : am_G} {I : am_I} {J : am_J} (h : am_go (am_lk (co_Text_put l d)) (am_X l sc (d + 1) y_Text_put P) P n pc ls st kc ks G I J) : am_X l sc (d + 1) y_Text_put P pc ls st kc ks G I J := am_run (ok_lk _ (ck_Text_put)) n _ _ _ _ _ _ _ _ h
def co_Text_readInto (l : Launch) (d : Nat) : List (Nat × am_S) := [(0, am_aload 0 1), (1, am_push (vI 0) 2), (2, am_putI 8 2 5), (5, am_aload 1 6), (6, am_cal l d y_Table_makeNew (some 7) 1 9 0 0 0 0), (9, am_aload 0 10), (10, am_aload 1 11), (11, am_cal l d y_Text_readHead (some 8) 2 14 0 0 0 0), (14, am_istore 2 15), (15, am_push (vI 0) 16), (16, am_stp (am_istore 3 17)), (17, am_iload 2 18), (18, am_if_eq 21 51), (21, am_aload 0 22), (22, am_getI 8 2 25), (25, am_aload 0 26), (26, am_getI 8 1 29), (29, am_icmp_ge 32 51), (32, am_iload 3 33), (33, am_push (vI 160) 36), (36, am_icmp_ge 39 51), (39, am_aload 0 40), (40, am_aload 1 41), (41, am_cal l d y_Text_readPart (some 8) 2 44 0 0 0 0), (44, am_istore 2 45), (45, am_iinc 3 1 48), (48, am_stp (am_goto 17)), (51, am_iload 2 52), (52, am_if_eq 55 60), (55, am_push (vI (-999999)) 57), (57, am_goto 64), (60, am_aload 0 61), (61, am_getI 8 2 64), (64, am_iret false)]
theorem ck_Text_readInto {l : Launch} {sc : Nat × (Nat → Int32)} {d : Nat} : ∀ q ∈ co_Text_readInto l d, am_ok l sc (d + 1) y_Text_readInto q.1 q.2 :=
  fa_cons (ok_aload_n (show decode (am_mB y_Text_readInto) 0 = .ok (.aload_n 0, 1) by decide +kernel) rfl) <|
  fa_cons (ok_iconst (show decode (am_mB y_Text_readInto) 1 = .ok (.iconst 0, 1) by decide +kernel) rfl) <|
  fa_cons (ok_putI (show decode (am_mB y_Text_readInto) 2 = .ok (.putfield 19, 3) by decide +kernel) fl_Text_19 (by decide +kernel)) <|
  fa_cons (ok_aload_n (show decode (am_mB y_Text_readInto) 5 = .ok (.aload_n 1, 1) by decide +kernel) rfl) <|
  fa_cons (ok_cal ⟨rfl, rfl, rfl, rfl⟩ (ok_callV (show decode (am_mB y_Text_readInto) 6 = .ok (.invokevirtual 22, 3) by decide +kernel) cf_Table_makeNew (by decide +kernel) ml_Text_22 ci_Table_makeNew cv_Table_makeNew ⟨by decide, rfl⟩ rfl ⟨by decide +kernel, rfl⟩)) <|
  fa_cons (ok_aload_n (show decode (am_mB y_Text_readInto) 9 = .ok (.aload_n 0, 1) by decide +kernel) rfl) <|
  fa_cons (ok_aload_n (show decode (am_mB y_Text_readInto) 10 = .ok (.aload_n 1, 1) by decide +kernel) rfl) <|
  fa_cons (ok_cal ⟨rfl, rfl, rfl, rfl⟩ (ok_callV (show decode (am_mB y_Text_readInto) 11 = .ok (.invokevirtual 27, 3) by decide +kernel) cf_Text_readHead (by decide +kernel) ml_Text_27 ci_Text_readHead cv_Text_readHead ⟨by decide, rfl⟩ rfl ⟨by decide +kernel, rfl⟩)) <|
  fa_cons (ok_istore_n (show decode (am_mB y_Text_readInto) 14 = .ok (.istore_n 2, 1) by decide +kernel) rfl (by decide +kernel)) <|
  fa_cons (ok_iconst (show decode (am_mB y_Text_readInto) 15 = .ok (.iconst 0, 1) by decide +kernel) rfl) <|
  fa_cons (ok_stp (σ := am_istore 3 17) (ok_istore_n (show decode (am_mB y_Text_readInto) 16 = .ok (.istore_n 3, 1) by decide +kernel) rfl (by decide +kernel))) <|
  fa_cons (ok_iload_n (show decode (am_mB y_Text_readInto) 17 = .ok (.iload_n 2, 1) by decide +kernel) rfl) <|
  fa_cons (ok_if_eq (show decode (am_mB y_Text_readInto) 18 = .ok (.ifCond .eq 33, 3) by decide +kernel) (by decide)) <|
  fa_cons (ok_aload_n (show decode (am_mB y_Text_readInto) 21 = .ok (.aload_n 0, 1) by decide +kernel) rfl) <|
  fa_cons (ok_getI (show decode (am_mB y_Text_readInto) 22 = .ok (.getfield 19, 3) by decide +kernel) fl_Text_19 (by decide +kernel)) <|
  fa_cons (ok_aload_n (show decode (am_mB y_Text_readInto) 25 = .ok (.aload_n 0, 1) by decide +kernel) rfl) <|
  fa_cons (ok_getI (show decode (am_mB y_Text_readInto) 26 = .ok (.getfield 15, 3) by decide +kernel) fl_Text_15 (by decide +kernel)) <|
  fa_cons (ok_icmp_ge (show decode (am_mB y_Text_readInto) 29 = .ok (.if_icmp .ge 22, 3) by decide +kernel) (by decide)) <|
  fa_cons (ok_iload_n (show decode (am_mB y_Text_readInto) 32 = .ok (.iload_n 3, 1) by decide +kernel) rfl) <|
  fa_cons (ok_sipush (show decode (am_mB y_Text_readInto) 33 = .ok (.sipush 160, 3) by decide +kernel) (by decide +kernel)) <|
  fa_cons (ok_icmp_ge (show decode (am_mB y_Text_readInto) 36 = .ok (.if_icmp .ge 15, 3) by decide +kernel) (by decide)) <|
  fa_cons (ok_aload_n (show decode (am_mB y_Text_readInto) 39 = .ok (.aload_n 0, 1) by decide +kernel) rfl) <|
  fa_cons (ok_aload_n (show decode (am_mB y_Text_readInto) 40 = .ok (.aload_n 1, 1) by decide +kernel) rfl) <|
  fa_cons (ok_cal ⟨rfl, rfl, rfl, rfl⟩ (ok_callV (show decode (am_mB y_Text_readInto) 41 = .ok (.invokevirtual 31, 3) by decide +kernel) cf_Text_readPart (by decide +kernel) ml_Text_31 ci_Text_readPart cv_Text_readPart ⟨by decide, rfl⟩ rfl ⟨by decide +kernel, rfl⟩)) <|
  fa_cons (ok_istore_n (show decode (am_mB y_Text_readInto) 44 = .ok (.istore_n 2, 1) by decide +kernel) rfl (by decide +kernel)) <|
  fa_cons (ok_iinc (show decode (am_mB y_Text_readInto) 45 = .ok (.iinc 3 1, 3) by decide +kernel) (by decide +kernel) (by decide +kernel)) <|
  fa_cons (ok_stp (σ := am_goto 17) (ok_goto (show decode (am_mB y_Text_readInto) 48 = .ok (.goto (-31), 3) by decide +kernel) (by decide))) <|
  fa_cons (ok_iload_n (show decode (am_mB y_Text_readInto) 51 = .ok (.iload_n 2, 1) by decide +kernel) rfl) <|
  fa_cons (ok_if_eq (show decode (am_mB y_Text_readInto) 52 = .ok (.ifCond .eq 8, 3) by decide +kernel) (by decide)) <|
  fa_cons (ok_ldc (show decode (am_mB y_Text_readInto) 55 = .ok (.ldc 34, 2) by decide +kernel) w_352) <|
  fa_cons (ok_goto (show decode (am_mB y_Text_readInto) 57 = .ok (.goto 7, 3) by decide +kernel) (by decide)) <|
  fa_cons (ok_aload_n (show decode (am_mB y_Text_readInto) 60 = .ok (.aload_n 0, 1) by decide +kernel) rfl) <|
  fa_cons (ok_getI (show decode (am_mB y_Text_readInto) 61 = .ok (.getfield 19, 3) by decide +kernel) fl_Text_19 (by decide +kernel)) <|
  fa_cons (ok_iret (show decode (am_mB y_Text_readInto) 64 = .ok (.ireturn, 1) by decide +kernel) rfl) <|
  fa_nil
set_option maxRecDepth 100000 in
theorem cq_Text_readInto (l : Launch) (d : Nat) : am_lk (co_Text_readInto l d) 0 = am_aload 0 1 ∧ am_lk (co_Text_readInto l d) 1 = am_push (vI 0) 2 ∧ am_lk (co_Text_readInto l d) 2 = am_putI 8 2 5 ∧ am_lk (co_Text_readInto l d) 5 = am_aload 1 6 ∧ am_lk (co_Text_readInto l d) 6 = am_cal l d y_Table_makeNew (some 7) 1 9 0 0 0 0 ∧ am_lk (co_Text_readInto l d) 9 = am_aload 0 10 ∧ am_lk (co_Text_readInto l d) 10 = am_aload 1 11 ∧ am_lk (co_Text_readInto l d) 11 = am_cal l d y_Text_readHead (some 8) 2 14 0 0 0 0 ∧ am_lk (co_Text_readInto l d) 14 = am_istore 2 15 ∧ am_lk (co_Text_readInto l d) 15 = am_push (vI 0) 16 ∧ am_lk (co_Text_readInto l d) 16 = am_stp (am_istore 3 17) ∧ am_lk (co_Text_readInto l d) 17 = am_iload 2 18 ∧ am_lk (co_Text_readInto l d) 18 = am_if_eq 21 51 ∧ am_lk (co_Text_readInto l d) 21 = am_aload 0 22 ∧ am_lk (co_Text_readInto l d) 22 = am_getI 8 2 25 ∧ am_lk (co_Text_readInto l d) 25 = am_aload 0 26 ∧ am_lk (co_Text_readInto l d) 26 = am_getI 8 1 29 ∧ am_lk (co_Text_readInto l d) 29 = am_icmp_ge 32 51 ∧ am_lk (co_Text_readInto l d) 32 = am_iload 3 33 ∧ am_lk (co_Text_readInto l d) 33 = am_push (vI 160) 36 ∧ am_lk (co_Text_readInto l d) 36 = am_icmp_ge 39 51 ∧ am_lk (co_Text_readInto l d) 39 = am_aload 0 40 ∧ am_lk (co_Text_readInto l d) 40 = am_aload 1 41 ∧ am_lk (co_Text_readInto l d) 41 = am_cal l d y_Text_readPart (some 8) 2 44 0 0 0 0 ∧ am_lk (co_Text_readInto l d) 44 = am_istore 2 45 ∧ am_lk (co_Text_readInto l d) 45 = am_iinc 3 1 48 ∧ am_lk (co_Text_readInto l d) 48 = am_stp (am_goto 17) ∧ am_lk (co_Text_readInto l d) 51 = am_iload 2 52 ∧ am_lk (co_Text_readInto l d) 52 = am_if_eq 55 60 ∧ am_lk (co_Text_readInto l d) 55 = am_push (vI (-999999)) 57 ∧ am_lk (co_Text_readInto l d) 57 = am_goto 64 ∧ am_lk (co_Text_readInto l d) 60 = am_aload 0 61 ∧ am_lk (co_Text_readInto l d) 61 = am_getI 8 2 64 ∧ am_lk (co_Text_readInto l d) 64 = am_iret false := ⟨rfl, rfl, rfl, rfl, rfl, rfl, rfl, rfl, rfl, rfl, rfl, rfl, rfl, rfl, rfl, rfl, rfl, rfl, rfl, rfl, rfl, rfl, rfl, rfl, rfl, rfl, rfl, rfl, rfl, rfl, rfl, rfl, rfl, rfl⟩
theorem en_Text_readInto {l : Launch} {d : Nat} (n : Nat) {as : List am_V} {G : am_G} {I : am_I} {J : am_J} {P : am_P} (hlen : (as.map am_cat).sum ≤ 4) (h : am_go (am_lk (co_Text_readInto l d)) (am_X l (0, fun _ => 0) (d + 1) y_Text_readInto P) P n 0 (am_el 4 as) [] 0 0 G I J) : am_T l (d + 1) y_Text_readInto as G I J P :=
  am_T_of (sc := (0, fun _ => 0)) cf_Text_readInto (by decide +kernel) (by decide) (by decide +kernel) hlen (am_run (ok_lk _ (ck_Text_readInto)) n _ _ _ _ _ _ _ _ h)
theorem rn_Text_readInto {l : Launch} {sc : Nat × (Nat → Int32)} {d : Nat} {P : am_P} (n : Nat) {pc : Nat} {ls : am_L} {st : List am_V} {kc ks : Nat} {G : am_G} {I : am_I} {J : am_J} (h : am_go (am_lk (co_Text_readInto l d)) (am_X l sc (d + 1) y_Text_readInto P) P n pc ls st kc ks G I J) : am_X l sc (d + 1) y_Text_readInto P pc ls st kc ks G I J := am_run (ok_lk _ (ck_Text_readInto)) n _ _ _ _ _ _ _ _ h
def co_Text_readHead (l : Launch) (d : Nat) : List (Nat × am_S) := [(0, am_aload 0 1), (1, am_push (vI 84) 3), (3, am_cal l d y_Text_takeSign (some 8) 2 6 0 0 0 0), (6, am_if_ne 9 11), (9, am_push (vI 0) 10), (10, am_iret true), (11, am_aload 0 12), (12, am_push (vI 1) 13), (13, am_push (vI 4) 14), (14, am_cal l d y_Text_takeDigit (some 8) 3 17 0 0 0 0), (17, am_istore 2 18), (18, am_iload 2 19), (19, am_push (vI (-1)) 20), (20, am_icmp_ne 23 25), (23, am_push (vI 0) 24), (24, am_iret true), (25, am_aload 0 26), (26, am_push (vI 6) 28), (28, am_push (vI 40) 30), (30, am_cal l d y_Text_takePair (some 8) 3 33 0 0 0 0), (33, am_istore 3 34), (34, am_iload 3 35), (35, am_push (vI (-1)) 36), (36, am_icmp_ne 39 41), (39, am_push (vI 0) 40), (40, am_iret true), (41, am_aload 0 42), (42, am_push (vI 0) 43), (43, am_push (vI 4) 44), (44, am_cal l d y_Text_takeDigit (some 8) 3 47 0 0 0 0), (47, am_istore 4 49), (49, am_iload 4 51), (51, am_push (vI (-1)) 52), (52, am_icmp_ne 55 57), (55, am_push (vI 0) 56), (56, am_iret true), (57, am_aload 1 58), (58, am_iload 2 59), (59, am_putI 7 0 62), (62, am_aload 1 63), (63, am_iload 3 64), (64, am_putI 7 3 67), (67, am_aload 1 68), (68, am_iload 4 70), (70, am_putI 7 4 73), (73, am_push (vI 1) 74), (74, am_iret true)]
theorem ck_Text_readHead {l : Launch} {sc : Nat × (Nat → Int32)} {d : Nat} : ∀ q ∈ co_Text_readHead l d, am_ok l sc (d + 1) y_Text_readHead q.1 q.2 :=
  fa_cons (ok_aload_n (show decode (am_mB y_Text_readHead) 0 = .ok (.aload_n 0, 1) by decide +kernel) rfl) <|
  fa_cons (ok_bipush (show decode (am_mB y_Text_readHead) 1 = .ok (.bipush 84, 2) by decide +kernel) (by decide +kernel)) <|
  fa_cons (ok_cal ⟨rfl, rfl, rfl, rfl⟩ (ok_callV (show decode (am_mB y_Text_readHead) 3 = .ok (.invokevirtual 35, 3) by decide +kernel) cf_Text_takeSign (by decide +kernel) ml_Text_35 ci_Text_takeSign cv_Text_takeSign ⟨by decide, rfl⟩ rfl ⟨by decide +kernel, rfl⟩)) <|
  fa_cons (ok_if_ne (show decode (am_mB y_Text_readHead) 6 = .ok (.ifCond .ne 5, 3) by decide +kernel) (by decide)) <|
  fa_cons (ok_iconst (show decode (am_mB y_Text_readHead) 9 = .ok (.iconst 0, 1) by decide +kernel) rfl) <|
  fa_cons (ok_iret (show decode (am_mB y_Text_readHead) 10 = .ok (.ireturn, 1) by decide +kernel) rfl) <|
  fa_cons (ok_aload_n (show decode (am_mB y_Text_readHead) 11 = .ok (.aload_n 0, 1) by decide +kernel) rfl) <|
  fa_cons (ok_iconst (show decode (am_mB y_Text_readHead) 12 = .ok (.iconst 1, 1) by decide +kernel) rfl) <|
  fa_cons (ok_iconst (show decode (am_mB y_Text_readHead) 13 = .ok (.iconst 4, 1) by decide +kernel) rfl) <|
  fa_cons (ok_cal ⟨rfl, rfl, rfl, rfl⟩ (ok_callV (show decode (am_mB y_Text_readHead) 14 = .ok (.invokevirtual 39, 3) by decide +kernel) cf_Text_takeDigit (by decide +kernel) ml_Text_39 ci_Text_takeDigit cv_Text_takeDigit ⟨by decide, rfl⟩ rfl ⟨by decide +kernel, rfl⟩)) <|
  fa_cons (ok_istore_n (show decode (am_mB y_Text_readHead) 17 = .ok (.istore_n 2, 1) by decide +kernel) rfl (by decide +kernel)) <|
  fa_cons (ok_iload_n (show decode (am_mB y_Text_readHead) 18 = .ok (.iload_n 2, 1) by decide +kernel) rfl) <|
  fa_cons (ok_iconst (show decode (am_mB y_Text_readHead) 19 = .ok (.iconst (-1), 1) by decide +kernel) rfl) <|
  fa_cons (ok_icmp_ne (show decode (am_mB y_Text_readHead) 20 = .ok (.if_icmp .ne 5, 3) by decide +kernel) (by decide)) <|
  fa_cons (ok_iconst (show decode (am_mB y_Text_readHead) 23 = .ok (.iconst 0, 1) by decide +kernel) rfl) <|
  fa_cons (ok_iret (show decode (am_mB y_Text_readHead) 24 = .ok (.ireturn, 1) by decide +kernel) rfl) <|
  fa_cons (ok_aload_n (show decode (am_mB y_Text_readHead) 25 = .ok (.aload_n 0, 1) by decide +kernel) rfl) <|
  fa_cons (ok_bipush (show decode (am_mB y_Text_readHead) 26 = .ok (.bipush 6, 2) by decide +kernel) (by decide +kernel)) <|
  fa_cons (ok_bipush (show decode (am_mB y_Text_readHead) 28 = .ok (.bipush 40, 2) by decide +kernel) (by decide +kernel)) <|
  fa_cons (ok_cal ⟨rfl, rfl, rfl, rfl⟩ (ok_callV (show decode (am_mB y_Text_readHead) 30 = .ok (.invokevirtual 43, 3) by decide +kernel) cf_Text_takePair (by decide +kernel) ml_Text_43 ci_Text_takePair cv_Text_takePair ⟨by decide, rfl⟩ rfl ⟨by decide +kernel, rfl⟩)) <|
  fa_cons (ok_istore_n (show decode (am_mB y_Text_readHead) 33 = .ok (.istore_n 3, 1) by decide +kernel) rfl (by decide +kernel)) <|
  fa_cons (ok_iload_n (show decode (am_mB y_Text_readHead) 34 = .ok (.iload_n 3, 1) by decide +kernel) rfl) <|
  fa_cons (ok_iconst (show decode (am_mB y_Text_readHead) 35 = .ok (.iconst (-1), 1) by decide +kernel) rfl) <|
  fa_cons (ok_icmp_ne (show decode (am_mB y_Text_readHead) 36 = .ok (.if_icmp .ne 5, 3) by decide +kernel) (by decide)) <|
  fa_cons (ok_iconst (show decode (am_mB y_Text_readHead) 39 = .ok (.iconst 0, 1) by decide +kernel) rfl) <|
  fa_cons (ok_iret (show decode (am_mB y_Text_readHead) 40 = .ok (.ireturn, 1) by decide +kernel) rfl) <|
  fa_cons (ok_aload_n (show decode (am_mB y_Text_readHead) 41 = .ok (.aload_n 0, 1) by decide +kernel) rfl) <|
  fa_cons (ok_iconst (show decode (am_mB y_Text_readHead) 42 = .ok (.iconst 0, 1) by decide +kernel) rfl) <|
  fa_cons (ok_iconst (show decode (am_mB y_Text_readHead) 43 = .ok (.iconst 4, 1) by decide +kernel) rfl) <|
  fa_cons (ok_cal ⟨rfl, rfl, rfl, rfl⟩ (ok_callV (show decode (am_mB y_Text_readHead) 44 = .ok (.invokevirtual 39, 3) by decide +kernel) cf_Text_takeDigit (by decide +kernel) ml_Text_39 ci_Text_takeDigit cv_Text_takeDigit ⟨by decide, rfl⟩ rfl ⟨by decide +kernel, rfl⟩)) <|
  fa_cons (ok_istore (show decode (am_mB y_Text_readHead) 47 = .ok (.istore 4, 2) by decide +kernel) (by decide +kernel)) <|
  fa_cons (ok_iload (show decode (am_mB y_Text_readHead) 49 = .ok (.iload 4, 2) by decide +kernel)) <|
  fa_cons (ok_iconst (show decode (am_mB y_Text_readHead) 51 = .ok (.iconst (-1), 1) by decide +kernel) rfl) <|
  fa_cons (ok_icmp_ne (show decode (am_mB y_Text_readHead) 52 = .ok (.if_icmp .ne 5, 3) by decide +kernel) (by decide)) <|
  fa_cons (ok_iconst (show decode (am_mB y_Text_readHead) 55 = .ok (.iconst 0, 1) by decide +kernel) rfl) <|
  fa_cons (ok_iret (show decode (am_mB y_Text_readHead) 56 = .ok (.ireturn, 1) by decide +kernel) rfl) <|
  fa_cons (ok_aload_n (show decode (am_mB y_Text_readHead) 57 = .ok (.aload_n 1, 1) by decide +kernel) rfl) <|
  fa_cons (ok_iload_n (show decode (am_mB y_Text_readHead) 58 = .ok (.iload_n 2, 1) by decide +kernel) rfl) <|
  fa_cons (ok_putI (show decode (am_mB y_Text_readHead) 59 = .ok (.putfield 46, 3) by decide +kernel) fl_Text_46 (by decide +kernel)) <|
  fa_cons (ok_aload_n (show decode (am_mB y_Text_readHead) 62 = .ok (.aload_n 1, 1) by decide +kernel) rfl) <|
  fa_cons (ok_iload_n (show decode (am_mB y_Text_readHead) 63 = .ok (.iload_n 3, 1) by decide +kernel) rfl) <|
  fa_cons (ok_putI (show decode (am_mB y_Text_readHead) 64 = .ok (.putfield 49, 3) by decide +kernel) fl_Text_49 (by decide +kernel)) <|
  fa_cons (ok_aload_n (show decode (am_mB y_Text_readHead) 67 = .ok (.aload_n 1, 1) by decide +kernel) rfl) <|
  fa_cons (ok_iload (show decode (am_mB y_Text_readHead) 68 = .ok (.iload 4, 2) by decide +kernel)) <|
  fa_cons (ok_putI (show decode (am_mB y_Text_readHead) 70 = .ok (.putfield 52, 3) by decide +kernel) fl_Text_52 (by decide +kernel)) <|
  fa_cons (ok_iconst (show decode (am_mB y_Text_readHead) 73 = .ok (.iconst 1, 1) by decide +kernel) rfl) <|
  fa_cons (ok_iret (show decode (am_mB y_Text_readHead) 74 = .ok (.ireturn, 1) by decide +kernel) rfl) <|
  fa_nil
set_option maxRecDepth 100000 in
theorem cq_Text_readHead (l : Launch) (d : Nat) : am_lk (co_Text_readHead l d) 0 = am_aload 0 1 ∧ am_lk (co_Text_readHead l d) 1 = am_push (vI 84) 3 ∧ am_lk (co_Text_readHead l d) 3 = am_cal l d y_Text_takeSign (some 8) 2 6 0 0 0 0 ∧ am_lk (co_Text_readHead l d) 6 = am_if_ne 9 11 ∧ am_lk (co_Text_readHead l d) 9 = am_push (vI 0) 10 ∧ am_lk (co_Text_readHead l d) 10 = am_iret true ∧ am_lk (co_Text_readHead l d) 11 = am_aload 0 12 ∧ am_lk (co_Text_readHead l d) 12 = am_push (vI 1) 13 ∧ am_lk (co_Text_readHead l d) 13 = am_push (vI 4) 14 ∧ am_lk (co_Text_readHead l d) 14 = am_cal l d y_Text_takeDigit (some 8) 3 17 0 0 0 0 ∧ am_lk (co_Text_readHead l d) 17 = am_istore 2 18 ∧ am_lk (co_Text_readHead l d) 18 = am_iload 2 19 ∧ am_lk (co_Text_readHead l d) 19 = am_push (vI (-1)) 20 ∧ am_lk (co_Text_readHead l d) 20 = am_icmp_ne 23 25 ∧ am_lk (co_Text_readHead l d) 23 = am_push (vI 0) 24 ∧ am_lk (co_Text_readHead l d) 24 = am_iret true ∧ am_lk (co_Text_readHead l d) 25 = am_aload 0 26 ∧ am_lk (co_Text_readHead l d) 26 = am_push (vI 6) 28 ∧ am_lk (co_Text_readHead l d) 28 = am_push (vI 40) 30 ∧ am_lk (co_Text_readHead l d) 30 = am_cal l d y_Text_takePair (some 8) 3 33 0 0 0 0 ∧ am_lk (co_Text_readHead l d) 33 = am_istore 3 34 ∧ am_lk (co_Text_readHead l d) 34 = am_iload 3 35 ∧ am_lk (co_Text_readHead l d) 35 = am_push (vI (-1)) 36 ∧ am_lk (co_Text_readHead l d) 36 = am_icmp_ne 39 41 ∧ am_lk (co_Text_readHead l d) 39 = am_push (vI 0) 40 ∧ am_lk (co_Text_readHead l d) 40 = am_iret true ∧ am_lk (co_Text_readHead l d) 41 = am_aload 0 42 ∧ am_lk (co_Text_readHead l d) 42 = am_push (vI 0) 43 ∧ am_lk (co_Text_readHead l d) 43 = am_push (vI 4) 44 ∧ am_lk (co_Text_readHead l d) 44 = am_cal l d y_Text_takeDigit (some 8) 3 47 0 0 0 0 ∧ am_lk (co_Text_readHead l d) 47 = am_istore 4 49 ∧ am_lk (co_Text_readHead l d) 49 = am_iload 4 51 ∧ am_lk (co_Text_readHead l d) 51 = am_push (vI (-1)) 52 ∧ am_lk (co_Text_readHead l d) 52 = am_icmp_ne 55 57 ∧ am_lk (co_Text_readHead l d) 55 = am_push (vI 0) 56 ∧ am_lk (co_Text_readHead l d) 56 = am_iret true ∧ am_lk (co_Text_readHead l d) 57 = am_aload 1 58 ∧ am_lk (co_Text_readHead l d) 58 = am_iload 2 59 ∧ am_lk (co_Text_readHead l d) 59 = am_putI 7 0 62 ∧ am_lk (co_Text_readHead l d) 62 = am_aload 1 63 ∧ am_lk (co_Text_readHead l d) 63 = am_iload 3 64 ∧ am_lk (co_Text_readHead l d) 64 = am_putI 7 3 67 ∧ am_lk (co_Text_readHead l d) 67 = am_aload 1 68 ∧ am_lk (co_Text_readHead l d) 68 = am_iload 4 70 ∧ am_lk (co_Text_readHead l d) 70 = am_putI 7 4 73 ∧ am_lk (co_Text_readHead l d) 73 = am_push (vI 1) 74 ∧ am_lk (co_Text_readHead l d) 74 = am_iret true := ⟨rfl, rfl, rfl, rfl, rfl, rfl, rfl, rfl, rfl, rfl, rfl, rfl, rfl, rfl, rfl, rfl, rfl, rfl, rfl, rfl, rfl, rfl, rfl, rfl, rfl, rfl, rfl, rfl, rfl, rfl, rfl, rfl, rfl, rfl, rfl, rfl, rfl, rfl, rfl, rfl, rfl, rfl, rfl, rfl, rfl, rfl, rfl⟩
theorem en_Text_readHead {l : Launch} {d : Nat} (n : Nat) {as : List am_V} {G : am_G} {I : am_I} {J : am_J} {P : am_P} (hlen : (as.map am_cat).sum ≤ 5) (h : am_go (am_lk (co_Text_readHead l d)) (am_X l (0, fun _ => 0) (d + 1) y_Text_readHead P) P n 0 (am_el 5 as) [] 0 0 G I J) : am_T l (d + 1) y_Text_readHead as G I J P :=
  am_T_of (sc := (0, fun _ => 0)) cf_Text_readHead (by decide +kernel) (by decide) (by decide +kernel) hlen (am_run (ok_lk _ (ck_Text_readHead)) n _ _ _ _ _ _ _ _ h)
theorem rn_Text_readHead {l : Launch} {sc : Nat × (Nat → Int32)} {d : Nat} {P : am_P} (n : Nat) {pc : Nat} {ls : am_L} {st : List am_V} {kc ks : Nat} {G : am_G} {I : am_I} {J : am_J} (h : am_go (am_lk (co_Text_readHead l d)) (am_X l sc (d + 1) y_Text_readHead P) P n pc ls st kc ks G I J) : am_X l sc (d + 1) y_Text_readHead P pc ls st kc ks G I J := am_run (ok_lk _ (ck_Text_readHead)) n _ _ _ _ _ _ _ _ h
def co_Text_readPart (l : Launch) (d : Nat) : List (Nat × am_S) := [(0, am_aload 1 1), (1, am_cal l d y_Table_isFull (some 7) 1 4 0 0 0 0), (4, am_if_ne 7 22), (7, am_aload 0 8), (8, am_push (vI 114) 10), (10, am_cal l d y_Text_takeSign (some 8) 2 13 0 0 0 0), (13, am_if_eq 16 22), (16, am_aload 0 17), (17, am_aload 1 18), (18, am_cal l d y_Text_readRow (some 8) 2 21 0 0 0 0), (21, am_iret true), (22, am_aload 1 23), (23, am_getI 7 1 26), (26, am_push (vI 1) 27), (27, am_icmp_lt 30 53), (30, am_aload 0 31), (31, am_push (vI 107) 33), (33, am_cal l d y_Text_takeSign (some 8) 2 36 0 0 0 0), (36, am_if_eq 39 53), (39, am_aload 1 40), (40, am_getR 7 7 43), (43, am_aload 1 44), (44, am_getI 7 1 47), (47, am_push (vI 1) 48), (48, am_isub 49), (49, am_push (vI 1) 50), (50, am_ast 1 (vp_nar .boolean) 51), (51, am_push (vI 1) 52), (52, am_iret true), (53, am_aload 1 54), (54, am_getI 7 1 57), (57, am_push (vI 1) 58), (58, am_icmp_lt 61 76), (61, am_aload 0 62), (62, am_push (vI 110) 64), (64, am_cal l d y_Text_takeSign (some 8) 2 67 0 0 0 0), (67, am_if_eq 70 76), (70, am_aload 0 71), (71, am_aload 1 72), (72, am_cal l d y_Text_readNote (some 8) 2 75 0 0 0 0), (75, am_iret true), (76, am_aload 0 77), (77, am_push (vI 104) 79), (79, am_cal l d y_Text_takeSign (some 8) 2 82 0 0 0 0), (82, am_if_eq 85 91), (85, am_aload 0 86), (86, am_aload 1 87), (87, am_cal l d y_Text_readNoteHeight (some 8) 2 90 0 0 0 0), (90, am_iret true), (91, am_aload 1 92), (92, am_getI 7 1 95), (95, am_push (vI 2) 96), (96, am_icmp_lt 99 121), (99, am_aload 1 100), (100, am_cal l d y_Table_hasAllSpans (some 7) 1 103 0 0 0 0), (103, am_if_ne 106 121), (106, am_aload 0 107), (107, am_push (vI 115) 109), (109, am_cal l d y_Text_takeSign (some 8) 2 112 0 0 0 0), (112, am_if_eq 115 121), (115, am_aload 0 116), (116, am_aload 1 117), (117, am_cal l d y_Text_readSpan (some 8) 2 120 0 0 0 0), (120, am_iret true), (121, am_push (vI 0) 122), (122, am_iret true)]
theorem ck_Text_readPart {l : Launch} {sc : Nat × (Nat → Int32)} {d : Nat} : ∀ q ∈ co_Text_readPart l d, am_ok l sc (d + 1) y_Text_readPart q.1 q.2 :=
  fa_cons (ok_aload_n (show decode (am_mB y_Text_readPart) 0 = .ok (.aload_n 1, 1) by decide +kernel) rfl) <|
  fa_cons (ok_cal ⟨rfl, rfl, rfl, rfl⟩ (ok_callV (show decode (am_mB y_Text_readPart) 1 = .ok (.invokevirtual 55, 3) by decide +kernel) cf_Table_isFull (by decide +kernel) ml_Text_55 ci_Table_isFull cv_Table_isFull ⟨by decide, rfl⟩ rfl ⟨by decide +kernel, rfl⟩)) <|
  fa_cons (ok_if_ne (show decode (am_mB y_Text_readPart) 4 = .ok (.ifCond .ne 18, 3) by decide +kernel) (by decide)) <|
  fa_cons (ok_aload_n (show decode (am_mB y_Text_readPart) 7 = .ok (.aload_n 0, 1) by decide +kernel) rfl) <|
  fa_cons (ok_bipush (show decode (am_mB y_Text_readPart) 8 = .ok (.bipush 114, 2) by decide +kernel) (by decide +kernel)) <|
  fa_cons (ok_cal ⟨rfl, rfl, rfl, rfl⟩ (ok_callV (show decode (am_mB y_Text_readPart) 10 = .ok (.invokevirtual 35, 3) by decide +kernel) cf_Text_takeSign (by decide +kernel) ml_Text_35 ci_Text_takeSign cv_Text_takeSign ⟨by decide, rfl⟩ rfl ⟨by decide +kernel, rfl⟩)) <|
  fa_cons (ok_if_eq (show decode (am_mB y_Text_readPart) 13 = .ok (.ifCond .eq 9, 3) by decide +kernel) (by decide)) <|
  fa_cons (ok_aload_n (show decode (am_mB y_Text_readPart) 16 = .ok (.aload_n 0, 1) by decide +kernel) rfl) <|
  fa_cons (ok_aload_n (show decode (am_mB y_Text_readPart) 17 = .ok (.aload_n 1, 1) by decide +kernel) rfl) <|
  fa_cons (ok_cal ⟨rfl, rfl, rfl, rfl⟩ (ok_callV (show decode (am_mB y_Text_readPart) 18 = .ok (.invokevirtual 59, 3) by decide +kernel) cf_Text_readRow (by decide +kernel) ml_Text_59 ci_Text_readRow cv_Text_readRow ⟨by decide, rfl⟩ rfl ⟨by decide +kernel, rfl⟩)) <|
  fa_cons (ok_iret (show decode (am_mB y_Text_readPart) 21 = .ok (.ireturn, 1) by decide +kernel) rfl) <|
  fa_cons (ok_aload_n (show decode (am_mB y_Text_readPart) 22 = .ok (.aload_n 1, 1) by decide +kernel) rfl) <|
  fa_cons (ok_getI (show decode (am_mB y_Text_readPart) 23 = .ok (.getfield 62, 3) by decide +kernel) fl_Text_62 (by decide +kernel)) <|
  fa_cons (ok_iconst (show decode (am_mB y_Text_readPart) 26 = .ok (.iconst 1, 1) by decide +kernel) rfl) <|
  fa_cons (ok_icmp_lt (show decode (am_mB y_Text_readPart) 27 = .ok (.if_icmp .lt 26, 3) by decide +kernel) (by decide)) <|
  fa_cons (ok_aload_n (show decode (am_mB y_Text_readPart) 30 = .ok (.aload_n 0, 1) by decide +kernel) rfl) <|
  fa_cons (ok_bipush (show decode (am_mB y_Text_readPart) 31 = .ok (.bipush 107, 2) by decide +kernel) (by decide +kernel)) <|
  fa_cons (ok_cal ⟨rfl, rfl, rfl, rfl⟩ (ok_callV (show decode (am_mB y_Text_readPart) 33 = .ok (.invokevirtual 35, 3) by decide +kernel) cf_Text_takeSign (by decide +kernel) ml_Text_35 ci_Text_takeSign cv_Text_takeSign ⟨by decide, rfl⟩ rfl ⟨by decide +kernel, rfl⟩)) <|
  fa_cons (ok_if_eq (show decode (am_mB y_Text_readPart) 36 = .ok (.ifCond .eq 17, 3) by decide +kernel) (by decide)) <|
  fa_cons (ok_aload_n (show decode (am_mB y_Text_readPart) 39 = .ok (.aload_n 1, 1) by decide +kernel) rfl) <|
  fa_cons (ok_getR (show decode (am_mB y_Text_readPart) 40 = .ok (.getfield 65, 3) by decide +kernel) fl_Text_65 (by decide +kernel)) <|
  fa_cons (ok_aload_n (show decode (am_mB y_Text_readPart) 43 = .ok (.aload_n 1, 1) by decide +kernel) rfl) <|
  fa_cons (ok_getI (show decode (am_mB y_Text_readPart) 44 = .ok (.getfield 62, 3) by decide +kernel) fl_Text_62 (by decide +kernel)) <|
  fa_cons (ok_iconst (show decode (am_mB y_Text_readPart) 47 = .ok (.iconst 1, 1) by decide +kernel) rfl) <|
  fa_cons (ok_isub (show decode (am_mB y_Text_readPart) 48 = .ok (.isub, 1) by decide +kernel)) <|
  fa_cons (ok_iconst (show decode (am_mB y_Text_readPart) 49 = .ok (.iconst 1, 1) by decide +kernel) rfl) <|
  fa_cons (ok_zast (show decode (am_mB y_Text_readPart) 50 = .ok (.bastore, 1) by decide +kernel)) <|
  fa_cons (ok_iconst (show decode (am_mB y_Text_readPart) 51 = .ok (.iconst 1, 1) by decide +kernel) rfl) <|
  fa_cons (ok_iret (show decode (am_mB y_Text_readPart) 52 = .ok (.ireturn, 1) by decide +kernel) rfl) <|
  fa_cons (ok_aload_n (show decode (am_mB y_Text_readPart) 53 = .ok (.aload_n 1, 1) by decide +kernel) rfl) <|
  fa_cons (ok_getI (show decode (am_mB y_Text_readPart) 54 = .ok (.getfield 62, 3) by decide +kernel) fl_Text_62 (by decide +kernel)) <|
  fa_cons (ok_iconst (show decode (am_mB y_Text_readPart) 57 = .ok (.iconst 1, 1) by decide +kernel) rfl) <|
  fa_cons (ok_icmp_lt (show decode (am_mB y_Text_readPart) 58 = .ok (.if_icmp .lt 18, 3) by decide +kernel) (by decide)) <|
  fa_cons (ok_aload_n (show decode (am_mB y_Text_readPart) 61 = .ok (.aload_n 0, 1) by decide +kernel) rfl) <|
  fa_cons (ok_bipush (show decode (am_mB y_Text_readPart) 62 = .ok (.bipush 110, 2) by decide +kernel) (by decide +kernel)) <|
  fa_cons (ok_cal ⟨rfl, rfl, rfl, rfl⟩ (ok_callV (show decode (am_mB y_Text_readPart) 64 = .ok (.invokevirtual 35, 3) by decide +kernel) cf_Text_takeSign (by decide +kernel) ml_Text_35 ci_Text_takeSign cv_Text_takeSign ⟨by decide, rfl⟩ rfl ⟨by decide +kernel, rfl⟩)) <|
  fa_cons (ok_if_eq (show decode (am_mB y_Text_readPart) 67 = .ok (.ifCond .eq 9, 3) by decide +kernel) (by decide)) <|
  fa_cons (ok_aload_n (show decode (am_mB y_Text_readPart) 70 = .ok (.aload_n 0, 1) by decide +kernel) rfl) <|
  fa_cons (ok_aload_n (show decode (am_mB y_Text_readPart) 71 = .ok (.aload_n 1, 1) by decide +kernel) rfl) <|
  fa_cons (ok_cal ⟨rfl, rfl, rfl, rfl⟩ (ok_callV (show decode (am_mB y_Text_readPart) 72 = .ok (.invokevirtual 69, 3) by decide +kernel) cf_Text_readNote (by decide +kernel) ml_Text_69 ci_Text_readNote cv_Text_readNote ⟨by decide, rfl⟩ rfl ⟨by decide +kernel, rfl⟩)) <|
  fa_cons (ok_iret (show decode (am_mB y_Text_readPart) 75 = .ok (.ireturn, 1) by decide +kernel) rfl) <|
  fa_cons (ok_aload_n (show decode (am_mB y_Text_readPart) 76 = .ok (.aload_n 0, 1) by decide +kernel) rfl) <|
  fa_cons (ok_bipush (show decode (am_mB y_Text_readPart) 77 = .ok (.bipush 104, 2) by decide +kernel) (by decide +kernel)) <|
  fa_cons (ok_cal ⟨rfl, rfl, rfl, rfl⟩ (ok_callV (show decode (am_mB y_Text_readPart) 79 = .ok (.invokevirtual 35, 3) by decide +kernel) cf_Text_takeSign (by decide +kernel) ml_Text_35 ci_Text_takeSign cv_Text_takeSign ⟨by decide, rfl⟩ rfl ⟨by decide +kernel, rfl⟩)) <|
  fa_cons (ok_if_eq (show decode (am_mB y_Text_readPart) 82 = .ok (.ifCond .eq 9, 3) by decide +kernel) (by decide)) <|
  fa_cons (ok_aload_n (show decode (am_mB y_Text_readPart) 85 = .ok (.aload_n 0, 1) by decide +kernel) rfl) <|
  fa_cons (ok_aload_n (show decode (am_mB y_Text_readPart) 86 = .ok (.aload_n 1, 1) by decide +kernel) rfl) <|
  fa_cons (ok_cal ⟨rfl, rfl, rfl, rfl⟩ (ok_callV (show decode (am_mB y_Text_readPart) 87 = .ok (.invokevirtual 72, 3) by decide +kernel) cf_Text_readNoteHeight (by decide +kernel) ml_Text_72 ci_Text_readNoteHeight cv_Text_readNoteHeight ⟨by decide, rfl⟩ rfl ⟨by decide +kernel, rfl⟩)) <|
  fa_cons (ok_iret (show decode (am_mB y_Text_readPart) 90 = .ok (.ireturn, 1) by decide +kernel) rfl) <|
  fa_cons (ok_aload_n (show decode (am_mB y_Text_readPart) 91 = .ok (.aload_n 1, 1) by decide +kernel) rfl) <|
  fa_cons (ok_getI (show decode (am_mB y_Text_readPart) 92 = .ok (.getfield 62, 3) by decide +kernel) fl_Text_62 (by decide +kernel)) <|
  fa_cons (ok_iconst (show decode (am_mB y_Text_readPart) 95 = .ok (.iconst 2, 1) by decide +kernel) rfl) <|
  fa_cons (ok_icmp_lt (show decode (am_mB y_Text_readPart) 96 = .ok (.if_icmp .lt 25, 3) by decide +kernel) (by decide)) <|
  fa_cons (ok_aload_n (show decode (am_mB y_Text_readPart) 99 = .ok (.aload_n 1, 1) by decide +kernel) rfl) <|
  fa_cons (ok_cal ⟨rfl, rfl, rfl, rfl⟩ (ok_callV (show decode (am_mB y_Text_readPart) 100 = .ok (.invokevirtual 75, 3) by decide +kernel) cf_Table_hasAllSpans (by decide +kernel) ml_Text_75 ci_Table_hasAllSpans cv_Table_hasAllSpans ⟨by decide, rfl⟩ rfl ⟨by decide +kernel, rfl⟩)) <|
  fa_cons (ok_if_ne (show decode (am_mB y_Text_readPart) 103 = .ok (.ifCond .ne 18, 3) by decide +kernel) (by decide)) <|
  fa_cons (ok_aload_n (show decode (am_mB y_Text_readPart) 106 = .ok (.aload_n 0, 1) by decide +kernel) rfl) <|
  fa_cons (ok_bipush (show decode (am_mB y_Text_readPart) 107 = .ok (.bipush 115, 2) by decide +kernel) (by decide +kernel)) <|
  fa_cons (ok_cal ⟨rfl, rfl, rfl, rfl⟩ (ok_callV (show decode (am_mB y_Text_readPart) 109 = .ok (.invokevirtual 35, 3) by decide +kernel) cf_Text_takeSign (by decide +kernel) ml_Text_35 ci_Text_takeSign cv_Text_takeSign ⟨by decide, rfl⟩ rfl ⟨by decide +kernel, rfl⟩)) <|
  fa_cons (ok_if_eq (show decode (am_mB y_Text_readPart) 112 = .ok (.ifCond .eq 9, 3) by decide +kernel) (by decide)) <|
  fa_cons (ok_aload_n (show decode (am_mB y_Text_readPart) 115 = .ok (.aload_n 0, 1) by decide +kernel) rfl) <|
  fa_cons (ok_aload_n (show decode (am_mB y_Text_readPart) 116 = .ok (.aload_n 1, 1) by decide +kernel) rfl) <|
  fa_cons (ok_cal ⟨rfl, rfl, rfl, rfl⟩ (ok_callV (show decode (am_mB y_Text_readPart) 117 = .ok (.invokevirtual 78, 3) by decide +kernel) cf_Text_readSpan (by decide +kernel) ml_Text_78 ci_Text_readSpan cv_Text_readSpan ⟨by decide, rfl⟩ rfl ⟨by decide +kernel, rfl⟩)) <|
  fa_cons (ok_iret (show decode (am_mB y_Text_readPart) 120 = .ok (.ireturn, 1) by decide +kernel) rfl) <|
  fa_cons (ok_iconst (show decode (am_mB y_Text_readPart) 121 = .ok (.iconst 0, 1) by decide +kernel) rfl) <|
  fa_cons (ok_iret (show decode (am_mB y_Text_readPart) 122 = .ok (.ireturn, 1) by decide +kernel) rfl) <|
  fa_nil
set_option maxRecDepth 100000 in
theorem cq_Text_readPart (l : Launch) (d : Nat) : am_lk (co_Text_readPart l d) 0 = am_aload 1 1 ∧ am_lk (co_Text_readPart l d) 1 = am_cal l d y_Table_isFull (some 7) 1 4 0 0 0 0 ∧ am_lk (co_Text_readPart l d) 4 = am_if_ne 7 22 ∧ am_lk (co_Text_readPart l d) 7 = am_aload 0 8 ∧ am_lk (co_Text_readPart l d) 8 = am_push (vI 114) 10 ∧ am_lk (co_Text_readPart l d) 10 = am_cal l d y_Text_takeSign (some 8) 2 13 0 0 0 0 ∧ am_lk (co_Text_readPart l d) 13 = am_if_eq 16 22 ∧ am_lk (co_Text_readPart l d) 16 = am_aload 0 17 ∧ am_lk (co_Text_readPart l d) 17 = am_aload 1 18 ∧ am_lk (co_Text_readPart l d) 18 = am_cal l d y_Text_readRow (some 8) 2 21 0 0 0 0 ∧ am_lk (co_Text_readPart l d) 21 = am_iret true ∧ am_lk (co_Text_readPart l d) 22 = am_aload 1 23 ∧ am_lk (co_Text_readPart l d) 23 = am_getI 7 1 26 ∧ am_lk (co_Text_readPart l d) 26 = am_push (vI 1) 27 ∧ am_lk (co_Text_readPart l d) 27 = am_icmp_lt 30 53 ∧ am_lk (co_Text_readPart l d) 30 = am_aload 0 31 ∧ am_lk (co_Text_readPart l d) 31 = am_push (vI 107) 33 ∧ am_lk (co_Text_readPart l d) 33 = am_cal l d y_Text_takeSign (some 8) 2 36 0 0 0 0 ∧ am_lk (co_Text_readPart l d) 36 = am_if_eq 39 53 ∧ am_lk (co_Text_readPart l d) 39 = am_aload 1 40 ∧ am_lk (co_Text_readPart l d) 40 = am_getR 7 7 43 ∧ am_lk (co_Text_readPart l d) 43 = am_aload 1 44 ∧ am_lk (co_Text_readPart l d) 44 = am_getI 7 1 47 ∧ am_lk (co_Text_readPart l d) 47 = am_push (vI 1) 48 ∧ am_lk (co_Text_readPart l d) 48 = am_isub 49 ∧ am_lk (co_Text_readPart l d) 49 = am_push (vI 1) 50 ∧ am_lk (co_Text_readPart l d) 50 = am_ast 1 (vp_nar .boolean) 51 ∧ am_lk (co_Text_readPart l d) 51 = am_push (vI 1) 52 ∧ am_lk (co_Text_readPart l d) 52 = am_iret true ∧ am_lk (co_Text_readPart l d) 53 = am_aload 1 54 ∧ am_lk (co_Text_readPart l d) 54 = am_getI 7 1 57 ∧ am_lk (co_Text_readPart l d) 57 = am_push (vI 1) 58 ∧ am_lk (co_Text_readPart l d) 58 = am_icmp_lt 61 76 ∧ am_lk (co_Text_readPart l d) 61 = am_aload 0 62 ∧ am_lk (co_Text_readPart l d) 62 = am_push (vI 110) 64 ∧ am_lk (co_Text_readPart l d) 64 = am_cal l d y_Text_takeSign (some 8) 2 67 0 0 0 0 ∧ am_lk (co_Text_readPart l d) 67 = am_if_eq 70 76 ∧ am_lk (co_Text_readPart l d) 70 = am_aload 0 71 ∧ am_lk (co_Text_readPart l d) 71 = am_aload 1 72 ∧ am_lk (co_Text_readPart l d) 72 = am_cal l d y_Text_readNote (some 8) 2 75 0 0 0 0 ∧ am_lk (co_Text_readPart l d) 75 = am_iret true ∧ am_lk (co_Text_readPart l d) 76 = am_aload 0 77 ∧ am_lk (co_Text_readPart l d) 77 = am_push (vI 104) 79 ∧ am_lk (co_Text_readPart l d) 79 = am_cal l d y_Text_takeSign (some 8) 2 82 0 0 0 0 ∧ am_lk (co_Text_readPart l d) 82 = am_if_eq 85 91 ∧ am_lk (co_Text_readPart l d) 85 = am_aload 0 86 ∧ am_lk (co_Text_readPart l d) 86 = am_aload 1 87 ∧ am_lk (co_Text_readPart l d) 87 = am_cal l d y_Text_readNoteHeight (some 8) 2 90 0 0 0 0 ∧ am_lk (co_Text_readPart l d) 90 = am_iret true ∧ am_lk (co_Text_readPart l d) 91 = am_aload 1 92 ∧ am_lk (co_Text_readPart l d) 92 = am_getI 7 1 95 ∧ am_lk (co_Text_readPart l d) 95 = am_push (vI 2) 96 ∧ am_lk (co_Text_readPart l d) 96 = am_icmp_lt 99 121 ∧ am_lk (co_Text_readPart l d) 99 = am_aload 1 100 ∧ am_lk (co_Text_readPart l d) 100 = am_cal l d y_Table_hasAllSpans (some 7) 1 103 0 0 0 0 ∧ am_lk (co_Text_readPart l d) 103 = am_if_ne 106 121 ∧ am_lk (co_Text_readPart l d) 106 = am_aload 0 107 ∧ am_lk (co_Text_readPart l d) 107 = am_push (vI 115) 109 ∧ am_lk (co_Text_readPart l d) 109 = am_cal l d y_Text_takeSign (some 8) 2 112 0 0 0 0 ∧ am_lk (co_Text_readPart l d) 112 = am_if_eq 115 121 ∧ am_lk (co_Text_readPart l d) 115 = am_aload 0 116 ∧ am_lk (co_Text_readPart l d) 116 = am_aload 1 117 ∧ am_lk (co_Text_readPart l d) 117 = am_cal l d y_Text_readSpan (some 8) 2 120 0 0 0 0 ∧ am_lk (co_Text_readPart l d) 120 = am_iret true ∧ am_lk (co_Text_readPart l d) 121 = am_push (vI 0) 122 ∧ am_lk (co_Text_readPart l d) 122 = am_iret true := ⟨rfl, rfl, rfl, rfl, rfl, rfl, rfl, rfl, rfl, rfl, rfl, rfl, rfl, rfl, rfl, rfl, rfl, rfl, rfl, rfl, rfl, rfl, rfl, rfl, rfl, rfl, rfl, rfl, rfl, rfl, rfl, rfl, rfl, rfl, rfl, rfl, rfl, rfl, rfl, rfl, rfl, rfl, rfl, rfl, rfl, rfl, rfl, rfl, rfl, rfl, rfl, rfl, rfl, rfl, rfl, rfl, rfl, rfl, rfl, rfl, rfl, rfl, rfl, rfl, rfl, rfl⟩
theorem en_Text_readPart {l : Launch} {d : Nat} (n : Nat) {as : List am_V} {G : am_G} {I : am_I} {J : am_J} {P : am_P} (hlen : (as.map am_cat).sum ≤ 2) (h : am_go (am_lk (co_Text_readPart l d)) (am_X l (0, fun _ => 0) (d + 1) y_Text_readPart P) P n 0 (am_el 2 as) [] 0 0 G I J) : am_T l (d + 1) y_Text_readPart as G I J P :=
  am_T_of (sc := (0, fun _ => 0)) cf_Text_readPart (by decide +kernel) (by decide) (by decide +kernel) hlen (am_run (ok_lk _ (ck_Text_readPart)) n _ _ _ _ _ _ _ _ h)
theorem rn_Text_readPart {l : Launch} {sc : Nat × (Nat → Int32)} {d : Nat} {P : am_P} (n : Nat) {pc : Nat} {ls : am_L} {st : List am_V} {kc ks : Nat} {G : am_G} {I : am_I} {J : am_J} (h : am_go (am_lk (co_Text_readPart l d)) (am_X l sc (d + 1) y_Text_readPart P) P n pc ls st kc ks G I J) : am_X l sc (d + 1) y_Text_readPart P pc ls st kc ks G I J := am_run (ok_lk _ (ck_Text_readPart)) n _ _ _ _ _ _ _ _ h
def co_Text_readRow (l : Launch) (d : Nat) : List (Nat × am_S) := [(0, am_aload 0 1), (1, am_push (vI 1) 2), (2, am_push (vI 6) 4), (4, am_cal l d y_Text_takeDigit (some 8) 3 7 0 0 0 0), (7, am_istore 2 8), (8, am_iload 2 9), (9, am_push (vI (-1)) 10), (10, am_icmp_ne 13 15), (13, am_push (vI 0) 14), (14, am_iret true), (15, am_aload 1 16), (16, am_getI 7 1 19), (19, am_istore 3 20), (20, am_aload 1 21), (21, am_iload 2 22), (22, am_push (vI 0) 23), (23, am_cal l d y_Table_putRow (some 7) 3 26 0 0 0 0), (26, am_push (vI 0) 27), (27, am_stp (am_istore 4 29)), (29, am_iload 4 31), (31, am_aload 1 32), (32, am_getI 7 0 35), (35, am_icmp_ge 38 105), (38, am_aload 0 39), (39, am_push (vI 45) 41), (41, am_cal l d y_Text_takeSign (some 8) 2 44 0 0 0 0), (44, am_istore 5 46), (46, am_iload 5 48), (48, am_if_ne 51 62), (51, am_aload 0 52), (52, am_push (vI 43) 54), (54, am_cal l d y_Text_takeSign (some 8) 2 57 0 0 0 0), (57, am_if_ne 60 62), (60, am_push (vI 0) 61), (61, am_iret true), (62, am_aload 0 63), (63, am_push (vI 0) 64), (64, am_push (vI 99) 66), (66, am_cal l d y_Text_takePair (some 8) 3 69 0 0 0 0), (69, am_istore 6 71), (71, am_iload 6 73), (73, am_push (vI (-1)) 74), (74, am_icmp_ne 77 79), (77, am_push (vI 0) 78), (78, am_iret true), (79, am_aload 1 80), (80, am_iload 3 81), (81, am_iload 4 83), (83, am_iload 5 85), (85, am_if_eq 88 94), (88, am_iload 6 90), (90, am_ineg 91), (91, am_goto 96), (94, am_iload 6 96), (96, am_cal l d y_Table_putAmount (some 7) 4 99 0 0 0 0), (99, am_iinc 4 1 102), (102, am_stp (am_goto 29)), (105, am_push (vI 1) 106), (106, am_iret true)]
theorem ck_Text_readRow {l : Launch} {sc : Nat × (Nat → Int32)} {d : Nat} : ∀ q ∈ co_Text_readRow l d, am_ok l sc (d + 1) y_Text_readRow q.1 q.2 :=
  fa_cons (ok_aload_n (show decode (am_mB y_Text_readRow) 0 = .ok (.aload_n 0, 1) by decide +kernel) rfl) <|
  fa_cons (ok_iconst (show decode (am_mB y_Text_readRow) 1 = .ok (.iconst 1, 1) by decide +kernel) rfl) <|
  fa_cons (ok_bipush (show decode (am_mB y_Text_readRow) 2 = .ok (.bipush 6, 2) by decide +kernel) (by decide +kernel)) <|
  fa_cons (ok_cal ⟨rfl, rfl, rfl, rfl⟩ (ok_callV (show decode (am_mB y_Text_readRow) 4 = .ok (.invokevirtual 39, 3) by decide +kernel) cf_Text_takeDigit (by decide +kernel) ml_Text_39 ci_Text_takeDigit cv_Text_takeDigit ⟨by decide, rfl⟩ rfl ⟨by decide +kernel, rfl⟩)) <|
  fa_cons (ok_istore_n (show decode (am_mB y_Text_readRow) 7 = .ok (.istore_n 2, 1) by decide +kernel) rfl (by decide +kernel)) <|
  fa_cons (ok_iload_n (show decode (am_mB y_Text_readRow) 8 = .ok (.iload_n 2, 1) by decide +kernel) rfl) <|
  fa_cons (ok_iconst (show decode (am_mB y_Text_readRow) 9 = .ok (.iconst (-1), 1) by decide +kernel) rfl) <|
  fa_cons (ok_icmp_ne (show decode (am_mB y_Text_readRow) 10 = .ok (.if_icmp .ne 5, 3) by decide +kernel) (by decide)) <|
  fa_cons (ok_iconst (show decode (am_mB y_Text_readRow) 13 = .ok (.iconst 0, 1) by decide +kernel) rfl) <|
  fa_cons (ok_iret (show decode (am_mB y_Text_readRow) 14 = .ok (.ireturn, 1) by decide +kernel) rfl) <|
  fa_cons (ok_aload_n (show decode (am_mB y_Text_readRow) 15 = .ok (.aload_n 1, 1) by decide +kernel) rfl) <|
  fa_cons (ok_getI (show decode (am_mB y_Text_readRow) 16 = .ok (.getfield 62, 3) by decide +kernel) fl_Text_62 (by decide +kernel)) <|
  fa_cons (ok_istore_n (show decode (am_mB y_Text_readRow) 19 = .ok (.istore_n 3, 1) by decide +kernel) rfl (by decide +kernel)) <|
  fa_cons (ok_aload_n (show decode (am_mB y_Text_readRow) 20 = .ok (.aload_n 1, 1) by decide +kernel) rfl) <|
  fa_cons (ok_iload_n (show decode (am_mB y_Text_readRow) 21 = .ok (.iload_n 2, 1) by decide +kernel) rfl) <|
  fa_cons (ok_iconst (show decode (am_mB y_Text_readRow) 22 = .ok (.iconst 0, 1) by decide +kernel) rfl) <|
  fa_cons (ok_cal ⟨rfl, rfl, rfl, rfl⟩ (ok_callV (show decode (am_mB y_Text_readRow) 23 = .ok (.invokevirtual 81, 3) by decide +kernel) cf_Table_putRow (by decide +kernel) ml_Text_81 ci_Table_putRow cv_Table_putRow ⟨by decide, rfl⟩ rfl ⟨by decide +kernel, rfl⟩)) <|
  fa_cons (ok_iconst (show decode (am_mB y_Text_readRow) 26 = .ok (.iconst 0, 1) by decide +kernel) rfl) <|
  fa_cons (ok_stp (σ := am_istore 4 29) (ok_istore (show decode (am_mB y_Text_readRow) 27 = .ok (.istore 4, 2) by decide +kernel) (by decide +kernel))) <|
  fa_cons (ok_iload (show decode (am_mB y_Text_readRow) 29 = .ok (.iload 4, 2) by decide +kernel)) <|
  fa_cons (ok_aload_n (show decode (am_mB y_Text_readRow) 31 = .ok (.aload_n 1, 1) by decide +kernel) rfl) <|
  fa_cons (ok_getI (show decode (am_mB y_Text_readRow) 32 = .ok (.getfield 46, 3) by decide +kernel) fl_Text_46 (by decide +kernel)) <|
  fa_cons (ok_icmp_ge (show decode (am_mB y_Text_readRow) 35 = .ok (.if_icmp .ge 70, 3) by decide +kernel) (by decide)) <|
  fa_cons (ok_aload_n (show decode (am_mB y_Text_readRow) 38 = .ok (.aload_n 0, 1) by decide +kernel) rfl) <|
  fa_cons (ok_bipush (show decode (am_mB y_Text_readRow) 39 = .ok (.bipush 45, 2) by decide +kernel) (by decide +kernel)) <|
  fa_cons (ok_cal ⟨rfl, rfl, rfl, rfl⟩ (ok_callV (show decode (am_mB y_Text_readRow) 41 = .ok (.invokevirtual 35, 3) by decide +kernel) cf_Text_takeSign (by decide +kernel) ml_Text_35 ci_Text_takeSign cv_Text_takeSign ⟨by decide, rfl⟩ rfl ⟨by decide +kernel, rfl⟩)) <|
  fa_cons (ok_istore (show decode (am_mB y_Text_readRow) 44 = .ok (.istore 5, 2) by decide +kernel) (by decide +kernel)) <|
  fa_cons (ok_iload (show decode (am_mB y_Text_readRow) 46 = .ok (.iload 5, 2) by decide +kernel)) <|
  fa_cons (ok_if_ne (show decode (am_mB y_Text_readRow) 48 = .ok (.ifCond .ne 14, 3) by decide +kernel) (by decide)) <|
  fa_cons (ok_aload_n (show decode (am_mB y_Text_readRow) 51 = .ok (.aload_n 0, 1) by decide +kernel) rfl) <|
  fa_cons (ok_bipush (show decode (am_mB y_Text_readRow) 52 = .ok (.bipush 43, 2) by decide +kernel) (by decide +kernel)) <|
  fa_cons (ok_cal ⟨rfl, rfl, rfl, rfl⟩ (ok_callV (show decode (am_mB y_Text_readRow) 54 = .ok (.invokevirtual 35, 3) by decide +kernel) cf_Text_takeSign (by decide +kernel) ml_Text_35 ci_Text_takeSign cv_Text_takeSign ⟨by decide, rfl⟩ rfl ⟨by decide +kernel, rfl⟩)) <|
  fa_cons (ok_if_ne (show decode (am_mB y_Text_readRow) 57 = .ok (.ifCond .ne 5, 3) by decide +kernel) (by decide)) <|
  fa_cons (ok_iconst (show decode (am_mB y_Text_readRow) 60 = .ok (.iconst 0, 1) by decide +kernel) rfl) <|
  fa_cons (ok_iret (show decode (am_mB y_Text_readRow) 61 = .ok (.ireturn, 1) by decide +kernel) rfl) <|
  fa_cons (ok_aload_n (show decode (am_mB y_Text_readRow) 62 = .ok (.aload_n 0, 1) by decide +kernel) rfl) <|
  fa_cons (ok_iconst (show decode (am_mB y_Text_readRow) 63 = .ok (.iconst 0, 1) by decide +kernel) rfl) <|
  fa_cons (ok_bipush (show decode (am_mB y_Text_readRow) 64 = .ok (.bipush 99, 2) by decide +kernel) (by decide +kernel)) <|
  fa_cons (ok_cal ⟨rfl, rfl, rfl, rfl⟩ (ok_callV (show decode (am_mB y_Text_readRow) 66 = .ok (.invokevirtual 43, 3) by decide +kernel) cf_Text_takePair (by decide +kernel) ml_Text_43 ci_Text_takePair cv_Text_takePair ⟨by decide, rfl⟩ rfl ⟨by decide +kernel, rfl⟩)) <|
  fa_cons (ok_istore (show decode (am_mB y_Text_readRow) 69 = .ok (.istore 6, 2) by decide +kernel) (by decide +kernel)) <|
  fa_cons (ok_iload (show decode (am_mB y_Text_readRow) 71 = .ok (.iload 6, 2) by decide +kernel)) <|
  fa_cons (ok_iconst (show decode (am_mB y_Text_readRow) 73 = .ok (.iconst (-1), 1) by decide +kernel) rfl) <|
  fa_cons (ok_icmp_ne (show decode (am_mB y_Text_readRow) 74 = .ok (.if_icmp .ne 5, 3) by decide +kernel) (by decide)) <|
  fa_cons (ok_iconst (show decode (am_mB y_Text_readRow) 77 = .ok (.iconst 0, 1) by decide +kernel) rfl) <|
  fa_cons (ok_iret (show decode (am_mB y_Text_readRow) 78 = .ok (.ireturn, 1) by decide +kernel) rfl) <|
  fa_cons (ok_aload_n (show decode (am_mB y_Text_readRow) 79 = .ok (.aload_n 1, 1) by decide +kernel) rfl) <|
  fa_cons (ok_iload_n (show decode (am_mB y_Text_readRow) 80 = .ok (.iload_n 3, 1) by decide +kernel) rfl) <|
  fa_cons (ok_iload (show decode (am_mB y_Text_readRow) 81 = .ok (.iload 4, 2) by decide +kernel)) <|
  fa_cons (ok_iload (show decode (am_mB y_Text_readRow) 83 = .ok (.iload 5, 2) by decide +kernel)) <|
  fa_cons (ok_if_eq (show decode (am_mB y_Text_readRow) 85 = .ok (.ifCond .eq 9, 3) by decide +kernel) (by decide)) <|
  fa_cons (ok_iload (show decode (am_mB y_Text_readRow) 88 = .ok (.iload 6, 2) by decide +kernel)) <|
  fa_cons (ok_ineg (show decode (am_mB y_Text_readRow) 90 = .ok (.ineg, 1) by decide +kernel)) <|
  fa_cons (ok_goto (show decode (am_mB y_Text_readRow) 91 = .ok (.goto 5, 3) by decide +kernel) (by decide)) <|
  fa_cons (ok_iload (show decode (am_mB y_Text_readRow) 94 = .ok (.iload 6, 2) by decide +kernel)) <|
  fa_cons (ok_cal ⟨rfl, rfl, rfl, rfl⟩ (ok_callV (show decode (am_mB y_Text_readRow) 96 = .ok (.invokevirtual 85, 3) by decide +kernel) cf_Table_putAmount (by decide +kernel) ml_Text_85 ci_Table_putAmount cv_Table_putAmount ⟨by decide, rfl⟩ rfl ⟨by decide +kernel, rfl⟩)) <|
  fa_cons (ok_iinc (show decode (am_mB y_Text_readRow) 99 = .ok (.iinc 4 1, 3) by decide +kernel) (by decide +kernel) (by decide +kernel)) <|
  fa_cons (ok_stp (σ := am_goto 29) (ok_goto (show decode (am_mB y_Text_readRow) 102 = .ok (.goto (-73), 3) by decide +kernel) (by decide))) <|
  fa_cons (ok_iconst (show decode (am_mB y_Text_readRow) 105 = .ok (.iconst 1, 1) by decide +kernel) rfl) <|
  fa_cons (ok_iret (show decode (am_mB y_Text_readRow) 106 = .ok (.ireturn, 1) by decide +kernel) rfl) <|
  fa_nil
set_option maxRecDepth 100000 in
theorem cq_Text_readRow (l : Launch) (d : Nat) : am_lk (co_Text_readRow l d) 0 = am_aload 0 1 ∧ am_lk (co_Text_readRow l d) 1 = am_push (vI 1) 2 ∧ am_lk (co_Text_readRow l d) 2 = am_push (vI 6) 4 ∧ am_lk (co_Text_readRow l d) 4 = am_cal l d y_Text_takeDigit (some 8) 3 7 0 0 0 0 ∧ am_lk (co_Text_readRow l d) 7 = am_istore 2 8 ∧ am_lk (co_Text_readRow l d) 8 = am_iload 2 9 ∧ am_lk (co_Text_readRow l d) 9 = am_push (vI (-1)) 10 ∧ am_lk (co_Text_readRow l d) 10 = am_icmp_ne 13 15 ∧ am_lk (co_Text_readRow l d) 13 = am_push (vI 0) 14 ∧ am_lk (co_Text_readRow l d) 14 = am_iret true ∧ am_lk (co_Text_readRow l d) 15 = am_aload 1 16 ∧ am_lk (co_Text_readRow l d) 16 = am_getI 7 1 19 ∧ am_lk (co_Text_readRow l d) 19 = am_istore 3 20 ∧ am_lk (co_Text_readRow l d) 20 = am_aload 1 21 ∧ am_lk (co_Text_readRow l d) 21 = am_iload 2 22 ∧ am_lk (co_Text_readRow l d) 22 = am_push (vI 0) 23 ∧ am_lk (co_Text_readRow l d) 23 = am_cal l d y_Table_putRow (some 7) 3 26 0 0 0 0 ∧ am_lk (co_Text_readRow l d) 26 = am_push (vI 0) 27 ∧ am_lk (co_Text_readRow l d) 27 = am_stp (am_istore 4 29) ∧ am_lk (co_Text_readRow l d) 29 = am_iload 4 31 ∧ am_lk (co_Text_readRow l d) 31 = am_aload 1 32 ∧ am_lk (co_Text_readRow l d) 32 = am_getI 7 0 35 ∧ am_lk (co_Text_readRow l d) 35 = am_icmp_ge 38 105 ∧ am_lk (co_Text_readRow l d) 38 = am_aload 0 39 ∧ am_lk (co_Text_readRow l d) 39 = am_push (vI 45) 41 ∧ am_lk (co_Text_readRow l d) 41 = am_cal l d y_Text_takeSign (some 8) 2 44 0 0 0 0 ∧ am_lk (co_Text_readRow l d) 44 = am_istore 5 46 ∧ am_lk (co_Text_readRow l d) 46 = am_iload 5 48 ∧ am_lk (co_Text_readRow l d) 48 = am_if_ne 51 62 ∧ am_lk (co_Text_readRow l d) 51 = am_aload 0 52 ∧ am_lk (co_Text_readRow l d) 52 = am_push (vI 43) 54 ∧ am_lk (co_Text_readRow l d) 54 = am_cal l d y_Text_takeSign (some 8) 2 57 0 0 0 0 ∧ am_lk (co_Text_readRow l d) 57 = am_if_ne 60 62 ∧ am_lk (co_Text_readRow l d) 60 = am_push (vI 0) 61 ∧ am_lk (co_Text_readRow l d) 61 = am_iret true ∧ am_lk (co_Text_readRow l d) 62 = am_aload 0 63 ∧ am_lk (co_Text_readRow l d) 63 = am_push (vI 0) 64 ∧ am_lk (co_Text_readRow l d) 64 = am_push (vI 99) 66 ∧ am_lk (co_Text_readRow l d) 66 = am_cal l d y_Text_takePair (some 8) 3 69 0 0 0 0 ∧ am_lk (co_Text_readRow l d) 69 = am_istore 6 71 ∧ am_lk (co_Text_readRow l d) 71 = am_iload 6 73 ∧ am_lk (co_Text_readRow l d) 73 = am_push (vI (-1)) 74 ∧ am_lk (co_Text_readRow l d) 74 = am_icmp_ne 77 79 ∧ am_lk (co_Text_readRow l d) 77 = am_push (vI 0) 78 ∧ am_lk (co_Text_readRow l d) 78 = am_iret true ∧ am_lk (co_Text_readRow l d) 79 = am_aload 1 80 ∧ am_lk (co_Text_readRow l d) 80 = am_iload 3 81 ∧ am_lk (co_Text_readRow l d) 81 = am_iload 4 83 ∧ am_lk (co_Text_readRow l d) 83 = am_iload 5 85 ∧ am_lk (co_Text_readRow l d) 85 = am_if_eq 88 94 ∧ am_lk (co_Text_readRow l d) 88 = am_iload 6 90 ∧ am_lk (co_Text_readRow l d) 90 = am_ineg 91 ∧ am_lk (co_Text_readRow l d) 91 = am_goto 96 ∧ am_lk (co_Text_readRow l d) 94 = am_iload 6 96 ∧ am_lk (co_Text_readRow l d) 96 = am_cal l d y_Table_putAmount (some 7) 4 99 0 0 0 0 ∧ am_lk (co_Text_readRow l d) 99 = am_iinc 4 1 102 ∧ am_lk (co_Text_readRow l d) 102 = am_stp (am_goto 29) ∧ am_lk (co_Text_readRow l d) 105 = am_push (vI 1) 106 ∧ am_lk (co_Text_readRow l d) 106 = am_iret true := ⟨rfl, rfl, rfl, rfl, rfl, rfl, rfl, rfl, rfl, rfl, rfl, rfl, rfl, rfl, rfl, rfl, rfl, rfl, rfl, rfl, rfl, rfl, rfl, rfl, rfl, rfl, rfl, rfl, rfl, rfl, rfl, rfl, rfl, rfl, rfl, rfl, rfl, rfl, rfl, rfl, rfl, rfl, rfl, rfl, rfl, rfl, rfl, rfl, rfl, rfl, rfl, rfl, rfl, rfl, rfl, rfl, rfl, rfl, rfl⟩
theorem en_Text_readRow {l : Launch} {d : Nat} (n : Nat) {as : List am_V} {G : am_G} {I : am_I} {J : am_J} {P : am_P} (hlen : (as.map am_cat).sum ≤ 7) (h : am_go (am_lk (co_Text_readRow l d)) (am_X l (0, fun _ => 0) (d + 1) y_Text_readRow P) P n 0 (am_el 7 as) [] 0 0 G I J) : am_T l (d + 1) y_Text_readRow as G I J P :=
  am_T_of (sc := (0, fun _ => 0)) cf_Text_readRow (by decide +kernel) (by decide) (by decide +kernel) hlen (am_run (ok_lk _ (ck_Text_readRow)) n _ _ _ _ _ _ _ _ h)
theorem rn_Text_readRow {l : Launch} {sc : Nat × (Nat → Int32)} {d : Nat} {P : am_P} (n : Nat) {pc : Nat} {ls : am_L} {st : List am_V} {kc ks : Nat} {G : am_G} {I : am_I} {J : am_J} (h : am_go (am_lk (co_Text_readRow l d)) (am_X l sc (d + 1) y_Text_readRow P) P n pc ls st kc ks G I J) : am_X l sc (d + 1) y_Text_readRow P pc ls st kc ks G I J := am_run (ok_lk _ (ck_Text_readRow)) n _ _ _ _ _ _ _ _ h
def co_Text_readNote (l : Launch) (d : Nat) : List (Nat × am_S) := [(0, am_aload 0 1), (1, am_push (vI 1) 2), (2, am_push (vI 6) 4), (4, am_cal l d y_Text_takeDigit (some 8) 3 7 0 0 0 0), (7, am_istore 2 8), (8, am_iload 2 9), (9, am_push (vI (-1)) 10), (10, am_icmp_ne 13 15), (13, am_push (vI 0) 14), (14, am_iret true), (15, am_aload 1 16), (16, am_getR 7 6 19), (19, am_aload 1 20), (20, am_getI 7 1 23), (23, am_push (vI 1) 24), (24, am_isub 25), (25, am_iload 2 26), (26, am_ast 0 (fun x => x) 27), (27, am_push (vI 1) 28), (28, am_iret true)]
theorem ck_Text_readNote {l : Launch} {sc : Nat × (Nat → Int32)} {d : Nat} : ∀ q ∈ co_Text_readNote l d, am_ok l sc (d + 1) y_Text_readNote q.1 q.2 :=
  fa_cons (ok_aload_n (show decode (am_mB y_Text_readNote) 0 = .ok (.aload_n 0, 1) by decide +kernel) rfl) <|
  fa_cons (ok_iconst (show decode (am_mB y_Text_readNote) 1 = .ok (.iconst 1, 1) by decide +kernel) rfl) <|
  fa_cons (ok_bipush (show decode (am_mB y_Text_readNote) 2 = .ok (.bipush 6, 2) by decide +kernel) (by decide +kernel)) <|
  fa_cons (ok_cal ⟨rfl, rfl, rfl, rfl⟩ (ok_callV (show decode (am_mB y_Text_readNote) 4 = .ok (.invokevirtual 39, 3) by decide +kernel) cf_Text_takeDigit (by decide +kernel) ml_Text_39 ci_Text_takeDigit cv_Text_takeDigit ⟨by decide, rfl⟩ rfl ⟨by decide +kernel, rfl⟩)) <|
  fa_cons (ok_istore_n (show decode (am_mB y_Text_readNote) 7 = .ok (.istore_n 2, 1) by decide +kernel) rfl (by decide +kernel)) <|
  fa_cons (ok_iload_n (show decode (am_mB y_Text_readNote) 8 = .ok (.iload_n 2, 1) by decide +kernel) rfl) <|
  fa_cons (ok_iconst (show decode (am_mB y_Text_readNote) 9 = .ok (.iconst (-1), 1) by decide +kernel) rfl) <|
  fa_cons (ok_icmp_ne (show decode (am_mB y_Text_readNote) 10 = .ok (.if_icmp .ne 5, 3) by decide +kernel) (by decide)) <|
  fa_cons (ok_iconst (show decode (am_mB y_Text_readNote) 13 = .ok (.iconst 0, 1) by decide +kernel) rfl) <|
  fa_cons (ok_iret (show decode (am_mB y_Text_readNote) 14 = .ok (.ireturn, 1) by decide +kernel) rfl) <|
  fa_cons (ok_aload_n (show decode (am_mB y_Text_readNote) 15 = .ok (.aload_n 1, 1) by decide +kernel) rfl) <|
  fa_cons (ok_getR (show decode (am_mB y_Text_readNote) 16 = .ok (.getfield 89, 3) by decide +kernel) fl_Text_89 (by decide +kernel)) <|
  fa_cons (ok_aload_n (show decode (am_mB y_Text_readNote) 19 = .ok (.aload_n 1, 1) by decide +kernel) rfl) <|
  fa_cons (ok_getI (show decode (am_mB y_Text_readNote) 20 = .ok (.getfield 62, 3) by decide +kernel) fl_Text_62 (by decide +kernel)) <|
  fa_cons (ok_iconst (show decode (am_mB y_Text_readNote) 23 = .ok (.iconst 1, 1) by decide +kernel) rfl) <|
  fa_cons (ok_isub (show decode (am_mB y_Text_readNote) 24 = .ok (.isub, 1) by decide +kernel)) <|
  fa_cons (ok_iload_n (show decode (am_mB y_Text_readNote) 25 = .ok (.iload_n 2, 1) by decide +kernel) rfl) <|
  fa_cons (ok_iast (show decode (am_mB y_Text_readNote) 26 = .ok (.iastore, 1) by decide +kernel)) <|
  fa_cons (ok_iconst (show decode (am_mB y_Text_readNote) 27 = .ok (.iconst 1, 1) by decide +kernel) rfl) <|
  fa_cons (ok_iret (show decode (am_mB y_Text_readNote) 28 = .ok (.ireturn, 1) by decide +kernel) rfl) <|
  fa_nil
set_option maxRecDepth 100000 in
theorem cq_Text_readNote (l : Launch) (d : Nat) : am_lk (co_Text_readNote l d) 0 = am_aload 0 1 ∧ am_lk (co_Text_readNote l d) 1 = am_push (vI 1) 2 ∧ am_lk (co_Text_readNote l d) 2 = am_push (vI 6) 4 ∧ am_lk (co_Text_readNote l d) 4 = am_cal l d y_Text_takeDigit (some 8) 3 7 0 0 0 0 ∧ am_lk (co_Text_readNote l d) 7 = am_istore 2 8 ∧ am_lk (co_Text_readNote l d) 8 = am_iload 2 9 ∧ am_lk (co_Text_readNote l d) 9 = am_push (vI (-1)) 10 ∧ am_lk (co_Text_readNote l d) 10 = am_icmp_ne 13 15 ∧ am_lk (co_Text_readNote l d) 13 = am_push (vI 0) 14 ∧ am_lk (co_Text_readNote l d) 14 = am_iret true ∧ am_lk (co_Text_readNote l d) 15 = am_aload 1 16 ∧ am_lk (co_Text_readNote l d) 16 = am_getR 7 6 19 ∧ am_lk (co_Text_readNote l d) 19 = am_aload 1 20 ∧ am_lk (co_Text_readNote l d) 20 = am_getI 7 1 23 ∧ am_lk (co_Text_readNote l d) 23 = am_push (vI 1) 24 ∧ am_lk (co_Text_readNote l d) 24 = am_isub 25 ∧ am_lk (co_Text_readNote l d) 25 = am_iload 2 26 ∧ am_lk (co_Text_readNote l d) 26 = am_ast 0 (fun x => x) 27 ∧ am_lk (co_Text_readNote l d) 27 = am_push (vI 1) 28 ∧ am_lk (co_Text_readNote l d) 28 = am_iret true := ⟨rfl, rfl, rfl, rfl, rfl, rfl, rfl, rfl, rfl, rfl, rfl, rfl, rfl, rfl, rfl, rfl, rfl, rfl, rfl, rfl⟩
theorem en_Text_readNote {l : Launch} {d : Nat} (n : Nat) {as : List am_V} {G : am_G} {I : am_I} {J : am_J} {P : am_P} (hlen : (as.map am_cat).sum ≤ 3) (h : am_go (am_lk (co_Text_readNote l d)) (am_X l (0, fun _ => 0) (d + 1) y_Text_readNote P) P n 0 (am_el 3 as) [] 0 0 G I J) : am_T l (d + 1) y_Text_readNote as G I J P :=
  am_T_of (sc := (0, fun _ => 0)) cf_Text_readNote (by decide +kernel) (by decide) (by decide +kernel) hlen (am_run (ok_lk _ (ck_Text_readNote)) n _ _ _ _ _ _ _ _ h)
theorem rn_Text_readNote {l : Launch} {sc : Nat × (Nat → Int32)} {d : Nat} {P : am_P} (n : Nat) {pc : Nat} {ls : am_L} {st : List am_V} {kc ks : Nat} {G : am_G} {I : am_I} {J : am_J} (h : am_go (am_lk (co_Text_readNote l d)) (am_X l sc (d + 1) y_Text_readNote P) P n pc ls st kc ks G I J) : am_X l sc (d + 1) y_Text_readNote P pc ls st kc ks G I J := am_run (ok_lk _ (ck_Text_readNote)) n _ _ _ _ _ _ _ _ h
def co_Text_readNoteHeight (l : Launch) (d : Nat) : List (Nat × am_S) := [(0, am_aload 0 1), (1, am_push (vI 1) 2), (2, am_push (vI 6) 4), (4, am_cal l d y_Text_takeDigit (some 8) 3 7 0 0 0 0), (7, am_istore 2 8), (8, am_iload 2 9), (9, am_push (vI (-1)) 10), (10, am_icmp_ne 13 15), (13, am_push (vI 0) 14), (14, am_iret true), (15, am_aload 0 16), (16, am_push (vI 1) 17), (17, am_push (vI 3) 18), (18, am_cal l d y_Text_takeDigit (some 8) 3 21 0 0 0 0), (21, am_istore 3 22), (22, am_iload 3 23), (23, am_push (vI (-1)) 24), (24, am_icmp_ne 27 29), (27, am_push (vI 0) 28), (28, am_iret true), (29, am_aload 1 30), (30, am_getR 7 12 33), (33, am_iload 2 34), (34, am_iload 3 35), (35, am_ast 0 (fun x => x) 36), (36, am_push (vI 1) 37), (37, am_iret true)]
theorem ck_Text_readNoteHeight {l : Launch} {sc : Nat × (Nat → Int32)} {d : Nat} : ∀ q ∈ co_Text_readNoteHeight l d, am_ok l sc (d + 1) y_Text_readNoteHeight q.1 q.2 :=
  fa_cons (ok_aload_n (show decode (am_mB y_Text_readNoteHeight) 0 = .ok (.aload_n 0, 1) by decide +kernel) rfl) <|
  fa_cons (ok_iconst (show decode (am_mB y_Text_readNoteHeight) 1 = .ok (.iconst 1, 1) by decide +kernel) rfl) <|
  fa_cons (ok_bipush (show decode (am_mB y_Text_readNoteHeight) 2 = .ok (.bipush 6, 2) by decide +kernel) (by decide +kernel)) <|
  fa_cons (ok_cal ⟨rfl, rfl, rfl, rfl⟩ (ok_callV (show decode (am_mB y_Text_readNoteHeight) 4 = .ok (.invokevirtual 39, 3) by decide +kernel) cf_Text_takeDigit (by decide +kernel) ml_Text_39 ci_Text_takeDigit cv_Text_takeDigit ⟨by decide, rfl⟩ rfl ⟨by decide +kernel, rfl⟩)) <|
  fa_cons (ok_istore_n (show decode (am_mB y_Text_readNoteHeight) 7 = .ok (.istore_n 2, 1) by decide +kernel) rfl (by decide +kernel)) <|
  fa_cons (ok_iload_n (show decode (am_mB y_Text_readNoteHeight) 8 = .ok (.iload_n 2, 1) by decide +kernel) rfl) <|
  fa_cons (ok_iconst (show decode (am_mB y_Text_readNoteHeight) 9 = .ok (.iconst (-1), 1) by decide +kernel) rfl) <|
  fa_cons (ok_icmp_ne (show decode (am_mB y_Text_readNoteHeight) 10 = .ok (.if_icmp .ne 5, 3) by decide +kernel) (by decide)) <|
  fa_cons (ok_iconst (show decode (am_mB y_Text_readNoteHeight) 13 = .ok (.iconst 0, 1) by decide +kernel) rfl) <|
  fa_cons (ok_iret (show decode (am_mB y_Text_readNoteHeight) 14 = .ok (.ireturn, 1) by decide +kernel) rfl) <|
  fa_cons (ok_aload_n (show decode (am_mB y_Text_readNoteHeight) 15 = .ok (.aload_n 0, 1) by decide +kernel) rfl) <|
  fa_cons (ok_iconst (show decode (am_mB y_Text_readNoteHeight) 16 = .ok (.iconst 1, 1) by decide +kernel) rfl) <|
  fa_cons (ok_iconst (show decode (am_mB y_Text_readNoteHeight) 17 = .ok (.iconst 3, 1) by decide +kernel) rfl) <|
  fa_cons (ok_cal ⟨rfl, rfl, rfl, rfl⟩ (ok_callV (show decode (am_mB y_Text_readNoteHeight) 18 = .ok (.invokevirtual 39, 3) by decide +kernel) cf_Text_takeDigit (by decide +kernel) ml_Text_39 ci_Text_takeDigit cv_Text_takeDigit ⟨by decide, rfl⟩ rfl ⟨by decide +kernel, rfl⟩)) <|
  fa_cons (ok_istore_n (show decode (am_mB y_Text_readNoteHeight) 21 = .ok (.istore_n 3, 1) by decide +kernel) rfl (by decide +kernel)) <|
  fa_cons (ok_iload_n (show decode (am_mB y_Text_readNoteHeight) 22 = .ok (.iload_n 3, 1) by decide +kernel) rfl) <|
  fa_cons (ok_iconst (show decode (am_mB y_Text_readNoteHeight) 23 = .ok (.iconst (-1), 1) by decide +kernel) rfl) <|
  fa_cons (ok_icmp_ne (show decode (am_mB y_Text_readNoteHeight) 24 = .ok (.if_icmp .ne 5, 3) by decide +kernel) (by decide)) <|
  fa_cons (ok_iconst (show decode (am_mB y_Text_readNoteHeight) 27 = .ok (.iconst 0, 1) by decide +kernel) rfl) <|
  fa_cons (ok_iret (show decode (am_mB y_Text_readNoteHeight) 28 = .ok (.ireturn, 1) by decide +kernel) rfl) <|
  fa_cons (ok_aload_n (show decode (am_mB y_Text_readNoteHeight) 29 = .ok (.aload_n 1, 1) by decide +kernel) rfl) <|
  fa_cons (ok_getR (show decode (am_mB y_Text_readNoteHeight) 30 = .ok (.getfield 93, 3) by decide +kernel) fl_Text_93 (by decide +kernel)) <|
  fa_cons (ok_iload_n (show decode (am_mB y_Text_readNoteHeight) 33 = .ok (.iload_n 2, 1) by decide +kernel) rfl) <|
  fa_cons (ok_iload_n (show decode (am_mB y_Text_readNoteHeight) 34 = .ok (.iload_n 3, 1) by decide +kernel) rfl) <|
  fa_cons (ok_iast (show decode (am_mB y_Text_readNoteHeight) 35 = .ok (.iastore, 1) by decide +kernel)) <|
  fa_cons (ok_iconst (show decode (am_mB y_Text_readNoteHeight) 36 = .ok (.iconst 1, 1) by decide +kernel) rfl) <|
  fa_cons (ok_iret (show decode (am_mB y_Text_readNoteHeight) 37 = .ok (.ireturn, 1) by decide +kernel) rfl) <|
  fa_nil
set_option maxRecDepth 100000 in
theorem cq_Text_readNoteHeight (l : Launch) (d : Nat) : am_lk (co_Text_readNoteHeight l d) 0 = am_aload 0 1 ∧ am_lk (co_Text_readNoteHeight l d) 1 = am_push (vI 1) 2 ∧ am_lk (co_Text_readNoteHeight l d) 2 = am_push (vI 6) 4 ∧ am_lk (co_Text_readNoteHeight l d) 4 = am_cal l d y_Text_takeDigit (some 8) 3 7 0 0 0 0 ∧ am_lk (co_Text_readNoteHeight l d) 7 = am_istore 2 8 ∧ am_lk (co_Text_readNoteHeight l d) 8 = am_iload 2 9 ∧ am_lk (co_Text_readNoteHeight l d) 9 = am_push (vI (-1)) 10 ∧ am_lk (co_Text_readNoteHeight l d) 10 = am_icmp_ne 13 15 ∧ am_lk (co_Text_readNoteHeight l d) 13 = am_push (vI 0) 14 ∧ am_lk (co_Text_readNoteHeight l d) 14 = am_iret true ∧ am_lk (co_Text_readNoteHeight l d) 15 = am_aload 0 16 ∧ am_lk (co_Text_readNoteHeight l d) 16 = am_push (vI 1) 17 ∧ am_lk (co_Text_readNoteHeight l d) 17 = am_push (vI 3) 18 ∧ am_lk (co_Text_readNoteHeight l d) 18 = am_cal l d y_Text_takeDigit (some 8) 3 21 0 0 0 0 ∧ am_lk (co_Text_readNoteHeight l d) 21 = am_istore 3 22 ∧ am_lk (co_Text_readNoteHeight l d) 22 = am_iload 3 23 ∧ am_lk (co_Text_readNoteHeight l d) 23 = am_push (vI (-1)) 24 ∧ am_lk (co_Text_readNoteHeight l d) 24 = am_icmp_ne 27 29 ∧ am_lk (co_Text_readNoteHeight l d) 27 = am_push (vI 0) 28 ∧ am_lk (co_Text_readNoteHeight l d) 28 = am_iret true ∧ am_lk (co_Text_readNoteHeight l d) 29 = am_aload 1 30 ∧ am_lk (co_Text_readNoteHeight l d) 30 = am_getR 7 12 33 ∧ am_lk (co_Text_readNoteHeight l d) 33 = am_iload 2 34 ∧ am_lk (co_Text_readNoteHeight l d) 34 = am_iload 3 35 ∧ am_lk (co_Text_readNoteHeight l d) 35 = am_ast 0 (fun x => x) 36 ∧ am_lk (co_Text_readNoteHeight l d) 36 = am_push (vI 1) 37 ∧ am_lk (co_Text_readNoteHeight l d) 37 = am_iret true := ⟨rfl, rfl, rfl, rfl, rfl, rfl, rfl, rfl, rfl, rfl, rfl, rfl, rfl, rfl, rfl, rfl, rfl, rfl, rfl, rfl, rfl, rfl, rfl, rfl, rfl, rfl, rfl⟩
theorem en_Text_readNoteHeight {l : Launch} {d : Nat} (n : Nat) {as : List am_V} {G : am_G} {I : am_I} {J : am_J} {P : am_P} (hlen : (as.map am_cat).sum ≤ 4) (h : am_go (am_lk (co_Text_readNoteHeight l d)) (am_X l (0, fun _ => 0) (d + 1) y_Text_readNoteHeight P) P n 0 (am_el 4 as) [] 0 0 G I J) : am_T l (d + 1) y_Text_readNoteHeight as G I J P :=
  am_T_of (sc := (0, fun _ => 0)) cf_Text_readNoteHeight (by decide +kernel) (by decide) (by decide +kernel) hlen (am_run (ok_lk _ (ck_Text_readNoteHeight)) n _ _ _ _ _ _ _ _ h)
theorem rn_Text_readNoteHeight {l : Launch} {sc : Nat × (Nat → Int32)} {d : Nat} {P : am_P} (n : Nat) {pc : Nat} {ls : am_L} {st : List am_V} {kc ks : Nat} {G : am_G} {I : am_I} {J : am_J} (h : am_go (am_lk (co_Text_readNoteHeight l d)) (am_X l sc (d + 1) y_Text_readNoteHeight P) P n pc ls st kc ks G I J) : am_X l sc (d + 1) y_Text_readNoteHeight P pc ls st kc ks G I J := am_run (ok_lk _ (ck_Text_readNoteHeight)) n _ _ _ _ _ _ _ _ h
def co_Text_readSpan (l : Launch) (d : Nat) : List (Nat × am_S) := [(0, am_aload 0 1), (1, am_push (vI 0) 2), (2, am_aload 1 3), (3, am_getI 7 1 6), (6, am_push (vI 2) 7), (7, am_isub 8), (8, am_cal l d y_Text_takePair (some 8) 3 11 0 0 0 0), (11, am_istore 2 12), (12, am_iload 2 13), (13, am_push (vI (-1)) 14), (14, am_icmp_ne 17 19), (17, am_push (vI 0) 18), (18, am_iret true), (19, am_aload 0 20), (20, am_iload 2 21), (21, am_push (vI 1) 22), (22, am_iadd 23), (23, am_aload 1 24), (24, am_getI 7 1 27), (27, am_push (vI 1) 28), (28, am_isub 29), (29, am_cal l d y_Text_takePair (some 8) 3 32 0 0 0 0), (32, am_istore 3 33), (33, am_iload 3 34), (34, am_push (vI (-1)) 35), (35, am_icmp_ne 38 40), (38, am_push (vI 0) 39), (39, am_iret true), (40, am_aload 0 41), (41, am_push (vI 0) 42), (42, am_push (vI 1) 43), (43, am_cal l d y_Text_takeDigit (some 8) 3 46 0 0 0 0), (46, am_istore 4 48), (48, am_iload 4 50), (50, am_push (vI (-1)) 51), (51, am_icmp_ne 54 56), (54, am_push (vI 0) 55), (55, am_iret true), (56, am_aload 1 57), (57, am_iload 2 58), (58, am_iload 3 59), (59, am_iload 4 61), (61, am_push (vI 1) 62), (62, am_icmp_ne 65 69), (65, am_push (vI 1) 66), (66, am_goto 70), (69, am_push (vI 0) 70), (70, am_cal l d y_Table_putSpan (some 7) 4 73 0 0 0 0), (73, am_push (vI 1) 74), (74, am_iret true)]
theorem ck_Text_readSpan {l : Launch} {sc : Nat × (Nat → Int32)} {d : Nat} : ∀ q ∈ co_Text_readSpan l d, am_ok l sc (d + 1) y_Text_readSpan q.1 q.2 :=
  fa_cons (ok_aload_n (show decode (am_mB y_Text_readSpan) 0 = .ok (.aload_n 0, 1) by decide +kernel) rfl) <|
  fa_cons (ok_iconst (show decode (am_mB y_Text_readSpan) 1 = .ok (.iconst 0, 1) by decide +kernel) rfl) <|
  fa_cons (ok_aload_n (show decode (am_mB y_Text_readSpan) 2 = .ok (.aload_n 1, 1) by decide +kernel) rfl) <|
  fa_cons (ok_getI (show decode (am_mB y_Text_readSpan) 3 = .ok (.getfield 62, 3) by decide +kernel) fl_Text_62 (by decide +kernel)) <|
  fa_cons (ok_iconst (show decode (am_mB y_Text_readSpan) 6 = .ok (.iconst 2, 1) by decide +kernel) rfl) <|
  fa_cons (ok_isub (show decode (am_mB y_Text_readSpan) 7 = .ok (.isub, 1) by decide +kernel)) <|
  fa_cons (ok_cal ⟨rfl, rfl, rfl, rfl⟩ (ok_callV (show decode (am_mB y_Text_readSpan) 8 = .ok (.invokevirtual 43, 3) by decide +kernel) cf_Text_takePair (by decide +kernel) ml_Text_43 ci_Text_takePair cv_Text_takePair ⟨by decide, rfl⟩ rfl ⟨by decide +kernel, rfl⟩)) <|
  fa_cons (ok_istore_n (show decode (am_mB y_Text_readSpan) 11 = .ok (.istore_n 2, 1) by decide +kernel) rfl (by decide +kernel)) <|
  fa_cons (ok_iload_n (show decode (am_mB y_Text_readSpan) 12 = .ok (.iload_n 2, 1) by decide +kernel) rfl) <|
  fa_cons (ok_iconst (show decode (am_mB y_Text_readSpan) 13 = .ok (.iconst (-1), 1) by decide +kernel) rfl) <|
  fa_cons (ok_icmp_ne (show decode (am_mB y_Text_readSpan) 14 = .ok (.if_icmp .ne 5, 3) by decide +kernel) (by decide)) <|
  fa_cons (ok_iconst (show decode (am_mB y_Text_readSpan) 17 = .ok (.iconst 0, 1) by decide +kernel) rfl) <|
  fa_cons (ok_iret (show decode (am_mB y_Text_readSpan) 18 = .ok (.ireturn, 1) by decide +kernel) rfl) <|
  fa_cons (ok_aload_n (show decode (am_mB y_Text_readSpan) 19 = .ok (.aload_n 0, 1) by decide +kernel) rfl) <|
  fa_cons (ok_iload_n (show decode (am_mB y_Text_readSpan) 20 = .ok (.iload_n 2, 1) by decide +kernel) rfl) <|
  fa_cons (ok_iconst (show decode (am_mB y_Text_readSpan) 21 = .ok (.iconst 1, 1) by decide +kernel) rfl) <|
  fa_cons (ok_iadd (show decode (am_mB y_Text_readSpan) 22 = .ok (.iadd, 1) by decide +kernel)) <|
  fa_cons (ok_aload_n (show decode (am_mB y_Text_readSpan) 23 = .ok (.aload_n 1, 1) by decide +kernel) rfl) <|
  fa_cons (ok_getI (show decode (am_mB y_Text_readSpan) 24 = .ok (.getfield 62, 3) by decide +kernel) fl_Text_62 (by decide +kernel)) <|
  fa_cons (ok_iconst (show decode (am_mB y_Text_readSpan) 27 = .ok (.iconst 1, 1) by decide +kernel) rfl) <|
  fa_cons (ok_isub (show decode (am_mB y_Text_readSpan) 28 = .ok (.isub, 1) by decide +kernel)) <|
  fa_cons (ok_cal ⟨rfl, rfl, rfl, rfl⟩ (ok_callV (show decode (am_mB y_Text_readSpan) 29 = .ok (.invokevirtual 43, 3) by decide +kernel) cf_Text_takePair (by decide +kernel) ml_Text_43 ci_Text_takePair cv_Text_takePair ⟨by decide, rfl⟩ rfl ⟨by decide +kernel, rfl⟩)) <|
  fa_cons (ok_istore_n (show decode (am_mB y_Text_readSpan) 32 = .ok (.istore_n 3, 1) by decide +kernel) rfl (by decide +kernel)) <|
  fa_cons (ok_iload_n (show decode (am_mB y_Text_readSpan) 33 = .ok (.iload_n 3, 1) by decide +kernel) rfl) <|
  fa_cons (ok_iconst (show decode (am_mB y_Text_readSpan) 34 = .ok (.iconst (-1), 1) by decide +kernel) rfl) <|
  fa_cons (ok_icmp_ne (show decode (am_mB y_Text_readSpan) 35 = .ok (.if_icmp .ne 5, 3) by decide +kernel) (by decide)) <|
  fa_cons (ok_iconst (show decode (am_mB y_Text_readSpan) 38 = .ok (.iconst 0, 1) by decide +kernel) rfl) <|
  fa_cons (ok_iret (show decode (am_mB y_Text_readSpan) 39 = .ok (.ireturn, 1) by decide +kernel) rfl) <|
  fa_cons (ok_aload_n (show decode (am_mB y_Text_readSpan) 40 = .ok (.aload_n 0, 1) by decide +kernel) rfl) <|
  fa_cons (ok_iconst (show decode (am_mB y_Text_readSpan) 41 = .ok (.iconst 0, 1) by decide +kernel) rfl) <|
  fa_cons (ok_iconst (show decode (am_mB y_Text_readSpan) 42 = .ok (.iconst 1, 1) by decide +kernel) rfl) <|
  fa_cons (ok_cal ⟨rfl, rfl, rfl, rfl⟩ (ok_callV (show decode (am_mB y_Text_readSpan) 43 = .ok (.invokevirtual 39, 3) by decide +kernel) cf_Text_takeDigit (by decide +kernel) ml_Text_39 ci_Text_takeDigit cv_Text_takeDigit ⟨by decide, rfl⟩ rfl ⟨by decide +kernel, rfl⟩)) <|
  fa_cons (ok_istore (show decode (am_mB y_Text_readSpan) 46 = .ok (.istore 4, 2) by decide +kernel) (by decide +kernel)) <|
  fa_cons (ok_iload (show decode (am_mB y_Text_readSpan) 48 = .ok (.iload 4, 2) by decide +kernel)) <|
  fa_cons (ok_iconst (show decode (am_mB y_Text_readSpan) 50 = .ok (.iconst (-1), 1) by decide +kernel) rfl) <|
  fa_cons (ok_icmp_ne (show decode (am_mB y_Text_readSpan) 51 = .ok (.if_icmp .ne 5, 3) by decide +kernel) (by decide)) <|
  fa_cons (ok_iconst (show decode (am_mB y_Text_readSpan) 54 = .ok (.iconst 0, 1) by decide +kernel) rfl) <|
  fa_cons (ok_iret (show decode (am_mB y_Text_readSpan) 55 = .ok (.ireturn, 1) by decide +kernel) rfl) <|
  fa_cons (ok_aload_n (show decode (am_mB y_Text_readSpan) 56 = .ok (.aload_n 1, 1) by decide +kernel) rfl) <|
  fa_cons (ok_iload_n (show decode (am_mB y_Text_readSpan) 57 = .ok (.iload_n 2, 1) by decide +kernel) rfl) <|
  fa_cons (ok_iload_n (show decode (am_mB y_Text_readSpan) 58 = .ok (.iload_n 3, 1) by decide +kernel) rfl) <|
  fa_cons (ok_iload (show decode (am_mB y_Text_readSpan) 59 = .ok (.iload 4, 2) by decide +kernel)) <|
  fa_cons (ok_iconst (show decode (am_mB y_Text_readSpan) 61 = .ok (.iconst 1, 1) by decide +kernel) rfl) <|
  fa_cons (ok_icmp_ne (show decode (am_mB y_Text_readSpan) 62 = .ok (.if_icmp .ne 7, 3) by decide +kernel) (by decide)) <|
  fa_cons (ok_iconst (show decode (am_mB y_Text_readSpan) 65 = .ok (.iconst 1, 1) by decide +kernel) rfl) <|
  fa_cons (ok_goto (show decode (am_mB y_Text_readSpan) 66 = .ok (.goto 4, 3) by decide +kernel) (by decide)) <|
  fa_cons (ok_iconst (show decode (am_mB y_Text_readSpan) 69 = .ok (.iconst 0, 1) by decide +kernel) rfl) <|
  fa_cons (ok_cal ⟨rfl, rfl, rfl, rfl⟩ (ok_callV (show decode (am_mB y_Text_readSpan) 70 = .ok (.invokevirtual 96, 3) by decide +kernel) cf_Table_putSpan (by decide +kernel) ml_Text_96 ci_Table_putSpan cv_Table_putSpan ⟨by decide, rfl⟩ rfl ⟨by decide +kernel, rfl⟩)) <|
  fa_cons (ok_iconst (show decode (am_mB y_Text_readSpan) 73 = .ok (.iconst 1, 1) by decide +kernel) rfl) <|
  fa_cons (ok_iret (show decode (am_mB y_Text_readSpan) 74 = .ok (.ireturn, 1) by decide +kernel) rfl) <|
  fa_nil
set_option maxRecDepth 100000 in
theorem cq_Text_readSpan (l : Launch) (d : Nat) : am_lk (co_Text_readSpan l d) 0 = am_aload 0 1 ∧ am_lk (co_Text_readSpan l d) 1 = am_push (vI 0) 2 ∧ am_lk (co_Text_readSpan l d) 2 = am_aload 1 3 ∧ am_lk (co_Text_readSpan l d) 3 = am_getI 7 1 6 ∧ am_lk (co_Text_readSpan l d) 6 = am_push (vI 2) 7 ∧ am_lk (co_Text_readSpan l d) 7 = am_isub 8 ∧ am_lk (co_Text_readSpan l d) 8 = am_cal l d y_Text_takePair (some 8) 3 11 0 0 0 0 ∧ am_lk (co_Text_readSpan l d) 11 = am_istore 2 12 ∧ am_lk (co_Text_readSpan l d) 12 = am_iload 2 13 ∧ am_lk (co_Text_readSpan l d) 13 = am_push (vI (-1)) 14 ∧ am_lk (co_Text_readSpan l d) 14 = am_icmp_ne 17 19 ∧ am_lk (co_Text_readSpan l d) 17 = am_push (vI 0) 18 ∧ am_lk (co_Text_readSpan l d) 18 = am_iret true ∧ am_lk (co_Text_readSpan l d) 19 = am_aload 0 20 ∧ am_lk (co_Text_readSpan l d) 20 = am_iload 2 21 ∧ am_lk (co_Text_readSpan l d) 21 = am_push (vI 1) 22 ∧ am_lk (co_Text_readSpan l d) 22 = am_iadd 23 ∧ am_lk (co_Text_readSpan l d) 23 = am_aload 1 24 ∧ am_lk (co_Text_readSpan l d) 24 = am_getI 7 1 27 ∧ am_lk (co_Text_readSpan l d) 27 = am_push (vI 1) 28 ∧ am_lk (co_Text_readSpan l d) 28 = am_isub 29 ∧ am_lk (co_Text_readSpan l d) 29 = am_cal l d y_Text_takePair (some 8) 3 32 0 0 0 0 ∧ am_lk (co_Text_readSpan l d) 32 = am_istore 3 33 ∧ am_lk (co_Text_readSpan l d) 33 = am_iload 3 34 ∧ am_lk (co_Text_readSpan l d) 34 = am_push (vI (-1)) 35 ∧ am_lk (co_Text_readSpan l d) 35 = am_icmp_ne 38 40 ∧ am_lk (co_Text_readSpan l d) 38 = am_push (vI 0) 39 ∧ am_lk (co_Text_readSpan l d) 39 = am_iret true ∧ am_lk (co_Text_readSpan l d) 40 = am_aload 0 41 ∧ am_lk (co_Text_readSpan l d) 41 = am_push (vI 0) 42 ∧ am_lk (co_Text_readSpan l d) 42 = am_push (vI 1) 43 ∧ am_lk (co_Text_readSpan l d) 43 = am_cal l d y_Text_takeDigit (some 8) 3 46 0 0 0 0 ∧ am_lk (co_Text_readSpan l d) 46 = am_istore 4 48 ∧ am_lk (co_Text_readSpan l d) 48 = am_iload 4 50 ∧ am_lk (co_Text_readSpan l d) 50 = am_push (vI (-1)) 51 ∧ am_lk (co_Text_readSpan l d) 51 = am_icmp_ne 54 56 ∧ am_lk (co_Text_readSpan l d) 54 = am_push (vI 0) 55 ∧ am_lk (co_Text_readSpan l d) 55 = am_iret true ∧ am_lk (co_Text_readSpan l d) 56 = am_aload 1 57 ∧ am_lk (co_Text_readSpan l d) 57 = am_iload 2 58 ∧ am_lk (co_Text_readSpan l d) 58 = am_iload 3 59 ∧ am_lk (co_Text_readSpan l d) 59 = am_iload 4 61 ∧ am_lk (co_Text_readSpan l d) 61 = am_push (vI 1) 62 ∧ am_lk (co_Text_readSpan l d) 62 = am_icmp_ne 65 69 ∧ am_lk (co_Text_readSpan l d) 65 = am_push (vI 1) 66 ∧ am_lk (co_Text_readSpan l d) 66 = am_goto 70 ∧ am_lk (co_Text_readSpan l d) 69 = am_push (vI 0) 70 ∧ am_lk (co_Text_readSpan l d) 70 = am_cal l d y_Table_putSpan (some 7) 4 73 0 0 0 0 ∧ am_lk (co_Text_readSpan l d) 73 = am_push (vI 1) 74 ∧ am_lk (co_Text_readSpan l d) 74 = am_iret true := ⟨rfl, rfl, rfl, rfl, rfl, rfl, rfl, rfl, rfl, rfl, rfl, rfl, rfl, rfl, rfl, rfl, rfl, rfl, rfl, rfl, rfl, rfl, rfl, rfl, rfl, rfl, rfl, rfl, rfl, rfl, rfl, rfl, rfl, rfl, rfl, rfl, rfl, rfl, rfl, rfl, rfl, rfl, rfl, rfl, rfl, rfl, rfl, rfl, rfl, rfl⟩
theorem en_Text_readSpan {l : Launch} {d : Nat} (n : Nat) {as : List am_V} {G : am_G} {I : am_I} {J : am_J} {P : am_P} (hlen : (as.map am_cat).sum ≤ 5) (h : am_go (am_lk (co_Text_readSpan l d)) (am_X l (0, fun _ => 0) (d + 1) y_Text_readSpan P) P n 0 (am_el 5 as) [] 0 0 G I J) : am_T l (d + 1) y_Text_readSpan as G I J P :=
  am_T_of (sc := (0, fun _ => 0)) cf_Text_readSpan (by decide +kernel) (by decide) (by decide +kernel) hlen (am_run (ok_lk _ (ck_Text_readSpan)) n _ _ _ _ _ _ _ _ h)
theorem rn_Text_readSpan {l : Launch} {sc : Nat × (Nat → Int32)} {d : Nat} {P : am_P} (n : Nat) {pc : Nat} {ls : am_L} {st : List am_V} {kc ks : Nat} {G : am_G} {I : am_I} {J : am_J} (h : am_go (am_lk (co_Text_readSpan l d)) (am_X l sc (d + 1) y_Text_readSpan P) P n pc ls st kc ks G I J) : am_X l sc (d + 1) y_Text_readSpan P pc ls st kc ks G I J := am_run (ok_lk _ (ck_Text_readSpan)) n _ _ _ _ _ _ _ _ h
def co_Text_takeSign (l : Launch) (d : Nat) : List (Nat × am_S) := [(0, am_aload 0 1), (1, am_getI 8 2 4), (4, am_aload 0 5), (5, am_getI 8 1 8), (8, am_icmp_ge 11 36), (11, am_aload 0 12), (12, am_getR 8 0 15), (15, am_aload 0 16), (16, am_getI 8 2 19), (19, am_ald 2 20), (20, am_iload 1 21), (21, am_icmp_ne 24 36), (24, am_aload 0 25), (25, am_dup 26), (26, am_getI 8 2 29), (29, am_push (vI 1) 30), (30, am_iadd 31), (31, am_putI 8 2 34), (34, am_push (vI 1) 35), (35, am_iret true), (36, am_push (vI 0) 37), (37, am_iret true)]
theorem ck_Text_takeSign {l : Launch} {sc : Nat × (Nat → Int32)} {d : Nat} : ∀ q ∈ co_Text_takeSign l d, am_ok l sc (d + 1) y_Text_takeSign q.1 q.2 :=
  fa_cons (ok_aload_n (show decode (am_mB y_Text_takeSign) 0 = .ok (.aload_n 0, 1) by decide +kernel) rfl) <|
  fa_cons (ok_getI (show decode (am_mB y_Text_takeSign) 1 = .ok (.getfield 19, 3) by decide +kernel) fl_Text_19 (by decide +kernel)) <|
  fa_cons (ok_aload_n (show decode (am_mB y_Text_takeSign) 4 = .ok (.aload_n 0, 1) by decide +kernel) rfl) <|
  fa_cons (ok_getI (show decode (am_mB y_Text_takeSign) 5 = .ok (.getfield 15, 3) by decide +kernel) fl_Text_15 (by decide +kernel)) <|
  fa_cons (ok_icmp_ge (show decode (am_mB y_Text_takeSign) 8 = .ok (.if_icmp .ge 28, 3) by decide +kernel) (by decide)) <|
  fa_cons (ok_aload_n (show decode (am_mB y_Text_takeSign) 11 = .ok (.aload_n 0, 1) by decide +kernel) rfl) <|
  fa_cons (ok_getR (show decode (am_mB y_Text_takeSign) 12 = .ok (.getfield 9, 3) by decide +kernel) fl_Text_9 (by decide +kernel)) <|
  fa_cons (ok_aload_n (show decode (am_mB y_Text_takeSign) 15 = .ok (.aload_n 0, 1) by decide +kernel) rfl) <|
  fa_cons (ok_getI (show decode (am_mB y_Text_takeSign) 16 = .ok (.getfield 19, 3) by decide +kernel) fl_Text_19 (by decide +kernel)) <|
  fa_cons (ok_cald (show decode (am_mB y_Text_takeSign) 19 = .ok (.caload, 1) by decide +kernel)) <|
  fa_cons (ok_iload_n (show decode (am_mB y_Text_takeSign) 20 = .ok (.iload_n 1, 1) by decide +kernel) rfl) <|
  fa_cons (ok_icmp_ne (show decode (am_mB y_Text_takeSign) 21 = .ok (.if_icmp .ne 15, 3) by decide +kernel) (by decide)) <|
  fa_cons (ok_aload_n (show decode (am_mB y_Text_takeSign) 24 = .ok (.aload_n 0, 1) by decide +kernel) rfl) <|
  fa_cons (ok_dup (show decode (am_mB y_Text_takeSign) 25 = .ok (.dup, 1) by decide +kernel)) <|
  fa_cons (ok_getI (show decode (am_mB y_Text_takeSign) 26 = .ok (.getfield 19, 3) by decide +kernel) fl_Text_19 (by decide +kernel)) <|
  fa_cons (ok_iconst (show decode (am_mB y_Text_takeSign) 29 = .ok (.iconst 1, 1) by decide +kernel) rfl) <|
  fa_cons (ok_iadd (show decode (am_mB y_Text_takeSign) 30 = .ok (.iadd, 1) by decide +kernel)) <|
  fa_cons (ok_putI (show decode (am_mB y_Text_takeSign) 31 = .ok (.putfield 19, 3) by decide +kernel) fl_Text_19 (by decide +kernel)) <|
  fa_cons (ok_iconst (show decode (am_mB y_Text_takeSign) 34 = .ok (.iconst 1, 1) by decide +kernel) rfl) <|
  fa_cons (ok_iret (show decode (am_mB y_Text_takeSign) 35 = .ok (.ireturn, 1) by decide +kernel) rfl) <|
  fa_cons (ok_iconst (show decode (am_mB y_Text_takeSign) 36 = .ok (.iconst 0, 1) by decide +kernel) rfl) <|
  fa_cons (ok_iret (show decode (am_mB y_Text_takeSign) 37 = .ok (.ireturn, 1) by decide +kernel) rfl) <|
  fa_nil
set_option maxRecDepth 100000 in
theorem cq_Text_takeSign (l : Launch) (d : Nat) : am_lk (co_Text_takeSign l d) 0 = am_aload 0 1 ∧ am_lk (co_Text_takeSign l d) 1 = am_getI 8 2 4 ∧ am_lk (co_Text_takeSign l d) 4 = am_aload 0 5 ∧ am_lk (co_Text_takeSign l d) 5 = am_getI 8 1 8 ∧ am_lk (co_Text_takeSign l d) 8 = am_icmp_ge 11 36 ∧ am_lk (co_Text_takeSign l d) 11 = am_aload 0 12 ∧ am_lk (co_Text_takeSign l d) 12 = am_getR 8 0 15 ∧ am_lk (co_Text_takeSign l d) 15 = am_aload 0 16 ∧ am_lk (co_Text_takeSign l d) 16 = am_getI 8 2 19 ∧ am_lk (co_Text_takeSign l d) 19 = am_ald 2 20 ∧ am_lk (co_Text_takeSign l d) 20 = am_iload 1 21 ∧ am_lk (co_Text_takeSign l d) 21 = am_icmp_ne 24 36 ∧ am_lk (co_Text_takeSign l d) 24 = am_aload 0 25 ∧ am_lk (co_Text_takeSign l d) 25 = am_dup 26 ∧ am_lk (co_Text_takeSign l d) 26 = am_getI 8 2 29 ∧ am_lk (co_Text_takeSign l d) 29 = am_push (vI 1) 30 ∧ am_lk (co_Text_takeSign l d) 30 = am_iadd 31 ∧ am_lk (co_Text_takeSign l d) 31 = am_putI 8 2 34 ∧ am_lk (co_Text_takeSign l d) 34 = am_push (vI 1) 35 ∧ am_lk (co_Text_takeSign l d) 35 = am_iret true ∧ am_lk (co_Text_takeSign l d) 36 = am_push (vI 0) 37 ∧ am_lk (co_Text_takeSign l d) 37 = am_iret true := ⟨rfl, rfl, rfl, rfl, rfl, rfl, rfl, rfl, rfl, rfl, rfl, rfl, rfl, rfl, rfl, rfl, rfl, rfl, rfl, rfl, rfl, rfl⟩
theorem en_Text_takeSign {l : Launch} {d : Nat} (n : Nat) {as : List am_V} {G : am_G} {I : am_I} {J : am_J} {P : am_P} (hlen : (as.map am_cat).sum ≤ 2) (h : am_go (am_lk (co_Text_takeSign l d)) (am_X l (0, fun _ => 0) (d + 1) y_Text_takeSign P) P n 0 (am_el 2 as) [] 0 0 G I J) : am_T l (d + 1) y_Text_takeSign as G I J P :=
  am_T_of (sc := (0, fun _ => 0)) cf_Text_takeSign (by decide +kernel) (by decide) (by decide +kernel) hlen (am_run (ok_lk _ (ck_Text_takeSign)) n _ _ _ _ _ _ _ _ h)
theorem rn_Text_takeSign {l : Launch} {sc : Nat × (Nat → Int32)} {d : Nat} {P : am_P} (n : Nat) {pc : Nat} {ls : am_L} {st : List am_V} {kc ks : Nat} {G : am_G} {I : am_I} {J : am_J} (h : am_go (am_lk (co_Text_takeSign l d)) (am_X l sc (d + 1) y_Text_takeSign P) P n pc ls st kc ks G I J) : am_X l sc (d + 1) y_Text_takeSign P pc ls st kc ks G I J := am_run (ok_lk _ (ck_Text_takeSign)) n _ _ _ _ _ _ _ _ h
def co_Text_takeDigit (l : Launch) (d : Nat) : List (Nat × am_S) := [(0, am_aload 0 1), (1, am_getI 8 2 4), (4, am_aload 0 5), (5, am_getI 8 1 8), (8, am_icmp_lt 11 13), (11, am_push (vI (-1)) 12), (12, am_iret false), (13, am_aload 0 14), (14, am_getR 8 0 17), (17, am_aload 0 18), (18, am_getI 8 2 21), (21, am_ald 2 22), (22, am_push (vI 48) 24), (24, am_isub 25), (25, am_istore 3 26), (26, am_iload 3 27), (27, am_iload 1 28), (28, am_icmp_lt 31 36), (31, am_iload 3 32), (32, am_iload 2 33), (33, am_icmp_le 36 38), (36, am_push (vI (-1)) 37), (37, am_iret false), (38, am_aload 0 39), (39, am_dup 40), (40, am_getI 8 2 43), (43, am_push (vI 1) 44), (44, am_iadd 45), (45, am_putI 8 2 48), (48, am_iload 3 49), (49, am_iret false)]
theorem ck_Text_takeDigit {l : Launch} {sc : Nat × (Nat → Int32)} {d : Nat} : ∀ q ∈ co_Text_takeDigit l d, am_ok l sc (d + 1) y_Text_takeDigit q.1 q.2 :=
  fa_cons (ok_aload_n (show decode (am_mB y_Text_takeDigit) 0 = .ok (.aload_n 0, 1) by decide +kernel) rfl) <|
  fa_cons (ok_getI (show decode (am_mB y_Text_takeDigit) 1 = .ok (.getfield 19, 3) by decide +kernel) fl_Text_19 (by decide +kernel)) <|
  fa_cons (ok_aload_n (show decode (am_mB y_Text_takeDigit) 4 = .ok (.aload_n 0, 1) by decide +kernel) rfl) <|
  fa_cons (ok_getI (show decode (am_mB y_Text_takeDigit) 5 = .ok (.getfield 15, 3) by decide +kernel) fl_Text_15 (by decide +kernel)) <|
  fa_cons (ok_icmp_lt (show decode (am_mB y_Text_takeDigit) 8 = .ok (.if_icmp .lt 5, 3) by decide +kernel) (by decide)) <|
  fa_cons (ok_iconst (show decode (am_mB y_Text_takeDigit) 11 = .ok (.iconst (-1), 1) by decide +kernel) rfl) <|
  fa_cons (ok_iret (show decode (am_mB y_Text_takeDigit) 12 = .ok (.ireturn, 1) by decide +kernel) rfl) <|
  fa_cons (ok_aload_n (show decode (am_mB y_Text_takeDigit) 13 = .ok (.aload_n 0, 1) by decide +kernel) rfl) <|
  fa_cons (ok_getR (show decode (am_mB y_Text_takeDigit) 14 = .ok (.getfield 9, 3) by decide +kernel) fl_Text_9 (by decide +kernel)) <|
  fa_cons (ok_aload_n (show decode (am_mB y_Text_takeDigit) 17 = .ok (.aload_n 0, 1) by decide +kernel) rfl) <|
  fa_cons (ok_getI (show decode (am_mB y_Text_takeDigit) 18 = .ok (.getfield 19, 3) by decide +kernel) fl_Text_19 (by decide +kernel)) <|
  fa_cons (ok_cald (show decode (am_mB y_Text_takeDigit) 21 = .ok (.caload, 1) by decide +kernel)) <|
  fa_cons (ok_bipush (show decode (am_mB y_Text_takeDigit) 22 = .ok (.bipush 48, 2) by decide +kernel) (by decide +kernel)) <|
  fa_cons (ok_isub (show decode (am_mB y_Text_takeDigit) 24 = .ok (.isub, 1) by decide +kernel)) <|
  fa_cons (ok_istore_n (show decode (am_mB y_Text_takeDigit) 25 = .ok (.istore_n 3, 1) by decide +kernel) rfl (by decide +kernel)) <|
  fa_cons (ok_iload_n (show decode (am_mB y_Text_takeDigit) 26 = .ok (.iload_n 3, 1) by decide +kernel) rfl) <|
  fa_cons (ok_iload_n (show decode (am_mB y_Text_takeDigit) 27 = .ok (.iload_n 1, 1) by decide +kernel) rfl) <|
  fa_cons (ok_icmp_lt (show decode (am_mB y_Text_takeDigit) 28 = .ok (.if_icmp .lt 8, 3) by decide +kernel) (by decide)) <|
  fa_cons (ok_iload_n (show decode (am_mB y_Text_takeDigit) 31 = .ok (.iload_n 3, 1) by decide +kernel) rfl) <|
  fa_cons (ok_iload_n (show decode (am_mB y_Text_takeDigit) 32 = .ok (.iload_n 2, 1) by decide +kernel) rfl) <|
  fa_cons (ok_icmp_le (show decode (am_mB y_Text_takeDigit) 33 = .ok (.if_icmp .le 5, 3) by decide +kernel) (by decide)) <|
  fa_cons (ok_iconst (show decode (am_mB y_Text_takeDigit) 36 = .ok (.iconst (-1), 1) by decide +kernel) rfl) <|
  fa_cons (ok_iret (show decode (am_mB y_Text_takeDigit) 37 = .ok (.ireturn, 1) by decide +kernel) rfl) <|
  fa_cons (ok_aload_n (show decode (am_mB y_Text_takeDigit) 38 = .ok (.aload_n 0, 1) by decide +kernel) rfl) <|
  fa_cons (ok_dup (show decode (am_mB y_Text_takeDigit) 39 = .ok (.dup, 1) by decide +kernel)) <|
  fa_cons (ok_getI (show decode (am_mB y_Text_takeDigit) 40 = .ok (.getfield 19, 3) by decide +kernel) fl_Text_19 (by decide +kernel)) <|
  fa_cons (ok_iconst (show decode (am_mB y_Text_takeDigit) 43 = .ok (.iconst 1, 1) by decide +kernel) rfl) <|
  fa_cons (ok_iadd (show decode (am_mB y_Text_takeDigit) 44 = .ok (.iadd, 1) by decide +kernel)) <|
  fa_cons (ok_putI (show decode (am_mB y_Text_takeDigit) 45 = .ok (.putfield 19, 3) by decide +kernel) fl_Text_19 (by decide +kernel)) <|
  fa_cons (ok_iload_n (show decode (am_mB y_Text_takeDigit) 48 = .ok (.iload_n 3, 1) by decide +kernel) rfl) <|
  fa_cons (ok_iret (show decode (am_mB y_Text_takeDigit) 49 = .ok (.ireturn, 1) by decide +kernel) rfl) <|
  fa_nil
set_option maxRecDepth 100000 in
theorem cq_Text_takeDigit (l : Launch) (d : Nat) : am_lk (co_Text_takeDigit l d) 0 = am_aload 0 1 ∧ am_lk (co_Text_takeDigit l d) 1 = am_getI 8 2 4 ∧ am_lk (co_Text_takeDigit l d) 4 = am_aload 0 5 ∧ am_lk (co_Text_takeDigit l d) 5 = am_getI 8 1 8 ∧ am_lk (co_Text_takeDigit l d) 8 = am_icmp_lt 11 13 ∧ am_lk (co_Text_takeDigit l d) 11 = am_push (vI (-1)) 12 ∧ am_lk (co_Text_takeDigit l d) 12 = am_iret false ∧ am_lk (co_Text_takeDigit l d) 13 = am_aload 0 14 ∧ am_lk (co_Text_takeDigit l d) 14 = am_getR 8 0 17 ∧ am_lk (co_Text_takeDigit l d) 17 = am_aload 0 18 ∧ am_lk (co_Text_takeDigit l d) 18 = am_getI 8 2 21 ∧ am_lk (co_Text_takeDigit l d) 21 = am_ald 2 22 ∧ am_lk (co_Text_takeDigit l d) 22 = am_push (vI 48) 24 ∧ am_lk (co_Text_takeDigit l d) 24 = am_isub 25 ∧ am_lk (co_Text_takeDigit l d) 25 = am_istore 3 26 ∧ am_lk (co_Text_takeDigit l d) 26 = am_iload 3 27 ∧ am_lk (co_Text_takeDigit l d) 27 = am_iload 1 28 ∧ am_lk (co_Text_takeDigit l d) 28 = am_icmp_lt 31 36 ∧ am_lk (co_Text_takeDigit l d) 31 = am_iload 3 32 ∧ am_lk (co_Text_takeDigit l d) 32 = am_iload 2 33 ∧ am_lk (co_Text_takeDigit l d) 33 = am_icmp_le 36 38 ∧ am_lk (co_Text_takeDigit l d) 36 = am_push (vI (-1)) 37 ∧ am_lk (co_Text_takeDigit l d) 37 = am_iret false ∧ am_lk (co_Text_takeDigit l d) 38 = am_aload 0 39 ∧ am_lk (co_Text_takeDigit l d) 39 = am_dup 40 ∧ am_lk (co_Text_takeDigit l d) 40 = am_getI 8 2 43 ∧ am_lk (co_Text_takeDigit l d) 43 = am_push (vI 1) 44 ∧ am_lk (co_Text_takeDigit l d) 44 = am_iadd 45 ∧ am_lk (co_Text_takeDigit l d) 45 = am_putI 8 2 48 ∧ am_lk (co_Text_takeDigit l d) 48 = am_iload 3 49 ∧ am_lk (co_Text_takeDigit l d) 49 = am_iret false := ⟨rfl, rfl, rfl, rfl, rfl, rfl, rfl, rfl, rfl, rfl, rfl, rfl, rfl, rfl, rfl, rfl, rfl, rfl, rfl, rfl, rfl, rfl, rfl, rfl, rfl, rfl, rfl, rfl, rfl, rfl, rfl⟩
theorem en_Text_takeDigit {l : Launch} {d : Nat} (n : Nat) {as : List am_V} {G : am_G} {I : am_I} {J : am_J} {P : am_P} (hlen : (as.map am_cat).sum ≤ 4) (h : am_go (am_lk (co_Text_takeDigit l d)) (am_X l (0, fun _ => 0) (d + 1) y_Text_takeDigit P) P n 0 (am_el 4 as) [] 0 0 G I J) : am_T l (d + 1) y_Text_takeDigit as G I J P :=
  am_T_of (sc := (0, fun _ => 0)) cf_Text_takeDigit (by decide +kernel) (by decide) (by decide +kernel) hlen (am_run (ok_lk _ (ck_Text_takeDigit)) n _ _ _ _ _ _ _ _ h)
theorem rn_Text_takeDigit {l : Launch} {sc : Nat × (Nat → Int32)} {d : Nat} {P : am_P} (n : Nat) {pc : Nat} {ls : am_L} {st : List am_V} {kc ks : Nat} {G : am_G} {I : am_I} {J : am_J} (h : am_go (am_lk (co_Text_takeDigit l d)) (am_X l sc (d + 1) y_Text_takeDigit P) P n pc ls st kc ks G I J) : am_X l sc (d + 1) y_Text_takeDigit P pc ls st kc ks G I J := am_run (ok_lk _ (ck_Text_takeDigit)) n _ _ _ _ _ _ _ _ h
def co_Text_takePair (l : Launch) (d : Nat) : List (Nat × am_S) := [(0, am_aload 0 1), (1, am_iload 1 2), (2, am_push (vI 10) 4), (4, am_idiv 5), (5, am_iload 2 6), (6, am_push (vI 10) 8), (8, am_idiv 9), (9, am_cal l d y_Text_takeDigit (some 8) 3 12 0 0 0 0), (12, am_istore 3 13), (13, am_iload 3 14), (14, am_push (vI (-1)) 15), (15, am_icmp_ne 18 20), (18, am_push (vI (-1)) 19), (19, am_iret false), (20, am_aload 0 21), (21, am_iload 1 22), (22, am_push (vI 10) 24), (24, am_iload 3 25), (25, am_imul 26), (26, am_isub 27), (27, am_push (vI 0) 28), (28, am_mmax 31), (31, am_iload 2 32), (32, am_push (vI 10) 34), (34, am_iload 3 35), (35, am_imul 36), (36, am_isub 37), (37, am_push (vI 9) 39), (39, am_mmin 42), (42, am_cal l d y_Text_takeDigit (some 8) 3 45 0 0 0 0), (45, am_istore 4 47), (47, am_iload 4 49), (49, am_push (vI (-1)) 50), (50, am_icmp_ne 53 57), (53, am_push (vI (-1)) 54), (54, am_goto 64), (57, am_push (vI 10) 59), (59, am_iload 3 60), (60, am_imul 61), (61, am_iload 4 63), (63, am_iadd 64), (64, am_iret false)]
theorem ck_Text_takePair {l : Launch} {sc : Nat × (Nat → Int32)} {d : Nat} : ∀ q ∈ co_Text_takePair l d, am_ok l sc (d + 1) y_Text_takePair q.1 q.2 :=
  fa_cons (ok_aload_n (show decode (am_mB y_Text_takePair) 0 = .ok (.aload_n 0, 1) by decide +kernel) rfl) <|
  fa_cons (ok_iload_n (show decode (am_mB y_Text_takePair) 1 = .ok (.iload_n 1, 1) by decide +kernel) rfl) <|
  fa_cons (ok_bipush (show decode (am_mB y_Text_takePair) 2 = .ok (.bipush 10, 2) by decide +kernel) (by decide +kernel)) <|
  fa_cons (ok_idiv (show decode (am_mB y_Text_takePair) 4 = .ok (.idiv, 1) by decide +kernel)) <|
  fa_cons (ok_iload_n (show decode (am_mB y_Text_takePair) 5 = .ok (.iload_n 2, 1) by decide +kernel) rfl) <|
  fa_cons (ok_bipush (show decode (am_mB y_Text_takePair) 6 = .ok (.bipush 10, 2) by decide +kernel) (by decide +kernel)) <|
  fa_cons (ok_idiv (show decode (am_mB y_Text_takePair) 8 = .ok (.idiv, 1) by decide +kernel)) <|
  fa_cons (ok_cal ⟨rfl, rfl, rfl, rfl⟩ (ok_callV (show decode (am_mB y_Text_takePair) 9 = .ok (.invokevirtual 39, 3) by decide +kernel) cf_Text_takeDigit (by decide +kernel) ml_Text_39 ci_Text_takeDigit cv_Text_takeDigit ⟨by decide, rfl⟩ rfl ⟨by decide +kernel, rfl⟩)) <|
  fa_cons (ok_istore_n (show decode (am_mB y_Text_takePair) 12 = .ok (.istore_n 3, 1) by decide +kernel) rfl (by decide +kernel)) <|
  fa_cons (ok_iload_n (show decode (am_mB y_Text_takePair) 13 = .ok (.iload_n 3, 1) by decide +kernel) rfl) <|
  fa_cons (ok_iconst (show decode (am_mB y_Text_takePair) 14 = .ok (.iconst (-1), 1) by decide +kernel) rfl) <|
  fa_cons (ok_icmp_ne (show decode (am_mB y_Text_takePair) 15 = .ok (.if_icmp .ne 5, 3) by decide +kernel) (by decide)) <|
  fa_cons (ok_iconst (show decode (am_mB y_Text_takePair) 18 = .ok (.iconst (-1), 1) by decide +kernel) rfl) <|
  fa_cons (ok_iret (show decode (am_mB y_Text_takePair) 19 = .ok (.ireturn, 1) by decide +kernel) rfl) <|
  fa_cons (ok_aload_n (show decode (am_mB y_Text_takePair) 20 = .ok (.aload_n 0, 1) by decide +kernel) rfl) <|
  fa_cons (ok_iload_n (show decode (am_mB y_Text_takePair) 21 = .ok (.iload_n 1, 1) by decide +kernel) rfl) <|
  fa_cons (ok_bipush (show decode (am_mB y_Text_takePair) 22 = .ok (.bipush 10, 2) by decide +kernel) (by decide +kernel)) <|
  fa_cons (ok_iload_n (show decode (am_mB y_Text_takePair) 24 = .ok (.iload_n 3, 1) by decide +kernel) rfl) <|
  fa_cons (ok_imul (show decode (am_mB y_Text_takePair) 25 = .ok (.imul, 1) by decide +kernel)) <|
  fa_cons (ok_isub (show decode (am_mB y_Text_takePair) 26 = .ok (.isub, 1) by decide +kernel)) <|
  fa_cons (ok_iconst (show decode (am_mB y_Text_takePair) 27 = .ok (.iconst 0, 1) by decide +kernel) rfl) <|
  fa_cons (ok_mmax (show decode (am_mB y_Text_takePair) 28 = .ok (.invokestatic 100, 3) by decide +kernel) w_305 w_306 w_16 w_307 (by omega)) <|
  fa_cons (ok_iload_n (show decode (am_mB y_Text_takePair) 31 = .ok (.iload_n 2, 1) by decide +kernel) rfl) <|
  fa_cons (ok_bipush (show decode (am_mB y_Text_takePair) 32 = .ok (.bipush 10, 2) by decide +kernel) (by decide +kernel)) <|
  fa_cons (ok_iload_n (show decode (am_mB y_Text_takePair) 34 = .ok (.iload_n 3, 1) by decide +kernel) rfl) <|
  fa_cons (ok_imul (show decode (am_mB y_Text_takePair) 35 = .ok (.imul, 1) by decide +kernel)) <|
  fa_cons (ok_isub (show decode (am_mB y_Text_takePair) 36 = .ok (.isub, 1) by decide +kernel)) <|
  fa_cons (ok_bipush (show decode (am_mB y_Text_takePair) 37 = .ok (.bipush 9, 2) by decide +kernel) (by decide +kernel)) <|
  fa_cons (ok_mmin (show decode (am_mB y_Text_takePair) 39 = .ok (.invokestatic 105, 3) by decide +kernel) w_308 w_309 w_16 w_310 (by omega)) <|
  fa_cons (ok_cal ⟨rfl, rfl, rfl, rfl⟩ (ok_callV (show decode (am_mB y_Text_takePair) 42 = .ok (.invokevirtual 39, 3) by decide +kernel) cf_Text_takeDigit (by decide +kernel) ml_Text_39 ci_Text_takeDigit cv_Text_takeDigit ⟨by decide, rfl⟩ rfl ⟨by decide +kernel, rfl⟩)) <|
  fa_cons (ok_istore (show decode (am_mB y_Text_takePair) 45 = .ok (.istore 4, 2) by decide +kernel) (by decide +kernel)) <|
  fa_cons (ok_iload (show decode (am_mB y_Text_takePair) 47 = .ok (.iload 4, 2) by decide +kernel)) <|
  fa_cons (ok_iconst (show decode (am_mB y_Text_takePair) 49 = .ok (.iconst (-1), 1) by decide +kernel) rfl) <|
  fa_cons (ok_icmp_ne (show decode (am_mB y_Text_takePair) 50 = .ok (.if_icmp .ne 7, 3) by decide +kernel) (by decide)) <|
  fa_cons (ok_iconst (show decode (am_mB y_Text_takePair) 53 = .ok (.iconst (-1), 1) by decide +kernel) rfl) <|
  fa_cons (ok_goto (show decode (am_mB y_Text_takePair) 54 = .ok (.goto 10, 3) by decide +kernel) (by decide)) <|
  fa_cons (ok_bipush (show decode (am_mB y_Text_takePair) 57 = .ok (.bipush 10, 2) by decide +kernel) (by decide +kernel)) <|
  fa_cons (ok_iload_n (show decode (am_mB y_Text_takePair) 59 = .ok (.iload_n 3, 1) by decide +kernel) rfl) <|
  fa_cons (ok_imul (show decode (am_mB y_Text_takePair) 60 = .ok (.imul, 1) by decide +kernel)) <|
  fa_cons (ok_iload (show decode (am_mB y_Text_takePair) 61 = .ok (.iload 4, 2) by decide +kernel)) <|
  fa_cons (ok_iadd (show decode (am_mB y_Text_takePair) 63 = .ok (.iadd, 1) by decide +kernel)) <|
  fa_cons (ok_iret (show decode (am_mB y_Text_takePair) 64 = .ok (.ireturn, 1) by decide +kernel) rfl) <|
  fa_nil
set_option maxRecDepth 100000 in
theorem cq_Text_takePair (l : Launch) (d : Nat) : am_lk (co_Text_takePair l d) 0 = am_aload 0 1 ∧ am_lk (co_Text_takePair l d) 1 = am_iload 1 2 ∧ am_lk (co_Text_takePair l d) 2 = am_push (vI 10) 4 ∧ am_lk (co_Text_takePair l d) 4 = am_idiv 5 ∧ am_lk (co_Text_takePair l d) 5 = am_iload 2 6 ∧ am_lk (co_Text_takePair l d) 6 = am_push (vI 10) 8 ∧ am_lk (co_Text_takePair l d) 8 = am_idiv 9 ∧ am_lk (co_Text_takePair l d) 9 = am_cal l d y_Text_takeDigit (some 8) 3 12 0 0 0 0 ∧ am_lk (co_Text_takePair l d) 12 = am_istore 3 13 ∧ am_lk (co_Text_takePair l d) 13 = am_iload 3 14 ∧ am_lk (co_Text_takePair l d) 14 = am_push (vI (-1)) 15 ∧ am_lk (co_Text_takePair l d) 15 = am_icmp_ne 18 20 ∧ am_lk (co_Text_takePair l d) 18 = am_push (vI (-1)) 19 ∧ am_lk (co_Text_takePair l d) 19 = am_iret false ∧ am_lk (co_Text_takePair l d) 20 = am_aload 0 21 ∧ am_lk (co_Text_takePair l d) 21 = am_iload 1 22 ∧ am_lk (co_Text_takePair l d) 22 = am_push (vI 10) 24 ∧ am_lk (co_Text_takePair l d) 24 = am_iload 3 25 ∧ am_lk (co_Text_takePair l d) 25 = am_imul 26 ∧ am_lk (co_Text_takePair l d) 26 = am_isub 27 ∧ am_lk (co_Text_takePair l d) 27 = am_push (vI 0) 28 ∧ am_lk (co_Text_takePair l d) 28 = am_mmax 31 ∧ am_lk (co_Text_takePair l d) 31 = am_iload 2 32 ∧ am_lk (co_Text_takePair l d) 32 = am_push (vI 10) 34 ∧ am_lk (co_Text_takePair l d) 34 = am_iload 3 35 ∧ am_lk (co_Text_takePair l d) 35 = am_imul 36 ∧ am_lk (co_Text_takePair l d) 36 = am_isub 37 ∧ am_lk (co_Text_takePair l d) 37 = am_push (vI 9) 39 ∧ am_lk (co_Text_takePair l d) 39 = am_mmin 42 ∧ am_lk (co_Text_takePair l d) 42 = am_cal l d y_Text_takeDigit (some 8) 3 45 0 0 0 0 ∧ am_lk (co_Text_takePair l d) 45 = am_istore 4 47 ∧ am_lk (co_Text_takePair l d) 47 = am_iload 4 49 ∧ am_lk (co_Text_takePair l d) 49 = am_push (vI (-1)) 50 ∧ am_lk (co_Text_takePair l d) 50 = am_icmp_ne 53 57 ∧ am_lk (co_Text_takePair l d) 53 = am_push (vI (-1)) 54 ∧ am_lk (co_Text_takePair l d) 54 = am_goto 64 ∧ am_lk (co_Text_takePair l d) 57 = am_push (vI 10) 59 ∧ am_lk (co_Text_takePair l d) 59 = am_iload 3 60 ∧ am_lk (co_Text_takePair l d) 60 = am_imul 61 ∧ am_lk (co_Text_takePair l d) 61 = am_iload 4 63 ∧ am_lk (co_Text_takePair l d) 63 = am_iadd 64 ∧ am_lk (co_Text_takePair l d) 64 = am_iret false := ⟨rfl, rfl, rfl, rfl, rfl, rfl, rfl, rfl, rfl, rfl, rfl, rfl, rfl, rfl, rfl, rfl, rfl, rfl, rfl, rfl, rfl, rfl, rfl, rfl, rfl, rfl, rfl, rfl, rfl, rfl, rfl, rfl, rfl, rfl, rfl, rfl, rfl, rfl, rfl, rfl, rfl, rfl⟩
theorem en_Text_takePair {l : Launch} {d : Nat} (n : Nat) {as : List am_V} {G : am_G} {I : am_I} {J : am_J} {P : am_P} (hlen : (as.map am_cat).sum ≤ 5) (h : am_go (am_lk (co_Text_takePair l d)) (am_X l (0, fun _ => 0) (d + 1) y_Text_takePair P) P n 0 (am_el 5 as) [] 0 0 G I J) : am_T l (d + 1) y_Text_takePair as G I J P :=
  am_T_of (sc := (0, fun _ => 0)) cf_Text_takePair (by decide +kernel) (by decide) (by decide +kernel) hlen (am_run (ok_lk _ (ck_Text_takePair)) n _ _ _ _ _ _ _ _ h)
theorem rn_Text_takePair {l : Launch} {sc : Nat × (Nat → Int32)} {d : Nat} {P : am_P} (n : Nat) {pc : Nat} {ls : am_L} {st : List am_V} {kc ks : Nat} {G : am_G} {I : am_I} {J : am_J} (h : am_go (am_lk (co_Text_takePair l d)) (am_X l sc (d + 1) y_Text_takePair P) P n pc ls st kc ks G I J) : am_X l sc (d + 1) y_Text_takePair P pc ls st kc ks G I J := am_run (ok_lk _ (ck_Text_takePair)) n _ _ _ _ _ _ _ _ h
