/-! written by wip/p32/gen.py: the code of Hlp -/
def co_L_draw (l : Launch) (d : Nat) (sc : Nat × (Nat → Int32)) : List (Nat × am_S) := [(0, am_iload 1 1), (1, am_aload 0 2), (2, am_slen sc.1 3), (3, am_icmp_ge 6 12), (6, am_aload 0 7), (7, am_iload 1 8), (8, am_sld sc.1 sc.2 9), (9, am_goto 20), (12, am_push (vI 15593401) 14), (14, am_iload 1 15), (15, am_imul 16), (16, am_push (vI 10429) 19), (19, am_iadd 20), (20, am_push (vI 2147483647) 22), (22, am_iand 23), (23, am_iret false)]
theorem ck_L_draw {l : Launch} {sc : Nat × (Nat → Int32)} {d : Nat} : ∀ q ∈ co_L_draw l d sc, am_ok l sc (d + 1) y_L_draw q.1 q.2 :=
  fa_cons (ok_iload_n (show decode (am_mB y_L_draw) 0 = .ok (.iload_n 1, 1) by decide +kernel) rfl) <|
  fa_cons (ok_aload_n (show decode (am_mB y_L_draw) 1 = .ok (.aload_n 0, 1) by decide +kernel) rfl) <|
  fa_cons (ok_slen (show decode (am_mB y_L_draw) 2 = .ok (.arraylength, 1) by decide +kernel) (by decide)) <|
  fa_cons (ok_icmp_ge (show decode (am_mB y_L_draw) 3 = .ok (.if_icmp .ge 9, 3) by decide +kernel) (by decide)) <|
  fa_cons (ok_aload_n (show decode (am_mB y_L_draw) 6 = .ok (.aload_n 0, 1) by decide +kernel) rfl) <|
  fa_cons (ok_iload_n (show decode (am_mB y_L_draw) 7 = .ok (.iload_n 1, 1) by decide +kernel) rfl) <|
  fa_cons (ok_sld (show decode (am_mB y_L_draw) 8 = .ok (.iaload, 1) by decide +kernel) (by decide)) <|
  fa_cons (ok_goto (show decode (am_mB y_L_draw) 9 = .ok (.goto 11, 3) by decide +kernel) (by decide)) <|
  fa_cons (ok_ldc (show decode (am_mB y_L_draw) 12 = .ok (.ldc 7, 2) by decide +kernel) w_278) <|
  fa_cons (ok_iload_n (show decode (am_mB y_L_draw) 14 = .ok (.iload_n 1, 1) by decide +kernel) rfl) <|
  fa_cons (ok_imul (show decode (am_mB y_L_draw) 15 = .ok (.imul, 1) by decide +kernel)) <|
  fa_cons (ok_sipush (show decode (am_mB y_L_draw) 16 = .ok (.sipush 10429, 3) by decide +kernel) (by decide +kernel)) <|
  fa_cons (ok_iadd (show decode (am_mB y_L_draw) 19 = .ok (.iadd, 1) by decide +kernel)) <|
  fa_cons (ok_ldc (show decode (am_mB y_L_draw) 20 = .ok (.ldc 8, 2) by decide +kernel) w_279) <|
  fa_cons (ok_iand (show decode (am_mB y_L_draw) 22 = .ok (.iand, 1) by decide +kernel)) <|
  fa_cons (ok_iret (show decode (am_mB y_L_draw) 23 = .ok (.ireturn, 1) by decide +kernel) rfl) <|
  fa_nil
set_option maxRecDepth 100000 in
theorem cq_L_draw (l : Launch) (d : Nat) (sc : Nat × (Nat → Int32)) : am_lk (co_L_draw l d sc) 0 = am_iload 1 1 ∧ am_lk (co_L_draw l d sc) 1 = am_aload 0 2 ∧ am_lk (co_L_draw l d sc) 2 = am_slen sc.1 3 ∧ am_lk (co_L_draw l d sc) 3 = am_icmp_ge 6 12 ∧ am_lk (co_L_draw l d sc) 6 = am_aload 0 7 ∧ am_lk (co_L_draw l d sc) 7 = am_iload 1 8 ∧ am_lk (co_L_draw l d sc) 8 = am_sld sc.1 sc.2 9 ∧ am_lk (co_L_draw l d sc) 9 = am_goto 20 ∧ am_lk (co_L_draw l d sc) 12 = am_push (vI 15593401) 14 ∧ am_lk (co_L_draw l d sc) 14 = am_iload 1 15 ∧ am_lk (co_L_draw l d sc) 15 = am_imul 16 ∧ am_lk (co_L_draw l d sc) 16 = am_push (vI 10429) 19 ∧ am_lk (co_L_draw l d sc) 19 = am_iadd 20 ∧ am_lk (co_L_draw l d sc) 20 = am_push (vI 2147483647) 22 ∧ am_lk (co_L_draw l d sc) 22 = am_iand 23 ∧ am_lk (co_L_draw l d sc) 23 = am_iret false := ⟨rfl, rfl, rfl, rfl, rfl, rfl, rfl, rfl, rfl, rfl, rfl, rfl, rfl, rfl, rfl, rfl⟩
theorem rn_L_draw {l : Launch} {sc : Nat × (Nat → Int32)} {d : Nat} {P : am_P} (n : Nat) {pc : Nat} {ls : am_L} {st : List am_V} {kc ks : Nat} {G : am_G} {I : am_I} {J : am_J} (h : am_go (am_lk (co_L_draw l d sc)) (am_X l sc (d + 1) y_L_draw P) P n pc ls st kc ks G I J) : am_X l sc (d + 1) y_L_draw P pc ls st kc ks G I J := am_run (ok_lk _ (ck_L_draw)) n _ _ _ _ _ _ _ _ h
def co_L_in (l : Launch) (d : Nat) : List (Nat × am_S) := [(0, am_lload 0 1), (1, am_lload 2 2), (2, am_lcmp 3), (3, am_if_lt 6 17), (6, am_lload 0 7), (7, am_lload 4 9), (9, am_lcmp 10), (10, am_if_gt 13 17), (13, am_push (vI 1) 14), (14, am_goto 18), (17, am_push (vI 0) 18), (18, am_iret true)]
theorem ck_L_in {l : Launch} {sc : Nat × (Nat → Int32)} {d : Nat} : ∀ q ∈ co_L_in l d, am_ok l sc (d + 1) y_L_in q.1 q.2 :=
  fa_cons (ok_lload_n (show decode (am_mB y_L_in) 0 = .ok (.lload_n 0, 1) by decide +kernel) rfl) <|
  fa_cons (ok_lload_n (show decode (am_mB y_L_in) 1 = .ok (.lload_n 2, 1) by decide +kernel) rfl) <|
  fa_cons (ok_lcmp (show decode (am_mB y_L_in) 2 = .ok (.lcmp, 1) by decide +kernel)) <|
  fa_cons (ok_if_lt (show decode (am_mB y_L_in) 3 = .ok (.ifCond .lt 14, 3) by decide +kernel) (by decide)) <|
  fa_cons (ok_lload_n (show decode (am_mB y_L_in) 6 = .ok (.lload_n 0, 1) by decide +kernel) rfl) <|
  fa_cons (ok_lload (show decode (am_mB y_L_in) 7 = .ok (.lload 4, 2) by decide +kernel)) <|
  fa_cons (ok_lcmp (show decode (am_mB y_L_in) 9 = .ok (.lcmp, 1) by decide +kernel)) <|
  fa_cons (ok_if_gt (show decode (am_mB y_L_in) 10 = .ok (.ifCond .gt 7, 3) by decide +kernel) (by decide)) <|
  fa_cons (ok_iconst (show decode (am_mB y_L_in) 13 = .ok (.iconst 1, 1) by decide +kernel) rfl) <|
  fa_cons (ok_goto (show decode (am_mB y_L_in) 14 = .ok (.goto 4, 3) by decide +kernel) (by decide)) <|
  fa_cons (ok_iconst (show decode (am_mB y_L_in) 17 = .ok (.iconst 0, 1) by decide +kernel) rfl) <|
  fa_cons (ok_iret (show decode (am_mB y_L_in) 18 = .ok (.ireturn, 1) by decide +kernel) rfl) <|
  fa_nil
set_option maxRecDepth 100000 in
theorem cq_L_in (l : Launch) (d : Nat) : am_lk (co_L_in l d) 0 = am_lload 0 1 ∧ am_lk (co_L_in l d) 1 = am_lload 2 2 ∧ am_lk (co_L_in l d) 2 = am_lcmp 3 ∧ am_lk (co_L_in l d) 3 = am_if_lt 6 17 ∧ am_lk (co_L_in l d) 6 = am_lload 0 7 ∧ am_lk (co_L_in l d) 7 = am_lload 4 9 ∧ am_lk (co_L_in l d) 9 = am_lcmp 10 ∧ am_lk (co_L_in l d) 10 = am_if_gt 13 17 ∧ am_lk (co_L_in l d) 13 = am_push (vI 1) 14 ∧ am_lk (co_L_in l d) 14 = am_goto 18 ∧ am_lk (co_L_in l d) 17 = am_push (vI 0) 18 ∧ am_lk (co_L_in l d) 18 = am_iret true := ⟨rfl, rfl, rfl, rfl, rfl, rfl, rfl, rfl, rfl, rfl, rfl, rfl⟩
theorem en_L_in {l : Launch} {d : Nat} (n : Nat) {as : List am_V} {G : am_G} {I : am_I} {J : am_J} {P : am_P} (hlen : (as.map am_cat).sum ≤ 6) (h : am_go (am_lk (co_L_in l d)) (am_X l (0, fun _ => 0) (d + 1) y_L_in P) P n 0 (am_el 6 as) [] 0 0 G I J) : am_T l (d + 1) y_L_in as G I J P :=
  am_T_of (sc := (0, fun _ => 0)) cf_L_in (by decide +kernel) (by decide) (by decide +kernel) hlen (am_run (ok_lk _ (ck_L_in)) n _ _ _ _ _ _ _ _ h)
theorem rn_L_in {l : Launch} {sc : Nat × (Nat → Int32)} {d : Nat} {P : am_P} (n : Nat) {pc : Nat} {ls : am_L} {st : List am_V} {kc ks : Nat} {G : am_G} {I : am_I} {J : am_J} (h : am_go (am_lk (co_L_in l d)) (am_X l sc (d + 1) y_L_in P) P n pc ls st kc ks G I J) : am_X l sc (d + 1) y_L_in P pc ls st kc ks G I J := am_run (ok_lk _ (ck_L_in)) n _ _ _ _ _ _ _ _ h
theorem hh_L_append : ∀ (e : Nat) (k : Int64), am_fnd [(1, (-9000000000000000002)), (2, (-9000000000000000003))] e = some k → am_hd y_L_append 2 e k := by
  intro e k h
  by_cases h1 : e = 1
  · subst h1
    have hk : ((-9000000000000000002) : Int64) = k := Option.some.inj h
    subst hk
    exact ⟨[], (0, 6, 7, 15), [(0, 6, 12, 19)], rfl, by decide, by decide, w_502, w_568, fa_nil, ⟨1, Or.inl ⟨2, by decide +kernel, rfl, by decide +kernel⟩, ⟨17, by decide +kernel, w_582⟩, by decide +kernel⟩, rfl⟩
  by_cases h2 : e = 2
  · subst h2
    have hk : ((-9000000000000000003) : Int64) = k := Option.some.inj h
    subst hk
    exact ⟨[(0, 6, 7, 15)], (0, 6, 12, 19), [], rfl, by decide, by decide, w_283, w_360, fa_cons ⟨by decide, 1, w_502, by decide +kernel⟩ (fa_nil), ⟨1, Or.inl ⟨2, by decide +kernel, rfl, by decide +kernel⟩, ⟨21, by decide +kernel, w_441⟩, by decide +kernel⟩, rfl⟩
  simp [am_fnd, h1, h2] at h
def co_L_append (l : Launch) (d : Nat) : List (Nat × am_S) := [(0, am_aload 0 1), (1, am_iload 1 2), (2, am_calH l d y_P_append (some 0) 2 [(1, (-9000000000000000002)), (2, (-9000000000000000003))] 5 1 6 1 6), (5, am_i2l 6), (6, am_lret)]
theorem ck_L_append {l : Launch} {sc : Nat × (Nat → Int32)} {d : Nat} : ∀ q ∈ co_L_append l d, am_ok l sc (d + 1) y_L_append q.1 q.2 :=
  fa_cons (ok_aload_n (show decode (am_mB y_L_append) 0 = .ok (.aload_n 0, 1) by decide +kernel) rfl) <|
  fa_cons (ok_iload_n (show decode (am_mB y_L_append) 1 = .ok (.iload_n 1, 1) by decide +kernel) rfl) <|
  fa_cons (ok_calH ⟨rfl, rfl, rfl, rfl⟩ (ok_callH (show decode (am_mB y_L_append) 2 = .ok (.invokevirtual 9, 3) by decide +kernel) cf_P_append (by decide +kernel) w_938 ci_P_append cv_P_append ⟨by decide, rfl⟩ rfl (by decide +kernel) (Or.inl (by decide +kernel)) hh_L_append)) <|
  fa_cons (ok_i2l (show decode (am_mB y_L_append) 5 = .ok (.i2l, 1) by decide +kernel)) <|
  fa_cons (ok_lret (show decode (am_mB y_L_append) 6 = .ok (.lreturn, 1) by decide +kernel) rfl (by decide +kernel)) <|
  fa_nil
set_option maxRecDepth 100000 in
theorem cq_L_append (l : Launch) (d : Nat) : am_lk (co_L_append l d) 0 = am_aload 0 1 ∧ am_lk (co_L_append l d) 1 = am_iload 1 2 ∧ am_lk (co_L_append l d) 2 = am_calH l d y_P_append (some 0) 2 [(1, (-9000000000000000002)), (2, (-9000000000000000003))] 5 1 6 1 6 ∧ am_lk (co_L_append l d) 5 = am_i2l 6 ∧ am_lk (co_L_append l d) 6 = am_lret := ⟨rfl, rfl, rfl, rfl, rfl⟩
theorem en_L_append {l : Launch} {d : Nat} (n : Nat) {as : List am_V} {G : am_G} {I : am_I} {J : am_J} {P : am_P} (hlen : (as.map am_cat).sum ≤ 3) (h : am_go (am_lk (co_L_append l d)) (am_X l (0, fun _ => 0) (d + 1) y_L_append P) P n 0 (am_el 3 as) [] 0 0 G I J) : am_T l (d + 1) y_L_append as G I J P :=
  am_T_of (sc := (0, fun _ => 0)) cf_L_append (by decide +kernel) (by decide) (by decide +kernel) hlen (am_run (ok_lk _ (ck_L_append)) n _ _ _ _ _ _ _ _ h)
theorem rn_L_append {l : Launch} {sc : Nat × (Nat → Int32)} {d : Nat} {P : am_P} (n : Nat) {pc : Nat} {ls : am_L} {st : List am_V} {kc ks : Nat} {G : am_G} {I : am_I} {J : am_J} (h : am_go (am_lk (co_L_append l d)) (am_X l sc (d + 1) y_L_append P) P n pc ls st kc ks G I J) : am_X l sc (d + 1) y_L_append P pc ls st kc ks G I J := am_run (ok_lk _ (ck_L_append)) n _ _ _ _ _ _ _ _ h
theorem hh_L_load : ∀ (e : Nat) (k : Int64), am_fnd [(2, (-9000000000000000003))] e = some k → am_hd y_L_load 1 e k := by
  intro e k h
  by_cases h2 : e = 2
  · subst h2
    have hk : ((-9000000000000000003) : Int64) = k := Option.some.inj h
    subst hk
    exact ⟨[], (0, 5, 6, 19), [], rfl, by decide, by decide, w_283, w_360, fa_nil, ⟨1, Or.inl ⟨1, by decide +kernel, rfl, by decide +kernel⟩, ⟨21, by decide +kernel, w_441⟩, by decide +kernel⟩, rfl⟩
  simp [am_fnd, h2] at h
def co_L_load (l : Launch) (d : Nat) : List (Nat × am_S) := [(0, am_aload 0 1), (1, am_calH l d y_P_load (some 0) 1 [(2, (-9000000000000000003))] 4 1 6 1 6), (4, am_i2l 5), (5, am_lret)]
theorem ck_L_load {l : Launch} {sc : Nat × (Nat → Int32)} {d : Nat} : ∀ q ∈ co_L_load l d, am_ok l sc (d + 1) y_L_load q.1 q.2 :=
  fa_cons (ok_aload_n (show decode (am_mB y_L_load) 0 = .ok (.aload_n 0, 1) by decide +kernel) rfl) <|
  fa_cons (ok_calH ⟨rfl, rfl, rfl, rfl⟩ (ok_callH (show decode (am_mB y_L_load) 1 = .ok (.invokevirtual 23, 3) by decide +kernel) cf_P_load (by decide +kernel) w_284 ci_P_load cv_P_load ⟨by decide, rfl⟩ rfl (by decide +kernel) (Or.inl (by decide +kernel)) hh_L_load)) <|
  fa_cons (ok_i2l (show decode (am_mB y_L_load) 4 = .ok (.i2l, 1) by decide +kernel)) <|
  fa_cons (ok_lret (show decode (am_mB y_L_load) 5 = .ok (.lreturn, 1) by decide +kernel) rfl (by decide +kernel)) <|
  fa_nil
set_option maxRecDepth 100000 in
theorem cq_L_load (l : Launch) (d : Nat) : am_lk (co_L_load l d) 0 = am_aload 0 1 ∧ am_lk (co_L_load l d) 1 = am_calH l d y_P_load (some 0) 1 [(2, (-9000000000000000003))] 4 1 6 1 6 ∧ am_lk (co_L_load l d) 4 = am_i2l 5 ∧ am_lk (co_L_load l d) 5 = am_lret := ⟨rfl, rfl, rfl, rfl⟩
theorem en_L_load {l : Launch} {d : Nat} (n : Nat) {as : List am_V} {G : am_G} {I : am_I} {J : am_J} {P : am_P} (hlen : (as.map am_cat).sum ≤ 2) (h : am_go (am_lk (co_L_load l d)) (am_X l (0, fun _ => 0) (d + 1) y_L_load P) P n 0 (am_el 2 as) [] 0 0 G I J) : am_T l (d + 1) y_L_load as G I J P :=
  am_T_of (sc := (0, fun _ => 0)) cf_L_load (by decide +kernel) (by decide) (by decide +kernel) hlen (am_run (ok_lk _ (ck_L_load)) n _ _ _ _ _ _ _ _ h)
theorem rn_L_load {l : Launch} {sc : Nat × (Nat → Int32)} {d : Nat} {P : am_P} (n : Nat) {pc : Nat} {ls : am_L} {st : List am_V} {kc ks : Nat} {G : am_G} {I : am_I} {J : am_J} (h : am_go (am_lk (co_L_load l d)) (am_X l sc (d + 1) y_L_load P) P n pc ls st kc ks G I J) : am_X l sc (d + 1) y_L_load P pc ls st kc ks G I J := am_run (ok_lk _ (ck_L_load)) n _ _ _ _ _ _ _ _ h
theorem hh_L_about : ∀ (e : Nat) (k : Int64), am_fnd [(1, (-9000000000000000002))] e = some k → am_hd y_L_about 2 e k := by
  intro e k h
  by_cases h1 : e = 1
  · subst h1
    have hk : ((-9000000000000000002) : Int64) = k := Option.some.inj h
    subst hk
    exact ⟨[], (0, 6, 7, 15), [], rfl, by decide, by decide, w_502, w_568, fa_nil, ⟨1, Or.inl ⟨2, by decide +kernel, rfl, by decide +kernel⟩, ⟨17, by decide +kernel, w_582⟩, by decide +kernel⟩, rfl⟩
  simp [am_fnd, h1] at h
def co_L_about (l : Launch) (d : Nat) : List (Nat × am_S) := [(0, am_aload 0 1), (1, am_iload 1 2), (2, am_calH l d y_P_about (some 0) 2 [(1, (-9000000000000000002))] 5 1 6 1 6), (5, am_i2l 6), (6, am_lret)]
theorem ck_L_about {l : Launch} {sc : Nat × (Nat → Int32)} {d : Nat} : ∀ q ∈ co_L_about l d, am_ok l sc (d + 1) y_L_about q.1 q.2 :=
  fa_cons (ok_aload_n (show decode (am_mB y_L_about) 0 = .ok (.aload_n 0, 1) by decide +kernel) rfl) <|
  fa_cons (ok_iload_n (show decode (am_mB y_L_about) 1 = .ok (.iload_n 1, 1) by decide +kernel) rfl) <|
  fa_cons (ok_calH ⟨rfl, rfl, rfl, rfl⟩ (ok_callH (show decode (am_mB y_L_about) 2 = .ok (.invokevirtual 27, 3) by decide +kernel) cf_P_about (by decide +kernel) w_503 ci_P_about cv_P_about ⟨by decide, rfl⟩ rfl (by decide +kernel) (Or.inl (by decide +kernel)) hh_L_about)) <|
  fa_cons (ok_i2l (show decode (am_mB y_L_about) 5 = .ok (.i2l, 1) by decide +kernel)) <|
  fa_cons (ok_lret (show decode (am_mB y_L_about) 6 = .ok (.lreturn, 1) by decide +kernel) rfl (by decide +kernel)) <|
  fa_nil
set_option maxRecDepth 100000 in
theorem cq_L_about (l : Launch) (d : Nat) : am_lk (co_L_about l d) 0 = am_aload 0 1 ∧ am_lk (co_L_about l d) 1 = am_iload 1 2 ∧ am_lk (co_L_about l d) 2 = am_calH l d y_P_about (some 0) 2 [(1, (-9000000000000000002))] 5 1 6 1 6 ∧ am_lk (co_L_about l d) 5 = am_i2l 6 ∧ am_lk (co_L_about l d) 6 = am_lret := ⟨rfl, rfl, rfl, rfl, rfl⟩
theorem en_L_about {l : Launch} {d : Nat} (n : Nat) {as : List am_V} {G : am_G} {I : am_I} {J : am_J} {P : am_P} (hlen : (as.map am_cat).sum ≤ 3) (h : am_go (am_lk (co_L_about l d)) (am_X l (0, fun _ => 0) (d + 1) y_L_about P) P n 0 (am_el 3 as) [] 0 0 G I J) : am_T l (d + 1) y_L_about as G I J P :=
  am_T_of (sc := (0, fun _ => 0)) cf_L_about (by decide +kernel) (by decide) (by decide +kernel) hlen (am_run (ok_lk _ (ck_L_about)) n _ _ _ _ _ _ _ _ h)
theorem rn_L_about {l : Launch} {sc : Nat × (Nat → Int32)} {d : Nat} {P : am_P} (n : Nat) {pc : Nat} {ls : am_L} {st : List am_V} {kc ks : Nat} {G : am_G} {I : am_I} {J : am_J} (h : am_go (am_lk (co_L_about l d)) (am_X l sc (d + 1) y_L_about P) P n pc ls st kc ks G I J) : am_X l sc (d + 1) y_L_about P pc ls st kc ks G I J := am_run (ok_lk _ (ck_L_about)) n _ _ _ _ _ _ _ _ h
theorem hh_L_row : ∀ (e : Nat) (k : Int64), am_fnd [(3, (-9000000000000000001)), (1, (-9000000000000000002))] e = some k → am_hd y_L_row 3 e k := by
  intro e k h
  by_cases h3 : e = 3
  · subst h3
    have hk : ((-9000000000000000001) : Int64) = k := Option.some.inj h
    subst hk
    exact ⟨[], (0, 7, 8, 34), [(0, 7, 13, 15)], rfl, by decide, by decide, w_445, w_455, fa_nil, ⟨1, Or.inl ⟨3, by decide +kernel, rfl, by decide +kernel⟩, ⟨36, by decide +kernel, w_474⟩, by decide +kernel⟩, rfl⟩
  by_cases h1 : e = 1
  · subst h1
    have hk : ((-9000000000000000002) : Int64) = k := Option.some.inj h
    subst hk
    exact ⟨[(0, 7, 8, 34)], (0, 7, 13, 15), [], rfl, by decide, by decide, w_502, w_568, fa_cons ⟨by decide, 3, w_445, by decide +kernel⟩ (fa_nil), ⟨1, Or.inl ⟨3, by decide +kernel, rfl, by decide +kernel⟩, ⟨17, by decide +kernel, w_582⟩, by decide +kernel⟩, rfl⟩
  simp [am_fnd, h3, h1] at h
def co_L_row (l : Launch) (d : Nat) : List (Nat × am_S) := [(0, am_aload 0 1), (1, am_iload 1 2), (2, am_iload 2 3), (3, am_calH l d y_P_row (some 0) 3 [(3, (-9000000000000000001)), (1, (-9000000000000000002))] 6 2 12 2 12), (6, am_i2l 7), (7, am_lret)]
theorem ck_L_row {l : Launch} {sc : Nat × (Nat → Int32)} {d : Nat} : ∀ q ∈ co_L_row l d, am_ok l sc (d + 1) y_L_row q.1 q.2 :=
  fa_cons (ok_aload_n (show decode (am_mB y_L_row) 0 = .ok (.aload_n 0, 1) by decide +kernel) rfl) <|
  fa_cons (ok_iload_n (show decode (am_mB y_L_row) 1 = .ok (.iload_n 1, 1) by decide +kernel) rfl) <|
  fa_cons (ok_iload_n (show decode (am_mB y_L_row) 2 = .ok (.iload_n 2, 1) by decide +kernel) rfl) <|
  fa_cons (ok_calH ⟨rfl, rfl, rfl, rfl⟩ (ok_callH (show decode (am_mB y_L_row) 3 = .ok (.invokevirtual 30, 3) by decide +kernel) cf_P_row (by decide +kernel) w_594 ci_P_row cv_P_row ⟨by decide, rfl⟩ rfl (by decide +kernel) (Or.inl (by decide +kernel)) hh_L_row)) <|
  fa_cons (ok_i2l (show decode (am_mB y_L_row) 6 = .ok (.i2l, 1) by decide +kernel)) <|
  fa_cons (ok_lret (show decode (am_mB y_L_row) 7 = .ok (.lreturn, 1) by decide +kernel) rfl (by decide +kernel)) <|
  fa_nil
set_option maxRecDepth 100000 in
theorem cq_L_row (l : Launch) (d : Nat) : am_lk (co_L_row l d) 0 = am_aload 0 1 ∧ am_lk (co_L_row l d) 1 = am_iload 1 2 ∧ am_lk (co_L_row l d) 2 = am_iload 2 3 ∧ am_lk (co_L_row l d) 3 = am_calH l d y_P_row (some 0) 3 [(3, (-9000000000000000001)), (1, (-9000000000000000002))] 6 2 12 2 12 ∧ am_lk (co_L_row l d) 6 = am_i2l 7 ∧ am_lk (co_L_row l d) 7 = am_lret := ⟨rfl, rfl, rfl, rfl, rfl, rfl⟩
theorem en_L_row {l : Launch} {d : Nat} (n : Nat) {as : List am_V} {G : am_G} {I : am_I} {J : am_J} {P : am_P} (hlen : (as.map am_cat).sum ≤ 4) (h : am_go (am_lk (co_L_row l d)) (am_X l (0, fun _ => 0) (d + 1) y_L_row P) P n 0 (am_el 4 as) [] 0 0 G I J) : am_T l (d + 1) y_L_row as G I J P :=
  am_T_of (sc := (0, fun _ => 0)) cf_L_row (by decide +kernel) (by decide) (by decide +kernel) hlen (am_run (ok_lk _ (ck_L_row)) n _ _ _ _ _ _ _ _ h)
theorem rn_L_row {l : Launch} {sc : Nat × (Nat → Int32)} {d : Nat} {P : am_P} (n : Nat) {pc : Nat} {ls : am_L} {st : List am_V} {kc ks : Nat} {G : am_G} {I : am_I} {J : am_J} (h : am_go (am_lk (co_L_row l d)) (am_X l sc (d + 1) y_L_row P) P n pc ls st kc ks G I J) : am_X l sc (d + 1) y_L_row P pc ls st kc ks G I J := am_run (ok_lk _ (ck_L_row)) n _ _ _ _ _ _ _ _ h
theorem hh_L_amount : ∀ (e : Nat) (k : Int64), am_fnd [(3, (-9000000000000000001))] e = some k → am_hd y_L_amount 3 e k := by
  intro e k h
  by_cases h3 : e = 3
  · subst h3
    have hk : ((-9000000000000000001) : Int64) = k := Option.some.inj h
    subst hk
    exact ⟨[], (0, 7, 8, 34), [], rfl, by decide, by decide, w_445, w_455, fa_nil, ⟨1, Or.inl ⟨3, by decide +kernel, rfl, by decide +kernel⟩, ⟨36, by decide +kernel, w_474⟩, by decide +kernel⟩, rfl⟩
  simp [am_fnd, h3] at h
def co_L_amount (l : Launch) (d : Nat) : List (Nat × am_S) := [(0, am_aload 0 1), (1, am_iload 1 2), (2, am_iload 2 3), (3, am_calH l d y_P_amount (some 0) 3 [(3, (-9000000000000000001))] 6 2 12 2 12), (6, am_i2l 7), (7, am_lret)]
theorem ck_L_amount {l : Launch} {sc : Nat × (Nat → Int32)} {d : Nat} : ∀ q ∈ co_L_amount l d, am_ok l sc (d + 1) y_L_amount q.1 q.2 :=
  fa_cons (ok_aload_n (show decode (am_mB y_L_amount) 0 = .ok (.aload_n 0, 1) by decide +kernel) rfl) <|
  fa_cons (ok_iload_n (show decode (am_mB y_L_amount) 1 = .ok (.iload_n 1, 1) by decide +kernel) rfl) <|
  fa_cons (ok_iload_n (show decode (am_mB y_L_amount) 2 = .ok (.iload_n 2, 1) by decide +kernel) rfl) <|
  fa_cons (ok_calH ⟨rfl, rfl, rfl, rfl⟩ (ok_callH (show decode (am_mB y_L_amount) 3 = .ok (.invokevirtual 38, 3) by decide +kernel) cf_P_amount (by decide +kernel) w_614 ci_P_amount cv_P_amount ⟨by decide, rfl⟩ rfl (by decide +kernel) (Or.inl (by decide +kernel)) hh_L_amount)) <|
  fa_cons (ok_i2l (show decode (am_mB y_L_amount) 6 = .ok (.i2l, 1) by decide +kernel)) <|
  fa_cons (ok_lret (show decode (am_mB y_L_amount) 7 = .ok (.lreturn, 1) by decide +kernel) rfl (by decide +kernel)) <|
  fa_nil
set_option maxRecDepth 100000 in
theorem cq_L_amount (l : Launch) (d : Nat) : am_lk (co_L_amount l d) 0 = am_aload 0 1 ∧ am_lk (co_L_amount l d) 1 = am_iload 1 2 ∧ am_lk (co_L_amount l d) 2 = am_iload 2 3 ∧ am_lk (co_L_amount l d) 3 = am_calH l d y_P_amount (some 0) 3 [(3, (-9000000000000000001))] 6 2 12 2 12 ∧ am_lk (co_L_amount l d) 6 = am_i2l 7 ∧ am_lk (co_L_amount l d) 7 = am_lret := ⟨rfl, rfl, rfl, rfl, rfl, rfl⟩
theorem en_L_amount {l : Launch} {d : Nat} (n : Nat) {as : List am_V} {G : am_G} {I : am_I} {J : am_J} {P : am_P} (hlen : (as.map am_cat).sum ≤ 4) (h : am_go (am_lk (co_L_amount l d)) (am_X l (0, fun _ => 0) (d + 1) y_L_amount P) P n 0 (am_el 4 as) [] 0 0 G I J) : am_T l (d + 1) y_L_amount as G I J P :=
  am_T_of (sc := (0, fun _ => 0)) cf_L_amount (by decide +kernel) (by decide) (by decide +kernel) hlen (am_run (ok_lk _ (ck_L_amount)) n _ _ _ _ _ _ _ _ h)
theorem rn_L_amount {l : Launch} {sc : Nat × (Nat → Int32)} {d : Nat} {P : am_P} (n : Nat) {pc : Nat} {ls : am_L} {st : List am_V} {kc ks : Nat} {G : am_G} {I : am_I} {J : am_J} (h : am_go (am_lk (co_L_amount l d)) (am_X l sc (d + 1) y_L_amount P) P n pc ls st kc ks G I J) : am_X l sc (d + 1) y_L_amount P pc ls st kc ks G I J := am_run (ok_lk _ (ck_L_amount)) n _ _ _ _ _ _ _ _ h
theorem hh_L_span : ∀ (e : Nat) (k : Int64), am_fnd [(3, (-9000000000000000001)), (1, (-9000000000000000002))] e = some k → am_hd y_L_span 3 e k := by
  intro e k h
  by_cases h3 : e = 3
  · subst h3
    have hk : ((-9000000000000000001) : Int64) = k := Option.some.inj h
    subst hk
    exact ⟨[], (0, 7, 8, 34), [(0, 7, 13, 15)], rfl, by decide, by decide, w_445, w_455, fa_nil, ⟨1, Or.inl ⟨3, by decide +kernel, rfl, by decide +kernel⟩, ⟨36, by decide +kernel, w_474⟩, by decide +kernel⟩, rfl⟩
  by_cases h1 : e = 1
  · subst h1
    have hk : ((-9000000000000000002) : Int64) = k := Option.some.inj h
    subst hk
    exact ⟨[(0, 7, 8, 34)], (0, 7, 13, 15), [], rfl, by decide, by decide, w_502, w_568, fa_cons ⟨by decide, 3, w_445, by decide +kernel⟩ (fa_nil), ⟨1, Or.inl ⟨3, by decide +kernel, rfl, by decide +kernel⟩, ⟨17, by decide +kernel, w_582⟩, by decide +kernel⟩, rfl⟩
  simp [am_fnd, h3, h1] at h
def co_L_span (l : Launch) (d : Nat) : List (Nat × am_S) := [(0, am_aload 0 1), (1, am_iload 1 2), (2, am_iload 2 3), (3, am_calH l d y_P_span (some 0) 3 [(3, (-9000000000000000001)), (1, (-9000000000000000002))] 6 2 12 2 12), (6, am_i2l 7), (7, am_lret)]
theorem ck_L_span {l : Launch} {sc : Nat × (Nat → Int32)} {d : Nat} : ∀ q ∈ co_L_span l d, am_ok l sc (d + 1) y_L_span q.1 q.2 :=
  fa_cons (ok_aload_n (show decode (am_mB y_L_span) 0 = .ok (.aload_n 0, 1) by decide +kernel) rfl) <|
  fa_cons (ok_iload_n (show decode (am_mB y_L_span) 1 = .ok (.iload_n 1, 1) by decide +kernel) rfl) <|
  fa_cons (ok_iload_n (show decode (am_mB y_L_span) 2 = .ok (.iload_n 2, 1) by decide +kernel) rfl) <|
  fa_cons (ok_calH ⟨rfl, rfl, rfl, rfl⟩ (ok_callH (show decode (am_mB y_L_span) 3 = .ok (.invokevirtual 41, 3) by decide +kernel) cf_P_span (by decide +kernel) w_635 ci_P_span cv_P_span ⟨by decide, rfl⟩ rfl (by decide +kernel) (Or.inl (by decide +kernel)) hh_L_span)) <|
  fa_cons (ok_i2l (show decode (am_mB y_L_span) 6 = .ok (.i2l, 1) by decide +kernel)) <|
  fa_cons (ok_lret (show decode (am_mB y_L_span) 7 = .ok (.lreturn, 1) by decide +kernel) rfl (by decide +kernel)) <|
  fa_nil
set_option maxRecDepth 100000 in
theorem cq_L_span (l : Launch) (d : Nat) : am_lk (co_L_span l d) 0 = am_aload 0 1 ∧ am_lk (co_L_span l d) 1 = am_iload 1 2 ∧ am_lk (co_L_span l d) 2 = am_iload 2 3 ∧ am_lk (co_L_span l d) 3 = am_calH l d y_P_span (some 0) 3 [(3, (-9000000000000000001)), (1, (-9000000000000000002))] 6 2 12 2 12 ∧ am_lk (co_L_span l d) 6 = am_i2l 7 ∧ am_lk (co_L_span l d) 7 = am_lret := ⟨rfl, rfl, rfl, rfl, rfl, rfl⟩
theorem en_L_span {l : Launch} {d : Nat} (n : Nat) {as : List am_V} {G : am_G} {I : am_I} {J : am_J} {P : am_P} (hlen : (as.map am_cat).sum ≤ 4) (h : am_go (am_lk (co_L_span l d)) (am_X l (0, fun _ => 0) (d + 1) y_L_span P) P n 0 (am_el 4 as) [] 0 0 G I J) : am_T l (d + 1) y_L_span as G I J P :=
  am_T_of (sc := (0, fun _ => 0)) cf_L_span (by decide +kernel) (by decide) (by decide +kernel) hlen (am_run (ok_lk _ (ck_L_span)) n _ _ _ _ _ _ _ _ h)
theorem rn_L_span {l : Launch} {sc : Nat × (Nat → Int32)} {d : Nat} {P : am_P} (n : Nat) {pc : Nat} {ls : am_L} {st : List am_V} {kc ks : Nat} {G : am_G} {I : am_I} {J : am_J} (h : am_go (am_lk (co_L_span l d)) (am_X l sc (d + 1) y_L_span P) P n pc ls st kc ks G I J) : am_X l sc (d + 1) y_L_span P pc ls st kc ks G I J := am_run (ok_lk _ (ck_L_span)) n _ _ _ _ _ _ _ _ h
theorem hh_L_note : ∀ (e : Nat) (k : Int64), am_fnd [(1, (-9000000000000000002))] e = some k → am_hd y_L_note 2 e k := by
  intro e k h
  by_cases h1 : e = 1
  · subst h1
    have hk : ((-9000000000000000002) : Int64) = k := Option.some.inj h
    subst hk
    exact ⟨[], (0, 6, 7, 15), [], rfl, by decide, by decide, w_502, w_568, fa_nil, ⟨1, Or.inl ⟨2, by decide +kernel, rfl, by decide +kernel⟩, ⟨17, by decide +kernel, w_582⟩, by decide +kernel⟩, rfl⟩
  simp [am_fnd, h1] at h
def co_L_note (l : Launch) (d : Nat) : List (Nat × am_S) := [(0, am_aload 0 1), (1, am_iload 1 2), (2, am_calH l d y_P_note (some 0) 2 [(1, (-9000000000000000002))] 5 1 6 1 6), (5, am_i2l 6), (6, am_lret)]
theorem ck_L_note {l : Launch} {sc : Nat × (Nat → Int32)} {d : Nat} : ∀ q ∈ co_L_note l d, am_ok l sc (d + 1) y_L_note q.1 q.2 :=
  fa_cons (ok_aload_n (show decode (am_mB y_L_note) 0 = .ok (.aload_n 0, 1) by decide +kernel) rfl) <|
  fa_cons (ok_iload_n (show decode (am_mB y_L_note) 1 = .ok (.iload_n 1, 1) by decide +kernel) rfl) <|
  fa_cons (ok_calH ⟨rfl, rfl, rfl, rfl⟩ (ok_callH (show decode (am_mB y_L_note) 2 = .ok (.invokevirtual 44, 3) by decide +kernel) cf_P_note (by decide +kernel) w_586 ci_P_note cv_P_note ⟨by decide, rfl⟩ rfl (by decide +kernel) (Or.inl (by decide +kernel)) hh_L_note)) <|
  fa_cons (ok_i2l (show decode (am_mB y_L_note) 5 = .ok (.i2l, 1) by decide +kernel)) <|
  fa_cons (ok_lret (show decode (am_mB y_L_note) 6 = .ok (.lreturn, 1) by decide +kernel) rfl (by decide +kernel)) <|
  fa_nil
set_option maxRecDepth 100000 in
theorem cq_L_note (l : Launch) (d : Nat) : am_lk (co_L_note l d) 0 = am_aload 0 1 ∧ am_lk (co_L_note l d) 1 = am_iload 1 2 ∧ am_lk (co_L_note l d) 2 = am_calH l d y_P_note (some 0) 2 [(1, (-9000000000000000002))] 5 1 6 1 6 ∧ am_lk (co_L_note l d) 5 = am_i2l 6 ∧ am_lk (co_L_note l d) 6 = am_lret := ⟨rfl, rfl, rfl, rfl, rfl⟩
theorem en_L_note {l : Launch} {d : Nat} (n : Nat) {as : List am_V} {G : am_G} {I : am_I} {J : am_J} {P : am_P} (hlen : (as.map am_cat).sum ≤ 3) (h : am_go (am_lk (co_L_note l d)) (am_X l (0, fun _ => 0) (d + 1) y_L_note P) P n 0 (am_el 3 as) [] 0 0 G I J) : am_T l (d + 1) y_L_note as G I J P :=
  am_T_of (sc := (0, fun _ => 0)) cf_L_note (by decide +kernel) (by decide) (by decide +kernel) hlen (am_run (ok_lk _ (ck_L_note)) n _ _ _ _ _ _ _ _ h)
theorem rn_L_note {l : Launch} {sc : Nat × (Nat → Int32)} {d : Nat} {P : am_P} (n : Nat) {pc : Nat} {ls : am_L} {st : List am_V} {kc ks : Nat} {G : am_G} {I : am_I} {J : am_J} (h : am_go (am_lk (co_L_note l d)) (am_X l sc (d + 1) y_L_note P) P n pc ls st kc ks G I J) : am_X l sc (d + 1) y_L_note P pc ls st kc ks G I J := am_run (ok_lk _ (ck_L_note)) n _ _ _ _ _ _ _ _ h
theorem hh_L_page : ∀ (e : Nat) (k : Int64), am_fnd [(3, (-9000000000000000001)), (1, (-9000000000000000002))] e = some k → am_hd y_L_page 3 e k := by
  intro e k h
  by_cases h3 : e = 3
  · subst h3
    have hk : ((-9000000000000000001) : Int64) = k := Option.some.inj h
    subst hk
    exact ⟨[], (0, 7, 8, 34), [(0, 7, 13, 15)], rfl, by decide, by decide, w_445, w_455, fa_nil, ⟨1, Or.inl ⟨3, by decide +kernel, rfl, by decide +kernel⟩, ⟨36, by decide +kernel, w_474⟩, by decide +kernel⟩, rfl⟩
  by_cases h1 : e = 1
  · subst h1
    have hk : ((-9000000000000000002) : Int64) = k := Option.some.inj h
    subst hk
    exact ⟨[(0, 7, 8, 34)], (0, 7, 13, 15), [], rfl, by decide, by decide, w_502, w_568, fa_cons ⟨by decide, 3, w_445, by decide +kernel⟩ (fa_nil), ⟨1, Or.inl ⟨3, by decide +kernel, rfl, by decide +kernel⟩, ⟨17, by decide +kernel, w_582⟩, by decide +kernel⟩, rfl⟩
  simp [am_fnd, h3, h1] at h
def co_L_page (l : Launch) (d : Nat) : List (Nat × am_S) := [(0, am_aload 0 1), (1, am_iload 1 2), (2, am_iload 2 3), (3, am_calH l d y_P_page (some 0) 3 [(3, (-9000000000000000001)), (1, (-9000000000000000002))] 6 2 12 2 12), (6, am_i2l 7), (7, am_lret)]
theorem ck_L_page {l : Launch} {sc : Nat × (Nat → Int32)} {d : Nat} : ∀ q ∈ co_L_page l d, am_ok l sc (d + 1) y_L_page q.1 q.2 :=
  fa_cons (ok_aload_n (show decode (am_mB y_L_page) 0 = .ok (.aload_n 0, 1) by decide +kernel) rfl) <|
  fa_cons (ok_iload_n (show decode (am_mB y_L_page) 1 = .ok (.iload_n 1, 1) by decide +kernel) rfl) <|
  fa_cons (ok_iload_n (show decode (am_mB y_L_page) 2 = .ok (.iload_n 2, 1) by decide +kernel) rfl) <|
  fa_cons (ok_calH ⟨rfl, rfl, rfl, rfl⟩ (ok_callH (show decode (am_mB y_L_page) 3 = .ok (.invokevirtual 47, 3) by decide +kernel) cf_P_page (by decide +kernel) w_653 ci_P_page cv_P_page ⟨by decide, rfl⟩ rfl (by decide +kernel) (Or.inl (by decide +kernel)) hh_L_page)) <|
  fa_cons (ok_i2l (show decode (am_mB y_L_page) 6 = .ok (.i2l, 1) by decide +kernel)) <|
  fa_cons (ok_lret (show decode (am_mB y_L_page) 7 = .ok (.lreturn, 1) by decide +kernel) rfl (by decide +kernel)) <|
  fa_nil
set_option maxRecDepth 100000 in
theorem cq_L_page (l : Launch) (d : Nat) : am_lk (co_L_page l d) 0 = am_aload 0 1 ∧ am_lk (co_L_page l d) 1 = am_iload 1 2 ∧ am_lk (co_L_page l d) 2 = am_iload 2 3 ∧ am_lk (co_L_page l d) 3 = am_calH l d y_P_page (some 0) 3 [(3, (-9000000000000000001)), (1, (-9000000000000000002))] 6 2 12 2 12 ∧ am_lk (co_L_page l d) 6 = am_i2l 7 ∧ am_lk (co_L_page l d) 7 = am_lret := ⟨rfl, rfl, rfl, rfl, rfl, rfl⟩
theorem en_L_page {l : Launch} {d : Nat} (n : Nat) {as : List am_V} {G : am_G} {I : am_I} {J : am_J} {P : am_P} (hlen : (as.map am_cat).sum ≤ 4) (h : am_go (am_lk (co_L_page l d)) (am_X l (0, fun _ => 0) (d + 1) y_L_page P) P n 0 (am_el 4 as) [] 0 0 G I J) : am_T l (d + 1) y_L_page as G I J P :=
  am_T_of (sc := (0, fun _ => 0)) cf_L_page (by decide +kernel) (by decide) (by decide +kernel) hlen (am_run (ok_lk _ (ck_L_page)) n _ _ _ _ _ _ _ _ h)
theorem rn_L_page {l : Launch} {sc : Nat × (Nat → Int32)} {d : Nat} {P : am_P} (n : Nat) {pc : Nat} {ls : am_L} {st : List am_V} {kc ks : Nat} {G : am_G} {I : am_I} {J : am_J} (h : am_go (am_lk (co_L_page l d)) (am_X l sc (d + 1) y_L_page P) P n pc ls st kc ks G I J) : am_X l sc (d + 1) y_L_page P pc ls st kc ks G I J := am_run (ok_lk _ (ck_L_page)) n _ _ _ _ _ _ _ _ h
theorem hh_L_brought : ∀ (e : Nat) (k : Int64), am_fnd [(3, (-9000000000000000001))] e = some k → am_hd y_L_brought 3 e k := by
  intro e k h
  by_cases h3 : e = 3
  · subst h3
    have hk : ((-9000000000000000001) : Int64) = k := Option.some.inj h
    subst hk
    exact ⟨[], (0, 7, 8, 34), [], rfl, by decide, by decide, w_445, w_455, fa_nil, ⟨1, Or.inl ⟨3, by decide +kernel, rfl, by decide +kernel⟩, ⟨36, by decide +kernel, w_474⟩, by decide +kernel⟩, rfl⟩
  simp [am_fnd, h3] at h
def co_L_brought (l : Launch) (d : Nat) : List (Nat × am_S) := [(0, am_aload 0 1), (1, am_iload 1 2), (2, am_iload 2 3), (3, am_calH l d y_P_brought (some 0) 3 [(3, (-9000000000000000001))] 6 2 12 2 12), (6, am_i2l 7), (7, am_lret)]
theorem ck_L_brought {l : Launch} {sc : Nat × (Nat → Int32)} {d : Nat} : ∀ q ∈ co_L_brought l d, am_ok l sc (d + 1) y_L_brought q.1 q.2 :=
  fa_cons (ok_aload_n (show decode (am_mB y_L_brought) 0 = .ok (.aload_n 0, 1) by decide +kernel) rfl) <|
  fa_cons (ok_iload_n (show decode (am_mB y_L_brought) 1 = .ok (.iload_n 1, 1) by decide +kernel) rfl) <|
  fa_cons (ok_iload_n (show decode (am_mB y_L_brought) 2 = .ok (.iload_n 2, 1) by decide +kernel) rfl) <|
  fa_cons (ok_calH ⟨rfl, rfl, rfl, rfl⟩ (ok_callH (show decode (am_mB y_L_brought) 3 = .ok (.invokevirtual 50, 3) by decide +kernel) cf_P_brought (by decide +kernel) w_693 ci_P_brought cv_P_brought ⟨by decide, rfl⟩ rfl (by decide +kernel) (Or.inl (by decide +kernel)) hh_L_brought)) <|
  fa_cons (ok_i2l (show decode (am_mB y_L_brought) 6 = .ok (.i2l, 1) by decide +kernel)) <|
  fa_cons (ok_lret (show decode (am_mB y_L_brought) 7 = .ok (.lreturn, 1) by decide +kernel) rfl (by decide +kernel)) <|
  fa_nil
set_option maxRecDepth 100000 in
theorem cq_L_brought (l : Launch) (d : Nat) : am_lk (co_L_brought l d) 0 = am_aload 0 1 ∧ am_lk (co_L_brought l d) 1 = am_iload 1 2 ∧ am_lk (co_L_brought l d) 2 = am_iload 2 3 ∧ am_lk (co_L_brought l d) 3 = am_calH l d y_P_brought (some 0) 3 [(3, (-9000000000000000001))] 6 2 12 2 12 ∧ am_lk (co_L_brought l d) 6 = am_i2l 7 ∧ am_lk (co_L_brought l d) 7 = am_lret := ⟨rfl, rfl, rfl, rfl, rfl, rfl⟩
theorem en_L_brought {l : Launch} {d : Nat} (n : Nat) {as : List am_V} {G : am_G} {I : am_I} {J : am_J} {P : am_P} (hlen : (as.map am_cat).sum ≤ 4) (h : am_go (am_lk (co_L_brought l d)) (am_X l (0, fun _ => 0) (d + 1) y_L_brought P) P n 0 (am_el 4 as) [] 0 0 G I J) : am_T l (d + 1) y_L_brought as G I J P :=
  am_T_of (sc := (0, fun _ => 0)) cf_L_brought (by decide +kernel) (by decide) (by decide +kernel) hlen (am_run (ok_lk _ (ck_L_brought)) n _ _ _ _ _ _ _ _ h)
theorem rn_L_brought {l : Launch} {sc : Nat × (Nat → Int32)} {d : Nat} {P : am_P} (n : Nat) {pc : Nat} {ls : am_L} {st : List am_V} {kc ks : Nat} {G : am_G} {I : am_I} {J : am_J} (h : am_go (am_lk (co_L_brought l d)) (am_X l sc (d + 1) y_L_brought P) P n pc ls st kc ks G I J) : am_X l sc (d + 1) y_L_brought P pc ls st kc ks G I J := am_run (ok_lk _ (ck_L_brought)) n _ _ _ _ _ _ _ _ h
theorem hh_L_carried : ∀ (e : Nat) (k : Int64), am_fnd [(3, (-9000000000000000001))] e = some k → am_hd y_L_carried 3 e k := by
  intro e k h
  by_cases h3 : e = 3
  · subst h3
    have hk : ((-9000000000000000001) : Int64) = k := Option.some.inj h
    subst hk
    exact ⟨[], (0, 7, 8, 34), [], rfl, by decide, by decide, w_445, w_455, fa_nil, ⟨1, Or.inl ⟨3, by decide +kernel, rfl, by decide +kernel⟩, ⟨36, by decide +kernel, w_474⟩, by decide +kernel⟩, rfl⟩
  simp [am_fnd, h3] at h
def co_L_carried (l : Launch) (d : Nat) : List (Nat × am_S) := [(0, am_aload 0 1), (1, am_iload 1 2), (2, am_iload 2 3), (3, am_calH l d y_P_carried (some 0) 3 [(3, (-9000000000000000001))] 6 2 12 2 12), (6, am_i2l 7), (7, am_lret)]
theorem ck_L_carried {l : Launch} {sc : Nat × (Nat → Int32)} {d : Nat} : ∀ q ∈ co_L_carried l d, am_ok l sc (d + 1) y_L_carried q.1 q.2 :=
  fa_cons (ok_aload_n (show decode (am_mB y_L_carried) 0 = .ok (.aload_n 0, 1) by decide +kernel) rfl) <|
  fa_cons (ok_iload_n (show decode (am_mB y_L_carried) 1 = .ok (.iload_n 1, 1) by decide +kernel) rfl) <|
  fa_cons (ok_iload_n (show decode (am_mB y_L_carried) 2 = .ok (.iload_n 2, 1) by decide +kernel) rfl) <|
  fa_cons (ok_calH ⟨rfl, rfl, rfl, rfl⟩ (ok_callH (show decode (am_mB y_L_carried) 3 = .ok (.invokevirtual 53, 3) by decide +kernel) cf_P_carried (by decide +kernel) w_705 ci_P_carried cv_P_carried ⟨by decide, rfl⟩ rfl (by decide +kernel) (Or.inl (by decide +kernel)) hh_L_carried)) <|
  fa_cons (ok_i2l (show decode (am_mB y_L_carried) 6 = .ok (.i2l, 1) by decide +kernel)) <|
  fa_cons (ok_lret (show decode (am_mB y_L_carried) 7 = .ok (.lreturn, 1) by decide +kernel) rfl (by decide +kernel)) <|
  fa_nil
set_option maxRecDepth 100000 in
theorem cq_L_carried (l : Launch) (d : Nat) : am_lk (co_L_carried l d) 0 = am_aload 0 1 ∧ am_lk (co_L_carried l d) 1 = am_iload 1 2 ∧ am_lk (co_L_carried l d) 2 = am_iload 2 3 ∧ am_lk (co_L_carried l d) 3 = am_calH l d y_P_carried (some 0) 3 [(3, (-9000000000000000001))] 6 2 12 2 12 ∧ am_lk (co_L_carried l d) 6 = am_i2l 7 ∧ am_lk (co_L_carried l d) 7 = am_lret := ⟨rfl, rfl, rfl, rfl, rfl, rfl⟩
theorem en_L_carried {l : Launch} {d : Nat} (n : Nat) {as : List am_V} {G : am_G} {I : am_I} {J : am_J} {P : am_P} (hlen : (as.map am_cat).sum ≤ 4) (h : am_go (am_lk (co_L_carried l d)) (am_X l (0, fun _ => 0) (d + 1) y_L_carried P) P n 0 (am_el 4 as) [] 0 0 G I J) : am_T l (d + 1) y_L_carried as G I J P :=
  am_T_of (sc := (0, fun _ => 0)) cf_L_carried (by decide +kernel) (by decide) (by decide +kernel) hlen (am_run (ok_lk _ (ck_L_carried)) n _ _ _ _ _ _ _ _ h)
theorem rn_L_carried {l : Launch} {sc : Nat × (Nat → Int32)} {d : Nat} {P : am_P} (n : Nat) {pc : Nat} {ls : am_L} {st : List am_V} {kc ks : Nat} {G : am_G} {I : am_I} {J : am_J} (h : am_go (am_lk (co_L_carried l d)) (am_X l sc (d + 1) y_L_carried P) P n pc ls st kc ks G I J) : am_X l sc (d + 1) y_L_carried P pc ls st kc ks G I J := am_run (ok_lk _ (ck_L_carried)) n _ _ _ _ _ _ _ _ h
theorem hh_L_richest : ∀ (e : Nat) (k : Int64), am_fnd [(3, (-9000000000000000001))] e = some k → am_hd y_L_richest 2 e k := by
  intro e k h
  by_cases h3 : e = 3
  · subst h3
    have hk : ((-9000000000000000001) : Int64) = k := Option.some.inj h
    subst hk
    exact ⟨[], (0, 6, 7, 34), [], rfl, by decide, by decide, w_445, w_455, fa_nil, ⟨1, Or.inl ⟨2, by decide +kernel, rfl, by decide +kernel⟩, ⟨36, by decide +kernel, w_474⟩, by decide +kernel⟩, rfl⟩
  simp [am_fnd, h3] at h
def co_L_richest (l : Launch) (d : Nat) : List (Nat × am_S) := [(0, am_aload 0 1), (1, am_iload 1 2), (2, am_calH l d y_P_richest (some 0) 2 [(3, (-9000000000000000001))] 5 1 6 1 6), (5, am_i2l 6), (6, am_lret)]
theorem ck_L_richest {l : Launch} {sc : Nat × (Nat → Int32)} {d : Nat} : ∀ q ∈ co_L_richest l d, am_ok l sc (d + 1) y_L_richest q.1 q.2 :=
  fa_cons (ok_aload_n (show decode (am_mB y_L_richest) 0 = .ok (.aload_n 0, 1) by decide +kernel) rfl) <|
  fa_cons (ok_iload_n (show decode (am_mB y_L_richest) 1 = .ok (.iload_n 1, 1) by decide +kernel) rfl) <|
  fa_cons (ok_calH ⟨rfl, rfl, rfl, rfl⟩ (ok_callH (show decode (am_mB y_L_richest) 2 = .ok (.invokevirtual 56, 3) by decide +kernel) cf_P_richest (by decide +kernel) w_712 ci_P_richest cv_P_richest ⟨by decide, rfl⟩ rfl (by decide +kernel) (Or.inl (by decide +kernel)) hh_L_richest)) <|
  fa_cons (ok_i2l (show decode (am_mB y_L_richest) 5 = .ok (.i2l, 1) by decide +kernel)) <|
  fa_cons (ok_lret (show decode (am_mB y_L_richest) 6 = .ok (.lreturn, 1) by decide +kernel) rfl (by decide +kernel)) <|
  fa_nil
set_option maxRecDepth 100000 in
theorem cq_L_richest (l : Launch) (d : Nat) : am_lk (co_L_richest l d) 0 = am_aload 0 1 ∧ am_lk (co_L_richest l d) 1 = am_iload 1 2 ∧ am_lk (co_L_richest l d) 2 = am_calH l d y_P_richest (some 0) 2 [(3, (-9000000000000000001))] 5 1 6 1 6 ∧ am_lk (co_L_richest l d) 5 = am_i2l 6 ∧ am_lk (co_L_richest l d) 6 = am_lret := ⟨rfl, rfl, rfl, rfl, rfl⟩
theorem en_L_richest {l : Launch} {d : Nat} (n : Nat) {as : List am_V} {G : am_G} {I : am_I} {J : am_J} {P : am_P} (hlen : (as.map am_cat).sum ≤ 3) (h : am_go (am_lk (co_L_richest l d)) (am_X l (0, fun _ => 0) (d + 1) y_L_richest P) P n 0 (am_el 3 as) [] 0 0 G I J) : am_T l (d + 1) y_L_richest as G I J P :=
  am_T_of (sc := (0, fun _ => 0)) cf_L_richest (by decide +kernel) (by decide) (by decide +kernel) hlen (am_run (ok_lk _ (ck_L_richest)) n _ _ _ _ _ _ _ _ h)
theorem rn_L_richest {l : Launch} {sc : Nat × (Nat → Int32)} {d : Nat} {P : am_P} (n : Nat) {pc : Nat} {ls : am_L} {st : List am_V} {kc ks : Nat} {G : am_G} {I : am_I} {J : am_J} (h : am_go (am_lk (co_L_richest l d)) (am_X l sc (d + 1) y_L_richest P) P n pc ls st kc ks G I J) : am_X l sc (d + 1) y_L_richest P pc ls st kc ks G I J := am_run (ok_lk _ (ck_L_richest)) n _ _ _ _ _ _ _ _ h
theorem hh_L_addRow : ∀ (e : Nat) (k : Int64), am_fnd [(1, (-9000000000000000002)), (2, (-9000000000000000003))] e = some k → am_hd y_L_addRow 3 e k := by
  intro e k h
  by_cases h1 : e = 1
  · subst h1
    have hk : ((-9000000000000000002) : Int64) = k := Option.some.inj h
    subst hk
    exact ⟨[], (0, 7, 8, 15), [(0, 7, 13, 19)], rfl, by decide, by decide, w_502, w_568, fa_nil, ⟨1, Or.inl ⟨3, by decide +kernel, rfl, by decide +kernel⟩, ⟨17, by decide +kernel, w_582⟩, by decide +kernel⟩, rfl⟩
  by_cases h2 : e = 2
  · subst h2
    have hk : ((-9000000000000000003) : Int64) = k := Option.some.inj h
    subst hk
    exact ⟨[(0, 7, 8, 15)], (0, 7, 13, 19), [], rfl, by decide, by decide, w_283, w_360, fa_cons ⟨by decide, 1, w_502, by decide +kernel⟩ (fa_nil), ⟨1, Or.inl ⟨3, by decide +kernel, rfl, by decide +kernel⟩, ⟨21, by decide +kernel, w_441⟩, by decide +kernel⟩, rfl⟩
  simp [am_fnd, h1, h2] at h
def co_L_addRow (l : Launch) (d : Nat) : List (Nat × am_S) := [(0, am_aload 0 1), (1, am_iload 1 2), (2, am_iload 2 3), (3, am_calH l d y_P_addRow (some 0) 3 [(1, (-9000000000000000002)), (2, (-9000000000000000003))] 6 1 6 1 6), (6, am_i2l 7), (7, am_lret)]
theorem ck_L_addRow {l : Launch} {sc : Nat × (Nat → Int32)} {d : Nat} : ∀ q ∈ co_L_addRow l d, am_ok l sc (d + 1) y_L_addRow q.1 q.2 :=
  fa_cons (ok_aload_n (show decode (am_mB y_L_addRow) 0 = .ok (.aload_n 0, 1) by decide +kernel) rfl) <|
  fa_cons (ok_iload_n (show decode (am_mB y_L_addRow) 1 = .ok (.iload_n 1, 1) by decide +kernel) rfl) <|
  fa_cons (ok_iload_n (show decode (am_mB y_L_addRow) 2 = .ok (.iload_n 2, 1) by decide +kernel) rfl) <|
  fa_cons (ok_calH ⟨rfl, rfl, rfl, rfl⟩ (ok_callH (show decode (am_mB y_L_addRow) 3 = .ok (.invokevirtual 59, 3) by decide +kernel) cf_P_addRow (by decide +kernel) w_719 ci_P_addRow cv_P_addRow ⟨by decide, rfl⟩ rfl (by decide +kernel) (Or.inl (by decide +kernel)) hh_L_addRow)) <|
  fa_cons (ok_i2l (show decode (am_mB y_L_addRow) 6 = .ok (.i2l, 1) by decide +kernel)) <|
  fa_cons (ok_lret (show decode (am_mB y_L_addRow) 7 = .ok (.lreturn, 1) by decide +kernel) rfl (by decide +kernel)) <|
  fa_nil
set_option maxRecDepth 100000 in
theorem cq_L_addRow (l : Launch) (d : Nat) : am_lk (co_L_addRow l d) 0 = am_aload 0 1 ∧ am_lk (co_L_addRow l d) 1 = am_iload 1 2 ∧ am_lk (co_L_addRow l d) 2 = am_iload 2 3 ∧ am_lk (co_L_addRow l d) 3 = am_calH l d y_P_addRow (some 0) 3 [(1, (-9000000000000000002)), (2, (-9000000000000000003))] 6 1 6 1 6 ∧ am_lk (co_L_addRow l d) 6 = am_i2l 7 ∧ am_lk (co_L_addRow l d) 7 = am_lret := ⟨rfl, rfl, rfl, rfl, rfl, rfl⟩
theorem en_L_addRow {l : Launch} {d : Nat} (n : Nat) {as : List am_V} {G : am_G} {I : am_I} {J : am_J} {P : am_P} (hlen : (as.map am_cat).sum ≤ 4) (h : am_go (am_lk (co_L_addRow l d)) (am_X l (0, fun _ => 0) (d + 1) y_L_addRow P) P n 0 (am_el 4 as) [] 0 0 G I J) : am_T l (d + 1) y_L_addRow as G I J P :=
  am_T_of (sc := (0, fun _ => 0)) cf_L_addRow (by decide +kernel) (by decide) (by decide +kernel) hlen (am_run (ok_lk _ (ck_L_addRow)) n _ _ _ _ _ _ _ _ h)
theorem rn_L_addRow {l : Launch} {sc : Nat × (Nat → Int32)} {d : Nat} {P : am_P} (n : Nat) {pc : Nat} {ls : am_L} {st : List am_V} {kc ks : Nat} {G : am_G} {I : am_I} {J : am_J} (h : am_go (am_lk (co_L_addRow l d)) (am_X l sc (d + 1) y_L_addRow P) P n pc ls st kc ks G I J) : am_X l sc (d + 1) y_L_addRow P pc ls st kc ks G I J := am_run (ok_lk _ (ck_L_addRow)) n _ _ _ _ _ _ _ _ h
theorem hh_L_setAmount : ∀ (e : Nat) (k : Int64), am_fnd [(3, (-9000000000000000001)), (1, (-9000000000000000002))] e = some k → am_hd y_L_setAmount 4 e k := by
  intro e k h
  by_cases h3 : e = 3
  · subst h3
    have hk : ((-9000000000000000001) : Int64) = k := Option.some.inj h
    subst hk
    exact ⟨[], (0, 8, 9, 34), [(0, 8, 15, 15)], rfl, by decide, by decide, w_445, w_455, fa_nil, ⟨2, Or.inr ⟨4, by decide +kernel, rfl, by decide +kernel⟩, ⟨36, by decide +kernel, w_474⟩, by decide +kernel⟩, rfl⟩
  by_cases h1 : e = 1
  · subst h1
    have hk : ((-9000000000000000002) : Int64) = k := Option.some.inj h
    subst hk
    exact ⟨[(0, 8, 9, 34)], (0, 8, 15, 15), [], rfl, by decide, by decide, w_502, w_568, fa_cons ⟨by decide, 3, w_445, by decide +kernel⟩ (fa_nil), ⟨2, Or.inr ⟨4, by decide +kernel, rfl, by decide +kernel⟩, ⟨17, by decide +kernel, w_582⟩, by decide +kernel⟩, rfl⟩
  simp [am_fnd, h3, h1] at h
def co_L_setAmount (l : Launch) (d : Nat) : List (Nat × am_S) := [(0, am_aload 0 1), (1, am_iload 1 2), (2, am_iload 2 3), (3, am_iload 3 4), (4, am_calH l d y_P_setAmount (some 0) 4 [(3, (-9000000000000000001)), (1, (-9000000000000000002))] 7 3 18 3 18), (7, am_i2l 8), (8, am_lret)]
theorem ck_L_setAmount {l : Launch} {sc : Nat × (Nat → Int32)} {d : Nat} : ∀ q ∈ co_L_setAmount l d, am_ok l sc (d + 1) y_L_setAmount q.1 q.2 :=
  fa_cons (ok_aload_n (show decode (am_mB y_L_setAmount) 0 = .ok (.aload_n 0, 1) by decide +kernel) rfl) <|
  fa_cons (ok_iload_n (show decode (am_mB y_L_setAmount) 1 = .ok (.iload_n 1, 1) by decide +kernel) rfl) <|
  fa_cons (ok_iload_n (show decode (am_mB y_L_setAmount) 2 = .ok (.iload_n 2, 1) by decide +kernel) rfl) <|
  fa_cons (ok_iload_n (show decode (am_mB y_L_setAmount) 3 = .ok (.iload_n 3, 1) by decide +kernel) rfl) <|
  fa_cons (ok_calH ⟨rfl, rfl, rfl, rfl⟩ (ok_callH (show decode (am_mB y_L_setAmount) 4 = .ok (.invokevirtual 62, 3) by decide +kernel) cf_P_setAmount (by decide +kernel) w_739 ci_P_setAmount cv_P_setAmount ⟨by decide, rfl⟩ rfl (by decide +kernel) (Or.inl (by decide +kernel)) hh_L_setAmount)) <|
  fa_cons (ok_i2l (show decode (am_mB y_L_setAmount) 7 = .ok (.i2l, 1) by decide +kernel)) <|
  fa_cons (ok_lret (show decode (am_mB y_L_setAmount) 8 = .ok (.lreturn, 1) by decide +kernel) rfl (by decide +kernel)) <|
  fa_nil
set_option maxRecDepth 100000 in
theorem cq_L_setAmount (l : Launch) (d : Nat) : am_lk (co_L_setAmount l d) 0 = am_aload 0 1 ∧ am_lk (co_L_setAmount l d) 1 = am_iload 1 2 ∧ am_lk (co_L_setAmount l d) 2 = am_iload 2 3 ∧ am_lk (co_L_setAmount l d) 3 = am_iload 3 4 ∧ am_lk (co_L_setAmount l d) 4 = am_calH l d y_P_setAmount (some 0) 4 [(3, (-9000000000000000001)), (1, (-9000000000000000002))] 7 3 18 3 18 ∧ am_lk (co_L_setAmount l d) 7 = am_i2l 8 ∧ am_lk (co_L_setAmount l d) 8 = am_lret := ⟨rfl, rfl, rfl, rfl, rfl, rfl, rfl⟩
theorem en_L_setAmount {l : Launch} {d : Nat} (n : Nat) {as : List am_V} {G : am_G} {I : am_I} {J : am_J} {P : am_P} (hlen : (as.map am_cat).sum ≤ 5) (h : am_go (am_lk (co_L_setAmount l d)) (am_X l (0, fun _ => 0) (d + 1) y_L_setAmount P) P n 0 (am_el 5 as) [] 0 0 G I J) : am_T l (d + 1) y_L_setAmount as G I J P :=
  am_T_of (sc := (0, fun _ => 0)) cf_L_setAmount (by decide +kernel) (by decide) (by decide +kernel) hlen (am_run (ok_lk _ (ck_L_setAmount)) n _ _ _ _ _ _ _ _ h)
theorem rn_L_setAmount {l : Launch} {sc : Nat × (Nat → Int32)} {d : Nat} {P : am_P} (n : Nat) {pc : Nat} {ls : am_L} {st : List am_V} {kc ks : Nat} {G : am_G} {I : am_I} {J : am_J} (h : am_go (am_lk (co_L_setAmount l d)) (am_X l sc (d + 1) y_L_setAmount P) P n pc ls st kc ks G I J) : am_X l sc (d + 1) y_L_setAmount P pc ls st kc ks G I J := am_run (ok_lk _ (ck_L_setAmount)) n _ _ _ _ _ _ _ _ h
theorem hh_L_keep : ∀ (e : Nat) (k : Int64), am_fnd [(3, (-9000000000000000001))] e = some k → am_hd y_L_keep 3 e k := by
  intro e k h
  by_cases h3 : e = 3
  · subst h3
    have hk : ((-9000000000000000001) : Int64) = k := Option.some.inj h
    subst hk
    exact ⟨[], (0, 7, 8, 34), [], rfl, by decide, by decide, w_445, w_455, fa_nil, ⟨1, Or.inl ⟨3, by decide +kernel, rfl, by decide +kernel⟩, ⟨36, by decide +kernel, w_474⟩, by decide +kernel⟩, rfl⟩
  simp [am_fnd, h3] at h
def co_L_keep (l : Launch) (d : Nat) : List (Nat × am_S) := [(0, am_aload 0 1), (1, am_iload 1 2), (2, am_iload 2 3), (3, am_calH l d y_P_keep (some 0) 3 [(3, (-9000000000000000001))] 6 1 6 1 6), (6, am_i2l 7), (7, am_lret)]
theorem ck_L_keep {l : Launch} {sc : Nat × (Nat → Int32)} {d : Nat} : ∀ q ∈ co_L_keep l d, am_ok l sc (d + 1) y_L_keep q.1 q.2 :=
  fa_cons (ok_aload_n (show decode (am_mB y_L_keep) 0 = .ok (.aload_n 0, 1) by decide +kernel) rfl) <|
  fa_cons (ok_iload_n (show decode (am_mB y_L_keep) 1 = .ok (.iload_n 1, 1) by decide +kernel) rfl) <|
  fa_cons (ok_iload_n (show decode (am_mB y_L_keep) 2 = .ok (.iload_n 2, 1) by decide +kernel) rfl) <|
  fa_cons (ok_calH ⟨rfl, rfl, rfl, rfl⟩ (ok_callH (show decode (am_mB y_L_keep) 3 = .ok (.invokevirtual 66, 3) by decide +kernel) cf_P_keep (by decide +kernel) w_759 ci_P_keep cv_P_keep ⟨by decide, rfl⟩ rfl (by decide +kernel) (Or.inl (by decide +kernel)) hh_L_keep)) <|
  fa_cons (ok_i2l (show decode (am_mB y_L_keep) 6 = .ok (.i2l, 1) by decide +kernel)) <|
  fa_cons (ok_lret (show decode (am_mB y_L_keep) 7 = .ok (.lreturn, 1) by decide +kernel) rfl (by decide +kernel)) <|
  fa_nil
set_option maxRecDepth 100000 in
theorem cq_L_keep (l : Launch) (d : Nat) : am_lk (co_L_keep l d) 0 = am_aload 0 1 ∧ am_lk (co_L_keep l d) 1 = am_iload 1 2 ∧ am_lk (co_L_keep l d) 2 = am_iload 2 3 ∧ am_lk (co_L_keep l d) 3 = am_calH l d y_P_keep (some 0) 3 [(3, (-9000000000000000001))] 6 1 6 1 6 ∧ am_lk (co_L_keep l d) 6 = am_i2l 7 ∧ am_lk (co_L_keep l d) 7 = am_lret := ⟨rfl, rfl, rfl, rfl, rfl, rfl⟩
theorem en_L_keep {l : Launch} {d : Nat} (n : Nat) {as : List am_V} {G : am_G} {I : am_I} {J : am_J} {P : am_P} (hlen : (as.map am_cat).sum ≤ 4) (h : am_go (am_lk (co_L_keep l d)) (am_X l (0, fun _ => 0) (d + 1) y_L_keep P) P n 0 (am_el 4 as) [] 0 0 G I J) : am_T l (d + 1) y_L_keep as G I J P :=
  am_T_of (sc := (0, fun _ => 0)) cf_L_keep (by decide +kernel) (by decide) (by decide +kernel) hlen (am_run (ok_lk _ (ck_L_keep)) n _ _ _ _ _ _ _ _ h)
theorem rn_L_keep {l : Launch} {sc : Nat × (Nat → Int32)} {d : Nat} {P : am_P} (n : Nat) {pc : Nat} {ls : am_L} {st : List am_V} {kc ks : Nat} {G : am_G} {I : am_I} {J : am_J} (h : am_go (am_lk (co_L_keep l d)) (am_X l sc (d + 1) y_L_keep P) P n pc ls st kc ks G I J) : am_X l sc (d + 1) y_L_keep P pc ls st kc ks G I J := am_run (ok_lk _ (ck_L_keep)) n _ _ _ _ _ _ _ _ h
theorem hh_L_removeRow : ∀ (e : Nat) (k : Int64), am_fnd [(3, (-9000000000000000001))] e = some k → am_hd y_L_removeRow 2 e k := by
  intro e k h
  by_cases h3 : e = 3
  · subst h3
    have hk : ((-9000000000000000001) : Int64) = k := Option.some.inj h
    subst hk
    exact ⟨[], (0, 6, 7, 34), [], rfl, by decide, by decide, w_445, w_455, fa_nil, ⟨1, Or.inl ⟨2, by decide +kernel, rfl, by decide +kernel⟩, ⟨36, by decide +kernel, w_474⟩, by decide +kernel⟩, rfl⟩
  simp [am_fnd, h3] at h
def co_L_removeRow (l : Launch) (d : Nat) : List (Nat × am_S) := [(0, am_aload 0 1), (1, am_iload 1 2), (2, am_calH l d y_P_removeRow (some 0) 2 [(3, (-9000000000000000001))] 5 1 6 1 6), (5, am_i2l 6), (6, am_lret)]
theorem ck_L_removeRow {l : Launch} {sc : Nat × (Nat → Int32)} {d : Nat} : ∀ q ∈ co_L_removeRow l d, am_ok l sc (d + 1) y_L_removeRow q.1 q.2 :=
  fa_cons (ok_aload_n (show decode (am_mB y_L_removeRow) 0 = .ok (.aload_n 0, 1) by decide +kernel) rfl) <|
  fa_cons (ok_iload_n (show decode (am_mB y_L_removeRow) 1 = .ok (.iload_n 1, 1) by decide +kernel) rfl) <|
  fa_cons (ok_calH ⟨rfl, rfl, rfl, rfl⟩ (ok_callH (show decode (am_mB y_L_removeRow) 2 = .ok (.invokevirtual 70, 3) by decide +kernel) cf_P_removeRow (by decide +kernel) w_766 ci_P_removeRow cv_P_removeRow ⟨by decide, rfl⟩ rfl (by decide +kernel) (Or.inl (by decide +kernel)) hh_L_removeRow)) <|
  fa_cons (ok_i2l (show decode (am_mB y_L_removeRow) 5 = .ok (.i2l, 1) by decide +kernel)) <|
  fa_cons (ok_lret (show decode (am_mB y_L_removeRow) 6 = .ok (.lreturn, 1) by decide +kernel) rfl (by decide +kernel)) <|
  fa_nil
set_option maxRecDepth 100000 in
theorem cq_L_removeRow (l : Launch) (d : Nat) : am_lk (co_L_removeRow l d) 0 = am_aload 0 1 ∧ am_lk (co_L_removeRow l d) 1 = am_iload 1 2 ∧ am_lk (co_L_removeRow l d) 2 = am_calH l d y_P_removeRow (some 0) 2 [(3, (-9000000000000000001))] 5 1 6 1 6 ∧ am_lk (co_L_removeRow l d) 5 = am_i2l 6 ∧ am_lk (co_L_removeRow l d) 6 = am_lret := ⟨rfl, rfl, rfl, rfl, rfl⟩
theorem en_L_removeRow {l : Launch} {d : Nat} (n : Nat) {as : List am_V} {G : am_G} {I : am_I} {J : am_J} {P : am_P} (hlen : (as.map am_cat).sum ≤ 3) (h : am_go (am_lk (co_L_removeRow l d)) (am_X l (0, fun _ => 0) (d + 1) y_L_removeRow P) P n 0 (am_el 3 as) [] 0 0 G I J) : am_T l (d + 1) y_L_removeRow as G I J P :=
  am_T_of (sc := (0, fun _ => 0)) cf_L_removeRow (by decide +kernel) (by decide) (by decide +kernel) hlen (am_run (ok_lk _ (ck_L_removeRow)) n _ _ _ _ _ _ _ _ h)
theorem rn_L_removeRow {l : Launch} {sc : Nat × (Nat → Int32)} {d : Nat} {P : am_P} (n : Nat) {pc : Nat} {ls : am_L} {st : List am_V} {kc ks : Nat} {G : am_G} {I : am_I} {J : am_J} (h : am_go (am_lk (co_L_removeRow l d)) (am_X l sc (d + 1) y_L_removeRow P) P n pc ls st kc ks G I J) : am_X l sc (d + 1) y_L_removeRow P pc ls st kc ks G I J := am_run (ok_lk _ (ck_L_removeRow)) n _ _ _ _ _ _ _ _ h
theorem hh_L_addSpan : ∀ (e : Nat) (k : Int64), am_fnd [(3, (-9000000000000000001)), (1, (-9000000000000000002)), (2, (-9000000000000000003))] e = some k → am_hd y_L_addSpan 4 e k := by
  intro e k h
  by_cases h3 : e = 3
  · subst h3
    have hk : ((-9000000000000000001) : Int64) = k := Option.some.inj h
    subst hk
    exact ⟨[], (0, 8, 9, 34), [(0, 8, 15, 15), (0, 8, 21, 19)], rfl, by decide, by decide, w_445, w_455, fa_nil, ⟨2, Or.inr ⟨4, by decide +kernel, rfl, by decide +kernel⟩, ⟨36, by decide +kernel, w_474⟩, by decide +kernel⟩, rfl⟩
  by_cases h1 : e = 1
  · subst h1
    have hk : ((-9000000000000000002) : Int64) = k := Option.some.inj h
    subst hk
    exact ⟨[(0, 8, 9, 34)], (0, 8, 15, 15), [(0, 8, 21, 19)], rfl, by decide, by decide, w_502, w_568, fa_cons ⟨by decide, 3, w_445, by decide +kernel⟩ (fa_nil), ⟨2, Or.inr ⟨4, by decide +kernel, rfl, by decide +kernel⟩, ⟨17, by decide +kernel, w_582⟩, by decide +kernel⟩, rfl⟩
  by_cases h2 : e = 2
  · subst h2
    have hk : ((-9000000000000000003) : Int64) = k := Option.some.inj h
    subst hk
    exact ⟨[(0, 8, 9, 34), (0, 8, 15, 15)], (0, 8, 21, 19), [], rfl, by decide, by decide, w_283, w_360, fa_cons ⟨by decide, 3, w_445, by decide +kernel⟩ (fa_cons ⟨by decide, 1, w_502, by decide +kernel⟩ (fa_nil)), ⟨2, Or.inr ⟨4, by decide +kernel, rfl, by decide +kernel⟩, ⟨21, by decide +kernel, w_441⟩, by decide +kernel⟩, rfl⟩
  simp [am_fnd, h3, h1, h2] at h
def co_L_addSpan (l : Launch) (d : Nat) : List (Nat × am_S) := [(0, am_aload 0 1), (1, am_iload 1 2), (2, am_iload 2 3), (3, am_iload 3 4), (4, am_calH l d y_P_addSpan (some 0) 4 [(3, (-9000000000000000001)), (1, (-9000000000000000002)), (2, (-9000000000000000003))] 7 3 18 3 18), (7, am_i2l 8), (8, am_lret)]
theorem ck_L_addSpan {l : Launch} {sc : Nat × (Nat → Int32)} {d : Nat} : ∀ q ∈ co_L_addSpan l d, am_ok l sc (d + 1) y_L_addSpan q.1 q.2 :=
  fa_cons (ok_aload_n (show decode (am_mB y_L_addSpan) 0 = .ok (.aload_n 0, 1) by decide +kernel) rfl) <|
  fa_cons (ok_iload_n (show decode (am_mB y_L_addSpan) 1 = .ok (.iload_n 1, 1) by decide +kernel) rfl) <|
  fa_cons (ok_iload_n (show decode (am_mB y_L_addSpan) 2 = .ok (.iload_n 2, 1) by decide +kernel) rfl) <|
  fa_cons (ok_iload_n (show decode (am_mB y_L_addSpan) 3 = .ok (.iload_n 3, 1) by decide +kernel) rfl) <|
  fa_cons (ok_calH ⟨rfl, rfl, rfl, rfl⟩ (ok_callH (show decode (am_mB y_L_addSpan) 4 = .ok (.invokevirtual 73, 3) by decide +kernel) cf_P_addSpan (by decide +kernel) w_748 ci_P_addSpan cv_P_addSpan ⟨by decide, rfl⟩ rfl (by decide +kernel) (Or.inl (by decide +kernel)) hh_L_addSpan)) <|
  fa_cons (ok_i2l (show decode (am_mB y_L_addSpan) 7 = .ok (.i2l, 1) by decide +kernel)) <|
  fa_cons (ok_lret (show decode (am_mB y_L_addSpan) 8 = .ok (.lreturn, 1) by decide +kernel) rfl (by decide +kernel)) <|
  fa_nil
set_option maxRecDepth 100000 in
theorem cq_L_addSpan (l : Launch) (d : Nat) : am_lk (co_L_addSpan l d) 0 = am_aload 0 1 ∧ am_lk (co_L_addSpan l d) 1 = am_iload 1 2 ∧ am_lk (co_L_addSpan l d) 2 = am_iload 2 3 ∧ am_lk (co_L_addSpan l d) 3 = am_iload 3 4 ∧ am_lk (co_L_addSpan l d) 4 = am_calH l d y_P_addSpan (some 0) 4 [(3, (-9000000000000000001)), (1, (-9000000000000000002)), (2, (-9000000000000000003))] 7 3 18 3 18 ∧ am_lk (co_L_addSpan l d) 7 = am_i2l 8 ∧ am_lk (co_L_addSpan l d) 8 = am_lret := ⟨rfl, rfl, rfl, rfl, rfl, rfl, rfl⟩
theorem en_L_addSpan {l : Launch} {d : Nat} (n : Nat) {as : List am_V} {G : am_G} {I : am_I} {J : am_J} {P : am_P} (hlen : (as.map am_cat).sum ≤ 5) (h : am_go (am_lk (co_L_addSpan l d)) (am_X l (0, fun _ => 0) (d + 1) y_L_addSpan P) P n 0 (am_el 5 as) [] 0 0 G I J) : am_T l (d + 1) y_L_addSpan as G I J P :=
  am_T_of (sc := (0, fun _ => 0)) cf_L_addSpan (by decide +kernel) (by decide) (by decide +kernel) hlen (am_run (ok_lk _ (ck_L_addSpan)) n _ _ _ _ _ _ _ _ h)
theorem rn_L_addSpan {l : Launch} {sc : Nat × (Nat → Int32)} {d : Nat} {P : am_P} (n : Nat) {pc : Nat} {ls : am_L} {st : List am_V} {kc ks : Nat} {G : am_G} {I : am_I} {J : am_J} (h : am_go (am_lk (co_L_addSpan l d)) (am_X l sc (d + 1) y_L_addSpan P) P n pc ls st kc ks G I J) : am_X l sc (d + 1) y_L_addSpan P pc ls st kc ks G I J := am_run (ok_lk _ (ck_L_addSpan)) n _ _ _ _ _ _ _ _ h
theorem hh_L_removeSpan : ∀ (e : Nat) (k : Int64), am_fnd [(3, (-9000000000000000001))] e = some k → am_hd y_L_removeSpan 2 e k := by
  intro e k h
  by_cases h3 : e = 3
  · subst h3
    have hk : ((-9000000000000000001) : Int64) = k := Option.some.inj h
    subst hk
    exact ⟨[], (0, 6, 7, 34), [], rfl, by decide, by decide, w_445, w_455, fa_nil, ⟨1, Or.inl ⟨2, by decide +kernel, rfl, by decide +kernel⟩, ⟨36, by decide +kernel, w_474⟩, by decide +kernel⟩, rfl⟩
  simp [am_fnd, h3] at h
def co_L_removeSpan (l : Launch) (d : Nat) : List (Nat × am_S) := [(0, am_aload 0 1), (1, am_iload 1 2), (2, am_calH l d y_P_removeSpan (some 0) 2 [(3, (-9000000000000000001))] 5 1 6 1 6), (5, am_i2l 6), (6, am_lret)]
theorem ck_L_removeSpan {l : Launch} {sc : Nat × (Nat → Int32)} {d : Nat} : ∀ q ∈ co_L_removeSpan l d, am_ok l sc (d + 1) y_L_removeSpan q.1 q.2 :=
  fa_cons (ok_aload_n (show decode (am_mB y_L_removeSpan) 0 = .ok (.aload_n 0, 1) by decide +kernel) rfl) <|
  fa_cons (ok_iload_n (show decode (am_mB y_L_removeSpan) 1 = .ok (.iload_n 1, 1) by decide +kernel) rfl) <|
  fa_cons (ok_calH ⟨rfl, rfl, rfl, rfl⟩ (ok_callH (show decode (am_mB y_L_removeSpan) 2 = .ok (.invokevirtual 77, 3) by decide +kernel) cf_P_removeSpan (by decide +kernel) w_782 ci_P_removeSpan cv_P_removeSpan ⟨by decide, rfl⟩ rfl (by decide +kernel) (Or.inl (by decide +kernel)) hh_L_removeSpan)) <|
  fa_cons (ok_i2l (show decode (am_mB y_L_removeSpan) 5 = .ok (.i2l, 1) by decide +kernel)) <|
  fa_cons (ok_lret (show decode (am_mB y_L_removeSpan) 6 = .ok (.lreturn, 1) by decide +kernel) rfl (by decide +kernel)) <|
  fa_nil
set_option maxRecDepth 100000 in
theorem cq_L_removeSpan (l : Launch) (d : Nat) : am_lk (co_L_removeSpan l d) 0 = am_aload 0 1 ∧ am_lk (co_L_removeSpan l d) 1 = am_iload 1 2 ∧ am_lk (co_L_removeSpan l d) 2 = am_calH l d y_P_removeSpan (some 0) 2 [(3, (-9000000000000000001))] 5 1 6 1 6 ∧ am_lk (co_L_removeSpan l d) 5 = am_i2l 6 ∧ am_lk (co_L_removeSpan l d) 6 = am_lret := ⟨rfl, rfl, rfl, rfl, rfl⟩
theorem en_L_removeSpan {l : Launch} {d : Nat} (n : Nat) {as : List am_V} {G : am_G} {I : am_I} {J : am_J} {P : am_P} (hlen : (as.map am_cat).sum ≤ 3) (h : am_go (am_lk (co_L_removeSpan l d)) (am_X l (0, fun _ => 0) (d + 1) y_L_removeSpan P) P n 0 (am_el 3 as) [] 0 0 G I J) : am_T l (d + 1) y_L_removeSpan as G I J P :=
  am_T_of (sc := (0, fun _ => 0)) cf_L_removeSpan (by decide +kernel) (by decide) (by decide +kernel) hlen (am_run (ok_lk _ (ck_L_removeSpan)) n _ _ _ _ _ _ _ _ h)
theorem rn_L_removeSpan {l : Launch} {sc : Nat × (Nat → Int32)} {d : Nat} {P : am_P} (n : Nat) {pc : Nat} {ls : am_L} {st : List am_V} {kc ks : Nat} {G : am_G} {I : am_I} {J : am_J} (h : am_go (am_lk (co_L_removeSpan l d)) (am_X l sc (d + 1) y_L_removeSpan P) P n pc ls st kc ks G I J) : am_X l sc (d + 1) y_L_removeSpan P pc ls st kc ks G I J := am_run (ok_lk _ (ck_L_removeSpan)) n _ _ _ _ _ _ _ _ h
theorem hh_L_setHeight : ∀ (e : Nat) (k : Int64), am_fnd [(1, (-9000000000000000002))] e = some k → am_hd y_L_setHeight 3 e k := by
  intro e k h
  by_cases h1 : e = 1
  · subst h1
    have hk : ((-9000000000000000002) : Int64) = k := Option.some.inj h
    subst hk
    exact ⟨[], (0, 7, 8, 15), [], rfl, by decide, by decide, w_502, w_568, fa_nil, ⟨1, Or.inl ⟨3, by decide +kernel, rfl, by decide +kernel⟩, ⟨17, by decide +kernel, w_582⟩, by decide +kernel⟩, rfl⟩
  simp [am_fnd, h1] at h
def co_L_setHeight (l : Launch) (d : Nat) : List (Nat × am_S) := [(0, am_aload 0 1), (1, am_iload 1 2), (2, am_iload 2 3), (3, am_calH l d y_P_setHeight (some 0) 3 [(1, (-9000000000000000002))] 6 1 6 1 6), (6, am_i2l 7), (7, am_lret)]
theorem ck_L_setHeight {l : Launch} {sc : Nat × (Nat → Int32)} {d : Nat} : ∀ q ∈ co_L_setHeight l d, am_ok l sc (d + 1) y_L_setHeight q.1 q.2 :=
  fa_cons (ok_aload_n (show decode (am_mB y_L_setHeight) 0 = .ok (.aload_n 0, 1) by decide +kernel) rfl) <|
  fa_cons (ok_iload_n (show decode (am_mB y_L_setHeight) 1 = .ok (.iload_n 1, 1) by decide +kernel) rfl) <|
  fa_cons (ok_iload_n (show decode (am_mB y_L_setHeight) 2 = .ok (.iload_n 2, 1) by decide +kernel) rfl) <|
  fa_cons (ok_calH ⟨rfl, rfl, rfl, rfl⟩ (ok_callH (show decode (am_mB y_L_setHeight) 3 = .ok (.invokevirtual 80, 3) by decide +kernel) cf_P_setHeight (by decide +kernel) w_793 ci_P_setHeight cv_P_setHeight ⟨by decide, rfl⟩ rfl (by decide +kernel) (Or.inl (by decide +kernel)) hh_L_setHeight)) <|
  fa_cons (ok_i2l (show decode (am_mB y_L_setHeight) 6 = .ok (.i2l, 1) by decide +kernel)) <|
  fa_cons (ok_lret (show decode (am_mB y_L_setHeight) 7 = .ok (.lreturn, 1) by decide +kernel) rfl (by decide +kernel)) <|
  fa_nil
set_option maxRecDepth 100000 in
theorem cq_L_setHeight (l : Launch) (d : Nat) : am_lk (co_L_setHeight l d) 0 = am_aload 0 1 ∧ am_lk (co_L_setHeight l d) 1 = am_iload 1 2 ∧ am_lk (co_L_setHeight l d) 2 = am_iload 2 3 ∧ am_lk (co_L_setHeight l d) 3 = am_calH l d y_P_setHeight (some 0) 3 [(1, (-9000000000000000002))] 6 1 6 1 6 ∧ am_lk (co_L_setHeight l d) 6 = am_i2l 7 ∧ am_lk (co_L_setHeight l d) 7 = am_lret := ⟨rfl, rfl, rfl, rfl, rfl, rfl⟩
theorem en_L_setHeight {l : Launch} {d : Nat} (n : Nat) {as : List am_V} {G : am_G} {I : am_I} {J : am_J} {P : am_P} (hlen : (as.map am_cat).sum ≤ 4) (h : am_go (am_lk (co_L_setHeight l d)) (am_X l (0, fun _ => 0) (d + 1) y_L_setHeight P) P n 0 (am_el 4 as) [] 0 0 G I J) : am_T l (d + 1) y_L_setHeight as G I J P :=
  am_T_of (sc := (0, fun _ => 0)) cf_L_setHeight (by decide +kernel) (by decide) (by decide +kernel) hlen (am_run (ok_lk _ (ck_L_setHeight)) n _ _ _ _ _ _ _ _ h)
theorem rn_L_setHeight {l : Launch} {sc : Nat × (Nat → Int32)} {d : Nat} {P : am_P} (n : Nat) {pc : Nat} {ls : am_L} {st : List am_V} {kc ks : Nat} {G : am_G} {I : am_I} {J : am_J} (h : am_go (am_lk (co_L_setHeight l d)) (am_X l sc (d + 1) y_L_setHeight P) P n pc ls st kc ks G I J) : am_X l sc (d + 1) y_L_setHeight P pc ls st kc ks G I J := am_run (ok_lk _ (ck_L_setHeight)) n _ _ _ _ _ _ _ _ h
theorem hh_L_undo : ∀ (e : Nat) (k : Int64), am_fnd [(2, (-9000000000000000003))] e = some k → am_hd y_L_undo 1 e k := by
  intro e k h
  by_cases h2 : e = 2
  · subst h2
    have hk : ((-9000000000000000003) : Int64) = k := Option.some.inj h
    subst hk
    exact ⟨[], (0, 5, 6, 19), [], rfl, by decide, by decide, w_283, w_360, fa_nil, ⟨1, Or.inl ⟨1, by decide +kernel, rfl, by decide +kernel⟩, ⟨21, by decide +kernel, w_441⟩, by decide +kernel⟩, rfl⟩
  simp [am_fnd, h2] at h
def co_L_undo (l : Launch) (d : Nat) : List (Nat × am_S) := [(0, am_aload 0 1), (1, am_calH l d y_P_undo (some 0) 1 [(2, (-9000000000000000003))] 4 1 6 1 6), (4, am_i2l 5), (5, am_lret)]
theorem ck_L_undo {l : Launch} {sc : Nat × (Nat → Int32)} {d : Nat} : ∀ q ∈ co_L_undo l d, am_ok l sc (d + 1) y_L_undo q.1 q.2 :=
  fa_cons (ok_aload_n (show decode (am_mB y_L_undo) 0 = .ok (.aload_n 0, 1) by decide +kernel) rfl) <|
  fa_cons (ok_calH ⟨rfl, rfl, rfl, rfl⟩ (ok_callH (show decode (am_mB y_L_undo) 1 = .ok (.invokevirtual 83, 3) by decide +kernel) cf_P_undo (by decide +kernel) w_968 ci_P_undo cv_P_undo ⟨by decide, rfl⟩ rfl (by decide +kernel) (Or.inl (by decide +kernel)) hh_L_undo)) <|
  fa_cons (ok_i2l (show decode (am_mB y_L_undo) 4 = .ok (.i2l, 1) by decide +kernel)) <|
  fa_cons (ok_lret (show decode (am_mB y_L_undo) 5 = .ok (.lreturn, 1) by decide +kernel) rfl (by decide +kernel)) <|
  fa_nil
set_option maxRecDepth 100000 in
theorem cq_L_undo (l : Launch) (d : Nat) : am_lk (co_L_undo l d) 0 = am_aload 0 1 ∧ am_lk (co_L_undo l d) 1 = am_calH l d y_P_undo (some 0) 1 [(2, (-9000000000000000003))] 4 1 6 1 6 ∧ am_lk (co_L_undo l d) 4 = am_i2l 5 ∧ am_lk (co_L_undo l d) 5 = am_lret := ⟨rfl, rfl, rfl, rfl⟩
theorem en_L_undo {l : Launch} {d : Nat} (n : Nat) {as : List am_V} {G : am_G} {I : am_I} {J : am_J} {P : am_P} (hlen : (as.map am_cat).sum ≤ 2) (h : am_go (am_lk (co_L_undo l d)) (am_X l (0, fun _ => 0) (d + 1) y_L_undo P) P n 0 (am_el 2 as) [] 0 0 G I J) : am_T l (d + 1) y_L_undo as G I J P :=
  am_T_of (sc := (0, fun _ => 0)) cf_L_undo (by decide +kernel) (by decide) (by decide +kernel) hlen (am_run (ok_lk _ (ck_L_undo)) n _ _ _ _ _ _ _ _ h)
theorem rn_L_undo {l : Launch} {sc : Nat × (Nat → Int32)} {d : Nat} {P : am_P} (n : Nat) {pc : Nat} {ls : am_L} {st : List am_V} {kc ks : Nat} {G : am_G} {I : am_I} {J : am_J} (h : am_go (am_lk (co_L_undo l d)) (am_X l sc (d + 1) y_L_undo P) P n pc ls st kc ks G I J) : am_X l sc (d + 1) y_L_undo P pc ls st kc ks G I J := am_run (ok_lk _ (ck_L_undo)) n _ _ _ _ _ _ _ _ h
theorem hh_L_heightFor : ∀ (e : Nat) (k : Int64), am_fnd [(1, (-9000000000000000002))] e = some k → am_hd y_L_heightFor 2 e k := by
  intro e k h
  by_cases h1 : e = 1
  · subst h1
    have hk : ((-9000000000000000002) : Int64) = k := Option.some.inj h
    subst hk
    exact ⟨[], (0, 6, 7, 15), [], rfl, by decide, by decide, w_502, w_568, fa_nil, ⟨1, Or.inl ⟨2, by decide +kernel, rfl, by decide +kernel⟩, ⟨17, by decide +kernel, w_582⟩, by decide +kernel⟩, rfl⟩
  simp [am_fnd, h1] at h
def co_L_heightFor (l : Launch) (d : Nat) : List (Nat × am_S) := [(0, am_aload 0 1), (1, am_iload 1 2), (2, am_calH l d y_P_heightFor (some 0) 2 [(1, (-9000000000000000002))] 5 1 6 1 6), (5, am_i2l 6), (6, am_lret)]
theorem ck_L_heightFor {l : Launch} {sc : Nat × (Nat → Int32)} {d : Nat} : ∀ q ∈ co_L_heightFor l d, am_ok l sc (d + 1) y_L_heightFor q.1 q.2 :=
  fa_cons (ok_aload_n (show decode (am_mB y_L_heightFor) 0 = .ok (.aload_n 0, 1) by decide +kernel) rfl) <|
  fa_cons (ok_iload_n (show decode (am_mB y_L_heightFor) 1 = .ok (.iload_n 1, 1) by decide +kernel) rfl) <|
  fa_cons (ok_calH ⟨rfl, rfl, rfl, rfl⟩ (ok_callH (show decode (am_mB y_L_heightFor) 2 = .ok (.invokevirtual 86, 3) by decide +kernel) cf_P_heightFor (by decide +kernel) w_808 ci_P_heightFor cv_P_heightFor ⟨by decide, rfl⟩ rfl (by decide +kernel) (Or.inl (by decide +kernel)) hh_L_heightFor)) <|
  fa_cons (ok_i2l (show decode (am_mB y_L_heightFor) 5 = .ok (.i2l, 1) by decide +kernel)) <|
  fa_cons (ok_lret (show decode (am_mB y_L_heightFor) 6 = .ok (.lreturn, 1) by decide +kernel) rfl (by decide +kernel)) <|
  fa_nil
set_option maxRecDepth 100000 in
theorem cq_L_heightFor (l : Launch) (d : Nat) : am_lk (co_L_heightFor l d) 0 = am_aload 0 1 ∧ am_lk (co_L_heightFor l d) 1 = am_iload 1 2 ∧ am_lk (co_L_heightFor l d) 2 = am_calH l d y_P_heightFor (some 0) 2 [(1, (-9000000000000000002))] 5 1 6 1 6 ∧ am_lk (co_L_heightFor l d) 5 = am_i2l 6 ∧ am_lk (co_L_heightFor l d) 6 = am_lret := ⟨rfl, rfl, rfl, rfl, rfl⟩
theorem en_L_heightFor {l : Launch} {d : Nat} (n : Nat) {as : List am_V} {G : am_G} {I : am_I} {J : am_J} {P : am_P} (hlen : (as.map am_cat).sum ≤ 3) (h : am_go (am_lk (co_L_heightFor l d)) (am_X l (0, fun _ => 0) (d + 1) y_L_heightFor P) P n 0 (am_el 3 as) [] 0 0 G I J) : am_T l (d + 1) y_L_heightFor as G I J P :=
  am_T_of (sc := (0, fun _ => 0)) cf_L_heightFor (by decide +kernel) (by decide) (by decide +kernel) hlen (am_run (ok_lk _ (ck_L_heightFor)) n _ _ _ _ _ _ _ _ h)
theorem rn_L_heightFor {l : Launch} {sc : Nat × (Nat → Int32)} {d : Nat} {P : am_P} (n : Nat) {pc : Nat} {ls : am_L} {st : List am_V} {kc ks : Nat} {G : am_G} {I : am_I} {J : am_J} (h : am_go (am_lk (co_L_heightFor l d)) (am_X l sc (d + 1) y_L_heightFor P) P n pc ls st kc ks G I J) : am_X l sc (d + 1) y_L_heightFor P pc ls st kc ks G I J := am_run (ok_lk _ (ck_L_heightFor)) n _ _ _ _ _ _ _ _ h
theorem hh_L_evenCut : ∀ (e : Nat) (k : Int64), am_fnd [(1, (-9000000000000000002))] e = some k → am_hd y_L_evenCut 2 e k := by
  intro e k h
  by_cases h1 : e = 1
  · subst h1
    have hk : ((-9000000000000000002) : Int64) = k := Option.some.inj h
    subst hk
    exact ⟨[], (0, 6, 7, 15), [], rfl, by decide, by decide, w_502, w_568, fa_nil, ⟨1, Or.inl ⟨2, by decide +kernel, rfl, by decide +kernel⟩, ⟨17, by decide +kernel, w_582⟩, by decide +kernel⟩, rfl⟩
  simp [am_fnd, h1] at h
def co_L_evenCut (l : Launch) (d : Nat) : List (Nat × am_S) := [(0, am_aload 0 1), (1, am_iload 1 2), (2, am_calH l d y_P_evenCut (some 0) 2 [(1, (-9000000000000000002))] 5 1 6 1 6), (5, am_i2l 6), (6, am_lret)]
theorem ck_L_evenCut {l : Launch} {sc : Nat × (Nat → Int32)} {d : Nat} : ∀ q ∈ co_L_evenCut l d, am_ok l sc (d + 1) y_L_evenCut q.1 q.2 :=
  fa_cons (ok_aload_n (show decode (am_mB y_L_evenCut) 0 = .ok (.aload_n 0, 1) by decide +kernel) rfl) <|
  fa_cons (ok_iload_n (show decode (am_mB y_L_evenCut) 1 = .ok (.iload_n 1, 1) by decide +kernel) rfl) <|
  fa_cons (ok_calH ⟨rfl, rfl, rfl, rfl⟩ (ok_callH (show decode (am_mB y_L_evenCut) 2 = .ok (.invokevirtual 89, 3) by decide +kernel) cf_P_evenCut (by decide +kernel) w_816 ci_P_evenCut cv_P_evenCut ⟨by decide, rfl⟩ rfl (by decide +kernel) (Or.inl (by decide +kernel)) hh_L_evenCut)) <|
  fa_cons (ok_i2l (show decode (am_mB y_L_evenCut) 5 = .ok (.i2l, 1) by decide +kernel)) <|
  fa_cons (ok_lret (show decode (am_mB y_L_evenCut) 6 = .ok (.lreturn, 1) by decide +kernel) rfl (by decide +kernel)) <|
  fa_nil
set_option maxRecDepth 100000 in
theorem cq_L_evenCut (l : Launch) (d : Nat) : am_lk (co_L_evenCut l d) 0 = am_aload 0 1 ∧ am_lk (co_L_evenCut l d) 1 = am_iload 1 2 ∧ am_lk (co_L_evenCut l d) 2 = am_calH l d y_P_evenCut (some 0) 2 [(1, (-9000000000000000002))] 5 1 6 1 6 ∧ am_lk (co_L_evenCut l d) 5 = am_i2l 6 ∧ am_lk (co_L_evenCut l d) 6 = am_lret := ⟨rfl, rfl, rfl, rfl, rfl⟩
theorem en_L_evenCut {l : Launch} {d : Nat} (n : Nat) {as : List am_V} {G : am_G} {I : am_I} {J : am_J} {P : am_P} (hlen : (as.map am_cat).sum ≤ 3) (h : am_go (am_lk (co_L_evenCut l d)) (am_X l (0, fun _ => 0) (d + 1) y_L_evenCut P) P n 0 (am_el 3 as) [] 0 0 G I J) : am_T l (d + 1) y_L_evenCut as G I J P :=
  am_T_of (sc := (0, fun _ => 0)) cf_L_evenCut (by decide +kernel) (by decide) (by decide +kernel) hlen (am_run (ok_lk _ (ck_L_evenCut)) n _ _ _ _ _ _ _ _ h)
theorem rn_L_evenCut {l : Launch} {sc : Nat × (Nat → Int32)} {d : Nat} {P : am_P} (n : Nat) {pc : Nat} {ls : am_L} {st : List am_V} {kc ks : Nat} {G : am_G} {I : am_I} {J : am_J} (h : am_go (am_lk (co_L_evenCut l d)) (am_X l sc (d + 1) y_L_evenCut P) P n pc ls st kc ks G I J) : am_X l sc (d + 1) y_L_evenCut P pc ls st kc ks G I J := am_run (ok_lk _ (ck_L_evenCut)) n _ _ _ _ _ _ _ _ h
theorem hh_L_emptyFrom : ∀ (e : Nat) (k : Int64), am_fnd [(3, (-9000000000000000001))] e = some k → am_hd y_L_emptyFrom 2 e k := by
  intro e k h
  by_cases h3 : e = 3
  · subst h3
    have hk : ((-9000000000000000001) : Int64) = k := Option.some.inj h
    subst hk
    exact ⟨[], (0, 6, 7, 34), [], rfl, by decide, by decide, w_445, w_455, fa_nil, ⟨1, Or.inl ⟨2, by decide +kernel, rfl, by decide +kernel⟩, ⟨36, by decide +kernel, w_474⟩, by decide +kernel⟩, rfl⟩
  simp [am_fnd, h3] at h
def co_L_emptyFrom (l : Launch) (d : Nat) : List (Nat × am_S) := [(0, am_aload 0 1), (1, am_iload 1 2), (2, am_calH l d y_P_emptyFrom (some 0) 2 [(3, (-9000000000000000001))] 5 1 6 1 6), (5, am_i2l 6), (6, am_lret)]
theorem ck_L_emptyFrom {l : Launch} {sc : Nat × (Nat → Int32)} {d : Nat} : ∀ q ∈ co_L_emptyFrom l d, am_ok l sc (d + 1) y_L_emptyFrom q.1 q.2 :=
  fa_cons (ok_aload_n (show decode (am_mB y_L_emptyFrom) 0 = .ok (.aload_n 0, 1) by decide +kernel) rfl) <|
  fa_cons (ok_iload_n (show decode (am_mB y_L_emptyFrom) 1 = .ok (.iload_n 1, 1) by decide +kernel) rfl) <|
  fa_cons (ok_calH ⟨rfl, rfl, rfl, rfl⟩ (ok_callH (show decode (am_mB y_L_emptyFrom) 2 = .ok (.invokevirtual 92, 3) by decide +kernel) cf_P_emptyFrom (by decide +kernel) w_845 ci_P_emptyFrom cv_P_emptyFrom ⟨by decide, rfl⟩ rfl (by decide +kernel) (Or.inl (by decide +kernel)) hh_L_emptyFrom)) <|
  fa_cons (ok_i2l (show decode (am_mB y_L_emptyFrom) 5 = .ok (.i2l, 1) by decide +kernel)) <|
  fa_cons (ok_lret (show decode (am_mB y_L_emptyFrom) 6 = .ok (.lreturn, 1) by decide +kernel) rfl (by decide +kernel)) <|
  fa_nil
set_option maxRecDepth 100000 in
theorem cq_L_emptyFrom (l : Launch) (d : Nat) : am_lk (co_L_emptyFrom l d) 0 = am_aload 0 1 ∧ am_lk (co_L_emptyFrom l d) 1 = am_iload 1 2 ∧ am_lk (co_L_emptyFrom l d) 2 = am_calH l d y_P_emptyFrom (some 0) 2 [(3, (-9000000000000000001))] 5 1 6 1 6 ∧ am_lk (co_L_emptyFrom l d) 5 = am_i2l 6 ∧ am_lk (co_L_emptyFrom l d) 6 = am_lret := ⟨rfl, rfl, rfl, rfl, rfl⟩
theorem en_L_emptyFrom {l : Launch} {d : Nat} (n : Nat) {as : List am_V} {G : am_G} {I : am_I} {J : am_J} {P : am_P} (hlen : (as.map am_cat).sum ≤ 3) (h : am_go (am_lk (co_L_emptyFrom l d)) (am_X l (0, fun _ => 0) (d + 1) y_L_emptyFrom P) P n 0 (am_el 3 as) [] 0 0 G I J) : am_T l (d + 1) y_L_emptyFrom as G I J P :=
  am_T_of (sc := (0, fun _ => 0)) cf_L_emptyFrom (by decide +kernel) (by decide) (by decide +kernel) hlen (am_run (ok_lk _ (ck_L_emptyFrom)) n _ _ _ _ _ _ _ _ h)
theorem rn_L_emptyFrom {l : Launch} {sc : Nat × (Nat → Int32)} {d : Nat} {P : am_P} (n : Nat) {pc : Nat} {ls : am_L} {st : List am_V} {kc ks : Nat} {G : am_G} {I : am_I} {J : am_J} (h : am_go (am_lk (co_L_emptyFrom l d)) (am_X l sc (d + 1) y_L_emptyFrom P) P n pc ls st kc ks G I J) : am_X l sc (d + 1) y_L_emptyFrom P pc ls st kc ks G I J := am_run (ok_lk _ (ck_L_emptyFrom)) n _ _ _ _ _ _ _ _ h
theorem hh_L_script : ∀ (e : Nat) (k : Int64), am_fnd [(1, (-9000000000000000002))] e = some k → am_hd y_L_script 3 e k := by
  intro e k h
  by_cases h1 : e = 1
  · subst h1
    have hk : ((-9000000000000000002) : Int64) = k := Option.some.inj h
    subst hk
    exact ⟨[], (0, 7, 8, 15), [], rfl, by decide, by decide, w_502, w_568, fa_nil, ⟨2, Or.inr ⟨4, by decide +kernel, rfl, by decide +kernel⟩, ⟨17, by decide +kernel, w_582⟩, by decide +kernel⟩, rfl⟩
  simp [am_fnd, h1] at h
def co_L_script (l : Launch) (d : Nat) : List (Nat × am_S) := [(0, am_aload 0 1), (1, am_iload 1 2), (2, am_lload 2 3), (3, am_calH l d y_P_runScript (some 0) 3 [(1, (-9000000000000000002))] 6 1 6 1 6), (6, am_i2l 7), (7, am_lret)]
theorem ck_L_script {l : Launch} {sc : Nat × (Nat → Int32)} {d : Nat} : ∀ q ∈ co_L_script l d, am_ok l sc (d + 1) y_L_script q.1 q.2 :=
  fa_cons (ok_aload_n (show decode (am_mB y_L_script) 0 = .ok (.aload_n 0, 1) by decide +kernel) rfl) <|
  fa_cons (ok_iload_n (show decode (am_mB y_L_script) 1 = .ok (.iload_n 1, 1) by decide +kernel) rfl) <|
  fa_cons (ok_lload_n (show decode (am_mB y_L_script) 2 = .ok (.lload_n 2, 1) by decide +kernel) rfl) <|
  fa_cons (ok_calH ⟨rfl, rfl, rfl, rfl⟩ (ok_callH (show decode (am_mB y_L_script) 3 = .ok (.invokevirtual 95, 3) by decide +kernel) cf_P_runScript (by decide +kernel) w_856 ci_P_runScript cv_P_runScript ⟨by decide, rfl⟩ rfl (by decide +kernel) (Or.inl (by decide +kernel)) hh_L_script)) <|
  fa_cons (ok_i2l (show decode (am_mB y_L_script) 6 = .ok (.i2l, 1) by decide +kernel)) <|
  fa_cons (ok_lret (show decode (am_mB y_L_script) 7 = .ok (.lreturn, 1) by decide +kernel) rfl (by decide +kernel)) <|
  fa_nil
set_option maxRecDepth 100000 in
theorem cq_L_script (l : Launch) (d : Nat) : am_lk (co_L_script l d) 0 = am_aload 0 1 ∧ am_lk (co_L_script l d) 1 = am_iload 1 2 ∧ am_lk (co_L_script l d) 2 = am_lload 2 3 ∧ am_lk (co_L_script l d) 3 = am_calH l d y_P_runScript (some 0) 3 [(1, (-9000000000000000002))] 6 1 6 1 6 ∧ am_lk (co_L_script l d) 6 = am_i2l 7 ∧ am_lk (co_L_script l d) 7 = am_lret := ⟨rfl, rfl, rfl, rfl, rfl, rfl⟩
theorem en_L_script {l : Launch} {d : Nat} (n : Nat) {as : List am_V} {G : am_G} {I : am_I} {J : am_J} {P : am_P} (hlen : (as.map am_cat).sum ≤ 5) (h : am_go (am_lk (co_L_script l d)) (am_X l (0, fun _ => 0) (d + 1) y_L_script P) P n 0 (am_el 5 as) [] 0 0 G I J) : am_T l (d + 1) y_L_script as G I J P :=
  am_T_of (sc := (0, fun _ => 0)) cf_L_script (by decide +kernel) (by decide) (by decide +kernel) hlen (am_run (ok_lk _ (ck_L_script)) n _ _ _ _ _ _ _ _ h)
theorem rn_L_script {l : Launch} {sc : Nat × (Nat → Int32)} {d : Nat} {P : am_P} (n : Nat) {pc : Nat} {ls : am_L} {st : List am_V} {kc ks : Nat} {G : am_G} {I : am_I} {J : am_J} (h : am_go (am_lk (co_L_script l d)) (am_X l sc (d + 1) y_L_script P) P n pc ls st kc ks G I J) : am_X l sc (d + 1) y_L_script P pc ls st kc ks G I J := am_run (ok_lk _ (ck_L_script)) n _ _ _ _ _ _ _ _ h
theorem hh_L_simulate : ∀ (e : Nat) (k : Int64), am_fnd [(1, (-9000000000000000002))] e = some k → am_hd y_L_simulate 3 e k := by
  intro e k h
  by_cases h1 : e = 1
  · subst h1
    have hk : ((-9000000000000000002) : Int64) = k := Option.some.inj h
    subst hk
    exact ⟨[], (0, 7, 8, 15), [], rfl, by decide, by decide, w_502, w_568, fa_nil, ⟨2, Or.inr ⟨4, by decide +kernel, rfl, by decide +kernel⟩, ⟨17, by decide +kernel, w_582⟩, by decide +kernel⟩, rfl⟩
  simp [am_fnd, h1] at h
def co_L_simulate (l : Launch) (d : Nat) : List (Nat × am_S) := [(0, am_aload 0 1), (1, am_lload 1 2), (2, am_iload 3 3), (3, am_calH l d y_P_simulate (some 0) 3 [(1, (-9000000000000000002))] 6 1 6 1 6), (6, am_i2l 7), (7, am_lret)]
theorem ck_L_simulate {l : Launch} {sc : Nat × (Nat → Int32)} {d : Nat} : ∀ q ∈ co_L_simulate l d, am_ok l sc (d + 1) y_L_simulate q.1 q.2 :=
  fa_cons (ok_aload_n (show decode (am_mB y_L_simulate) 0 = .ok (.aload_n 0, 1) by decide +kernel) rfl) <|
  fa_cons (ok_lload_n (show decode (am_mB y_L_simulate) 1 = .ok (.lload_n 1, 1) by decide +kernel) rfl) <|
  fa_cons (ok_iload_n (show decode (am_mB y_L_simulate) 2 = .ok (.iload_n 3, 1) by decide +kernel) rfl) <|
  fa_cons (ok_calH ⟨rfl, rfl, rfl, rfl⟩ (ok_callH (show decode (am_mB y_L_simulate) 3 = .ok (.invokevirtual 99, 3) by decide +kernel) cf_P_simulate (by decide +kernel) w_920 ci_P_simulate cv_P_simulate ⟨by decide, rfl⟩ rfl (by decide +kernel) (Or.inl (by decide +kernel)) hh_L_simulate)) <|
  fa_cons (ok_i2l (show decode (am_mB y_L_simulate) 6 = .ok (.i2l, 1) by decide +kernel)) <|
  fa_cons (ok_lret (show decode (am_mB y_L_simulate) 7 = .ok (.lreturn, 1) by decide +kernel) rfl (by decide +kernel)) <|
  fa_nil
set_option maxRecDepth 100000 in
theorem cq_L_simulate (l : Launch) (d : Nat) : am_lk (co_L_simulate l d) 0 = am_aload 0 1 ∧ am_lk (co_L_simulate l d) 1 = am_lload 1 2 ∧ am_lk (co_L_simulate l d) 2 = am_iload 3 3 ∧ am_lk (co_L_simulate l d) 3 = am_calH l d y_P_simulate (some 0) 3 [(1, (-9000000000000000002))] 6 1 6 1 6 ∧ am_lk (co_L_simulate l d) 6 = am_i2l 7 ∧ am_lk (co_L_simulate l d) 7 = am_lret := ⟨rfl, rfl, rfl, rfl, rfl, rfl⟩
theorem en_L_simulate {l : Launch} {d : Nat} (n : Nat) {as : List am_V} {G : am_G} {I : am_I} {J : am_J} {P : am_P} (hlen : (as.map am_cat).sum ≤ 5) (h : am_go (am_lk (co_L_simulate l d)) (am_X l (0, fun _ => 0) (d + 1) y_L_simulate P) P n 0 (am_el 5 as) [] 0 0 G I J) : am_T l (d + 1) y_L_simulate as G I J P :=
  am_T_of (sc := (0, fun _ => 0)) cf_L_simulate (by decide +kernel) (by decide) (by decide +kernel) hlen (am_run (ok_lk _ (ck_L_simulate)) n _ _ _ _ _ _ _ _ h)
theorem rn_L_simulate {l : Launch} {sc : Nat × (Nat → Int32)} {d : Nat} {P : am_P} (n : Nat) {pc : Nat} {ls : am_L} {st : List am_V} {kc ks : Nat} {G : am_G} {I : am_I} {J : am_J} (h : am_go (am_lk (co_L_simulate l d)) (am_X l sc (d + 1) y_L_simulate P) P n pc ls st kc ks G I J) : am_X l sc (d + 1) y_L_simulate P pc ls st kc ks G I J := am_run (ok_lk _ (ck_L_simulate)) n _ _ _ _ _ _ _ _ h
theorem hh_L_save : ∀ (e : Nat) (k : Int64), am_fnd [(3, (-9000000000000000001))] e = some k → am_hd y_L_save 2 e k := by
  intro e k h
  by_cases h3 : e = 3
  · subst h3
    have hk : ((-9000000000000000001) : Int64) = k := Option.some.inj h
    subst hk
    exact ⟨[], (0, 6, 7, 34), [], rfl, by decide, by decide, w_445, w_455, fa_nil, ⟨1, Or.inl ⟨2, by decide +kernel, rfl, by decide +kernel⟩, ⟨36, by decide +kernel, w_474⟩, by decide +kernel⟩, rfl⟩
  simp [am_fnd, h3] at h
def co_L_save (l : Launch) (d : Nat) : List (Nat × am_S) := [(0, am_aload 0 1), (1, am_iload 1 2), (2, am_calH l d y_P_save (some 0) 2 [(3, (-9000000000000000001))] 5 1 6 1 6), (5, am_i2l 6), (6, am_lret)]
theorem ck_L_save {l : Launch} {sc : Nat × (Nat → Int32)} {d : Nat} : ∀ q ∈ co_L_save l d, am_ok l sc (d + 1) y_L_save q.1 q.2 :=
  fa_cons (ok_aload_n (show decode (am_mB y_L_save) 0 = .ok (.aload_n 0, 1) by decide +kernel) rfl) <|
  fa_cons (ok_iload_n (show decode (am_mB y_L_save) 1 = .ok (.iload_n 1, 1) by decide +kernel) rfl) <|
  fa_cons (ok_calH ⟨rfl, rfl, rfl, rfl⟩ (ok_callH (show decode (am_mB y_L_save) 2 = .ok (.invokevirtual 103, 3) by decide +kernel) cf_P_save (by decide +kernel) w_446 ci_P_save cv_P_save ⟨by decide, rfl⟩ rfl (by decide +kernel) (Or.inl (by decide +kernel)) hh_L_save)) <|
  fa_cons (ok_i2l (show decode (am_mB y_L_save) 5 = .ok (.i2l, 1) by decide +kernel)) <|
  fa_cons (ok_lret (show decode (am_mB y_L_save) 6 = .ok (.lreturn, 1) by decide +kernel) rfl (by decide +kernel)) <|
  fa_nil
set_option maxRecDepth 100000 in
theorem cq_L_save (l : Launch) (d : Nat) : am_lk (co_L_save l d) 0 = am_aload 0 1 ∧ am_lk (co_L_save l d) 1 = am_iload 1 2 ∧ am_lk (co_L_save l d) 2 = am_calH l d y_P_save (some 0) 2 [(3, (-9000000000000000001))] 5 1 6 1 6 ∧ am_lk (co_L_save l d) 5 = am_i2l 6 ∧ am_lk (co_L_save l d) 6 = am_lret := ⟨rfl, rfl, rfl, rfl, rfl⟩
theorem en_L_save {l : Launch} {d : Nat} (n : Nat) {as : List am_V} {G : am_G} {I : am_I} {J : am_J} {P : am_P} (hlen : (as.map am_cat).sum ≤ 3) (h : am_go (am_lk (co_L_save l d)) (am_X l (0, fun _ => 0) (d + 1) y_L_save P) P n 0 (am_el 3 as) [] 0 0 G I J) : am_T l (d + 1) y_L_save as G I J P :=
  am_T_of (sc := (0, fun _ => 0)) cf_L_save (by decide +kernel) (by decide) (by decide +kernel) hlen (am_run (ok_lk _ (ck_L_save)) n _ _ _ _ _ _ _ _ h)
theorem rn_L_save {l : Launch} {sc : Nat × (Nat → Int32)} {d : Nat} {P : am_P} (n : Nat) {pc : Nat} {ls : am_L} {st : List am_V} {kc ks : Nat} {G : am_G} {I : am_I} {J : am_J} (h : am_go (am_lk (co_L_save l d)) (am_X l sc (d + 1) y_L_save P) P n pc ls st kc ks G I J) : am_X l sc (d + 1) y_L_save P pc ls st kc ks G I J := am_run (ok_lk _ (ck_L_save)) n _ _ _ _ _ _ _ _ h
theorem hh_L_restore : ∀ (e : Nat) (k : Int64), am_fnd [(3, (-9000000000000000001)), (2, (-9000000000000000003))] e = some k → am_hd y_L_restore 2 e k := by
  intro e k h
  by_cases h3 : e = 3
  · subst h3
    have hk : ((-9000000000000000001) : Int64) = k := Option.some.inj h
    subst hk
    exact ⟨[], (0, 6, 7, 34), [(0, 6, 12, 19)], rfl, by decide, by decide, w_445, w_455, fa_nil, ⟨1, Or.inl ⟨2, by decide +kernel, rfl, by decide +kernel⟩, ⟨36, by decide +kernel, w_474⟩, by decide +kernel⟩, rfl⟩
  by_cases h2 : e = 2
  · subst h2
    have hk : ((-9000000000000000003) : Int64) = k := Option.some.inj h
    subst hk
    exact ⟨[(0, 6, 7, 34)], (0, 6, 12, 19), [], rfl, by decide, by decide, w_283, w_360, fa_cons ⟨by decide, 3, w_445, by decide +kernel⟩ (fa_nil), ⟨1, Or.inl ⟨2, by decide +kernel, rfl, by decide +kernel⟩, ⟨21, by decide +kernel, w_441⟩, by decide +kernel⟩, rfl⟩
  simp [am_fnd, h3, h2] at h
def co_L_restore (l : Launch) (d : Nat) : List (Nat × am_S) := [(0, am_aload 0 1), (1, am_iload 1 2), (2, am_calH l d y_P_restore (some 0) 2 [(3, (-9000000000000000001)), (2, (-9000000000000000003))] 5 2 12 2 12), (5, am_i2l 6), (6, am_lret)]
theorem ck_L_restore {l : Launch} {sc : Nat × (Nat → Int32)} {d : Nat} : ∀ q ∈ co_L_restore l d, am_ok l sc (d + 1) y_L_restore q.1 q.2 :=
  fa_cons (ok_aload_n (show decode (am_mB y_L_restore) 0 = .ok (.aload_n 0, 1) by decide +kernel) rfl) <|
  fa_cons (ok_iload_n (show decode (am_mB y_L_restore) 1 = .ok (.iload_n 1, 1) by decide +kernel) rfl) <|
  fa_cons (ok_calH ⟨rfl, rfl, rfl, rfl⟩ (ok_callH (show decode (am_mB y_L_restore) 2 = .ok (.invokevirtual 106, 3) by decide +kernel) cf_P_restore (by decide +kernel) w_478 ci_P_restore cv_P_restore ⟨by decide, rfl⟩ rfl (by decide +kernel) (Or.inl (by decide +kernel)) hh_L_restore)) <|
  fa_cons (ok_i2l (show decode (am_mB y_L_restore) 5 = .ok (.i2l, 1) by decide +kernel)) <|
  fa_cons (ok_lret (show decode (am_mB y_L_restore) 6 = .ok (.lreturn, 1) by decide +kernel) rfl (by decide +kernel)) <|
  fa_nil
set_option maxRecDepth 100000 in
theorem cq_L_restore (l : Launch) (d : Nat) : am_lk (co_L_restore l d) 0 = am_aload 0 1 ∧ am_lk (co_L_restore l d) 1 = am_iload 1 2 ∧ am_lk (co_L_restore l d) 2 = am_calH l d y_P_restore (some 0) 2 [(3, (-9000000000000000001)), (2, (-9000000000000000003))] 5 2 12 2 12 ∧ am_lk (co_L_restore l d) 5 = am_i2l 6 ∧ am_lk (co_L_restore l d) 6 = am_lret := ⟨rfl, rfl, rfl, rfl, rfl⟩
theorem en_L_restore {l : Launch} {d : Nat} (n : Nat) {as : List am_V} {G : am_G} {I : am_I} {J : am_J} {P : am_P} (hlen : (as.map am_cat).sum ≤ 3) (h : am_go (am_lk (co_L_restore l d)) (am_X l (0, fun _ => 0) (d + 1) y_L_restore P) P n 0 (am_el 3 as) [] 0 0 G I J) : am_T l (d + 1) y_L_restore as G I J P :=
  am_T_of (sc := (0, fun _ => 0)) cf_L_restore (by decide +kernel) (by decide) (by decide +kernel) hlen (am_run (ok_lk _ (ck_L_restore)) n _ _ _ _ _ _ _ _ h)
theorem rn_L_restore {l : Launch} {sc : Nat × (Nat → Int32)} {d : Nat} {P : am_P} (n : Nat) {pc : Nat} {ls : am_L} {st : List am_V} {kc ks : Nat} {G : am_G} {I : am_I} {J : am_J} (h : am_go (am_lk (co_L_restore l d)) (am_X l sc (d + 1) y_L_restore P) P n pc ls st kc ks G I J) : am_X l sc (d + 1) y_L_restore P pc ls st kc ks G I J := am_run (ok_lk _ (ck_L_restore)) n _ _ _ _ _ _ _ _ h
def co_L_o (l : Launch) (d : Nat) : List (Nat × am_S) := [(0, am_aload 0 1), (1, am_cal l d y_P_evenest (some 0) 1 4 0 0 0 0), (4, am_i2l 5), (5, am_lret)]
theorem ck_L_o {l : Launch} {sc : Nat × (Nat → Int32)} {d : Nat} : ∀ q ∈ co_L_o l d, am_ok l sc (d + 1) y_L_o q.1 q.2 :=
  fa_cons (ok_aload_n (show decode (am_mB y_L_o) 0 = .ok (.aload_n 0, 1) by decide +kernel) rfl) <|
  fa_cons (ok_cal ⟨rfl, rfl, rfl, rfl⟩ (ok_callV (show decode (am_mB y_L_o) 1 = .ok (.invokevirtual 198, 3) by decide +kernel) cf_P_evenest (by decide +kernel) ml_L_198 ci_P_evenest cv_P_evenest ⟨by decide, rfl⟩ rfl ⟨by decide +kernel, rfl⟩ (Or.inl (by decide +kernel)))) <|
  fa_cons (ok_i2l (show decode (am_mB y_L_o) 4 = .ok (.i2l, 1) by decide +kernel)) <|
  fa_cons (ok_lret (show decode (am_mB y_L_o) 5 = .ok (.lreturn, 1) by decide +kernel) rfl (by decide +kernel)) <|
  fa_nil
set_option maxRecDepth 100000 in
theorem cq_L_o (l : Launch) (d : Nat) : am_lk (co_L_o l d) 0 = am_aload 0 1 ∧ am_lk (co_L_o l d) 1 = am_cal l d y_P_evenest (some 0) 1 4 0 0 0 0 ∧ am_lk (co_L_o l d) 4 = am_i2l 5 ∧ am_lk (co_L_o l d) 5 = am_lret := ⟨rfl, rfl, rfl, rfl⟩
theorem en_L_o {l : Launch} {d : Nat} (n : Nat) {as : List am_V} {G : am_G} {I : am_I} {J : am_J} {P : am_P} (hlen : (as.map am_cat).sum ≤ 1) (h : am_go (am_lk (co_L_o l d)) (am_X l (0, fun _ => 0) (d + 1) y_L_o P) P n 0 (am_el 1 as) [] 0 0 G I J) : am_T l (d + 1) y_L_o as G I J P :=
  am_T_of (sc := (0, fun _ => 0)) cf_L_o (by decide +kernel) (by decide) (by decide +kernel) hlen (am_run (ok_lk _ (ck_L_o)) n _ _ _ _ _ _ _ _ h)
theorem rn_L_o {l : Launch} {sc : Nat × (Nat → Int32)} {d : Nat} {P : am_P} (n : Nat) {pc : Nat} {ls : am_L} {st : List am_V} {kc ks : Nat} {G : am_G} {I : am_I} {J : am_J} (h : am_go (am_lk (co_L_o l d)) (am_X l sc (d + 1) y_L_o P) P n pc ls st kc ks G I J) : am_X l sc (d + 1) y_L_o P pc ls st kc ks G I J := am_run (ok_lk _ (ck_L_o)) n _ _ _ _ _ _ _ _ h
def co_L_says (l : Launch) (d : Nat) : List (Nat × am_S) := [(0, am_aload 0 1), (1, am_iload 1 2), (2, am_cal l d y_L_append none 2 5 1 6 1 6), (5, am_push (vL 0) 6), (6, am_lcmp 7), (7, am_if_le 10 14), (10, am_push (vI 1) 11), (11, am_goto 15), (14, am_push (vI 0) 15), (15, am_iret true)]
theorem ck_L_says {l : Launch} {sc : Nat × (Nat → Int32)} {d : Nat} : ∀ q ∈ co_L_says l d, am_ok l sc (d + 1) y_L_says q.1 q.2 :=
  fa_cons (ok_aload_n (show decode (am_mB y_L_says) 0 = .ok (.aload_n 0, 1) by decide +kernel) rfl) <|
  fa_cons (ok_iload_n (show decode (am_mB y_L_says) 1 = .ok (.iload_n 1, 1) by decide +kernel) rfl) <|
  fa_cons (ok_cal ⟨rfl, rfl, rfl, rfl⟩ (ok_callSX (show decode (am_mB y_L_says) 2 = .ok (.invokestatic 177, 3) by decide +kernel) cf_L_append rfl w_935 cs_L_append rfl ⟨by decide +kernel, rfl⟩ (Or.inl (by decide +kernel)))) <|
  fa_cons (ok_lconst (show decode (am_mB y_L_says) 5 = .ok (.lconst 0, 1) by decide +kernel) rfl) <|
  fa_cons (ok_lcmp (show decode (am_mB y_L_says) 6 = .ok (.lcmp, 1) by decide +kernel)) <|
  fa_cons (ok_if_le (show decode (am_mB y_L_says) 7 = .ok (.ifCond .le 7, 3) by decide +kernel) (by decide)) <|
  fa_cons (ok_iconst (show decode (am_mB y_L_says) 10 = .ok (.iconst 1, 1) by decide +kernel) rfl) <|
  fa_cons (ok_goto (show decode (am_mB y_L_says) 11 = .ok (.goto 4, 3) by decide +kernel) (by decide)) <|
  fa_cons (ok_iconst (show decode (am_mB y_L_says) 14 = .ok (.iconst 0, 1) by decide +kernel) rfl) <|
  fa_cons (ok_iret (show decode (am_mB y_L_says) 15 = .ok (.ireturn, 1) by decide +kernel) rfl) <|
  fa_nil
set_option maxRecDepth 100000 in
theorem cq_L_says (l : Launch) (d : Nat) : am_lk (co_L_says l d) 0 = am_aload 0 1 ∧ am_lk (co_L_says l d) 1 = am_iload 1 2 ∧ am_lk (co_L_says l d) 2 = am_cal l d y_L_append none 2 5 1 6 1 6 ∧ am_lk (co_L_says l d) 5 = am_push (vL 0) 6 ∧ am_lk (co_L_says l d) 6 = am_lcmp 7 ∧ am_lk (co_L_says l d) 7 = am_if_le 10 14 ∧ am_lk (co_L_says l d) 10 = am_push (vI 1) 11 ∧ am_lk (co_L_says l d) 11 = am_goto 15 ∧ am_lk (co_L_says l d) 14 = am_push (vI 0) 15 ∧ am_lk (co_L_says l d) 15 = am_iret true := ⟨rfl, rfl, rfl, rfl, rfl, rfl, rfl, rfl, rfl, rfl⟩
theorem en_L_says {l : Launch} {d : Nat} (n : Nat) {as : List am_V} {G : am_G} {I : am_I} {J : am_J} {P : am_P} (hlen : (as.map am_cat).sum ≤ 2) (h : am_go (am_lk (co_L_says l d)) (am_X l (0, fun _ => 0) (d + 1) y_L_says P) P n 0 (am_el 2 as) [] 0 0 G I J) : am_T l (d + 1) y_L_says as G I J P :=
  am_T_of (sc := (0, fun _ => 0)) cf_L_says (by decide +kernel) (by decide) (by decide +kernel) hlen (am_run (ok_lk _ (ck_L_says)) n _ _ _ _ _ _ _ _ h)
theorem rn_L_says {l : Launch} {sc : Nat × (Nat → Int32)} {d : Nat} {P : am_P} (n : Nat) {pc : Nat} {ls : am_L} {st : List am_V} {kc ks : Nat} {G : am_G} {I : am_I} {J : am_J} (h : am_go (am_lk (co_L_says l d)) (am_X l sc (d + 1) y_L_says P) P n pc ls st kc ks G I J) : am_X l sc (d + 1) y_L_says P pc ls st kc ks G I J := am_run (ok_lk _ (ck_L_says)) n _ _ _ _ _ _ _ _ h
