/-! written by wip/whole/gen.py: the code of Hlp -/
theorem hh_L_append : ∀ (e : Nat) (k : Int32), am_fnd [(1, 1), (2, 2)] e = some k → am_hd y_L_append 4 e k := by
  intro e k h
  by_cases h1 : e = 1
  · subst h1
    have hk : (1 : Int32) = k := Option.some.inj h
    subst hk
    exact ⟨[], (0, 9, 12, 13), [(0, 9, 15, 15)], rfl, by decide, by decide, w_399, w_407, fa_nil, ⟨1, Or.inl ⟨3, by decide +kernel, rfl, by decide +kernel⟩, ⟨1, by decide +kernel, rfl⟩, by decide +kernel⟩, rfl⟩
  by_cases h2 : e = 2
  · subst h2
    have hk : (2 : Int32) = k := Option.some.inj h
    subst hk
    exact ⟨[(0, 9, 12, 13)], (0, 9, 15, 15), [], rfl, by decide, by decide, w_400, w_479, fa_cons ⟨by decide, 1, w_399, by decide +kernel⟩ (fa_nil), ⟨1, Or.inl ⟨3, by decide +kernel, rfl, by decide +kernel⟩, ⟨2, by decide +kernel, rfl⟩, by decide +kernel⟩, rfl⟩
  simp [am_fnd, h1, h2] at h
def co_L_append (l : Launch) (d : Nat) : List (Nat × am_S) := [(0, am_aload 2 1), (1, am_push (vI 0) 2), (2, am_aload 0 3), (3, am_iload 1 4), (4, am_calH l d y_P_append (some 0) 2 [(1, 1), (2, 2)] 7 1 6 1 6), (7, am_i2l 8), (8, am_last 9), (9, am_goto 18), (18, am_push (vI 0) 19), (19, am_iret false)]
theorem ck_L_append {l : Launch} {sc : Nat × (Nat → Int32)} {d : Nat} : ∀ q ∈ co_L_append l d, am_ok l sc (d + 1) y_L_append q.1 q.2 :=
  fa_cons (ok_aload_n (show decode (am_mB y_L_append) 0 = .ok (.aload_n 2, 1) by decide +kernel) rfl) <|
  fa_cons (ok_iconst (show decode (am_mB y_L_append) 1 = .ok (.iconst 0, 1) by decide +kernel) rfl) <|
  fa_cons (ok_aload_n (show decode (am_mB y_L_append) 2 = .ok (.aload_n 0, 1) by decide +kernel) rfl) <|
  fa_cons (ok_iload_n (show decode (am_mB y_L_append) 3 = .ok (.iload_n 1, 1) by decide +kernel) rfl) <|
  fa_cons (ok_calH ⟨rfl, rfl, rfl, rfl⟩ (ok_callH (show decode (am_mB y_L_append) 4 = .ok (.invokevirtual 7, 3) by decide +kernel) cf_P_append (by decide +kernel) w_401 ci_P_append cv_P_append ⟨by decide, rfl⟩ rfl (by decide +kernel) hh_L_append)) <|
  fa_cons (ok_i2l (show decode (am_mB y_L_append) 7 = .ok (.i2l, 1) by decide +kernel)) <|
  fa_cons (ok_last (show decode (am_mB y_L_append) 8 = .ok (.lastore, 1) by decide +kernel)) <|
  fa_cons (ok_goto (show decode (am_mB y_L_append) 9 = .ok (.goto 9, 3) by decide +kernel) (by decide)) <|
  fa_cons (ok_iconst (show decode (am_mB y_L_append) 18 = .ok (.iconst 0, 1) by decide +kernel) rfl) <|
  fa_cons (ok_iret (show decode (am_mB y_L_append) 19 = .ok (.ireturn, 1) by decide +kernel) rfl) <|
  fa_nil
set_option maxRecDepth 100000 in
theorem cq_L_append (l : Launch) (d : Nat) : am_lk (co_L_append l d) 0 = am_aload 2 1 ∧ am_lk (co_L_append l d) 1 = am_push (vI 0) 2 ∧ am_lk (co_L_append l d) 2 = am_aload 0 3 ∧ am_lk (co_L_append l d) 3 = am_iload 1 4 ∧ am_lk (co_L_append l d) 4 = am_calH l d y_P_append (some 0) 2 [(1, 1), (2, 2)] 7 1 6 1 6 ∧ am_lk (co_L_append l d) 7 = am_i2l 8 ∧ am_lk (co_L_append l d) 8 = am_last 9 ∧ am_lk (co_L_append l d) 9 = am_goto 18 ∧ am_lk (co_L_append l d) 18 = am_push (vI 0) 19 ∧ am_lk (co_L_append l d) 19 = am_iret false := ⟨rfl, rfl, rfl, rfl, rfl, rfl, rfl, rfl, rfl, rfl⟩
theorem en_L_append {l : Launch} {d : Nat} (n : Nat) {as : List am_V} {G : am_G} {I : am_I} {J : am_J} {P : am_P} (hlen : (as.map am_cat).sum ≤ 4) (h : am_go (am_lk (co_L_append l d)) (am_X l (0, fun _ => 0) (d + 1) y_L_append P) P n 0 (am_el 4 as) [] 0 0 G I J) : am_T l (d + 1) y_L_append as G I J P :=
  am_T_of (sc := (0, fun _ => 0)) cf_L_append (by decide +kernel) (by decide) (by decide +kernel) hlen (am_run (ok_lk _ (ck_L_append)) n _ _ _ _ _ _ _ _ h)
theorem rn_L_append {l : Launch} {sc : Nat × (Nat → Int32)} {d : Nat} {P : am_P} (n : Nat) {pc : Nat} {ls : am_L} {st : List am_V} {kc ks : Nat} {G : am_G} {I : am_I} {J : am_J} (h : am_go (am_lk (co_L_append l d)) (am_X l sc (d + 1) y_L_append P) P n pc ls st kc ks G I J) : am_X l sc (d + 1) y_L_append P pc ls st kc ks G I J := am_run (ok_lk _ (ck_L_append)) n _ _ _ _ _ _ _ _ h
theorem hh_L_load : ∀ (e : Nat) (k : Int32), am_fnd [(2, 1)] e = some k → am_hd y_L_load 3 e k := by
  intro e k h
  by_cases h2 : e = 2
  · subst h2
    have hk : (1 : Int32) = k := Option.some.inj h
    subst hk
    exact ⟨[], (0, 8, 11, 15), [], rfl, by decide, by decide, w_400, w_479, fa_nil, ⟨1, Or.inl ⟨2, by decide +kernel, rfl, by decide +kernel⟩, ⟨1, by decide +kernel, rfl⟩, by decide +kernel⟩, rfl⟩
  simp [am_fnd, h2] at h
def co_L_load (l : Launch) (d : Nat) : List (Nat × am_S) := [(0, am_aload 1 1), (1, am_push (vI 0) 2), (2, am_aload 0 3), (3, am_calH l d y_P_load (some 0) 1 [(2, 1)] 6 1 6 1 6), (6, am_i2l 7), (7, am_last 8), (8, am_goto 14), (14, am_push (vI 0) 15), (15, am_iret false)]
theorem ck_L_load {l : Launch} {sc : Nat × (Nat → Int32)} {d : Nat} : ∀ q ∈ co_L_load l d, am_ok l sc (d + 1) y_L_load q.1 q.2 :=
  fa_cons (ok_aload_n (show decode (am_mB y_L_load) 0 = .ok (.aload_n 1, 1) by decide +kernel) rfl) <|
  fa_cons (ok_iconst (show decode (am_mB y_L_load) 1 = .ok (.iconst 0, 1) by decide +kernel) rfl) <|
  fa_cons (ok_aload_n (show decode (am_mB y_L_load) 2 = .ok (.aload_n 0, 1) by decide +kernel) rfl) <|
  fa_cons (ok_calH ⟨rfl, rfl, rfl, rfl⟩ (ok_callH (show decode (am_mB y_L_load) 3 = .ok (.invokevirtual 17, 3) by decide +kernel) cf_P_load (by decide +kernel) w_500 ci_P_load cv_P_load ⟨by decide, rfl⟩ rfl (by decide +kernel) hh_L_load)) <|
  fa_cons (ok_i2l (show decode (am_mB y_L_load) 6 = .ok (.i2l, 1) by decide +kernel)) <|
  fa_cons (ok_last (show decode (am_mB y_L_load) 7 = .ok (.lastore, 1) by decide +kernel)) <|
  fa_cons (ok_goto (show decode (am_mB y_L_load) 8 = .ok (.goto 6, 3) by decide +kernel) (by decide)) <|
  fa_cons (ok_iconst (show decode (am_mB y_L_load) 14 = .ok (.iconst 0, 1) by decide +kernel) rfl) <|
  fa_cons (ok_iret (show decode (am_mB y_L_load) 15 = .ok (.ireturn, 1) by decide +kernel) rfl) <|
  fa_nil
set_option maxRecDepth 100000 in
theorem cq_L_load (l : Launch) (d : Nat) : am_lk (co_L_load l d) 0 = am_aload 1 1 ∧ am_lk (co_L_load l d) 1 = am_push (vI 0) 2 ∧ am_lk (co_L_load l d) 2 = am_aload 0 3 ∧ am_lk (co_L_load l d) 3 = am_calH l d y_P_load (some 0) 1 [(2, 1)] 6 1 6 1 6 ∧ am_lk (co_L_load l d) 6 = am_i2l 7 ∧ am_lk (co_L_load l d) 7 = am_last 8 ∧ am_lk (co_L_load l d) 8 = am_goto 14 ∧ am_lk (co_L_load l d) 14 = am_push (vI 0) 15 ∧ am_lk (co_L_load l d) 15 = am_iret false := ⟨rfl, rfl, rfl, rfl, rfl, rfl, rfl, rfl, rfl⟩
theorem en_L_load {l : Launch} {d : Nat} (n : Nat) {as : List am_V} {G : am_G} {I : am_I} {J : am_J} {P : am_P} (hlen : (as.map am_cat).sum ≤ 3) (h : am_go (am_lk (co_L_load l d)) (am_X l (0, fun _ => 0) (d + 1) y_L_load P) P n 0 (am_el 3 as) [] 0 0 G I J) : am_T l (d + 1) y_L_load as G I J P :=
  am_T_of (sc := (0, fun _ => 0)) cf_L_load (by decide +kernel) (by decide) (by decide +kernel) hlen (am_run (ok_lk _ (ck_L_load)) n _ _ _ _ _ _ _ _ h)
theorem rn_L_load {l : Launch} {sc : Nat × (Nat → Int32)} {d : Nat} {P : am_P} (n : Nat) {pc : Nat} {ls : am_L} {st : List am_V} {kc ks : Nat} {G : am_G} {I : am_I} {J : am_J} (h : am_go (am_lk (co_L_load l d)) (am_X l sc (d + 1) y_L_load P) P n pc ls st kc ks G I J) : am_X l sc (d + 1) y_L_load P pc ls st kc ks G I J := am_run (ok_lk _ (ck_L_load)) n _ _ _ _ _ _ _ _ h
theorem hh_L_about : ∀ (e : Nat) (k : Int32), am_fnd [(1, 1)] e = some k → am_hd y_L_about 4 e k := by
  intro e k h
  by_cases h1 : e = 1
  · subst h1
    have hk : (1 : Int32) = k := Option.some.inj h
    subst hk
    exact ⟨[], (0, 9, 12, 13), [], rfl, by decide, by decide, w_399, w_407, fa_nil, ⟨1, Or.inl ⟨3, by decide +kernel, rfl, by decide +kernel⟩, ⟨1, by decide +kernel, rfl⟩, by decide +kernel⟩, rfl⟩
  simp [am_fnd, h1] at h
def co_L_about (l : Launch) (d : Nat) : List (Nat × am_S) := [(0, am_aload 2 1), (1, am_push (vI 0) 2), (2, am_aload 0 3), (3, am_iload 1 4), (4, am_calH l d y_P_about (some 0) 2 [(1, 1)] 7 1 6 1 6), (7, am_i2l 8), (8, am_last 9), (9, am_goto 15), (15, am_push (vI 0) 16), (16, am_iret false)]
theorem ck_L_about {l : Launch} {sc : Nat × (Nat → Int32)} {d : Nat} : ∀ q ∈ co_L_about l d, am_ok l sc (d + 1) y_L_about q.1 q.2 :=
  fa_cons (ok_aload_n (show decode (am_mB y_L_about) 0 = .ok (.aload_n 2, 1) by decide +kernel) rfl) <|
  fa_cons (ok_iconst (show decode (am_mB y_L_about) 1 = .ok (.iconst 0, 1) by decide +kernel) rfl) <|
  fa_cons (ok_aload_n (show decode (am_mB y_L_about) 2 = .ok (.aload_n 0, 1) by decide +kernel) rfl) <|
  fa_cons (ok_iload_n (show decode (am_mB y_L_about) 3 = .ok (.iload_n 1, 1) by decide +kernel) rfl) <|
  fa_cons (ok_calH ⟨rfl, rfl, rfl, rfl⟩ (ok_callH (show decode (am_mB y_L_about) 4 = .ok (.invokevirtual 21, 3) by decide +kernel) cf_P_about (by decide +kernel) w_524 ci_P_about cv_P_about ⟨by decide, rfl⟩ rfl (by decide +kernel) hh_L_about)) <|
  fa_cons (ok_i2l (show decode (am_mB y_L_about) 7 = .ok (.i2l, 1) by decide +kernel)) <|
  fa_cons (ok_last (show decode (am_mB y_L_about) 8 = .ok (.lastore, 1) by decide +kernel)) <|
  fa_cons (ok_goto (show decode (am_mB y_L_about) 9 = .ok (.goto 6, 3) by decide +kernel) (by decide)) <|
  fa_cons (ok_iconst (show decode (am_mB y_L_about) 15 = .ok (.iconst 0, 1) by decide +kernel) rfl) <|
  fa_cons (ok_iret (show decode (am_mB y_L_about) 16 = .ok (.ireturn, 1) by decide +kernel) rfl) <|
  fa_nil
set_option maxRecDepth 100000 in
theorem cq_L_about (l : Launch) (d : Nat) : am_lk (co_L_about l d) 0 = am_aload 2 1 ∧ am_lk (co_L_about l d) 1 = am_push (vI 0) 2 ∧ am_lk (co_L_about l d) 2 = am_aload 0 3 ∧ am_lk (co_L_about l d) 3 = am_iload 1 4 ∧ am_lk (co_L_about l d) 4 = am_calH l d y_P_about (some 0) 2 [(1, 1)] 7 1 6 1 6 ∧ am_lk (co_L_about l d) 7 = am_i2l 8 ∧ am_lk (co_L_about l d) 8 = am_last 9 ∧ am_lk (co_L_about l d) 9 = am_goto 15 ∧ am_lk (co_L_about l d) 15 = am_push (vI 0) 16 ∧ am_lk (co_L_about l d) 16 = am_iret false := ⟨rfl, rfl, rfl, rfl, rfl, rfl, rfl, rfl, rfl, rfl⟩
theorem en_L_about {l : Launch} {d : Nat} (n : Nat) {as : List am_V} {G : am_G} {I : am_I} {J : am_J} {P : am_P} (hlen : (as.map am_cat).sum ≤ 4) (h : am_go (am_lk (co_L_about l d)) (am_X l (0, fun _ => 0) (d + 1) y_L_about P) P n 0 (am_el 4 as) [] 0 0 G I J) : am_T l (d + 1) y_L_about as G I J P :=
  am_T_of (sc := (0, fun _ => 0)) cf_L_about (by decide +kernel) (by decide) (by decide +kernel) hlen (am_run (ok_lk _ (ck_L_about)) n _ _ _ _ _ _ _ _ h)
theorem rn_L_about {l : Launch} {sc : Nat × (Nat → Int32)} {d : Nat} {P : am_P} (n : Nat) {pc : Nat} {ls : am_L} {st : List am_V} {kc ks : Nat} {G : am_G} {I : am_I} {J : am_J} (h : am_go (am_lk (co_L_about l d)) (am_X l sc (d + 1) y_L_about P) P n pc ls st kc ks G I J) : am_X l sc (d + 1) y_L_about P pc ls st kc ks G I J := am_run (ok_lk _ (ck_L_about)) n _ _ _ _ _ _ _ _ h
theorem hh_L_row : ∀ (e : Nat) (k : Int32), am_fnd [(3, 1), (1, 2)] e = some k → am_hd y_L_row 5 e k := by
  intro e k h
  by_cases h3 : e = 3
  · subst h3
    have hk : (1 : Int32) = k := Option.some.inj h
    subst hk
    exact ⟨[], (0, 10, 13, 28), [(0, 10, 17, 13)], rfl, by decide, by decide, w_569, w_584, fa_nil, ⟨2, Or.inr ⟨4, by decide +kernel, rfl, by decide +kernel⟩, ⟨1, by decide +kernel, rfl⟩, by decide +kernel⟩, rfl⟩
  by_cases h1 : e = 1
  · subst h1
    have hk : (2 : Int32) = k := Option.some.inj h
    subst hk
    exact ⟨[(0, 10, 13, 28)], (0, 10, 17, 13), [], rfl, by decide, by decide, w_399, w_407, fa_cons ⟨by decide, 3, w_569, by decide +kernel⟩ (fa_nil), ⟨2, Or.inr ⟨4, by decide +kernel, rfl, by decide +kernel⟩, ⟨2, by decide +kernel, rfl⟩, by decide +kernel⟩, rfl⟩
  simp [am_fnd, h3, h1] at h
def co_L_row (l : Launch) (d : Nat) : List (Nat × am_S) := [(0, am_aload 3 1), (1, am_push (vI 0) 2), (2, am_aload 0 3), (3, am_iload 1 4), (4, am_iload 2 5), (5, am_calH l d y_P_row (some 0) 3 [(3, 1), (1, 2)] 8 2 12 2 12), (8, am_i2l 9), (9, am_last 10), (10, am_goto 21), (21, am_push (vI 0) 22), (22, am_iret false)]
theorem ck_L_row {l : Launch} {sc : Nat × (Nat → Int32)} {d : Nat} : ∀ q ∈ co_L_row l d, am_ok l sc (d + 1) y_L_row q.1 q.2 :=
  fa_cons (ok_aload_n (show decode (am_mB y_L_row) 0 = .ok (.aload_n 3, 1) by decide +kernel) rfl) <|
  fa_cons (ok_iconst (show decode (am_mB y_L_row) 1 = .ok (.iconst 0, 1) by decide +kernel) rfl) <|
  fa_cons (ok_aload_n (show decode (am_mB y_L_row) 2 = .ok (.aload_n 0, 1) by decide +kernel) rfl) <|
  fa_cons (ok_iload_n (show decode (am_mB y_L_row) 3 = .ok (.iload_n 1, 1) by decide +kernel) rfl) <|
  fa_cons (ok_iload_n (show decode (am_mB y_L_row) 4 = .ok (.iload_n 2, 1) by decide +kernel) rfl) <|
  fa_cons (ok_calH ⟨rfl, rfl, rfl, rfl⟩ (ok_callH (show decode (am_mB y_L_row) 5 = .ok (.invokevirtual 24, 3) by decide +kernel) cf_P_row (by decide +kernel) w_570 ci_P_row cv_P_row ⟨by decide, rfl⟩ rfl (by decide +kernel) hh_L_row)) <|
  fa_cons (ok_i2l (show decode (am_mB y_L_row) 8 = .ok (.i2l, 1) by decide +kernel)) <|
  fa_cons (ok_last (show decode (am_mB y_L_row) 9 = .ok (.lastore, 1) by decide +kernel)) <|
  fa_cons (ok_goto (show decode (am_mB y_L_row) 10 = .ok (.goto 11, 3) by decide +kernel) (by decide)) <|
  fa_cons (ok_iconst (show decode (am_mB y_L_row) 21 = .ok (.iconst 0, 1) by decide +kernel) rfl) <|
  fa_cons (ok_iret (show decode (am_mB y_L_row) 22 = .ok (.ireturn, 1) by decide +kernel) rfl) <|
  fa_nil
set_option maxRecDepth 100000 in
theorem cq_L_row (l : Launch) (d : Nat) : am_lk (co_L_row l d) 0 = am_aload 3 1 ∧ am_lk (co_L_row l d) 1 = am_push (vI 0) 2 ∧ am_lk (co_L_row l d) 2 = am_aload 0 3 ∧ am_lk (co_L_row l d) 3 = am_iload 1 4 ∧ am_lk (co_L_row l d) 4 = am_iload 2 5 ∧ am_lk (co_L_row l d) 5 = am_calH l d y_P_row (some 0) 3 [(3, 1), (1, 2)] 8 2 12 2 12 ∧ am_lk (co_L_row l d) 8 = am_i2l 9 ∧ am_lk (co_L_row l d) 9 = am_last 10 ∧ am_lk (co_L_row l d) 10 = am_goto 21 ∧ am_lk (co_L_row l d) 21 = am_push (vI 0) 22 ∧ am_lk (co_L_row l d) 22 = am_iret false := ⟨rfl, rfl, rfl, rfl, rfl, rfl, rfl, rfl, rfl, rfl, rfl⟩
theorem en_L_row {l : Launch} {d : Nat} (n : Nat) {as : List am_V} {G : am_G} {I : am_I} {J : am_J} {P : am_P} (hlen : (as.map am_cat).sum ≤ 5) (h : am_go (am_lk (co_L_row l d)) (am_X l (0, fun _ => 0) (d + 1) y_L_row P) P n 0 (am_el 5 as) [] 0 0 G I J) : am_T l (d + 1) y_L_row as G I J P :=
  am_T_of (sc := (0, fun _ => 0)) cf_L_row (by decide +kernel) (by decide) (by decide +kernel) hlen (am_run (ok_lk _ (ck_L_row)) n _ _ _ _ _ _ _ _ h)
theorem rn_L_row {l : Launch} {sc : Nat × (Nat → Int32)} {d : Nat} {P : am_P} (n : Nat) {pc : Nat} {ls : am_L} {st : List am_V} {kc ks : Nat} {G : am_G} {I : am_I} {J : am_J} (h : am_go (am_lk (co_L_row l d)) (am_X l sc (d + 1) y_L_row P) P n pc ls st kc ks G I J) : am_X l sc (d + 1) y_L_row P pc ls st kc ks G I J := am_run (ok_lk _ (ck_L_row)) n _ _ _ _ _ _ _ _ h
theorem hh_L_amount : ∀ (e : Nat) (k : Int32), am_fnd [(3, 1)] e = some k → am_hd y_L_amount 5 e k := by
  intro e k h
  by_cases h3 : e = 3
  · subst h3
    have hk : (1 : Int32) = k := Option.some.inj h
    subst hk
    exact ⟨[], (0, 10, 13, 28), [], rfl, by decide, by decide, w_569, w_584, fa_nil, ⟨2, Or.inr ⟨4, by decide +kernel, rfl, by decide +kernel⟩, ⟨1, by decide +kernel, rfl⟩, by decide +kernel⟩, rfl⟩
  simp [am_fnd, h3] at h
def co_L_amount (l : Launch) (d : Nat) : List (Nat × am_S) := [(0, am_aload 3 1), (1, am_push (vI 0) 2), (2, am_aload 0 3), (3, am_iload 1 4), (4, am_iload 2 5), (5, am_calH l d y_P_amount (some 0) 3 [(3, 1)] 8 2 12 2 12), (8, am_i2l 9), (9, am_last 10), (10, am_goto 17), (17, am_push (vI 0) 18), (18, am_iret false)]
theorem ck_L_amount {l : Launch} {sc : Nat × (Nat → Int32)} {d : Nat} : ∀ q ∈ co_L_amount l d, am_ok l sc (d + 1) y_L_amount q.1 q.2 :=
  fa_cons (ok_aload_n (show decode (am_mB y_L_amount) 0 = .ok (.aload_n 3, 1) by decide +kernel) rfl) <|
  fa_cons (ok_iconst (show decode (am_mB y_L_amount) 1 = .ok (.iconst 0, 1) by decide +kernel) rfl) <|
  fa_cons (ok_aload_n (show decode (am_mB y_L_amount) 2 = .ok (.aload_n 0, 1) by decide +kernel) rfl) <|
  fa_cons (ok_iload_n (show decode (am_mB y_L_amount) 3 = .ok (.iload_n 1, 1) by decide +kernel) rfl) <|
  fa_cons (ok_iload_n (show decode (am_mB y_L_amount) 4 = .ok (.iload_n 2, 1) by decide +kernel) rfl) <|
  fa_cons (ok_calH ⟨rfl, rfl, rfl, rfl⟩ (ok_callH (show decode (am_mB y_L_amount) 5 = .ok (.invokevirtual 30, 3) by decide +kernel) cf_P_amount (by decide +kernel) w_605 ci_P_amount cv_P_amount ⟨by decide, rfl⟩ rfl (by decide +kernel) hh_L_amount)) <|
  fa_cons (ok_i2l (show decode (am_mB y_L_amount) 8 = .ok (.i2l, 1) by decide +kernel)) <|
  fa_cons (ok_last (show decode (am_mB y_L_amount) 9 = .ok (.lastore, 1) by decide +kernel)) <|
  fa_cons (ok_goto (show decode (am_mB y_L_amount) 10 = .ok (.goto 7, 3) by decide +kernel) (by decide)) <|
  fa_cons (ok_iconst (show decode (am_mB y_L_amount) 17 = .ok (.iconst 0, 1) by decide +kernel) rfl) <|
  fa_cons (ok_iret (show decode (am_mB y_L_amount) 18 = .ok (.ireturn, 1) by decide +kernel) rfl) <|
  fa_nil
set_option maxRecDepth 100000 in
theorem cq_L_amount (l : Launch) (d : Nat) : am_lk (co_L_amount l d) 0 = am_aload 3 1 ∧ am_lk (co_L_amount l d) 1 = am_push (vI 0) 2 ∧ am_lk (co_L_amount l d) 2 = am_aload 0 3 ∧ am_lk (co_L_amount l d) 3 = am_iload 1 4 ∧ am_lk (co_L_amount l d) 4 = am_iload 2 5 ∧ am_lk (co_L_amount l d) 5 = am_calH l d y_P_amount (some 0) 3 [(3, 1)] 8 2 12 2 12 ∧ am_lk (co_L_amount l d) 8 = am_i2l 9 ∧ am_lk (co_L_amount l d) 9 = am_last 10 ∧ am_lk (co_L_amount l d) 10 = am_goto 17 ∧ am_lk (co_L_amount l d) 17 = am_push (vI 0) 18 ∧ am_lk (co_L_amount l d) 18 = am_iret false := ⟨rfl, rfl, rfl, rfl, rfl, rfl, rfl, rfl, rfl, rfl, rfl⟩
theorem en_L_amount {l : Launch} {d : Nat} (n : Nat) {as : List am_V} {G : am_G} {I : am_I} {J : am_J} {P : am_P} (hlen : (as.map am_cat).sum ≤ 5) (h : am_go (am_lk (co_L_amount l d)) (am_X l (0, fun _ => 0) (d + 1) y_L_amount P) P n 0 (am_el 5 as) [] 0 0 G I J) : am_T l (d + 1) y_L_amount as G I J P :=
  am_T_of (sc := (0, fun _ => 0)) cf_L_amount (by decide +kernel) (by decide) (by decide +kernel) hlen (am_run (ok_lk _ (ck_L_amount)) n _ _ _ _ _ _ _ _ h)
theorem rn_L_amount {l : Launch} {sc : Nat × (Nat → Int32)} {d : Nat} {P : am_P} (n : Nat) {pc : Nat} {ls : am_L} {st : List am_V} {kc ks : Nat} {G : am_G} {I : am_I} {J : am_J} (h : am_go (am_lk (co_L_amount l d)) (am_X l sc (d + 1) y_L_amount P) P n pc ls st kc ks G I J) : am_X l sc (d + 1) y_L_amount P pc ls st kc ks G I J := am_run (ok_lk _ (ck_L_amount)) n _ _ _ _ _ _ _ _ h
theorem hh_L_span : ∀ (e : Nat) (k : Int32), am_fnd [(3, 1), (1, 2)] e = some k → am_hd y_L_span 5 e k := by
  intro e k h
  by_cases h3 : e = 3
  · subst h3
    have hk : (1 : Int32) = k := Option.some.inj h
    subst hk
    exact ⟨[], (0, 10, 13, 28), [(0, 10, 17, 13)], rfl, by decide, by decide, w_569, w_584, fa_nil, ⟨2, Or.inr ⟨4, by decide +kernel, rfl, by decide +kernel⟩, ⟨1, by decide +kernel, rfl⟩, by decide +kernel⟩, rfl⟩
  by_cases h1 : e = 1
  · subst h1
    have hk : (2 : Int32) = k := Option.some.inj h
    subst hk
    exact ⟨[(0, 10, 13, 28)], (0, 10, 17, 13), [], rfl, by decide, by decide, w_399, w_407, fa_cons ⟨by decide, 3, w_569, by decide +kernel⟩ (fa_nil), ⟨2, Or.inr ⟨4, by decide +kernel, rfl, by decide +kernel⟩, ⟨2, by decide +kernel, rfl⟩, by decide +kernel⟩, rfl⟩
  simp [am_fnd, h3, h1] at h
def co_L_span (l : Launch) (d : Nat) : List (Nat × am_S) := [(0, am_aload 3 1), (1, am_push (vI 0) 2), (2, am_aload 0 3), (3, am_iload 1 4), (4, am_iload 2 5), (5, am_calH l d y_P_span (some 0) 3 [(3, 1), (1, 2)] 8 2 12 2 12), (8, am_i2l 9), (9, am_last 10), (10, am_goto 21), (21, am_push (vI 0) 22), (22, am_iret false)]
theorem ck_L_span {l : Launch} {sc : Nat × (Nat → Int32)} {d : Nat} : ∀ q ∈ co_L_span l d, am_ok l sc (d + 1) y_L_span q.1 q.2 :=
  fa_cons (ok_aload_n (show decode (am_mB y_L_span) 0 = .ok (.aload_n 3, 1) by decide +kernel) rfl) <|
  fa_cons (ok_iconst (show decode (am_mB y_L_span) 1 = .ok (.iconst 0, 1) by decide +kernel) rfl) <|
  fa_cons (ok_aload_n (show decode (am_mB y_L_span) 2 = .ok (.aload_n 0, 1) by decide +kernel) rfl) <|
  fa_cons (ok_iload_n (show decode (am_mB y_L_span) 3 = .ok (.iload_n 1, 1) by decide +kernel) rfl) <|
  fa_cons (ok_iload_n (show decode (am_mB y_L_span) 4 = .ok (.iload_n 2, 1) by decide +kernel) rfl) <|
  fa_cons (ok_calH ⟨rfl, rfl, rfl, rfl⟩ (ok_callH (show decode (am_mB y_L_span) 5 = .ok (.invokevirtual 33, 3) by decide +kernel) cf_P_span (by decide +kernel) w_625 ci_P_span cv_P_span ⟨by decide, rfl⟩ rfl (by decide +kernel) hh_L_span)) <|
  fa_cons (ok_i2l (show decode (am_mB y_L_span) 8 = .ok (.i2l, 1) by decide +kernel)) <|
  fa_cons (ok_last (show decode (am_mB y_L_span) 9 = .ok (.lastore, 1) by decide +kernel)) <|
  fa_cons (ok_goto (show decode (am_mB y_L_span) 10 = .ok (.goto 11, 3) by decide +kernel) (by decide)) <|
  fa_cons (ok_iconst (show decode (am_mB y_L_span) 21 = .ok (.iconst 0, 1) by decide +kernel) rfl) <|
  fa_cons (ok_iret (show decode (am_mB y_L_span) 22 = .ok (.ireturn, 1) by decide +kernel) rfl) <|
  fa_nil
set_option maxRecDepth 100000 in
theorem cq_L_span (l : Launch) (d : Nat) : am_lk (co_L_span l d) 0 = am_aload 3 1 ∧ am_lk (co_L_span l d) 1 = am_push (vI 0) 2 ∧ am_lk (co_L_span l d) 2 = am_aload 0 3 ∧ am_lk (co_L_span l d) 3 = am_iload 1 4 ∧ am_lk (co_L_span l d) 4 = am_iload 2 5 ∧ am_lk (co_L_span l d) 5 = am_calH l d y_P_span (some 0) 3 [(3, 1), (1, 2)] 8 2 12 2 12 ∧ am_lk (co_L_span l d) 8 = am_i2l 9 ∧ am_lk (co_L_span l d) 9 = am_last 10 ∧ am_lk (co_L_span l d) 10 = am_goto 21 ∧ am_lk (co_L_span l d) 21 = am_push (vI 0) 22 ∧ am_lk (co_L_span l d) 22 = am_iret false := ⟨rfl, rfl, rfl, rfl, rfl, rfl, rfl, rfl, rfl, rfl, rfl⟩
theorem en_L_span {l : Launch} {d : Nat} (n : Nat) {as : List am_V} {G : am_G} {I : am_I} {J : am_J} {P : am_P} (hlen : (as.map am_cat).sum ≤ 5) (h : am_go (am_lk (co_L_span l d)) (am_X l (0, fun _ => 0) (d + 1) y_L_span P) P n 0 (am_el 5 as) [] 0 0 G I J) : am_T l (d + 1) y_L_span as G I J P :=
  am_T_of (sc := (0, fun _ => 0)) cf_L_span (by decide +kernel) (by decide) (by decide +kernel) hlen (am_run (ok_lk _ (ck_L_span)) n _ _ _ _ _ _ _ _ h)
theorem rn_L_span {l : Launch} {sc : Nat × (Nat → Int32)} {d : Nat} {P : am_P} (n : Nat) {pc : Nat} {ls : am_L} {st : List am_V} {kc ks : Nat} {G : am_G} {I : am_I} {J : am_J} (h : am_go (am_lk (co_L_span l d)) (am_X l sc (d + 1) y_L_span P) P n pc ls st kc ks G I J) : am_X l sc (d + 1) y_L_span P pc ls st kc ks G I J := am_run (ok_lk _ (ck_L_span)) n _ _ _ _ _ _ _ _ h
theorem hh_L_note : ∀ (e : Nat) (k : Int32), am_fnd [(1, 1)] e = some k → am_hd y_L_note 4 e k := by
  intro e k h
  by_cases h1 : e = 1
  · subst h1
    have hk : (1 : Int32) = k := Option.some.inj h
    subst hk
    exact ⟨[], (0, 9, 12, 13), [], rfl, by decide, by decide, w_399, w_407, fa_nil, ⟨1, Or.inl ⟨3, by decide +kernel, rfl, by decide +kernel⟩, ⟨1, by decide +kernel, rfl⟩, by decide +kernel⟩, rfl⟩
  simp [am_fnd, h1] at h
def co_L_note (l : Launch) (d : Nat) : List (Nat × am_S) := [(0, am_aload 2 1), (1, am_push (vI 0) 2), (2, am_aload 0 3), (3, am_iload 1 4), (4, am_calH l d y_P_note (some 0) 2 [(1, 1)] 7 1 6 1 6), (7, am_i2l 8), (8, am_last 9), (9, am_goto 15), (15, am_push (vI 0) 16), (16, am_iret false)]
theorem ck_L_note {l : Launch} {sc : Nat × (Nat → Int32)} {d : Nat} : ∀ q ∈ co_L_note l d, am_ok l sc (d + 1) y_L_note q.1 q.2 :=
  fa_cons (ok_aload_n (show decode (am_mB y_L_note) 0 = .ok (.aload_n 2, 1) by decide +kernel) rfl) <|
  fa_cons (ok_iconst (show decode (am_mB y_L_note) 1 = .ok (.iconst 0, 1) by decide +kernel) rfl) <|
  fa_cons (ok_aload_n (show decode (am_mB y_L_note) 2 = .ok (.aload_n 0, 1) by decide +kernel) rfl) <|
  fa_cons (ok_iload_n (show decode (am_mB y_L_note) 3 = .ok (.iload_n 1, 1) by decide +kernel) rfl) <|
  fa_cons (ok_calH ⟨rfl, rfl, rfl, rfl⟩ (ok_callH (show decode (am_mB y_L_note) 4 = .ok (.invokevirtual 36, 3) by decide +kernel) cf_P_note (by decide +kernel) w_643 ci_P_note cv_P_note ⟨by decide, rfl⟩ rfl (by decide +kernel) hh_L_note)) <|
  fa_cons (ok_i2l (show decode (am_mB y_L_note) 7 = .ok (.i2l, 1) by decide +kernel)) <|
  fa_cons (ok_last (show decode (am_mB y_L_note) 8 = .ok (.lastore, 1) by decide +kernel)) <|
  fa_cons (ok_goto (show decode (am_mB y_L_note) 9 = .ok (.goto 6, 3) by decide +kernel) (by decide)) <|
  fa_cons (ok_iconst (show decode (am_mB y_L_note) 15 = .ok (.iconst 0, 1) by decide +kernel) rfl) <|
  fa_cons (ok_iret (show decode (am_mB y_L_note) 16 = .ok (.ireturn, 1) by decide +kernel) rfl) <|
  fa_nil
set_option maxRecDepth 100000 in
theorem cq_L_note (l : Launch) (d : Nat) : am_lk (co_L_note l d) 0 = am_aload 2 1 ∧ am_lk (co_L_note l d) 1 = am_push (vI 0) 2 ∧ am_lk (co_L_note l d) 2 = am_aload 0 3 ∧ am_lk (co_L_note l d) 3 = am_iload 1 4 ∧ am_lk (co_L_note l d) 4 = am_calH l d y_P_note (some 0) 2 [(1, 1)] 7 1 6 1 6 ∧ am_lk (co_L_note l d) 7 = am_i2l 8 ∧ am_lk (co_L_note l d) 8 = am_last 9 ∧ am_lk (co_L_note l d) 9 = am_goto 15 ∧ am_lk (co_L_note l d) 15 = am_push (vI 0) 16 ∧ am_lk (co_L_note l d) 16 = am_iret false := ⟨rfl, rfl, rfl, rfl, rfl, rfl, rfl, rfl, rfl, rfl⟩
theorem en_L_note {l : Launch} {d : Nat} (n : Nat) {as : List am_V} {G : am_G} {I : am_I} {J : am_J} {P : am_P} (hlen : (as.map am_cat).sum ≤ 4) (h : am_go (am_lk (co_L_note l d)) (am_X l (0, fun _ => 0) (d + 1) y_L_note P) P n 0 (am_el 4 as) [] 0 0 G I J) : am_T l (d + 1) y_L_note as G I J P :=
  am_T_of (sc := (0, fun _ => 0)) cf_L_note (by decide +kernel) (by decide) (by decide +kernel) hlen (am_run (ok_lk _ (ck_L_note)) n _ _ _ _ _ _ _ _ h)
theorem rn_L_note {l : Launch} {sc : Nat × (Nat → Int32)} {d : Nat} {P : am_P} (n : Nat) {pc : Nat} {ls : am_L} {st : List am_V} {kc ks : Nat} {G : am_G} {I : am_I} {J : am_J} (h : am_go (am_lk (co_L_note l d)) (am_X l sc (d + 1) y_L_note P) P n pc ls st kc ks G I J) : am_X l sc (d + 1) y_L_note P pc ls st kc ks G I J := am_run (ok_lk _ (ck_L_note)) n _ _ _ _ _ _ _ _ h
theorem hh_L_page : ∀ (e : Nat) (k : Int32), am_fnd [(3, 1), (1, 2)] e = some k → am_hd y_L_page 5 e k := by
  intro e k h
  by_cases h3 : e = 3
  · subst h3
    have hk : (1 : Int32) = k := Option.some.inj h
    subst hk
    exact ⟨[], (0, 10, 13, 28), [(0, 10, 17, 13)], rfl, by decide, by decide, w_569, w_584, fa_nil, ⟨2, Or.inr ⟨4, by decide +kernel, rfl, by decide +kernel⟩, ⟨1, by decide +kernel, rfl⟩, by decide +kernel⟩, rfl⟩
  by_cases h1 : e = 1
  · subst h1
    have hk : (2 : Int32) = k := Option.some.inj h
    subst hk
    exact ⟨[(0, 10, 13, 28)], (0, 10, 17, 13), [], rfl, by decide, by decide, w_399, w_407, fa_cons ⟨by decide, 3, w_569, by decide +kernel⟩ (fa_nil), ⟨2, Or.inr ⟨4, by decide +kernel, rfl, by decide +kernel⟩, ⟨2, by decide +kernel, rfl⟩, by decide +kernel⟩, rfl⟩
  simp [am_fnd, h3, h1] at h
def co_L_page (l : Launch) (d : Nat) : List (Nat × am_S) := [(0, am_aload 3 1), (1, am_push (vI 0) 2), (2, am_aload 0 3), (3, am_iload 1 4), (4, am_iload 2 5), (5, am_calH l d y_P_page (some 0) 3 [(3, 1), (1, 2)] 8 2 12 2 12), (8, am_i2l 9), (9, am_last 10), (10, am_goto 21), (21, am_push (vI 0) 22), (22, am_iret false)]
theorem ck_L_page {l : Launch} {sc : Nat × (Nat → Int32)} {d : Nat} : ∀ q ∈ co_L_page l d, am_ok l sc (d + 1) y_L_page q.1 q.2 :=
  fa_cons (ok_aload_n (show decode (am_mB y_L_page) 0 = .ok (.aload_n 3, 1) by decide +kernel) rfl) <|
  fa_cons (ok_iconst (show decode (am_mB y_L_page) 1 = .ok (.iconst 0, 1) by decide +kernel) rfl) <|
  fa_cons (ok_aload_n (show decode (am_mB y_L_page) 2 = .ok (.aload_n 0, 1) by decide +kernel) rfl) <|
  fa_cons (ok_iload_n (show decode (am_mB y_L_page) 3 = .ok (.iload_n 1, 1) by decide +kernel) rfl) <|
  fa_cons (ok_iload_n (show decode (am_mB y_L_page) 4 = .ok (.iload_n 2, 1) by decide +kernel) rfl) <|
  fa_cons (ok_calH ⟨rfl, rfl, rfl, rfl⟩ (ok_callH (show decode (am_mB y_L_page) 5 = .ok (.invokevirtual 39, 3) by decide +kernel) cf_P_page (by decide +kernel) w_651 ci_P_page cv_P_page ⟨by decide, rfl⟩ rfl (by decide +kernel) hh_L_page)) <|
  fa_cons (ok_i2l (show decode (am_mB y_L_page) 8 = .ok (.i2l, 1) by decide +kernel)) <|
  fa_cons (ok_last (show decode (am_mB y_L_page) 9 = .ok (.lastore, 1) by decide +kernel)) <|
  fa_cons (ok_goto (show decode (am_mB y_L_page) 10 = .ok (.goto 11, 3) by decide +kernel) (by decide)) <|
  fa_cons (ok_iconst (show decode (am_mB y_L_page) 21 = .ok (.iconst 0, 1) by decide +kernel) rfl) <|
  fa_cons (ok_iret (show decode (am_mB y_L_page) 22 = .ok (.ireturn, 1) by decide +kernel) rfl) <|
  fa_nil
set_option maxRecDepth 100000 in
theorem cq_L_page (l : Launch) (d : Nat) : am_lk (co_L_page l d) 0 = am_aload 3 1 ∧ am_lk (co_L_page l d) 1 = am_push (vI 0) 2 ∧ am_lk (co_L_page l d) 2 = am_aload 0 3 ∧ am_lk (co_L_page l d) 3 = am_iload 1 4 ∧ am_lk (co_L_page l d) 4 = am_iload 2 5 ∧ am_lk (co_L_page l d) 5 = am_calH l d y_P_page (some 0) 3 [(3, 1), (1, 2)] 8 2 12 2 12 ∧ am_lk (co_L_page l d) 8 = am_i2l 9 ∧ am_lk (co_L_page l d) 9 = am_last 10 ∧ am_lk (co_L_page l d) 10 = am_goto 21 ∧ am_lk (co_L_page l d) 21 = am_push (vI 0) 22 ∧ am_lk (co_L_page l d) 22 = am_iret false := ⟨rfl, rfl, rfl, rfl, rfl, rfl, rfl, rfl, rfl, rfl, rfl⟩
theorem en_L_page {l : Launch} {d : Nat} (n : Nat) {as : List am_V} {G : am_G} {I : am_I} {J : am_J} {P : am_P} (hlen : (as.map am_cat).sum ≤ 5) (h : am_go (am_lk (co_L_page l d)) (am_X l (0, fun _ => 0) (d + 1) y_L_page P) P n 0 (am_el 5 as) [] 0 0 G I J) : am_T l (d + 1) y_L_page as G I J P :=
  am_T_of (sc := (0, fun _ => 0)) cf_L_page (by decide +kernel) (by decide) (by decide +kernel) hlen (am_run (ok_lk _ (ck_L_page)) n _ _ _ _ _ _ _ _ h)
theorem rn_L_page {l : Launch} {sc : Nat × (Nat → Int32)} {d : Nat} {P : am_P} (n : Nat) {pc : Nat} {ls : am_L} {st : List am_V} {kc ks : Nat} {G : am_G} {I : am_I} {J : am_J} (h : am_go (am_lk (co_L_page l d)) (am_X l sc (d + 1) y_L_page P) P n pc ls st kc ks G I J) : am_X l sc (d + 1) y_L_page P pc ls st kc ks G I J := am_run (ok_lk _ (ck_L_page)) n _ _ _ _ _ _ _ _ h
theorem hh_L_brought : ∀ (e : Nat) (k : Int32), am_fnd [(3, 1)] e = some k → am_hd y_L_brought 5 e k := by
  intro e k h
  by_cases h3 : e = 3
  · subst h3
    have hk : (1 : Int32) = k := Option.some.inj h
    subst hk
    exact ⟨[], (0, 10, 13, 28), [], rfl, by decide, by decide, w_569, w_584, fa_nil, ⟨2, Or.inr ⟨4, by decide +kernel, rfl, by decide +kernel⟩, ⟨1, by decide +kernel, rfl⟩, by decide +kernel⟩, rfl⟩
  simp [am_fnd, h3] at h
def co_L_brought (l : Launch) (d : Nat) : List (Nat × am_S) := [(0, am_aload 3 1), (1, am_push (vI 0) 2), (2, am_aload 0 3), (3, am_iload 1 4), (4, am_iload 2 5), (5, am_calH l d y_P_brought (some 0) 3 [(3, 1)] 8 2 12 2 12), (8, am_i2l 9), (9, am_last 10), (10, am_goto 17), (17, am_push (vI 0) 18), (18, am_iret false)]
theorem ck_L_brought {l : Launch} {sc : Nat × (Nat → Int32)} {d : Nat} : ∀ q ∈ co_L_brought l d, am_ok l sc (d + 1) y_L_brought q.1 q.2 :=
  fa_cons (ok_aload_n (show decode (am_mB y_L_brought) 0 = .ok (.aload_n 3, 1) by decide +kernel) rfl) <|
  fa_cons (ok_iconst (show decode (am_mB y_L_brought) 1 = .ok (.iconst 0, 1) by decide +kernel) rfl) <|
  fa_cons (ok_aload_n (show decode (am_mB y_L_brought) 2 = .ok (.aload_n 0, 1) by decide +kernel) rfl) <|
  fa_cons (ok_iload_n (show decode (am_mB y_L_brought) 3 = .ok (.iload_n 1, 1) by decide +kernel) rfl) <|
  fa_cons (ok_iload_n (show decode (am_mB y_L_brought) 4 = .ok (.iload_n 2, 1) by decide +kernel) rfl) <|
  fa_cons (ok_calH ⟨rfl, rfl, rfl, rfl⟩ (ok_callH (show decode (am_mB y_L_brought) 5 = .ok (.invokevirtual 42, 3) by decide +kernel) cf_P_brought (by decide +kernel) w_691 ci_P_brought cv_P_brought ⟨by decide, rfl⟩ rfl (by decide +kernel) hh_L_brought)) <|
  fa_cons (ok_i2l (show decode (am_mB y_L_brought) 8 = .ok (.i2l, 1) by decide +kernel)) <|
  fa_cons (ok_last (show decode (am_mB y_L_brought) 9 = .ok (.lastore, 1) by decide +kernel)) <|
  fa_cons (ok_goto (show decode (am_mB y_L_brought) 10 = .ok (.goto 7, 3) by decide +kernel) (by decide)) <|
  fa_cons (ok_iconst (show decode (am_mB y_L_brought) 17 = .ok (.iconst 0, 1) by decide +kernel) rfl) <|
  fa_cons (ok_iret (show decode (am_mB y_L_brought) 18 = .ok (.ireturn, 1) by decide +kernel) rfl) <|
  fa_nil
set_option maxRecDepth 100000 in
theorem cq_L_brought (l : Launch) (d : Nat) : am_lk (co_L_brought l d) 0 = am_aload 3 1 ∧ am_lk (co_L_brought l d) 1 = am_push (vI 0) 2 ∧ am_lk (co_L_brought l d) 2 = am_aload 0 3 ∧ am_lk (co_L_brought l d) 3 = am_iload 1 4 ∧ am_lk (co_L_brought l d) 4 = am_iload 2 5 ∧ am_lk (co_L_brought l d) 5 = am_calH l d y_P_brought (some 0) 3 [(3, 1)] 8 2 12 2 12 ∧ am_lk (co_L_brought l d) 8 = am_i2l 9 ∧ am_lk (co_L_brought l d) 9 = am_last 10 ∧ am_lk (co_L_brought l d) 10 = am_goto 17 ∧ am_lk (co_L_brought l d) 17 = am_push (vI 0) 18 ∧ am_lk (co_L_brought l d) 18 = am_iret false := ⟨rfl, rfl, rfl, rfl, rfl, rfl, rfl, rfl, rfl, rfl, rfl⟩
theorem en_L_brought {l : Launch} {d : Nat} (n : Nat) {as : List am_V} {G : am_G} {I : am_I} {J : am_J} {P : am_P} (hlen : (as.map am_cat).sum ≤ 5) (h : am_go (am_lk (co_L_brought l d)) (am_X l (0, fun _ => 0) (d + 1) y_L_brought P) P n 0 (am_el 5 as) [] 0 0 G I J) : am_T l (d + 1) y_L_brought as G I J P :=
  am_T_of (sc := (0, fun _ => 0)) cf_L_brought (by decide +kernel) (by decide) (by decide +kernel) hlen (am_run (ok_lk _ (ck_L_brought)) n _ _ _ _ _ _ _ _ h)
theorem rn_L_brought {l : Launch} {sc : Nat × (Nat → Int32)} {d : Nat} {P : am_P} (n : Nat) {pc : Nat} {ls : am_L} {st : List am_V} {kc ks : Nat} {G : am_G} {I : am_I} {J : am_J} (h : am_go (am_lk (co_L_brought l d)) (am_X l sc (d + 1) y_L_brought P) P n pc ls st kc ks G I J) : am_X l sc (d + 1) y_L_brought P pc ls st kc ks G I J := am_run (ok_lk _ (ck_L_brought)) n _ _ _ _ _ _ _ _ h
theorem hh_L_carried : ∀ (e : Nat) (k : Int32), am_fnd [(3, 1)] e = some k → am_hd y_L_carried 5 e k := by
  intro e k h
  by_cases h3 : e = 3
  · subst h3
    have hk : (1 : Int32) = k := Option.some.inj h
    subst hk
    exact ⟨[], (0, 10, 13, 28), [], rfl, by decide, by decide, w_569, w_584, fa_nil, ⟨2, Or.inr ⟨4, by decide +kernel, rfl, by decide +kernel⟩, ⟨1, by decide +kernel, rfl⟩, by decide +kernel⟩, rfl⟩
  simp [am_fnd, h3] at h
def co_L_carried (l : Launch) (d : Nat) : List (Nat × am_S) := [(0, am_aload 3 1), (1, am_push (vI 0) 2), (2, am_aload 0 3), (3, am_iload 1 4), (4, am_iload 2 5), (5, am_calH l d y_P_carried (some 0) 3 [(3, 1)] 8 2 12 2 12), (8, am_i2l 9), (9, am_last 10), (10, am_goto 17), (17, am_push (vI 0) 18), (18, am_iret false)]
theorem ck_L_carried {l : Launch} {sc : Nat × (Nat → Int32)} {d : Nat} : ∀ q ∈ co_L_carried l d, am_ok l sc (d + 1) y_L_carried q.1 q.2 :=
  fa_cons (ok_aload_n (show decode (am_mB y_L_carried) 0 = .ok (.aload_n 3, 1) by decide +kernel) rfl) <|
  fa_cons (ok_iconst (show decode (am_mB y_L_carried) 1 = .ok (.iconst 0, 1) by decide +kernel) rfl) <|
  fa_cons (ok_aload_n (show decode (am_mB y_L_carried) 2 = .ok (.aload_n 0, 1) by decide +kernel) rfl) <|
  fa_cons (ok_iload_n (show decode (am_mB y_L_carried) 3 = .ok (.iload_n 1, 1) by decide +kernel) rfl) <|
  fa_cons (ok_iload_n (show decode (am_mB y_L_carried) 4 = .ok (.iload_n 2, 1) by decide +kernel) rfl) <|
  fa_cons (ok_calH ⟨rfl, rfl, rfl, rfl⟩ (ok_callH (show decode (am_mB y_L_carried) 5 = .ok (.invokevirtual 45, 3) by decide +kernel) cf_P_carried (by decide +kernel) w_703 ci_P_carried cv_P_carried ⟨by decide, rfl⟩ rfl (by decide +kernel) hh_L_carried)) <|
  fa_cons (ok_i2l (show decode (am_mB y_L_carried) 8 = .ok (.i2l, 1) by decide +kernel)) <|
  fa_cons (ok_last (show decode (am_mB y_L_carried) 9 = .ok (.lastore, 1) by decide +kernel)) <|
  fa_cons (ok_goto (show decode (am_mB y_L_carried) 10 = .ok (.goto 7, 3) by decide +kernel) (by decide)) <|
  fa_cons (ok_iconst (show decode (am_mB y_L_carried) 17 = .ok (.iconst 0, 1) by decide +kernel) rfl) <|
  fa_cons (ok_iret (show decode (am_mB y_L_carried) 18 = .ok (.ireturn, 1) by decide +kernel) rfl) <|
  fa_nil
set_option maxRecDepth 100000 in
theorem cq_L_carried (l : Launch) (d : Nat) : am_lk (co_L_carried l d) 0 = am_aload 3 1 ∧ am_lk (co_L_carried l d) 1 = am_push (vI 0) 2 ∧ am_lk (co_L_carried l d) 2 = am_aload 0 3 ∧ am_lk (co_L_carried l d) 3 = am_iload 1 4 ∧ am_lk (co_L_carried l d) 4 = am_iload 2 5 ∧ am_lk (co_L_carried l d) 5 = am_calH l d y_P_carried (some 0) 3 [(3, 1)] 8 2 12 2 12 ∧ am_lk (co_L_carried l d) 8 = am_i2l 9 ∧ am_lk (co_L_carried l d) 9 = am_last 10 ∧ am_lk (co_L_carried l d) 10 = am_goto 17 ∧ am_lk (co_L_carried l d) 17 = am_push (vI 0) 18 ∧ am_lk (co_L_carried l d) 18 = am_iret false := ⟨rfl, rfl, rfl, rfl, rfl, rfl, rfl, rfl, rfl, rfl, rfl⟩
theorem en_L_carried {l : Launch} {d : Nat} (n : Nat) {as : List am_V} {G : am_G} {I : am_I} {J : am_J} {P : am_P} (hlen : (as.map am_cat).sum ≤ 5) (h : am_go (am_lk (co_L_carried l d)) (am_X l (0, fun _ => 0) (d + 1) y_L_carried P) P n 0 (am_el 5 as) [] 0 0 G I J) : am_T l (d + 1) y_L_carried as G I J P :=
  am_T_of (sc := (0, fun _ => 0)) cf_L_carried (by decide +kernel) (by decide) (by decide +kernel) hlen (am_run (ok_lk _ (ck_L_carried)) n _ _ _ _ _ _ _ _ h)
theorem rn_L_carried {l : Launch} {sc : Nat × (Nat → Int32)} {d : Nat} {P : am_P} (n : Nat) {pc : Nat} {ls : am_L} {st : List am_V} {kc ks : Nat} {G : am_G} {I : am_I} {J : am_J} (h : am_go (am_lk (co_L_carried l d)) (am_X l sc (d + 1) y_L_carried P) P n pc ls st kc ks G I J) : am_X l sc (d + 1) y_L_carried P pc ls st kc ks G I J := am_run (ok_lk _ (ck_L_carried)) n _ _ _ _ _ _ _ _ h
theorem hh_L_richest : ∀ (e : Nat) (k : Int32), am_fnd [(3, 1)] e = some k → am_hd y_L_richest 4 e k := by
  intro e k h
  by_cases h3 : e = 3
  · subst h3
    have hk : (1 : Int32) = k := Option.some.inj h
    subst hk
    exact ⟨[], (0, 9, 12, 28), [], rfl, by decide, by decide, w_569, w_584, fa_nil, ⟨1, Or.inl ⟨3, by decide +kernel, rfl, by decide +kernel⟩, ⟨1, by decide +kernel, rfl⟩, by decide +kernel⟩, rfl⟩
  simp [am_fnd, h3] at h
def co_L_richest (l : Launch) (d : Nat) : List (Nat × am_S) := [(0, am_aload 2 1), (1, am_push (vI 0) 2), (2, am_aload 0 3), (3, am_iload 1 4), (4, am_calH l d y_P_richest (some 0) 2 [(3, 1)] 7 1 6 1 6), (7, am_i2l 8), (8, am_last 9), (9, am_goto 15), (15, am_push (vI 0) 16), (16, am_iret false)]
theorem ck_L_richest {l : Launch} {sc : Nat × (Nat → Int32)} {d : Nat} : ∀ q ∈ co_L_richest l d, am_ok l sc (d + 1) y_L_richest q.1 q.2 :=
  fa_cons (ok_aload_n (show decode (am_mB y_L_richest) 0 = .ok (.aload_n 2, 1) by decide +kernel) rfl) <|
  fa_cons (ok_iconst (show decode (am_mB y_L_richest) 1 = .ok (.iconst 0, 1) by decide +kernel) rfl) <|
  fa_cons (ok_aload_n (show decode (am_mB y_L_richest) 2 = .ok (.aload_n 0, 1) by decide +kernel) rfl) <|
  fa_cons (ok_iload_n (show decode (am_mB y_L_richest) 3 = .ok (.iload_n 1, 1) by decide +kernel) rfl) <|
  fa_cons (ok_calH ⟨rfl, rfl, rfl, rfl⟩ (ok_callH (show decode (am_mB y_L_richest) 4 = .ok (.invokevirtual 48, 3) by decide +kernel) cf_P_richest (by decide +kernel) w_710 ci_P_richest cv_P_richest ⟨by decide, rfl⟩ rfl (by decide +kernel) hh_L_richest)) <|
  fa_cons (ok_i2l (show decode (am_mB y_L_richest) 7 = .ok (.i2l, 1) by decide +kernel)) <|
  fa_cons (ok_last (show decode (am_mB y_L_richest) 8 = .ok (.lastore, 1) by decide +kernel)) <|
  fa_cons (ok_goto (show decode (am_mB y_L_richest) 9 = .ok (.goto 6, 3) by decide +kernel) (by decide)) <|
  fa_cons (ok_iconst (show decode (am_mB y_L_richest) 15 = .ok (.iconst 0, 1) by decide +kernel) rfl) <|
  fa_cons (ok_iret (show decode (am_mB y_L_richest) 16 = .ok (.ireturn, 1) by decide +kernel) rfl) <|
  fa_nil
set_option maxRecDepth 100000 in
theorem cq_L_richest (l : Launch) (d : Nat) : am_lk (co_L_richest l d) 0 = am_aload 2 1 ∧ am_lk (co_L_richest l d) 1 = am_push (vI 0) 2 ∧ am_lk (co_L_richest l d) 2 = am_aload 0 3 ∧ am_lk (co_L_richest l d) 3 = am_iload 1 4 ∧ am_lk (co_L_richest l d) 4 = am_calH l d y_P_richest (some 0) 2 [(3, 1)] 7 1 6 1 6 ∧ am_lk (co_L_richest l d) 7 = am_i2l 8 ∧ am_lk (co_L_richest l d) 8 = am_last 9 ∧ am_lk (co_L_richest l d) 9 = am_goto 15 ∧ am_lk (co_L_richest l d) 15 = am_push (vI 0) 16 ∧ am_lk (co_L_richest l d) 16 = am_iret false := ⟨rfl, rfl, rfl, rfl, rfl, rfl, rfl, rfl, rfl, rfl⟩
theorem en_L_richest {l : Launch} {d : Nat} (n : Nat) {as : List am_V} {G : am_G} {I : am_I} {J : am_J} {P : am_P} (hlen : (as.map am_cat).sum ≤ 4) (h : am_go (am_lk (co_L_richest l d)) (am_X l (0, fun _ => 0) (d + 1) y_L_richest P) P n 0 (am_el 4 as) [] 0 0 G I J) : am_T l (d + 1) y_L_richest as G I J P :=
  am_T_of (sc := (0, fun _ => 0)) cf_L_richest (by decide +kernel) (by decide) (by decide +kernel) hlen (am_run (ok_lk _ (ck_L_richest)) n _ _ _ _ _ _ _ _ h)
theorem rn_L_richest {l : Launch} {sc : Nat × (Nat → Int32)} {d : Nat} {P : am_P} (n : Nat) {pc : Nat} {ls : am_L} {st : List am_V} {kc ks : Nat} {G : am_G} {I : am_I} {J : am_J} (h : am_go (am_lk (co_L_richest l d)) (am_X l sc (d + 1) y_L_richest P) P n pc ls st kc ks G I J) : am_X l sc (d + 1) y_L_richest P pc ls st kc ks G I J := am_run (ok_lk _ (ck_L_richest)) n _ _ _ _ _ _ _ _ h
theorem hh_L_addRow : ∀ (e : Nat) (k : Int32), am_fnd [(1, 1), (2, 2)] e = some k → am_hd y_L_addRow 5 e k := by
  intro e k h
  by_cases h1 : e = 1
  · subst h1
    have hk : (1 : Int32) = k := Option.some.inj h
    subst hk
    exact ⟨[], (0, 10, 13, 13), [(0, 10, 17, 15)], rfl, by decide, by decide, w_399, w_407, fa_nil, ⟨2, Or.inr ⟨4, by decide +kernel, rfl, by decide +kernel⟩, ⟨1, by decide +kernel, rfl⟩, by decide +kernel⟩, rfl⟩
  by_cases h2 : e = 2
  · subst h2
    have hk : (2 : Int32) = k := Option.some.inj h
    subst hk
    exact ⟨[(0, 10, 13, 13)], (0, 10, 17, 15), [], rfl, by decide, by decide, w_400, w_479, fa_cons ⟨by decide, 1, w_399, by decide +kernel⟩ (fa_nil), ⟨2, Or.inr ⟨4, by decide +kernel, rfl, by decide +kernel⟩, ⟨2, by decide +kernel, rfl⟩, by decide +kernel⟩, rfl⟩
  simp [am_fnd, h1, h2] at h
def co_L_addRow (l : Launch) (d : Nat) : List (Nat × am_S) := [(0, am_aload 3 1), (1, am_push (vI 0) 2), (2, am_aload 0 3), (3, am_iload 1 4), (4, am_iload 2 5), (5, am_calH l d y_P_addRow (some 0) 3 [(1, 1), (2, 2)] 8 1 6 1 6), (8, am_i2l 9), (9, am_last 10), (10, am_goto 21), (21, am_push (vI 0) 22), (22, am_iret false)]
theorem ck_L_addRow {l : Launch} {sc : Nat × (Nat → Int32)} {d : Nat} : ∀ q ∈ co_L_addRow l d, am_ok l sc (d + 1) y_L_addRow q.1 q.2 :=
  fa_cons (ok_aload_n (show decode (am_mB y_L_addRow) 0 = .ok (.aload_n 3, 1) by decide +kernel) rfl) <|
  fa_cons (ok_iconst (show decode (am_mB y_L_addRow) 1 = .ok (.iconst 0, 1) by decide +kernel) rfl) <|
  fa_cons (ok_aload_n (show decode (am_mB y_L_addRow) 2 = .ok (.aload_n 0, 1) by decide +kernel) rfl) <|
  fa_cons (ok_iload_n (show decode (am_mB y_L_addRow) 3 = .ok (.iload_n 1, 1) by decide +kernel) rfl) <|
  fa_cons (ok_iload_n (show decode (am_mB y_L_addRow) 4 = .ok (.iload_n 2, 1) by decide +kernel) rfl) <|
  fa_cons (ok_calH ⟨rfl, rfl, rfl, rfl⟩ (ok_callH (show decode (am_mB y_L_addRow) 5 = .ok (.invokevirtual 51, 3) by decide +kernel) cf_P_addRow (by decide +kernel) w_717 ci_P_addRow cv_P_addRow ⟨by decide, rfl⟩ rfl (by decide +kernel) hh_L_addRow)) <|
  fa_cons (ok_i2l (show decode (am_mB y_L_addRow) 8 = .ok (.i2l, 1) by decide +kernel)) <|
  fa_cons (ok_last (show decode (am_mB y_L_addRow) 9 = .ok (.lastore, 1) by decide +kernel)) <|
  fa_cons (ok_goto (show decode (am_mB y_L_addRow) 10 = .ok (.goto 11, 3) by decide +kernel) (by decide)) <|
  fa_cons (ok_iconst (show decode (am_mB y_L_addRow) 21 = .ok (.iconst 0, 1) by decide +kernel) rfl) <|
  fa_cons (ok_iret (show decode (am_mB y_L_addRow) 22 = .ok (.ireturn, 1) by decide +kernel) rfl) <|
  fa_nil
set_option maxRecDepth 100000 in
theorem cq_L_addRow (l : Launch) (d : Nat) : am_lk (co_L_addRow l d) 0 = am_aload 3 1 ∧ am_lk (co_L_addRow l d) 1 = am_push (vI 0) 2 ∧ am_lk (co_L_addRow l d) 2 = am_aload 0 3 ∧ am_lk (co_L_addRow l d) 3 = am_iload 1 4 ∧ am_lk (co_L_addRow l d) 4 = am_iload 2 5 ∧ am_lk (co_L_addRow l d) 5 = am_calH l d y_P_addRow (some 0) 3 [(1, 1), (2, 2)] 8 1 6 1 6 ∧ am_lk (co_L_addRow l d) 8 = am_i2l 9 ∧ am_lk (co_L_addRow l d) 9 = am_last 10 ∧ am_lk (co_L_addRow l d) 10 = am_goto 21 ∧ am_lk (co_L_addRow l d) 21 = am_push (vI 0) 22 ∧ am_lk (co_L_addRow l d) 22 = am_iret false := ⟨rfl, rfl, rfl, rfl, rfl, rfl, rfl, rfl, rfl, rfl, rfl⟩
theorem en_L_addRow {l : Launch} {d : Nat} (n : Nat) {as : List am_V} {G : am_G} {I : am_I} {J : am_J} {P : am_P} (hlen : (as.map am_cat).sum ≤ 5) (h : am_go (am_lk (co_L_addRow l d)) (am_X l (0, fun _ => 0) (d + 1) y_L_addRow P) P n 0 (am_el 5 as) [] 0 0 G I J) : am_T l (d + 1) y_L_addRow as G I J P :=
  am_T_of (sc := (0, fun _ => 0)) cf_L_addRow (by decide +kernel) (by decide) (by decide +kernel) hlen (am_run (ok_lk _ (ck_L_addRow)) n _ _ _ _ _ _ _ _ h)
theorem rn_L_addRow {l : Launch} {sc : Nat × (Nat → Int32)} {d : Nat} {P : am_P} (n : Nat) {pc : Nat} {ls : am_L} {st : List am_V} {kc ks : Nat} {G : am_G} {I : am_I} {J : am_J} (h : am_go (am_lk (co_L_addRow l d)) (am_X l sc (d + 1) y_L_addRow P) P n pc ls st kc ks G I J) : am_X l sc (d + 1) y_L_addRow P pc ls st kc ks G I J := am_run (ok_lk _ (ck_L_addRow)) n _ _ _ _ _ _ _ _ h
theorem hh_L_setAmount : ∀ (e : Nat) (k : Int32), am_fnd [(3, 1), (1, 2)] e = some k → am_hd y_L_setAmount 7 e k := by
  intro e k h
  by_cases h3 : e = 3
  · subst h3
    have hk : (1 : Int32) = k := Option.some.inj h
    subst hk
    exact ⟨[], (0, 12, 15, 28), [(0, 12, 19, 13)], rfl, by decide, by decide, w_569, w_584, fa_nil, ⟨2, Or.inr ⟨5, by decide +kernel, rfl, by decide +kernel⟩, ⟨1, by decide +kernel, rfl⟩, by decide +kernel⟩, rfl⟩
  by_cases h1 : e = 1
  · subst h1
    have hk : (2 : Int32) = k := Option.some.inj h
    subst hk
    exact ⟨[(0, 12, 15, 28)], (0, 12, 19, 13), [], rfl, by decide, by decide, w_399, w_407, fa_cons ⟨by decide, 3, w_569, by decide +kernel⟩ (fa_nil), ⟨2, Or.inr ⟨5, by decide +kernel, rfl, by decide +kernel⟩, ⟨2, by decide +kernel, rfl⟩, by decide +kernel⟩, rfl⟩
  simp [am_fnd, h3, h1] at h
def co_L_setAmount (l : Launch) (d : Nat) : List (Nat × am_S) := [(0, am_aload 4 2), (2, am_push (vI 0) 3), (3, am_aload 0 4), (4, am_iload 1 5), (5, am_iload 2 6), (6, am_iload 3 7), (7, am_calH l d y_P_setAmount (some 0) 4 [(3, 1), (1, 2)] 10 3 18 3 18), (10, am_i2l 11), (11, am_last 12), (12, am_goto 23), (23, am_push (vI 0) 24), (24, am_iret false)]
theorem ck_L_setAmount {l : Launch} {sc : Nat × (Nat → Int32)} {d : Nat} : ∀ q ∈ co_L_setAmount l d, am_ok l sc (d + 1) y_L_setAmount q.1 q.2 :=
  fa_cons (ok_aload (show decode (am_mB y_L_setAmount) 0 = .ok (.aload 4, 2) by decide +kernel)) <|
  fa_cons (ok_iconst (show decode (am_mB y_L_setAmount) 2 = .ok (.iconst 0, 1) by decide +kernel) rfl) <|
  fa_cons (ok_aload_n (show decode (am_mB y_L_setAmount) 3 = .ok (.aload_n 0, 1) by decide +kernel) rfl) <|
  fa_cons (ok_iload_n (show decode (am_mB y_L_setAmount) 4 = .ok (.iload_n 1, 1) by decide +kernel) rfl) <|
  fa_cons (ok_iload_n (show decode (am_mB y_L_setAmount) 5 = .ok (.iload_n 2, 1) by decide +kernel) rfl) <|
  fa_cons (ok_iload_n (show decode (am_mB y_L_setAmount) 6 = .ok (.iload_n 3, 1) by decide +kernel) rfl) <|
  fa_cons (ok_calH ⟨rfl, rfl, rfl, rfl⟩ (ok_callH (show decode (am_mB y_L_setAmount) 7 = .ok (.invokevirtual 54, 3) by decide +kernel) cf_P_setAmount (by decide +kernel) w_737 ci_P_setAmount cv_P_setAmount ⟨by decide, rfl⟩ rfl (by decide +kernel) hh_L_setAmount)) <|
  fa_cons (ok_i2l (show decode (am_mB y_L_setAmount) 10 = .ok (.i2l, 1) by decide +kernel)) <|
  fa_cons (ok_last (show decode (am_mB y_L_setAmount) 11 = .ok (.lastore, 1) by decide +kernel)) <|
  fa_cons (ok_goto (show decode (am_mB y_L_setAmount) 12 = .ok (.goto 11, 3) by decide +kernel) (by decide)) <|
  fa_cons (ok_iconst (show decode (am_mB y_L_setAmount) 23 = .ok (.iconst 0, 1) by decide +kernel) rfl) <|
  fa_cons (ok_iret (show decode (am_mB y_L_setAmount) 24 = .ok (.ireturn, 1) by decide +kernel) rfl) <|
  fa_nil
set_option maxRecDepth 100000 in
theorem cq_L_setAmount (l : Launch) (d : Nat) : am_lk (co_L_setAmount l d) 0 = am_aload 4 2 ∧ am_lk (co_L_setAmount l d) 2 = am_push (vI 0) 3 ∧ am_lk (co_L_setAmount l d) 3 = am_aload 0 4 ∧ am_lk (co_L_setAmount l d) 4 = am_iload 1 5 ∧ am_lk (co_L_setAmount l d) 5 = am_iload 2 6 ∧ am_lk (co_L_setAmount l d) 6 = am_iload 3 7 ∧ am_lk (co_L_setAmount l d) 7 = am_calH l d y_P_setAmount (some 0) 4 [(3, 1), (1, 2)] 10 3 18 3 18 ∧ am_lk (co_L_setAmount l d) 10 = am_i2l 11 ∧ am_lk (co_L_setAmount l d) 11 = am_last 12 ∧ am_lk (co_L_setAmount l d) 12 = am_goto 23 ∧ am_lk (co_L_setAmount l d) 23 = am_push (vI 0) 24 ∧ am_lk (co_L_setAmount l d) 24 = am_iret false := ⟨rfl, rfl, rfl, rfl, rfl, rfl, rfl, rfl, rfl, rfl, rfl, rfl⟩
theorem en_L_setAmount {l : Launch} {d : Nat} (n : Nat) {as : List am_V} {G : am_G} {I : am_I} {J : am_J} {P : am_P} (hlen : (as.map am_cat).sum ≤ 6) (h : am_go (am_lk (co_L_setAmount l d)) (am_X l (0, fun _ => 0) (d + 1) y_L_setAmount P) P n 0 (am_el 6 as) [] 0 0 G I J) : am_T l (d + 1) y_L_setAmount as G I J P :=
  am_T_of (sc := (0, fun _ => 0)) cf_L_setAmount (by decide +kernel) (by decide) (by decide +kernel) hlen (am_run (ok_lk _ (ck_L_setAmount)) n _ _ _ _ _ _ _ _ h)
theorem rn_L_setAmount {l : Launch} {sc : Nat × (Nat → Int32)} {d : Nat} {P : am_P} (n : Nat) {pc : Nat} {ls : am_L} {st : List am_V} {kc ks : Nat} {G : am_G} {I : am_I} {J : am_J} (h : am_go (am_lk (co_L_setAmount l d)) (am_X l sc (d + 1) y_L_setAmount P) P n pc ls st kc ks G I J) : am_X l sc (d + 1) y_L_setAmount P pc ls st kc ks G I J := am_run (ok_lk _ (ck_L_setAmount)) n _ _ _ _ _ _ _ _ h
theorem hh_L_keep : ∀ (e : Nat) (k : Int32), am_fnd [(3, 1)] e = some k → am_hd y_L_keep 5 e k := by
  intro e k h
  by_cases h3 : e = 3
  · subst h3
    have hk : (1 : Int32) = k := Option.some.inj h
    subst hk
    exact ⟨[], (0, 10, 13, 28), [], rfl, by decide, by decide, w_569, w_584, fa_nil, ⟨2, Or.inr ⟨4, by decide +kernel, rfl, by decide +kernel⟩, ⟨1, by decide +kernel, rfl⟩, by decide +kernel⟩, rfl⟩
  simp [am_fnd, h3] at h
def co_L_keep (l : Launch) (d : Nat) : List (Nat × am_S) := [(0, am_aload 3 1), (1, am_push (vI 0) 2), (2, am_aload 0 3), (3, am_iload 1 4), (4, am_iload 2 5), (5, am_calH l d y_P_keep (some 0) 3 [(3, 1)] 8 1 6 1 6), (8, am_i2l 9), (9, am_last 10), (10, am_goto 17), (17, am_push (vI 0) 18), (18, am_iret false)]
theorem ck_L_keep {l : Launch} {sc : Nat × (Nat → Int32)} {d : Nat} : ∀ q ∈ co_L_keep l d, am_ok l sc (d + 1) y_L_keep q.1 q.2 :=
  fa_cons (ok_aload_n (show decode (am_mB y_L_keep) 0 = .ok (.aload_n 3, 1) by decide +kernel) rfl) <|
  fa_cons (ok_iconst (show decode (am_mB y_L_keep) 1 = .ok (.iconst 0, 1) by decide +kernel) rfl) <|
  fa_cons (ok_aload_n (show decode (am_mB y_L_keep) 2 = .ok (.aload_n 0, 1) by decide +kernel) rfl) <|
  fa_cons (ok_iload_n (show decode (am_mB y_L_keep) 3 = .ok (.iload_n 1, 1) by decide +kernel) rfl) <|
  fa_cons (ok_iload_n (show decode (am_mB y_L_keep) 4 = .ok (.iload_n 2, 1) by decide +kernel) rfl) <|
  fa_cons (ok_calH ⟨rfl, rfl, rfl, rfl⟩ (ok_callH (show decode (am_mB y_L_keep) 5 = .ok (.invokevirtual 58, 3) by decide +kernel) cf_P_keep (by decide +kernel) w_746 ci_P_keep cv_P_keep ⟨by decide, rfl⟩ rfl (by decide +kernel) hh_L_keep)) <|
  fa_cons (ok_i2l (show decode (am_mB y_L_keep) 8 = .ok (.i2l, 1) by decide +kernel)) <|
  fa_cons (ok_last (show decode (am_mB y_L_keep) 9 = .ok (.lastore, 1) by decide +kernel)) <|
  fa_cons (ok_goto (show decode (am_mB y_L_keep) 10 = .ok (.goto 7, 3) by decide +kernel) (by decide)) <|
  fa_cons (ok_iconst (show decode (am_mB y_L_keep) 17 = .ok (.iconst 0, 1) by decide +kernel) rfl) <|
  fa_cons (ok_iret (show decode (am_mB y_L_keep) 18 = .ok (.ireturn, 1) by decide +kernel) rfl) <|
  fa_nil
set_option maxRecDepth 100000 in
theorem cq_L_keep (l : Launch) (d : Nat) : am_lk (co_L_keep l d) 0 = am_aload 3 1 ∧ am_lk (co_L_keep l d) 1 = am_push (vI 0) 2 ∧ am_lk (co_L_keep l d) 2 = am_aload 0 3 ∧ am_lk (co_L_keep l d) 3 = am_iload 1 4 ∧ am_lk (co_L_keep l d) 4 = am_iload 2 5 ∧ am_lk (co_L_keep l d) 5 = am_calH l d y_P_keep (some 0) 3 [(3, 1)] 8 1 6 1 6 ∧ am_lk (co_L_keep l d) 8 = am_i2l 9 ∧ am_lk (co_L_keep l d) 9 = am_last 10 ∧ am_lk (co_L_keep l d) 10 = am_goto 17 ∧ am_lk (co_L_keep l d) 17 = am_push (vI 0) 18 ∧ am_lk (co_L_keep l d) 18 = am_iret false := ⟨rfl, rfl, rfl, rfl, rfl, rfl, rfl, rfl, rfl, rfl, rfl⟩
theorem en_L_keep {l : Launch} {d : Nat} (n : Nat) {as : List am_V} {G : am_G} {I : am_I} {J : am_J} {P : am_P} (hlen : (as.map am_cat).sum ≤ 5) (h : am_go (am_lk (co_L_keep l d)) (am_X l (0, fun _ => 0) (d + 1) y_L_keep P) P n 0 (am_el 5 as) [] 0 0 G I J) : am_T l (d + 1) y_L_keep as G I J P :=
  am_T_of (sc := (0, fun _ => 0)) cf_L_keep (by decide +kernel) (by decide) (by decide +kernel) hlen (am_run (ok_lk _ (ck_L_keep)) n _ _ _ _ _ _ _ _ h)
theorem rn_L_keep {l : Launch} {sc : Nat × (Nat → Int32)} {d : Nat} {P : am_P} (n : Nat) {pc : Nat} {ls : am_L} {st : List am_V} {kc ks : Nat} {G : am_G} {I : am_I} {J : am_J} (h : am_go (am_lk (co_L_keep l d)) (am_X l sc (d + 1) y_L_keep P) P n pc ls st kc ks G I J) : am_X l sc (d + 1) y_L_keep P pc ls st kc ks G I J := am_run (ok_lk _ (ck_L_keep)) n _ _ _ _ _ _ _ _ h
theorem hh_L_removeRow : ∀ (e : Nat) (k : Int32), am_fnd [(3, 1)] e = some k → am_hd y_L_removeRow 4 e k := by
  intro e k h
  by_cases h3 : e = 3
  · subst h3
    have hk : (1 : Int32) = k := Option.some.inj h
    subst hk
    exact ⟨[], (0, 9, 12, 28), [], rfl, by decide, by decide, w_569, w_584, fa_nil, ⟨1, Or.inl ⟨3, by decide +kernel, rfl, by decide +kernel⟩, ⟨1, by decide +kernel, rfl⟩, by decide +kernel⟩, rfl⟩
  simp [am_fnd, h3] at h
def co_L_removeRow (l : Launch) (d : Nat) : List (Nat × am_S) := [(0, am_aload 2 1), (1, am_push (vI 0) 2), (2, am_aload 0 3), (3, am_iload 1 4), (4, am_calH l d y_P_removeRow (some 0) 2 [(3, 1)] 7 1 6 1 6), (7, am_i2l 8), (8, am_last 9), (9, am_goto 15), (15, am_push (vI 0) 16), (16, am_iret false)]
theorem ck_L_removeRow {l : Launch} {sc : Nat × (Nat → Int32)} {d : Nat} : ∀ q ∈ co_L_removeRow l d, am_ok l sc (d + 1) y_L_removeRow q.1 q.2 :=
  fa_cons (ok_aload_n (show decode (am_mB y_L_removeRow) 0 = .ok (.aload_n 2, 1) by decide +kernel) rfl) <|
  fa_cons (ok_iconst (show decode (am_mB y_L_removeRow) 1 = .ok (.iconst 0, 1) by decide +kernel) rfl) <|
  fa_cons (ok_aload_n (show decode (am_mB y_L_removeRow) 2 = .ok (.aload_n 0, 1) by decide +kernel) rfl) <|
  fa_cons (ok_iload_n (show decode (am_mB y_L_removeRow) 3 = .ok (.iload_n 1, 1) by decide +kernel) rfl) <|
  fa_cons (ok_calH ⟨rfl, rfl, rfl, rfl⟩ (ok_callH (show decode (am_mB y_L_removeRow) 4 = .ok (.invokevirtual 62, 3) by decide +kernel) cf_P_removeRow (by decide +kernel) w_753 ci_P_removeRow cv_P_removeRow ⟨by decide, rfl⟩ rfl (by decide +kernel) hh_L_removeRow)) <|
  fa_cons (ok_i2l (show decode (am_mB y_L_removeRow) 7 = .ok (.i2l, 1) by decide +kernel)) <|
  fa_cons (ok_last (show decode (am_mB y_L_removeRow) 8 = .ok (.lastore, 1) by decide +kernel)) <|
  fa_cons (ok_goto (show decode (am_mB y_L_removeRow) 9 = .ok (.goto 6, 3) by decide +kernel) (by decide)) <|
  fa_cons (ok_iconst (show decode (am_mB y_L_removeRow) 15 = .ok (.iconst 0, 1) by decide +kernel) rfl) <|
  fa_cons (ok_iret (show decode (am_mB y_L_removeRow) 16 = .ok (.ireturn, 1) by decide +kernel) rfl) <|
  fa_nil
set_option maxRecDepth 100000 in
theorem cq_L_removeRow (l : Launch) (d : Nat) : am_lk (co_L_removeRow l d) 0 = am_aload 2 1 ∧ am_lk (co_L_removeRow l d) 1 = am_push (vI 0) 2 ∧ am_lk (co_L_removeRow l d) 2 = am_aload 0 3 ∧ am_lk (co_L_removeRow l d) 3 = am_iload 1 4 ∧ am_lk (co_L_removeRow l d) 4 = am_calH l d y_P_removeRow (some 0) 2 [(3, 1)] 7 1 6 1 6 ∧ am_lk (co_L_removeRow l d) 7 = am_i2l 8 ∧ am_lk (co_L_removeRow l d) 8 = am_last 9 ∧ am_lk (co_L_removeRow l d) 9 = am_goto 15 ∧ am_lk (co_L_removeRow l d) 15 = am_push (vI 0) 16 ∧ am_lk (co_L_removeRow l d) 16 = am_iret false := ⟨rfl, rfl, rfl, rfl, rfl, rfl, rfl, rfl, rfl, rfl⟩
theorem en_L_removeRow {l : Launch} {d : Nat} (n : Nat) {as : List am_V} {G : am_G} {I : am_I} {J : am_J} {P : am_P} (hlen : (as.map am_cat).sum ≤ 4) (h : am_go (am_lk (co_L_removeRow l d)) (am_X l (0, fun _ => 0) (d + 1) y_L_removeRow P) P n 0 (am_el 4 as) [] 0 0 G I J) : am_T l (d + 1) y_L_removeRow as G I J P :=
  am_T_of (sc := (0, fun _ => 0)) cf_L_removeRow (by decide +kernel) (by decide) (by decide +kernel) hlen (am_run (ok_lk _ (ck_L_removeRow)) n _ _ _ _ _ _ _ _ h)
theorem rn_L_removeRow {l : Launch} {sc : Nat × (Nat → Int32)} {d : Nat} {P : am_P} (n : Nat) {pc : Nat} {ls : am_L} {st : List am_V} {kc ks : Nat} {G : am_G} {I : am_I} {J : am_J} (h : am_go (am_lk (co_L_removeRow l d)) (am_X l sc (d + 1) y_L_removeRow P) P n pc ls st kc ks G I J) : am_X l sc (d + 1) y_L_removeRow P pc ls st kc ks G I J := am_run (ok_lk _ (ck_L_removeRow)) n _ _ _ _ _ _ _ _ h
theorem hh_L_addSpan : ∀ (e : Nat) (k : Int32), am_fnd [(3, 1), (1, 2), (2, 3)] e = some k → am_hd y_L_addSpan 7 e k := by
  intro e k h
  by_cases h3 : e = 3
  · subst h3
    have hk : (1 : Int32) = k := Option.some.inj h
    subst hk
    exact ⟨[], (0, 12, 15, 28), [(0, 12, 19, 13), (0, 12, 23, 15)], rfl, by decide, by decide, w_569, w_584, fa_nil, ⟨2, Or.inr ⟨5, by decide +kernel, rfl, by decide +kernel⟩, ⟨1, by decide +kernel, rfl⟩, by decide +kernel⟩, rfl⟩
  by_cases h1 : e = 1
  · subst h1
    have hk : (2 : Int32) = k := Option.some.inj h
    subst hk
    exact ⟨[(0, 12, 15, 28)], (0, 12, 19, 13), [(0, 12, 23, 15)], rfl, by decide, by decide, w_399, w_407, fa_cons ⟨by decide, 3, w_569, by decide +kernel⟩ (fa_nil), ⟨2, Or.inr ⟨5, by decide +kernel, rfl, by decide +kernel⟩, ⟨2, by decide +kernel, rfl⟩, by decide +kernel⟩, rfl⟩
  by_cases h2 : e = 2
  · subst h2
    have hk : (3 : Int32) = k := Option.some.inj h
    subst hk
    exact ⟨[(0, 12, 15, 28), (0, 12, 19, 13)], (0, 12, 23, 15), [], rfl, by decide, by decide, w_400, w_479, fa_cons ⟨by decide, 3, w_569, by decide +kernel⟩ (fa_cons ⟨by decide, 1, w_399, by decide +kernel⟩ (fa_nil)), ⟨2, Or.inr ⟨5, by decide +kernel, rfl, by decide +kernel⟩, ⟨3, by decide +kernel, rfl⟩, by decide +kernel⟩, rfl⟩
  simp [am_fnd, h3, h1, h2] at h
def co_L_addSpan (l : Launch) (d : Nat) : List (Nat × am_S) := [(0, am_aload 4 2), (2, am_push (vI 0) 3), (3, am_aload 0 4), (4, am_iload 1 5), (5, am_iload 2 6), (6, am_iload 3 7), (7, am_calH l d y_P_addSpan (some 0) 4 [(3, 1), (1, 2), (2, 3)] 10 3 18 3 18), (10, am_i2l 11), (11, am_last 12), (12, am_goto 27), (27, am_push (vI 0) 28), (28, am_iret false)]
theorem ck_L_addSpan {l : Launch} {sc : Nat × (Nat → Int32)} {d : Nat} : ∀ q ∈ co_L_addSpan l d, am_ok l sc (d + 1) y_L_addSpan q.1 q.2 :=
  fa_cons (ok_aload (show decode (am_mB y_L_addSpan) 0 = .ok (.aload 4, 2) by decide +kernel)) <|
  fa_cons (ok_iconst (show decode (am_mB y_L_addSpan) 2 = .ok (.iconst 0, 1) by decide +kernel) rfl) <|
  fa_cons (ok_aload_n (show decode (am_mB y_L_addSpan) 3 = .ok (.aload_n 0, 1) by decide +kernel) rfl) <|
  fa_cons (ok_iload_n (show decode (am_mB y_L_addSpan) 4 = .ok (.iload_n 1, 1) by decide +kernel) rfl) <|
  fa_cons (ok_iload_n (show decode (am_mB y_L_addSpan) 5 = .ok (.iload_n 2, 1) by decide +kernel) rfl) <|
  fa_cons (ok_iload_n (show decode (am_mB y_L_addSpan) 6 = .ok (.iload_n 3, 1) by decide +kernel) rfl) <|
  fa_cons (ok_calH ⟨rfl, rfl, rfl, rfl⟩ (ok_callH (show decode (am_mB y_L_addSpan) 7 = .ok (.invokevirtual 65, 3) by decide +kernel) cf_P_addSpan (by decide +kernel) w_769 ci_P_addSpan cv_P_addSpan ⟨by decide, rfl⟩ rfl (by decide +kernel) hh_L_addSpan)) <|
  fa_cons (ok_i2l (show decode (am_mB y_L_addSpan) 10 = .ok (.i2l, 1) by decide +kernel)) <|
  fa_cons (ok_last (show decode (am_mB y_L_addSpan) 11 = .ok (.lastore, 1) by decide +kernel)) <|
  fa_cons (ok_goto (show decode (am_mB y_L_addSpan) 12 = .ok (.goto 15, 3) by decide +kernel) (by decide)) <|
  fa_cons (ok_iconst (show decode (am_mB y_L_addSpan) 27 = .ok (.iconst 0, 1) by decide +kernel) rfl) <|
  fa_cons (ok_iret (show decode (am_mB y_L_addSpan) 28 = .ok (.ireturn, 1) by decide +kernel) rfl) <|
  fa_nil
set_option maxRecDepth 100000 in
theorem cq_L_addSpan (l : Launch) (d : Nat) : am_lk (co_L_addSpan l d) 0 = am_aload 4 2 ∧ am_lk (co_L_addSpan l d) 2 = am_push (vI 0) 3 ∧ am_lk (co_L_addSpan l d) 3 = am_aload 0 4 ∧ am_lk (co_L_addSpan l d) 4 = am_iload 1 5 ∧ am_lk (co_L_addSpan l d) 5 = am_iload 2 6 ∧ am_lk (co_L_addSpan l d) 6 = am_iload 3 7 ∧ am_lk (co_L_addSpan l d) 7 = am_calH l d y_P_addSpan (some 0) 4 [(3, 1), (1, 2), (2, 3)] 10 3 18 3 18 ∧ am_lk (co_L_addSpan l d) 10 = am_i2l 11 ∧ am_lk (co_L_addSpan l d) 11 = am_last 12 ∧ am_lk (co_L_addSpan l d) 12 = am_goto 27 ∧ am_lk (co_L_addSpan l d) 27 = am_push (vI 0) 28 ∧ am_lk (co_L_addSpan l d) 28 = am_iret false := ⟨rfl, rfl, rfl, rfl, rfl, rfl, rfl, rfl, rfl, rfl, rfl, rfl⟩
theorem en_L_addSpan {l : Launch} {d : Nat} (n : Nat) {as : List am_V} {G : am_G} {I : am_I} {J : am_J} {P : am_P} (hlen : (as.map am_cat).sum ≤ 6) (h : am_go (am_lk (co_L_addSpan l d)) (am_X l (0, fun _ => 0) (d + 1) y_L_addSpan P) P n 0 (am_el 6 as) [] 0 0 G I J) : am_T l (d + 1) y_L_addSpan as G I J P :=
  am_T_of (sc := (0, fun _ => 0)) cf_L_addSpan (by decide +kernel) (by decide) (by decide +kernel) hlen (am_run (ok_lk _ (ck_L_addSpan)) n _ _ _ _ _ _ _ _ h)
theorem rn_L_addSpan {l : Launch} {sc : Nat × (Nat → Int32)} {d : Nat} {P : am_P} (n : Nat) {pc : Nat} {ls : am_L} {st : List am_V} {kc ks : Nat} {G : am_G} {I : am_I} {J : am_J} (h : am_go (am_lk (co_L_addSpan l d)) (am_X l sc (d + 1) y_L_addSpan P) P n pc ls st kc ks G I J) : am_X l sc (d + 1) y_L_addSpan P pc ls st kc ks G I J := am_run (ok_lk _ (ck_L_addSpan)) n _ _ _ _ _ _ _ _ h
theorem hh_L_removeSpan : ∀ (e : Nat) (k : Int32), am_fnd [(3, 1)] e = some k → am_hd y_L_removeSpan 4 e k := by
  intro e k h
  by_cases h3 : e = 3
  · subst h3
    have hk : (1 : Int32) = k := Option.some.inj h
    subst hk
    exact ⟨[], (0, 9, 12, 28), [], rfl, by decide, by decide, w_569, w_584, fa_nil, ⟨1, Or.inl ⟨3, by decide +kernel, rfl, by decide +kernel⟩, ⟨1, by decide +kernel, rfl⟩, by decide +kernel⟩, rfl⟩
  simp [am_fnd, h3] at h
def co_L_removeSpan (l : Launch) (d : Nat) : List (Nat × am_S) := [(0, am_aload 2 1), (1, am_push (vI 0) 2), (2, am_aload 0 3), (3, am_iload 1 4), (4, am_calH l d y_P_removeSpan (some 0) 2 [(3, 1)] 7 1 6 1 6), (7, am_i2l 8), (8, am_last 9), (9, am_goto 15), (15, am_push (vI 0) 16), (16, am_iret false)]
theorem ck_L_removeSpan {l : Launch} {sc : Nat × (Nat → Int32)} {d : Nat} : ∀ q ∈ co_L_removeSpan l d, am_ok l sc (d + 1) y_L_removeSpan q.1 q.2 :=
  fa_cons (ok_aload_n (show decode (am_mB y_L_removeSpan) 0 = .ok (.aload_n 2, 1) by decide +kernel) rfl) <|
  fa_cons (ok_iconst (show decode (am_mB y_L_removeSpan) 1 = .ok (.iconst 0, 1) by decide +kernel) rfl) <|
  fa_cons (ok_aload_n (show decode (am_mB y_L_removeSpan) 2 = .ok (.aload_n 0, 1) by decide +kernel) rfl) <|
  fa_cons (ok_iload_n (show decode (am_mB y_L_removeSpan) 3 = .ok (.iload_n 1, 1) by decide +kernel) rfl) <|
  fa_cons (ok_calH ⟨rfl, rfl, rfl, rfl⟩ (ok_callH (show decode (am_mB y_L_removeSpan) 4 = .ok (.invokevirtual 69, 3) by decide +kernel) cf_P_removeSpan (by decide +kernel) w_780 ci_P_removeSpan cv_P_removeSpan ⟨by decide, rfl⟩ rfl (by decide +kernel) hh_L_removeSpan)) <|
  fa_cons (ok_i2l (show decode (am_mB y_L_removeSpan) 7 = .ok (.i2l, 1) by decide +kernel)) <|
  fa_cons (ok_last (show decode (am_mB y_L_removeSpan) 8 = .ok (.lastore, 1) by decide +kernel)) <|
  fa_cons (ok_goto (show decode (am_mB y_L_removeSpan) 9 = .ok (.goto 6, 3) by decide +kernel) (by decide)) <|
  fa_cons (ok_iconst (show decode (am_mB y_L_removeSpan) 15 = .ok (.iconst 0, 1) by decide +kernel) rfl) <|
  fa_cons (ok_iret (show decode (am_mB y_L_removeSpan) 16 = .ok (.ireturn, 1) by decide +kernel) rfl) <|
  fa_nil
set_option maxRecDepth 100000 in
theorem cq_L_removeSpan (l : Launch) (d : Nat) : am_lk (co_L_removeSpan l d) 0 = am_aload 2 1 ∧ am_lk (co_L_removeSpan l d) 1 = am_push (vI 0) 2 ∧ am_lk (co_L_removeSpan l d) 2 = am_aload 0 3 ∧ am_lk (co_L_removeSpan l d) 3 = am_iload 1 4 ∧ am_lk (co_L_removeSpan l d) 4 = am_calH l d y_P_removeSpan (some 0) 2 [(3, 1)] 7 1 6 1 6 ∧ am_lk (co_L_removeSpan l d) 7 = am_i2l 8 ∧ am_lk (co_L_removeSpan l d) 8 = am_last 9 ∧ am_lk (co_L_removeSpan l d) 9 = am_goto 15 ∧ am_lk (co_L_removeSpan l d) 15 = am_push (vI 0) 16 ∧ am_lk (co_L_removeSpan l d) 16 = am_iret false := ⟨rfl, rfl, rfl, rfl, rfl, rfl, rfl, rfl, rfl, rfl⟩
theorem en_L_removeSpan {l : Launch} {d : Nat} (n : Nat) {as : List am_V} {G : am_G} {I : am_I} {J : am_J} {P : am_P} (hlen : (as.map am_cat).sum ≤ 4) (h : am_go (am_lk (co_L_removeSpan l d)) (am_X l (0, fun _ => 0) (d + 1) y_L_removeSpan P) P n 0 (am_el 4 as) [] 0 0 G I J) : am_T l (d + 1) y_L_removeSpan as G I J P :=
  am_T_of (sc := (0, fun _ => 0)) cf_L_removeSpan (by decide +kernel) (by decide) (by decide +kernel) hlen (am_run (ok_lk _ (ck_L_removeSpan)) n _ _ _ _ _ _ _ _ h)
theorem rn_L_removeSpan {l : Launch} {sc : Nat × (Nat → Int32)} {d : Nat} {P : am_P} (n : Nat) {pc : Nat} {ls : am_L} {st : List am_V} {kc ks : Nat} {G : am_G} {I : am_I} {J : am_J} (h : am_go (am_lk (co_L_removeSpan l d)) (am_X l sc (d + 1) y_L_removeSpan P) P n pc ls st kc ks G I J) : am_X l sc (d + 1) y_L_removeSpan P pc ls st kc ks G I J := am_run (ok_lk _ (ck_L_removeSpan)) n _ _ _ _ _ _ _ _ h
theorem hh_L_setHeight : ∀ (e : Nat) (k : Int32), am_fnd [(1, 1)] e = some k → am_hd y_L_setHeight 5 e k := by
  intro e k h
  by_cases h1 : e = 1
  · subst h1
    have hk : (1 : Int32) = k := Option.some.inj h
    subst hk
    exact ⟨[], (0, 10, 13, 13), [], rfl, by decide, by decide, w_399, w_407, fa_nil, ⟨2, Or.inr ⟨4, by decide +kernel, rfl, by decide +kernel⟩, ⟨1, by decide +kernel, rfl⟩, by decide +kernel⟩, rfl⟩
  simp [am_fnd, h1] at h
def co_L_setHeight (l : Launch) (d : Nat) : List (Nat × am_S) := [(0, am_aload 3 1), (1, am_push (vI 0) 2), (2, am_aload 0 3), (3, am_iload 1 4), (4, am_iload 2 5), (5, am_calH l d y_P_setHeight (some 0) 3 [(1, 1)] 8 1 6 1 6), (8, am_i2l 9), (9, am_last 10), (10, am_goto 17), (17, am_push (vI 0) 18), (18, am_iret false)]
theorem ck_L_setHeight {l : Launch} {sc : Nat × (Nat → Int32)} {d : Nat} : ∀ q ∈ co_L_setHeight l d, am_ok l sc (d + 1) y_L_setHeight q.1 q.2 :=
  fa_cons (ok_aload_n (show decode (am_mB y_L_setHeight) 0 = .ok (.aload_n 3, 1) by decide +kernel) rfl) <|
  fa_cons (ok_iconst (show decode (am_mB y_L_setHeight) 1 = .ok (.iconst 0, 1) by decide +kernel) rfl) <|
  fa_cons (ok_aload_n (show decode (am_mB y_L_setHeight) 2 = .ok (.aload_n 0, 1) by decide +kernel) rfl) <|
  fa_cons (ok_iload_n (show decode (am_mB y_L_setHeight) 3 = .ok (.iload_n 1, 1) by decide +kernel) rfl) <|
  fa_cons (ok_iload_n (show decode (am_mB y_L_setHeight) 4 = .ok (.iload_n 2, 1) by decide +kernel) rfl) <|
  fa_cons (ok_calH ⟨rfl, rfl, rfl, rfl⟩ (ok_callH (show decode (am_mB y_L_setHeight) 5 = .ok (.invokevirtual 72, 3) by decide +kernel) cf_P_setHeight (by decide +kernel) w_791 ci_P_setHeight cv_P_setHeight ⟨by decide, rfl⟩ rfl (by decide +kernel) hh_L_setHeight)) <|
  fa_cons (ok_i2l (show decode (am_mB y_L_setHeight) 8 = .ok (.i2l, 1) by decide +kernel)) <|
  fa_cons (ok_last (show decode (am_mB y_L_setHeight) 9 = .ok (.lastore, 1) by decide +kernel)) <|
  fa_cons (ok_goto (show decode (am_mB y_L_setHeight) 10 = .ok (.goto 7, 3) by decide +kernel) (by decide)) <|
  fa_cons (ok_iconst (show decode (am_mB y_L_setHeight) 17 = .ok (.iconst 0, 1) by decide +kernel) rfl) <|
  fa_cons (ok_iret (show decode (am_mB y_L_setHeight) 18 = .ok (.ireturn, 1) by decide +kernel) rfl) <|
  fa_nil
set_option maxRecDepth 100000 in
theorem cq_L_setHeight (l : Launch) (d : Nat) : am_lk (co_L_setHeight l d) 0 = am_aload 3 1 ∧ am_lk (co_L_setHeight l d) 1 = am_push (vI 0) 2 ∧ am_lk (co_L_setHeight l d) 2 = am_aload 0 3 ∧ am_lk (co_L_setHeight l d) 3 = am_iload 1 4 ∧ am_lk (co_L_setHeight l d) 4 = am_iload 2 5 ∧ am_lk (co_L_setHeight l d) 5 = am_calH l d y_P_setHeight (some 0) 3 [(1, 1)] 8 1 6 1 6 ∧ am_lk (co_L_setHeight l d) 8 = am_i2l 9 ∧ am_lk (co_L_setHeight l d) 9 = am_last 10 ∧ am_lk (co_L_setHeight l d) 10 = am_goto 17 ∧ am_lk (co_L_setHeight l d) 17 = am_push (vI 0) 18 ∧ am_lk (co_L_setHeight l d) 18 = am_iret false := ⟨rfl, rfl, rfl, rfl, rfl, rfl, rfl, rfl, rfl, rfl, rfl⟩
theorem en_L_setHeight {l : Launch} {d : Nat} (n : Nat) {as : List am_V} {G : am_G} {I : am_I} {J : am_J} {P : am_P} (hlen : (as.map am_cat).sum ≤ 5) (h : am_go (am_lk (co_L_setHeight l d)) (am_X l (0, fun _ => 0) (d + 1) y_L_setHeight P) P n 0 (am_el 5 as) [] 0 0 G I J) : am_T l (d + 1) y_L_setHeight as G I J P :=
  am_T_of (sc := (0, fun _ => 0)) cf_L_setHeight (by decide +kernel) (by decide) (by decide +kernel) hlen (am_run (ok_lk _ (ck_L_setHeight)) n _ _ _ _ _ _ _ _ h)
theorem rn_L_setHeight {l : Launch} {sc : Nat × (Nat → Int32)} {d : Nat} {P : am_P} (n : Nat) {pc : Nat} {ls : am_L} {st : List am_V} {kc ks : Nat} {G : am_G} {I : am_I} {J : am_J} (h : am_go (am_lk (co_L_setHeight l d)) (am_X l sc (d + 1) y_L_setHeight P) P n pc ls st kc ks G I J) : am_X l sc (d + 1) y_L_setHeight P pc ls st kc ks G I J := am_run (ok_lk _ (ck_L_setHeight)) n _ _ _ _ _ _ _ _ h
theorem hh_L_undo : ∀ (e : Nat) (k : Int32), am_fnd [(2, 1)] e = some k → am_hd y_L_undo 3 e k := by
  intro e k h
  by_cases h2 : e = 2
  · subst h2
    have hk : (1 : Int32) = k := Option.some.inj h
    subst hk
    exact ⟨[], (0, 8, 11, 15), [], rfl, by decide, by decide, w_400, w_479, fa_nil, ⟨1, Or.inl ⟨2, by decide +kernel, rfl, by decide +kernel⟩, ⟨1, by decide +kernel, rfl⟩, by decide +kernel⟩, rfl⟩
  simp [am_fnd, h2] at h
def co_L_undo (l : Launch) (d : Nat) : List (Nat × am_S) := [(0, am_aload 1 1), (1, am_push (vI 0) 2), (2, am_aload 0 3), (3, am_calH l d y_P_undo (some 0) 1 [(2, 1)] 6 1 6 1 6), (6, am_i2l 7), (7, am_last 8), (8, am_goto 14), (14, am_push (vI 0) 15), (15, am_iret false)]
theorem ck_L_undo {l : Launch} {sc : Nat × (Nat → Int32)} {d : Nat} : ∀ q ∈ co_L_undo l d, am_ok l sc (d + 1) y_L_undo q.1 q.2 :=
  fa_cons (ok_aload_n (show decode (am_mB y_L_undo) 0 = .ok (.aload_n 1, 1) by decide +kernel) rfl) <|
  fa_cons (ok_iconst (show decode (am_mB y_L_undo) 1 = .ok (.iconst 0, 1) by decide +kernel) rfl) <|
  fa_cons (ok_aload_n (show decode (am_mB y_L_undo) 2 = .ok (.aload_n 0, 1) by decide +kernel) rfl) <|
  fa_cons (ok_calH ⟨rfl, rfl, rfl, rfl⟩ (ok_callH (show decode (am_mB y_L_undo) 3 = .ok (.invokevirtual 75, 3) by decide +kernel) cf_P_undo (by decide +kernel) w_806 ci_P_undo cv_P_undo ⟨by decide, rfl⟩ rfl (by decide +kernel) hh_L_undo)) <|
  fa_cons (ok_i2l (show decode (am_mB y_L_undo) 6 = .ok (.i2l, 1) by decide +kernel)) <|
  fa_cons (ok_last (show decode (am_mB y_L_undo) 7 = .ok (.lastore, 1) by decide +kernel)) <|
  fa_cons (ok_goto (show decode (am_mB y_L_undo) 8 = .ok (.goto 6, 3) by decide +kernel) (by decide)) <|
  fa_cons (ok_iconst (show decode (am_mB y_L_undo) 14 = .ok (.iconst 0, 1) by decide +kernel) rfl) <|
  fa_cons (ok_iret (show decode (am_mB y_L_undo) 15 = .ok (.ireturn, 1) by decide +kernel) rfl) <|
  fa_nil
set_option maxRecDepth 100000 in
theorem cq_L_undo (l : Launch) (d : Nat) : am_lk (co_L_undo l d) 0 = am_aload 1 1 ∧ am_lk (co_L_undo l d) 1 = am_push (vI 0) 2 ∧ am_lk (co_L_undo l d) 2 = am_aload 0 3 ∧ am_lk (co_L_undo l d) 3 = am_calH l d y_P_undo (some 0) 1 [(2, 1)] 6 1 6 1 6 ∧ am_lk (co_L_undo l d) 6 = am_i2l 7 ∧ am_lk (co_L_undo l d) 7 = am_last 8 ∧ am_lk (co_L_undo l d) 8 = am_goto 14 ∧ am_lk (co_L_undo l d) 14 = am_push (vI 0) 15 ∧ am_lk (co_L_undo l d) 15 = am_iret false := ⟨rfl, rfl, rfl, rfl, rfl, rfl, rfl, rfl, rfl⟩
theorem en_L_undo {l : Launch} {d : Nat} (n : Nat) {as : List am_V} {G : am_G} {I : am_I} {J : am_J} {P : am_P} (hlen : (as.map am_cat).sum ≤ 3) (h : am_go (am_lk (co_L_undo l d)) (am_X l (0, fun _ => 0) (d + 1) y_L_undo P) P n 0 (am_el 3 as) [] 0 0 G I J) : am_T l (d + 1) y_L_undo as G I J P :=
  am_T_of (sc := (0, fun _ => 0)) cf_L_undo (by decide +kernel) (by decide) (by decide +kernel) hlen (am_run (ok_lk _ (ck_L_undo)) n _ _ _ _ _ _ _ _ h)
theorem rn_L_undo {l : Launch} {sc : Nat × (Nat → Int32)} {d : Nat} {P : am_P} (n : Nat) {pc : Nat} {ls : am_L} {st : List am_V} {kc ks : Nat} {G : am_G} {I : am_I} {J : am_J} (h : am_go (am_lk (co_L_undo l d)) (am_X l sc (d + 1) y_L_undo P) P n pc ls st kc ks G I J) : am_X l sc (d + 1) y_L_undo P pc ls st kc ks G I J := am_run (ok_lk _ (ck_L_undo)) n _ _ _ _ _ _ _ _ h
theorem hh_L_heightFor : ∀ (e : Nat) (k : Int32), am_fnd [(1, 1)] e = some k → am_hd y_L_heightFor 4 e k := by
  intro e k h
  by_cases h1 : e = 1
  · subst h1
    have hk : (1 : Int32) = k := Option.some.inj h
    subst hk
    exact ⟨[], (0, 9, 12, 13), [], rfl, by decide, by decide, w_399, w_407, fa_nil, ⟨1, Or.inl ⟨3, by decide +kernel, rfl, by decide +kernel⟩, ⟨1, by decide +kernel, rfl⟩, by decide +kernel⟩, rfl⟩
  simp [am_fnd, h1] at h
def co_L_heightFor (l : Launch) (d : Nat) : List (Nat × am_S) := [(0, am_aload 2 1), (1, am_push (vI 0) 2), (2, am_aload 0 3), (3, am_iload 1 4), (4, am_calH l d y_P_heightFor (some 0) 2 [(1, 1)] 7 1 6 1 6), (7, am_i2l 8), (8, am_last 9), (9, am_goto 15), (15, am_push (vI 0) 16), (16, am_iret false)]
theorem ck_L_heightFor {l : Launch} {sc : Nat × (Nat → Int32)} {d : Nat} : ∀ q ∈ co_L_heightFor l d, am_ok l sc (d + 1) y_L_heightFor q.1 q.2 :=
  fa_cons (ok_aload_n (show decode (am_mB y_L_heightFor) 0 = .ok (.aload_n 2, 1) by decide +kernel) rfl) <|
  fa_cons (ok_iconst (show decode (am_mB y_L_heightFor) 1 = .ok (.iconst 0, 1) by decide +kernel) rfl) <|
  fa_cons (ok_aload_n (show decode (am_mB y_L_heightFor) 2 = .ok (.aload_n 0, 1) by decide +kernel) rfl) <|
  fa_cons (ok_iload_n (show decode (am_mB y_L_heightFor) 3 = .ok (.iload_n 1, 1) by decide +kernel) rfl) <|
  fa_cons (ok_calH ⟨rfl, rfl, rfl, rfl⟩ (ok_callH (show decode (am_mB y_L_heightFor) 4 = .ok (.invokevirtual 78, 3) by decide +kernel) cf_P_heightFor (by decide +kernel) w_818 ci_P_heightFor cv_P_heightFor ⟨by decide, rfl⟩ rfl (by decide +kernel) hh_L_heightFor)) <|
  fa_cons (ok_i2l (show decode (am_mB y_L_heightFor) 7 = .ok (.i2l, 1) by decide +kernel)) <|
  fa_cons (ok_last (show decode (am_mB y_L_heightFor) 8 = .ok (.lastore, 1) by decide +kernel)) <|
  fa_cons (ok_goto (show decode (am_mB y_L_heightFor) 9 = .ok (.goto 6, 3) by decide +kernel) (by decide)) <|
  fa_cons (ok_iconst (show decode (am_mB y_L_heightFor) 15 = .ok (.iconst 0, 1) by decide +kernel) rfl) <|
  fa_cons (ok_iret (show decode (am_mB y_L_heightFor) 16 = .ok (.ireturn, 1) by decide +kernel) rfl) <|
  fa_nil
set_option maxRecDepth 100000 in
theorem cq_L_heightFor (l : Launch) (d : Nat) : am_lk (co_L_heightFor l d) 0 = am_aload 2 1 ∧ am_lk (co_L_heightFor l d) 1 = am_push (vI 0) 2 ∧ am_lk (co_L_heightFor l d) 2 = am_aload 0 3 ∧ am_lk (co_L_heightFor l d) 3 = am_iload 1 4 ∧ am_lk (co_L_heightFor l d) 4 = am_calH l d y_P_heightFor (some 0) 2 [(1, 1)] 7 1 6 1 6 ∧ am_lk (co_L_heightFor l d) 7 = am_i2l 8 ∧ am_lk (co_L_heightFor l d) 8 = am_last 9 ∧ am_lk (co_L_heightFor l d) 9 = am_goto 15 ∧ am_lk (co_L_heightFor l d) 15 = am_push (vI 0) 16 ∧ am_lk (co_L_heightFor l d) 16 = am_iret false := ⟨rfl, rfl, rfl, rfl, rfl, rfl, rfl, rfl, rfl, rfl⟩
theorem en_L_heightFor {l : Launch} {d : Nat} (n : Nat) {as : List am_V} {G : am_G} {I : am_I} {J : am_J} {P : am_P} (hlen : (as.map am_cat).sum ≤ 4) (h : am_go (am_lk (co_L_heightFor l d)) (am_X l (0, fun _ => 0) (d + 1) y_L_heightFor P) P n 0 (am_el 4 as) [] 0 0 G I J) : am_T l (d + 1) y_L_heightFor as G I J P :=
  am_T_of (sc := (0, fun _ => 0)) cf_L_heightFor (by decide +kernel) (by decide) (by decide +kernel) hlen (am_run (ok_lk _ (ck_L_heightFor)) n _ _ _ _ _ _ _ _ h)
theorem rn_L_heightFor {l : Launch} {sc : Nat × (Nat → Int32)} {d : Nat} {P : am_P} (n : Nat) {pc : Nat} {ls : am_L} {st : List am_V} {kc ks : Nat} {G : am_G} {I : am_I} {J : am_J} (h : am_go (am_lk (co_L_heightFor l d)) (am_X l sc (d + 1) y_L_heightFor P) P n pc ls st kc ks G I J) : am_X l sc (d + 1) y_L_heightFor P pc ls st kc ks G I J := am_run (ok_lk _ (ck_L_heightFor)) n _ _ _ _ _ _ _ _ h
theorem hh_L_evenCut : ∀ (e : Nat) (k : Int32), am_fnd [(1, 1)] e = some k → am_hd y_L_evenCut 4 e k := by
  intro e k h
  by_cases h1 : e = 1
  · subst h1
    have hk : (1 : Int32) = k := Option.some.inj h
    subst hk
    exact ⟨[], (0, 9, 12, 13), [], rfl, by decide, by decide, w_399, w_407, fa_nil, ⟨1, Or.inl ⟨3, by decide +kernel, rfl, by decide +kernel⟩, ⟨1, by decide +kernel, rfl⟩, by decide +kernel⟩, rfl⟩
  simp [am_fnd, h1] at h
def co_L_evenCut (l : Launch) (d : Nat) : List (Nat × am_S) := [(0, am_aload 2 1), (1, am_push (vI 0) 2), (2, am_aload 0 3), (3, am_iload 1 4), (4, am_calH l d y_P_evenCut (some 0) 2 [(1, 1)] 7 1 6 1 6), (7, am_i2l 8), (8, am_last 9), (9, am_goto 15), (15, am_push (vI 0) 16), (16, am_iret false)]
theorem ck_L_evenCut {l : Launch} {sc : Nat × (Nat → Int32)} {d : Nat} : ∀ q ∈ co_L_evenCut l d, am_ok l sc (d + 1) y_L_evenCut q.1 q.2 :=
  fa_cons (ok_aload_n (show decode (am_mB y_L_evenCut) 0 = .ok (.aload_n 2, 1) by decide +kernel) rfl) <|
  fa_cons (ok_iconst (show decode (am_mB y_L_evenCut) 1 = .ok (.iconst 0, 1) by decide +kernel) rfl) <|
  fa_cons (ok_aload_n (show decode (am_mB y_L_evenCut) 2 = .ok (.aload_n 0, 1) by decide +kernel) rfl) <|
  fa_cons (ok_iload_n (show decode (am_mB y_L_evenCut) 3 = .ok (.iload_n 1, 1) by decide +kernel) rfl) <|
  fa_cons (ok_calH ⟨rfl, rfl, rfl, rfl⟩ (ok_callH (show decode (am_mB y_L_evenCut) 4 = .ok (.invokevirtual 81, 3) by decide +kernel) cf_P_evenCut (by decide +kernel) w_826 ci_P_evenCut cv_P_evenCut ⟨by decide, rfl⟩ rfl (by decide +kernel) hh_L_evenCut)) <|
  fa_cons (ok_i2l (show decode (am_mB y_L_evenCut) 7 = .ok (.i2l, 1) by decide +kernel)) <|
  fa_cons (ok_last (show decode (am_mB y_L_evenCut) 8 = .ok (.lastore, 1) by decide +kernel)) <|
  fa_cons (ok_goto (show decode (am_mB y_L_evenCut) 9 = .ok (.goto 6, 3) by decide +kernel) (by decide)) <|
  fa_cons (ok_iconst (show decode (am_mB y_L_evenCut) 15 = .ok (.iconst 0, 1) by decide +kernel) rfl) <|
  fa_cons (ok_iret (show decode (am_mB y_L_evenCut) 16 = .ok (.ireturn, 1) by decide +kernel) rfl) <|
  fa_nil
set_option maxRecDepth 100000 in
theorem cq_L_evenCut (l : Launch) (d : Nat) : am_lk (co_L_evenCut l d) 0 = am_aload 2 1 ∧ am_lk (co_L_evenCut l d) 1 = am_push (vI 0) 2 ∧ am_lk (co_L_evenCut l d) 2 = am_aload 0 3 ∧ am_lk (co_L_evenCut l d) 3 = am_iload 1 4 ∧ am_lk (co_L_evenCut l d) 4 = am_calH l d y_P_evenCut (some 0) 2 [(1, 1)] 7 1 6 1 6 ∧ am_lk (co_L_evenCut l d) 7 = am_i2l 8 ∧ am_lk (co_L_evenCut l d) 8 = am_last 9 ∧ am_lk (co_L_evenCut l d) 9 = am_goto 15 ∧ am_lk (co_L_evenCut l d) 15 = am_push (vI 0) 16 ∧ am_lk (co_L_evenCut l d) 16 = am_iret false := ⟨rfl, rfl, rfl, rfl, rfl, rfl, rfl, rfl, rfl, rfl⟩
theorem en_L_evenCut {l : Launch} {d : Nat} (n : Nat) {as : List am_V} {G : am_G} {I : am_I} {J : am_J} {P : am_P} (hlen : (as.map am_cat).sum ≤ 4) (h : am_go (am_lk (co_L_evenCut l d)) (am_X l (0, fun _ => 0) (d + 1) y_L_evenCut P) P n 0 (am_el 4 as) [] 0 0 G I J) : am_T l (d + 1) y_L_evenCut as G I J P :=
  am_T_of (sc := (0, fun _ => 0)) cf_L_evenCut (by decide +kernel) (by decide) (by decide +kernel) hlen (am_run (ok_lk _ (ck_L_evenCut)) n _ _ _ _ _ _ _ _ h)
theorem rn_L_evenCut {l : Launch} {sc : Nat × (Nat → Int32)} {d : Nat} {P : am_P} (n : Nat) {pc : Nat} {ls : am_L} {st : List am_V} {kc ks : Nat} {G : am_G} {I : am_I} {J : am_J} (h : am_go (am_lk (co_L_evenCut l d)) (am_X l sc (d + 1) y_L_evenCut P) P n pc ls st kc ks G I J) : am_X l sc (d + 1) y_L_evenCut P pc ls st kc ks G I J := am_run (ok_lk _ (ck_L_evenCut)) n _ _ _ _ _ _ _ _ h
theorem hh_L_emptyFrom : ∀ (e : Nat) (k : Int32), am_fnd [(3, 1)] e = some k → am_hd y_L_emptyFrom 4 e k := by
  intro e k h
  by_cases h3 : e = 3
  · subst h3
    have hk : (1 : Int32) = k := Option.some.inj h
    subst hk
    exact ⟨[], (0, 9, 12, 28), [], rfl, by decide, by decide, w_569, w_584, fa_nil, ⟨1, Or.inl ⟨3, by decide +kernel, rfl, by decide +kernel⟩, ⟨1, by decide +kernel, rfl⟩, by decide +kernel⟩, rfl⟩
  simp [am_fnd, h3] at h
def co_L_emptyFrom (l : Launch) (d : Nat) : List (Nat × am_S) := [(0, am_aload 2 1), (1, am_push (vI 0) 2), (2, am_aload 0 3), (3, am_iload 1 4), (4, am_calH l d y_P_emptyFrom (some 0) 2 [(3, 1)] 7 1 6 1 6), (7, am_i2l 8), (8, am_last 9), (9, am_goto 15), (15, am_push (vI 0) 16), (16, am_iret false)]
theorem ck_L_emptyFrom {l : Launch} {sc : Nat × (Nat → Int32)} {d : Nat} : ∀ q ∈ co_L_emptyFrom l d, am_ok l sc (d + 1) y_L_emptyFrom q.1 q.2 :=
  fa_cons (ok_aload_n (show decode (am_mB y_L_emptyFrom) 0 = .ok (.aload_n 2, 1) by decide +kernel) rfl) <|
  fa_cons (ok_iconst (show decode (am_mB y_L_emptyFrom) 1 = .ok (.iconst 0, 1) by decide +kernel) rfl) <|
  fa_cons (ok_aload_n (show decode (am_mB y_L_emptyFrom) 2 = .ok (.aload_n 0, 1) by decide +kernel) rfl) <|
  fa_cons (ok_iload_n (show decode (am_mB y_L_emptyFrom) 3 = .ok (.iload_n 1, 1) by decide +kernel) rfl) <|
  fa_cons (ok_calH ⟨rfl, rfl, rfl, rfl⟩ (ok_callH (show decode (am_mB y_L_emptyFrom) 4 = .ok (.invokevirtual 84, 3) by decide +kernel) cf_P_emptyFrom (by decide +kernel) w_838 ci_P_emptyFrom cv_P_emptyFrom ⟨by decide, rfl⟩ rfl (by decide +kernel) hh_L_emptyFrom)) <|
  fa_cons (ok_i2l (show decode (am_mB y_L_emptyFrom) 7 = .ok (.i2l, 1) by decide +kernel)) <|
  fa_cons (ok_last (show decode (am_mB y_L_emptyFrom) 8 = .ok (.lastore, 1) by decide +kernel)) <|
  fa_cons (ok_goto (show decode (am_mB y_L_emptyFrom) 9 = .ok (.goto 6, 3) by decide +kernel) (by decide)) <|
  fa_cons (ok_iconst (show decode (am_mB y_L_emptyFrom) 15 = .ok (.iconst 0, 1) by decide +kernel) rfl) <|
  fa_cons (ok_iret (show decode (am_mB y_L_emptyFrom) 16 = .ok (.ireturn, 1) by decide +kernel) rfl) <|
  fa_nil
set_option maxRecDepth 100000 in
theorem cq_L_emptyFrom (l : Launch) (d : Nat) : am_lk (co_L_emptyFrom l d) 0 = am_aload 2 1 ∧ am_lk (co_L_emptyFrom l d) 1 = am_push (vI 0) 2 ∧ am_lk (co_L_emptyFrom l d) 2 = am_aload 0 3 ∧ am_lk (co_L_emptyFrom l d) 3 = am_iload 1 4 ∧ am_lk (co_L_emptyFrom l d) 4 = am_calH l d y_P_emptyFrom (some 0) 2 [(3, 1)] 7 1 6 1 6 ∧ am_lk (co_L_emptyFrom l d) 7 = am_i2l 8 ∧ am_lk (co_L_emptyFrom l d) 8 = am_last 9 ∧ am_lk (co_L_emptyFrom l d) 9 = am_goto 15 ∧ am_lk (co_L_emptyFrom l d) 15 = am_push (vI 0) 16 ∧ am_lk (co_L_emptyFrom l d) 16 = am_iret false := ⟨rfl, rfl, rfl, rfl, rfl, rfl, rfl, rfl, rfl, rfl⟩
theorem en_L_emptyFrom {l : Launch} {d : Nat} (n : Nat) {as : List am_V} {G : am_G} {I : am_I} {J : am_J} {P : am_P} (hlen : (as.map am_cat).sum ≤ 4) (h : am_go (am_lk (co_L_emptyFrom l d)) (am_X l (0, fun _ => 0) (d + 1) y_L_emptyFrom P) P n 0 (am_el 4 as) [] 0 0 G I J) : am_T l (d + 1) y_L_emptyFrom as G I J P :=
  am_T_of (sc := (0, fun _ => 0)) cf_L_emptyFrom (by decide +kernel) (by decide) (by decide +kernel) hlen (am_run (ok_lk _ (ck_L_emptyFrom)) n _ _ _ _ _ _ _ _ h)
theorem rn_L_emptyFrom {l : Launch} {sc : Nat × (Nat → Int32)} {d : Nat} {P : am_P} (n : Nat) {pc : Nat} {ls : am_L} {st : List am_V} {kc ks : Nat} {G : am_G} {I : am_I} {J : am_J} (h : am_go (am_lk (co_L_emptyFrom l d)) (am_X l sc (d + 1) y_L_emptyFrom P) P n pc ls st kc ks G I J) : am_X l sc (d + 1) y_L_emptyFrom P pc ls st kc ks G I J := am_run (ok_lk _ (ck_L_emptyFrom)) n _ _ _ _ _ _ _ _ h
theorem hh_L_runScript : ∀ (e : Nat) (k : Int32), am_fnd [(1, 1)] e = some k → am_hd y_L_runScript 6 e k := by
  intro e k h
  by_cases h1 : e = 1
  · subst h1
    have hk : (1 : Int32) = k := Option.some.inj h
    subst hk
    exact ⟨[], (0, 11, 14, 13), [], rfl, by decide, by decide, w_399, w_407, fa_nil, ⟨2, Or.inr ⟨5, by decide +kernel, rfl, by decide +kernel⟩, ⟨1, by decide +kernel, rfl⟩, by decide +kernel⟩, rfl⟩
  simp [am_fnd, h1] at h
def co_L_runScript (l : Launch) (d : Nat) : List (Nat × am_S) := [(0, am_aload 4 2), (2, am_push (vI 0) 3), (3, am_aload 0 4), (4, am_iload 1 5), (5, am_lload 2 6), (6, am_calH l d y_P_runScript (some 0) 3 [(1, 1)] 9 1 6 1 6), (9, am_i2l 10), (10, am_last 11), (11, am_goto 18), (18, am_push (vI 0) 19), (19, am_iret false)]
theorem ck_L_runScript {l : Launch} {sc : Nat × (Nat → Int32)} {d : Nat} : ∀ q ∈ co_L_runScript l d, am_ok l sc (d + 1) y_L_runScript q.1 q.2 :=
  fa_cons (ok_aload (show decode (am_mB y_L_runScript) 0 = .ok (.aload 4, 2) by decide +kernel)) <|
  fa_cons (ok_iconst (show decode (am_mB y_L_runScript) 2 = .ok (.iconst 0, 1) by decide +kernel) rfl) <|
  fa_cons (ok_aload_n (show decode (am_mB y_L_runScript) 3 = .ok (.aload_n 0, 1) by decide +kernel) rfl) <|
  fa_cons (ok_iload_n (show decode (am_mB y_L_runScript) 4 = .ok (.iload_n 1, 1) by decide +kernel) rfl) <|
  fa_cons (ok_lload_n (show decode (am_mB y_L_runScript) 5 = .ok (.lload_n 2, 1) by decide +kernel) rfl) <|
  fa_cons (ok_calH ⟨rfl, rfl, rfl, rfl⟩ (ok_callH (show decode (am_mB y_L_runScript) 6 = .ok (.invokevirtual 87, 3) by decide +kernel) cf_P_runScript (by decide +kernel) w_849 ci_P_runScript cv_P_runScript ⟨by decide, rfl⟩ rfl (by decide +kernel) hh_L_runScript)) <|
  fa_cons (ok_i2l (show decode (am_mB y_L_runScript) 9 = .ok (.i2l, 1) by decide +kernel)) <|
  fa_cons (ok_last (show decode (am_mB y_L_runScript) 10 = .ok (.lastore, 1) by decide +kernel)) <|
  fa_cons (ok_goto (show decode (am_mB y_L_runScript) 11 = .ok (.goto 7, 3) by decide +kernel) (by decide)) <|
  fa_cons (ok_iconst (show decode (am_mB y_L_runScript) 18 = .ok (.iconst 0, 1) by decide +kernel) rfl) <|
  fa_cons (ok_iret (show decode (am_mB y_L_runScript) 19 = .ok (.ireturn, 1) by decide +kernel) rfl) <|
  fa_nil
set_option maxRecDepth 100000 in
theorem cq_L_runScript (l : Launch) (d : Nat) : am_lk (co_L_runScript l d) 0 = am_aload 4 2 ∧ am_lk (co_L_runScript l d) 2 = am_push (vI 0) 3 ∧ am_lk (co_L_runScript l d) 3 = am_aload 0 4 ∧ am_lk (co_L_runScript l d) 4 = am_iload 1 5 ∧ am_lk (co_L_runScript l d) 5 = am_lload 2 6 ∧ am_lk (co_L_runScript l d) 6 = am_calH l d y_P_runScript (some 0) 3 [(1, 1)] 9 1 6 1 6 ∧ am_lk (co_L_runScript l d) 9 = am_i2l 10 ∧ am_lk (co_L_runScript l d) 10 = am_last 11 ∧ am_lk (co_L_runScript l d) 11 = am_goto 18 ∧ am_lk (co_L_runScript l d) 18 = am_push (vI 0) 19 ∧ am_lk (co_L_runScript l d) 19 = am_iret false := ⟨rfl, rfl, rfl, rfl, rfl, rfl, rfl, rfl, rfl, rfl, rfl⟩
theorem en_L_runScript {l : Launch} {d : Nat} (n : Nat) {as : List am_V} {G : am_G} {I : am_I} {J : am_J} {P : am_P} (hlen : (as.map am_cat).sum ≤ 6) (h : am_go (am_lk (co_L_runScript l d)) (am_X l (0, fun _ => 0) (d + 1) y_L_runScript P) P n 0 (am_el 6 as) [] 0 0 G I J) : am_T l (d + 1) y_L_runScript as G I J P :=
  am_T_of (sc := (0, fun _ => 0)) cf_L_runScript (by decide +kernel) (by decide) (by decide +kernel) hlen (am_run (ok_lk _ (ck_L_runScript)) n _ _ _ _ _ _ _ _ h)
theorem rn_L_runScript {l : Launch} {sc : Nat × (Nat → Int32)} {d : Nat} {P : am_P} (n : Nat) {pc : Nat} {ls : am_L} {st : List am_V} {kc ks : Nat} {G : am_G} {I : am_I} {J : am_J} (h : am_go (am_lk (co_L_runScript l d)) (am_X l sc (d + 1) y_L_runScript P) P n pc ls st kc ks G I J) : am_X l sc (d + 1) y_L_runScript P pc ls st kc ks G I J := am_run (ok_lk _ (ck_L_runScript)) n _ _ _ _ _ _ _ _ h
theorem hh_L_simulate : ∀ (e : Nat) (k : Int32), am_fnd [(1, 1)] e = some k → am_hd y_L_simulate 6 e k := by
  intro e k h
  by_cases h1 : e = 1
  · subst h1
    have hk : (1 : Int32) = k := Option.some.inj h
    subst hk
    exact ⟨[], (0, 11, 14, 13), [], rfl, by decide, by decide, w_399, w_407, fa_nil, ⟨2, Or.inr ⟨5, by decide +kernel, rfl, by decide +kernel⟩, ⟨1, by decide +kernel, rfl⟩, by decide +kernel⟩, rfl⟩
  simp [am_fnd, h1] at h
def co_L_simulate (l : Launch) (d : Nat) : List (Nat × am_S) := [(0, am_aload 4 2), (2, am_push (vI 0) 3), (3, am_aload 0 4), (4, am_lload 1 5), (5, am_iload 3 6), (6, am_calH l d y_P_simulate (some 0) 3 [(1, 1)] 9 1 6 1 6), (9, am_i2l 10), (10, am_last 11), (11, am_goto 18), (18, am_push (vI 0) 19), (19, am_iret false)]
theorem ck_L_simulate {l : Launch} {sc : Nat × (Nat → Int32)} {d : Nat} : ∀ q ∈ co_L_simulate l d, am_ok l sc (d + 1) y_L_simulate q.1 q.2 :=
  fa_cons (ok_aload (show decode (am_mB y_L_simulate) 0 = .ok (.aload 4, 2) by decide +kernel)) <|
  fa_cons (ok_iconst (show decode (am_mB y_L_simulate) 2 = .ok (.iconst 0, 1) by decide +kernel) rfl) <|
  fa_cons (ok_aload_n (show decode (am_mB y_L_simulate) 3 = .ok (.aload_n 0, 1) by decide +kernel) rfl) <|
  fa_cons (ok_lload_n (show decode (am_mB y_L_simulate) 4 = .ok (.lload_n 1, 1) by decide +kernel) rfl) <|
  fa_cons (ok_iload_n (show decode (am_mB y_L_simulate) 5 = .ok (.iload_n 3, 1) by decide +kernel) rfl) <|
  fa_cons (ok_calH ⟨rfl, rfl, rfl, rfl⟩ (ok_callH (show decode (am_mB y_L_simulate) 6 = .ok (.invokevirtual 91, 3) by decide +kernel) cf_P_simulate (by decide +kernel) w_912 ci_P_simulate cv_P_simulate ⟨by decide, rfl⟩ rfl (by decide +kernel) hh_L_simulate)) <|
  fa_cons (ok_i2l (show decode (am_mB y_L_simulate) 9 = .ok (.i2l, 1) by decide +kernel)) <|
  fa_cons (ok_last (show decode (am_mB y_L_simulate) 10 = .ok (.lastore, 1) by decide +kernel)) <|
  fa_cons (ok_goto (show decode (am_mB y_L_simulate) 11 = .ok (.goto 7, 3) by decide +kernel) (by decide)) <|
  fa_cons (ok_iconst (show decode (am_mB y_L_simulate) 18 = .ok (.iconst 0, 1) by decide +kernel) rfl) <|
  fa_cons (ok_iret (show decode (am_mB y_L_simulate) 19 = .ok (.ireturn, 1) by decide +kernel) rfl) <|
  fa_nil
set_option maxRecDepth 100000 in
theorem cq_L_simulate (l : Launch) (d : Nat) : am_lk (co_L_simulate l d) 0 = am_aload 4 2 ∧ am_lk (co_L_simulate l d) 2 = am_push (vI 0) 3 ∧ am_lk (co_L_simulate l d) 3 = am_aload 0 4 ∧ am_lk (co_L_simulate l d) 4 = am_lload 1 5 ∧ am_lk (co_L_simulate l d) 5 = am_iload 3 6 ∧ am_lk (co_L_simulate l d) 6 = am_calH l d y_P_simulate (some 0) 3 [(1, 1)] 9 1 6 1 6 ∧ am_lk (co_L_simulate l d) 9 = am_i2l 10 ∧ am_lk (co_L_simulate l d) 10 = am_last 11 ∧ am_lk (co_L_simulate l d) 11 = am_goto 18 ∧ am_lk (co_L_simulate l d) 18 = am_push (vI 0) 19 ∧ am_lk (co_L_simulate l d) 19 = am_iret false := ⟨rfl, rfl, rfl, rfl, rfl, rfl, rfl, rfl, rfl, rfl, rfl⟩
theorem en_L_simulate {l : Launch} {d : Nat} (n : Nat) {as : List am_V} {G : am_G} {I : am_I} {J : am_J} {P : am_P} (hlen : (as.map am_cat).sum ≤ 6) (h : am_go (am_lk (co_L_simulate l d)) (am_X l (0, fun _ => 0) (d + 1) y_L_simulate P) P n 0 (am_el 6 as) [] 0 0 G I J) : am_T l (d + 1) y_L_simulate as G I J P :=
  am_T_of (sc := (0, fun _ => 0)) cf_L_simulate (by decide +kernel) (by decide) (by decide +kernel) hlen (am_run (ok_lk _ (ck_L_simulate)) n _ _ _ _ _ _ _ _ h)
theorem rn_L_simulate {l : Launch} {sc : Nat × (Nat → Int32)} {d : Nat} {P : am_P} (n : Nat) {pc : Nat} {ls : am_L} {st : List am_V} {kc ks : Nat} {G : am_G} {I : am_I} {J : am_J} (h : am_go (am_lk (co_L_simulate l d)) (am_X l sc (d + 1) y_L_simulate P) P n pc ls st kc ks G I J) : am_X l sc (d + 1) y_L_simulate P pc ls st kc ks G I J := am_run (ok_lk _ (ck_L_simulate)) n _ _ _ _ _ _ _ _ h
theorem hh_L_save : ∀ (e : Nat) (k : Int32), am_fnd [(3, 1)] e = some k → am_hd y_L_save 4 e k := by
  intro e k h
  by_cases h3 : e = 3
  · subst h3
    have hk : (1 : Int32) = k := Option.some.inj h
    subst hk
    exact ⟨[], (0, 9, 12, 28), [], rfl, by decide, by decide, w_569, w_584, fa_nil, ⟨1, Or.inl ⟨3, by decide +kernel, rfl, by decide +kernel⟩, ⟨1, by decide +kernel, rfl⟩, by decide +kernel⟩, rfl⟩
  simp [am_fnd, h3] at h
def co_L_save (l : Launch) (d : Nat) : List (Nat × am_S) := [(0, am_aload 2 1), (1, am_push (vI 0) 2), (2, am_aload 0 3), (3, am_iload 1 4), (4, am_calH l d y_P_save (some 0) 2 [(3, 1)] 7 1 6 1 6), (7, am_i2l 8), (8, am_last 9), (9, am_goto 15), (15, am_push (vI 0) 16), (16, am_iret false)]
theorem ck_L_save {l : Launch} {sc : Nat × (Nat → Int32)} {d : Nat} : ∀ q ∈ co_L_save l d, am_ok l sc (d + 1) y_L_save q.1 q.2 :=
  fa_cons (ok_aload_n (show decode (am_mB y_L_save) 0 = .ok (.aload_n 2, 1) by decide +kernel) rfl) <|
  fa_cons (ok_iconst (show decode (am_mB y_L_save) 1 = .ok (.iconst 0, 1) by decide +kernel) rfl) <|
  fa_cons (ok_aload_n (show decode (am_mB y_L_save) 2 = .ok (.aload_n 0, 1) by decide +kernel) rfl) <|
  fa_cons (ok_iload_n (show decode (am_mB y_L_save) 3 = .ok (.iload_n 1, 1) by decide +kernel) rfl) <|
  fa_cons (ok_calH ⟨rfl, rfl, rfl, rfl⟩ (ok_callH (show decode (am_mB y_L_save) 4 = .ok (.invokevirtual 95, 3) by decide +kernel) cf_P_save (by decide +kernel) w_930 ci_P_save cv_P_save ⟨by decide, rfl⟩ rfl (by decide +kernel) hh_L_save)) <|
  fa_cons (ok_i2l (show decode (am_mB y_L_save) 7 = .ok (.i2l, 1) by decide +kernel)) <|
  fa_cons (ok_last (show decode (am_mB y_L_save) 8 = .ok (.lastore, 1) by decide +kernel)) <|
  fa_cons (ok_goto (show decode (am_mB y_L_save) 9 = .ok (.goto 6, 3) by decide +kernel) (by decide)) <|
  fa_cons (ok_iconst (show decode (am_mB y_L_save) 15 = .ok (.iconst 0, 1) by decide +kernel) rfl) <|
  fa_cons (ok_iret (show decode (am_mB y_L_save) 16 = .ok (.ireturn, 1) by decide +kernel) rfl) <|
  fa_nil
set_option maxRecDepth 100000 in
theorem cq_L_save (l : Launch) (d : Nat) : am_lk (co_L_save l d) 0 = am_aload 2 1 ∧ am_lk (co_L_save l d) 1 = am_push (vI 0) 2 ∧ am_lk (co_L_save l d) 2 = am_aload 0 3 ∧ am_lk (co_L_save l d) 3 = am_iload 1 4 ∧ am_lk (co_L_save l d) 4 = am_calH l d y_P_save (some 0) 2 [(3, 1)] 7 1 6 1 6 ∧ am_lk (co_L_save l d) 7 = am_i2l 8 ∧ am_lk (co_L_save l d) 8 = am_last 9 ∧ am_lk (co_L_save l d) 9 = am_goto 15 ∧ am_lk (co_L_save l d) 15 = am_push (vI 0) 16 ∧ am_lk (co_L_save l d) 16 = am_iret false := ⟨rfl, rfl, rfl, rfl, rfl, rfl, rfl, rfl, rfl, rfl⟩
theorem en_L_save {l : Launch} {d : Nat} (n : Nat) {as : List am_V} {G : am_G} {I : am_I} {J : am_J} {P : am_P} (hlen : (as.map am_cat).sum ≤ 4) (h : am_go (am_lk (co_L_save l d)) (am_X l (0, fun _ => 0) (d + 1) y_L_save P) P n 0 (am_el 4 as) [] 0 0 G I J) : am_T l (d + 1) y_L_save as G I J P :=
  am_T_of (sc := (0, fun _ => 0)) cf_L_save (by decide +kernel) (by decide) (by decide +kernel) hlen (am_run (ok_lk _ (ck_L_save)) n _ _ _ _ _ _ _ _ h)
theorem rn_L_save {l : Launch} {sc : Nat × (Nat → Int32)} {d : Nat} {P : am_P} (n : Nat) {pc : Nat} {ls : am_L} {st : List am_V} {kc ks : Nat} {G : am_G} {I : am_I} {J : am_J} (h : am_go (am_lk (co_L_save l d)) (am_X l sc (d + 1) y_L_save P) P n pc ls st kc ks G I J) : am_X l sc (d + 1) y_L_save P pc ls st kc ks G I J := am_run (ok_lk _ (ck_L_save)) n _ _ _ _ _ _ _ _ h
theorem hh_L_restore : ∀ (e : Nat) (k : Int32), am_fnd [(3, 1), (2, 2)] e = some k → am_hd y_L_restore 4 e k := by
  intro e k h
  by_cases h3 : e = 3
  · subst h3
    have hk : (1 : Int32) = k := Option.some.inj h
    subst hk
    exact ⟨[], (0, 9, 12, 28), [(0, 9, 15, 15)], rfl, by decide, by decide, w_569, w_584, fa_nil, ⟨1, Or.inl ⟨3, by decide +kernel, rfl, by decide +kernel⟩, ⟨1, by decide +kernel, rfl⟩, by decide +kernel⟩, rfl⟩
  by_cases h2 : e = 2
  · subst h2
    have hk : (2 : Int32) = k := Option.some.inj h
    subst hk
    exact ⟨[(0, 9, 12, 28)], (0, 9, 15, 15), [], rfl, by decide, by decide, w_400, w_479, fa_cons ⟨by decide, 3, w_569, by decide +kernel⟩ (fa_nil), ⟨1, Or.inl ⟨3, by decide +kernel, rfl, by decide +kernel⟩, ⟨2, by decide +kernel, rfl⟩, by decide +kernel⟩, rfl⟩
  simp [am_fnd, h3, h2] at h
def co_L_restore (l : Launch) (d : Nat) : List (Nat × am_S) := [(0, am_aload 2 1), (1, am_push (vI 0) 2), (2, am_aload 0 3), (3, am_iload 1 4), (4, am_calH l d y_P_restore (some 0) 2 [(3, 1), (2, 2)] 7 2 12 2 12), (7, am_i2l 8), (8, am_last 9), (9, am_goto 18), (18, am_push (vI 0) 19), (19, am_iret false)]
theorem ck_L_restore {l : Launch} {sc : Nat × (Nat → Int32)} {d : Nat} : ∀ q ∈ co_L_restore l d, am_ok l sc (d + 1) y_L_restore q.1 q.2 :=
  fa_cons (ok_aload_n (show decode (am_mB y_L_restore) 0 = .ok (.aload_n 2, 1) by decide +kernel) rfl) <|
  fa_cons (ok_iconst (show decode (am_mB y_L_restore) 1 = .ok (.iconst 0, 1) by decide +kernel) rfl) <|
  fa_cons (ok_aload_n (show decode (am_mB y_L_restore) 2 = .ok (.aload_n 0, 1) by decide +kernel) rfl) <|
  fa_cons (ok_iload_n (show decode (am_mB y_L_restore) 3 = .ok (.iload_n 1, 1) by decide +kernel) rfl) <|
  fa_cons (ok_calH ⟨rfl, rfl, rfl, rfl⟩ (ok_callH (show decode (am_mB y_L_restore) 4 = .ok (.invokevirtual 98, 3) by decide +kernel) cf_P_restore (by decide +kernel) w_946 ci_P_restore cv_P_restore ⟨by decide, rfl⟩ rfl (by decide +kernel) hh_L_restore)) <|
  fa_cons (ok_i2l (show decode (am_mB y_L_restore) 7 = .ok (.i2l, 1) by decide +kernel)) <|
  fa_cons (ok_last (show decode (am_mB y_L_restore) 8 = .ok (.lastore, 1) by decide +kernel)) <|
  fa_cons (ok_goto (show decode (am_mB y_L_restore) 9 = .ok (.goto 9, 3) by decide +kernel) (by decide)) <|
  fa_cons (ok_iconst (show decode (am_mB y_L_restore) 18 = .ok (.iconst 0, 1) by decide +kernel) rfl) <|
  fa_cons (ok_iret (show decode (am_mB y_L_restore) 19 = .ok (.ireturn, 1) by decide +kernel) rfl) <|
  fa_nil
set_option maxRecDepth 100000 in
theorem cq_L_restore (l : Launch) (d : Nat) : am_lk (co_L_restore l d) 0 = am_aload 2 1 ∧ am_lk (co_L_restore l d) 1 = am_push (vI 0) 2 ∧ am_lk (co_L_restore l d) 2 = am_aload 0 3 ∧ am_lk (co_L_restore l d) 3 = am_iload 1 4 ∧ am_lk (co_L_restore l d) 4 = am_calH l d y_P_restore (some 0) 2 [(3, 1), (2, 2)] 7 2 12 2 12 ∧ am_lk (co_L_restore l d) 7 = am_i2l 8 ∧ am_lk (co_L_restore l d) 8 = am_last 9 ∧ am_lk (co_L_restore l d) 9 = am_goto 18 ∧ am_lk (co_L_restore l d) 18 = am_push (vI 0) 19 ∧ am_lk (co_L_restore l d) 19 = am_iret false := ⟨rfl, rfl, rfl, rfl, rfl, rfl, rfl, rfl, rfl, rfl⟩
theorem en_L_restore {l : Launch} {d : Nat} (n : Nat) {as : List am_V} {G : am_G} {I : am_I} {J : am_J} {P : am_P} (hlen : (as.map am_cat).sum ≤ 4) (h : am_go (am_lk (co_L_restore l d)) (am_X l (0, fun _ => 0) (d + 1) y_L_restore P) P n 0 (am_el 4 as) [] 0 0 G I J) : am_T l (d + 1) y_L_restore as G I J P :=
  am_T_of (sc := (0, fun _ => 0)) cf_L_restore (by decide +kernel) (by decide) (by decide +kernel) hlen (am_run (ok_lk _ (ck_L_restore)) n _ _ _ _ _ _ _ _ h)
theorem rn_L_restore {l : Launch} {sc : Nat × (Nat → Int32)} {d : Nat} {P : am_P} (n : Nat) {pc : Nat} {ls : am_L} {st : List am_V} {kc ks : Nat} {G : am_G} {I : am_I} {J : am_J} (h : am_go (am_lk (co_L_restore l d)) (am_X l sc (d + 1) y_L_restore P) P n pc ls st kc ks G I J) : am_X l sc (d + 1) y_L_restore P pc ls st kc ks G I J := am_run (ok_lk _ (ck_L_restore)) n _ _ _ _ _ _ _ _ h
