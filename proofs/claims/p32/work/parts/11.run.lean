/-! ===== runs of the abstract machine ===== -/
def am_go (code : Nat → am_S) (X : am_K) (P : am_P) : Nat → am_K
  | 0 => X
  | n + 1 => fun pc ls st kc ks G I J => code pc (am_go code X P n) X P ls st kc ks G I J
def am_no : am_S := fun _ _ _ _ _ _ _ _ _ _ => False
def am_lk : List (Nat × am_S) → Nat → am_S
  | [], _ => am_no
  | q :: r, pc => bif Nat.beq pc q.1 then q.2 else am_lk r pc
/-- the steps stop behind this one -/
def am_stp (σ : am_S) : am_S := fun _ X P ls st kc ks G I J => σ X X P ls st kc ks G I J
section AMG
variable {l : Launch} {sc : Nat × (Nat → Int32)} {d y pc : Nat}
theorem ok_stp {σ : am_S} (h : am_ok l sc d y pc σ) : am_ok l sc d y pc (am_stp σ) := fun K X P ls st kc ks G I J _ hX hs => h X X P ls st kc ks G I J hX hX hs
theorem ok_lk : ∀ (tab : List (Nat × am_S)), (∀ q ∈ tab, am_ok l sc d y q.1 q.2) → ∀ pc, am_ok l sc d y pc (am_lk tab pc)
  | [], _, pc => fun K X P ls st kc ks G I J _ _ hs => (hs : False).elim
  | q :: r, h, pc => by
    unfold am_lk
    cases hb : Nat.beq pc q.1 with
    | true =>
      have e := Nat.eq_of_beq_eq_true hb
      subst e
      exact h q List.mem_cons_self
    | false => exact ok_lk r (fun q hq => h q (List.mem_cons_of_mem _ hq)) pc
theorem am_run {code : Nat → am_S} {P : am_P} (hok : ∀ pc, am_ok l sc d y pc (code pc)) : ∀ (n pc : Nat) (ls : am_L) (st : List am_V) (kc ks : Nat) (G : am_G) (I : am_I) (J : am_J), am_go code (am_X l sc d y P) P n pc ls st kc ks G I J → am_X l sc d y P pc ls st kc ks G I J
  | 0, _, _, _, _, _, _, _, _, h => h
  | n + 1, pc, ls, st, kc, ks, G, I, J, h => hok pc _ _ P ls st kc ks G I J (fun pc ls st kc ks G I J h => am_run hok n pc ls st kc ks G I J h) (fun _ _ _ _ _ _ _ _ h => h) h
theorem fa_nil {α : Type} {p : α → Prop} : ∀ a ∈ ([] : List α), p a := fun _ h => nomatch h
theorem fa_cons {α : Type} {p : α → Prop} {a : α} {r : List α} (h : p a) (t : ∀ a ∈ r, p a) : ∀ b ∈ a :: r, p b := List.forall_mem_cons.mpr ⟨h, t⟩
/-- a call, its budgets as numbers -/
def am_cal (l : Launch) (d y' : Nat) (rc : Option Nat) (n nx c s cy sy : Nat) : am_S := fun _ X P ls st kc ks G I J =>
  (n ≤ st.length ∧ ((st.drop n).map am_cat).sum ≤ 8 ∧ am_rc rc (st.take n).reverse ∧ kc + c ≤ cy ∧ ks + s ≤ sy) ∧
  am_T l d y' (st.take n).reverse G I J (am_k X P nx ls (st.drop n) (kc + c) (ks + s))
theorem am_cal_eq {rc : Option Nat} {n nx c s cy sy y' : Nat} (h : am_mc y' = c ∧ am_ms y' = s ∧ am_mc y = cy ∧ am_ms y = sy) : am_call l d y y' rc n nx = am_cal l d y' rc n nx c s cy sy := by
  obtain ⟨rfl, rfl, rfl, rfl⟩ := h
  rfl
theorem ok_cal {rc : Option Nat} {n nx c s cy sy y' d' : Nat} (h : am_mc y' = c ∧ am_ms y' = s ∧ am_mc y = cy ∧ am_ms y = sy) (ho : am_ok l sc d' y pc (am_call l d y y' rc n nx)) : am_ok l sc d' y pc (am_cal l d y' rc n nx c s cy sy) := am_cal_eq h ▸ ho
def am_calH (l : Launch) (d y' : Nat) (rc : Option Nat) (n : Nat) (hs : List (Nat × Int64)) (nx c s cy sy : Nat) : am_S := fun _ X P ls st kc ks G I J =>
  (n ≤ st.length ∧ ((st.drop n).map am_cat).sum ≤ 8 ∧ am_rc rc (st.take n).reverse ∧ kc + c ≤ cy ∧ ks + s ≤ sy) ∧
  am_T l d y' (st.take n).reverse G I J (am_kH X P hs nx ls (st.drop n) (kc + c) (ks + s))
theorem am_calH_eq {rc : Option Nat} {hs : List (Nat × Int64)} {n nx c s cy sy y' : Nat} (h : am_mc y' = c ∧ am_ms y' = s ∧ am_mc y = cy ∧ am_ms y = sy) : am_callH l d y y' rc n hs nx = am_calH l d y' rc n hs nx c s cy sy := by
  obtain ⟨rfl, rfl, rfl, rfl⟩ := h
  rfl
theorem ok_calH {rc : Option Nat} {hs : List (Nat × Int64)} {n nx c s cy sy y' d' : Nat} (h : am_mc y' = c ∧ am_ms y' = s ∧ am_mc y = cy ∧ am_ms y = sy) (ho : am_ok l sc d' y pc (am_callH l d y y' rc n hs nx)) : am_ok l sc d' y pc (am_calH l d y' rc n hs nx c s cy sy) := am_calH_eq h ▸ ho
def am_thr (n cy sy : Nat) : am_S := fun _ _ P _ st kc ks G I J => st = [] ∧ kc + 1 ≤ cy ∧ ks + 6 ≤ sy ∧ P (.inr n) G I J
theorem ok_thr {n cy sy d' : Nat} (h : am_mc y = cy ∧ am_ms y = sy) (ho : am_ok l sc d' y pc (am_throw y n)) : am_ok l sc d' y pc (am_thr n cy sy) := by
  obtain ⟨rfl, rfl⟩ := h
  exact ho
def am_mk (ci nx cy sy : Nat) : am_S := fun K _ _ ls st kc ks G I J => kc + 1 ≤ cy ∧ ks + am_cn ci ≤ sy ∧ ∃ n : Nat, (ci, n) ∉ G.1 ∧ K nx ls (vR (ci, n) :: st) (kc + 1) (ks + am_cn ci) (am_nG G (ci, n)) (am_nI I (ci, n)) (am_nJ J (ci, n))
theorem ok_mk {ci nx cy sy d' : Nat} (h : am_mc y = cy ∧ am_ms y = sy) (ho : am_ok l sc d' y pc (am_new y ci nx)) : am_ok l sc d' y pc (am_mk ci nx cy sy) := by
  obtain ⟨rfl, rfl⟩ := h
  exact ho
def am_mka (t nx cy sy : Nat) : am_S := fun K _ _ ls st kc ks G I J => match st with
  | (.inl x) :: r => ∃ a : am_A, (am_at a.1 = t ∧ ¬ x < 0 ∧ x.toNatClampNeg = am_an a.1) ∧ (kc + 1 ≤ cy ∧ ks + am_an a.1 ≤ sy) ∧ a ∉ G.1 ∧ K nx ls (vR a :: r) (kc + 1) (ks + am_an a.1) (am_nG G a) (am_nI I a) (am_nJ J a)
  | _ => False
theorem ok_mka {t nx cy sy d' : Nat} (h : am_mc y = cy ∧ am_ms y = sy) (ho : am_ok l sc d' y pc (am_newa y t nx)) : am_ok l sc d' y pc (am_mka t nx cy sy) := by
  obtain ⟨rfl, rfl⟩ := h
  exact ho
end AMG
def am_lks : List (Nat × List (Nat × am_S)) → Nat → am_S
  | [], _ => am_no
  | q :: r, pc => bif Nat.ble q.1 pc then am_lks r pc else am_lk q.2 pc
theorem ok_lks {l : Launch} {sc : Nat × (Nat → Int32)} {d y : Nat} : ∀ (tabs : List (Nat × List (Nat × am_S))), (∀ q ∈ tabs, ∀ x ∈ q.2, am_ok l sc d y x.1 x.2) → ∀ pc, am_ok l sc d y pc (am_lks tabs pc)
  | [], _, pc => fun K X P ls st kc ks G I J _ _ hs => (hs : False).elim
  | q :: r, h, pc => by
    unfold am_lks
    cases hb : Nat.ble q.1 pc with
    | true => exact ok_lks r (fun q hq => h q (List.mem_cons_of_mem _ hq)) pc
    | false => exact ok_lk q.2 (h q List.mem_cons_self) pc
