/-! ===== the reading of a text, as values: a place, and what was read up to there, none if it went wrong there ===== -/
def pdig (ss : List Nat) (a lo hi : Nat) : Nat × Option Nat := match ss[a]? with
  | some c => if 48 + lo ≤ c ∧ c ≤ 48 + hi then (a + 1, some (c - 48)) else (a, none)
  | none => (a, none)
def ppair (ss : List Nat) (a lo hi : Nat) : Nat × Option Nat := match (pdig ss a (lo / 10) (hi / 10)).2 with
  | none => (a, none)
  | some t => ((pdig ss (a + 1) (lo - 10 * t) (min (hi - 10 * t) 9)).1, (pdig ss (a + 1) (lo - 10 * t) (min (hi - 10 * t) 9)).2.map fun o => 10 * t + o)
def phead (ss : List Nat) : Nat × Option pt_T := if ss[0]? = some 84 then
    (match (pdig ss 1 1 4).2 with
      | none => (1, none)
      | some c => match (ppair ss 2 6 40).2 with
        | none => ((ppair ss 2 6 40).1, none)
        | some h => match (pdig ss 4 0 4).2 with
          | none => (4, none)
          | some e => (5, some (tsetC tnew c h e)))
  else (0, none)
/-- the amounts of the row r from the column c on, k of them -/
def pcols (ss : List Nat) (r : Nat) : Nat → Nat → Nat → pt_T → Nat × Option pt_T
  | 0, _, a, p => (a, some p)
  | k + 1, c, a, p => if ss[a]? = some 45 ∨ ss[a]? = some 43 then
      (match (ppair ss (a + 1) 0 99).2 with
        | none => ((ppair ss (a + 1) 0 99).1, none)
        | some v => pcols ss r k (c + 1) (ppair ss (a + 1) 0 99).1 (tsetA p r c (if ss[a]? = some 45 then -(v : Int) else (v : Int))))
    else (a, none)
def prow (ss : List Nat) (a : Nat) (p : pt_T) : Nat × Option pt_T := match (pdig ss a 1 6).2 with
  | none => (a, none)
  | some h => pcols ss (tn p) (tC p) 0 (a + 1) (tputR p h 0)
def pnote (ss : List Nat) (a : Nat) (p : pt_T) : Nat × Option pt_T := match (pdig ss a 1 6).2 with
  | none => (a, none)
  | some n => (a + 1, some (tsetN p (tn p - 1) n))
def pnoteH (ss : List Nat) (a : Nat) (p : pt_T) : Nat × Option pt_T := match (pdig ss a 1 6).2 with
  | none => (a, none)
  | some n => match (pdig ss (a + 1) 1 3).2 with
    | none => (a + 1, none)
    | some h => (a + 2, some (tsetH p (n + 1) h))
def pspan (ss : List Nat) (a : Nat) (p : pt_T) : Nat × Option pt_T := match (ppair ss a 0 (tn p - 2)).2 with
  | none => ((ppair ss a 0 (tn p - 2)).1, none)
  | some f => match (ppair ss (ppair ss a 0 (tn p - 2)).1 (f + 1) (tn p - 1)).2 with
    | none => ((ppair ss (ppair ss a 0 (tn p - 2)).1 (f + 1) (tn p - 1)).1, none)
    | some g => match (pdig ss (ppair ss (ppair ss a 0 (tn p - 2)).1 (f + 1) (tn p - 1)).1 0 1).2 with
      | none => ((ppair ss (ppair ss a 0 (tn p - 2)).1 (f + 1) (tn p - 1)).1, none)
      | some c => ((ppair ss (ppair ss a 0 (tn p - 2)).1 (f + 1) (tn p - 1)).1 + 1, some (tputS p (f, g, c)))
def ppart (ss : List Nat) (a : Nat) (p : pt_T) : Nat × Option pt_T :=
  if ss[a]? = some 114 ∧ tn p < 24 then prow ss (a + 1) p
  else if ss[a]? = some 107 ∧ 1 ≤ tn p then (a + 1, some (tsetK p (tn p - 1) 1))
  else if ss[a]? = some 110 ∧ 1 ≤ tn p then pnote ss (a + 1) p
  else if ss[a]? = some 104 then pnoteH ss (a + 1) p
  else if ss[a]? = some 115 ∧ 2 ≤ tn p ∧ tm p < 6 then pspan ss (a + 1) p
  else (a, none)
def pall (ss : List Nat) : Nat → Nat → pt_T → Nat × Option pt_T
  | 0, a, p => (a, some p)
  | f + 1, a, p => if a < ss.length then (match (ppart ss a p).2 with
      | none => ((ppart ss a p).1, none)
      | some q => pall ss f (ppart ss a p).1 q) else (a, some p)
def ptext (ss : List Nat) : Nat × Option pt_T := match (phead ss).2 with
  | none => ((phead ss).1, none)
  | some q => pall ss 160 (phead ss).1 q
section PS
variable {ss : List Nat} {p : pt_T}
theorem pdig_some {a lo hi v : Nat} (h : (pdig ss a lo hi).2 = some v) : (pdig ss a lo hi).1 = a + 1 ∧ lo ≤ v ∧ v ≤ hi ∧ a < ss.length ∧ ss[a]? = some (48 + v) := by
  unfold pdig at h ⊢
  cases e : ss[a]? with
  | none => rw [e] at h; cases h
  | some c =>
    rw [e] at h
    have ha := (List.getElem?_eq_some_iff.mp e).1
    simp only at h ⊢
    split at h
    · rename_i q
      rw [if_pos q]
      have := Option.some.inj h
      exact ⟨rfl, by omega, by omega, ha, by congr 1; omega⟩
    · cases h
theorem pdig_none {a lo hi : Nat} (h : (pdig ss a lo hi).2 = none) : (pdig ss a lo hi).1 = a := by
  unfold pdig at h ⊢
  cases e : ss[a]? with
  | none => rfl
  | some c =>
    rw [e] at h
    simp only at h ⊢
    split at h
    · cases h
    · rename_i q
      rw [if_neg q]
theorem ppair_some {a lo hi v : Nat} (h : (ppair ss a lo hi).2 = some v) : (ppair ss a lo hi).1 = a + 2 ∧ lo ≤ v ∧ v ≤ hi := by
  unfold ppair at h ⊢
  cases e : (pdig ss a (lo / 10) (hi / 10)).2 with
  | none => rw [e] at h; cases h
  | some t =>
    rw [e] at h
    simp only at h ⊢
    cases e2 : (pdig ss (a + 1) (lo - 10 * t) (min (hi - 10 * t) 9)).2 with
    | none => rw [e2] at h; cases h
    | some o =>
      rw [e2] at h
      obtain ⟨g1, g2, g3, _⟩ := pdig_some e
      obtain ⟨k1, k2, k3, _⟩ := pdig_some e2
      have : 10 * t + o = v := Option.some.inj h
      refine ⟨k1, by omega, by omega⟩
end PS
