/-! ===== the law: what its cases share ===== -/
theorem am_fr.tosm {I I' : am_I} {s : pt_G} (h : sm I s) (hf : am_fr isC I I') : sm I' s := by
  have n : ∀ a b : Nat, ¬ isC (a, b) → I' (a, b) = I (a, b) := fun a b q => hf _ q
  have n9 : ¬ isC (9, 0) := by unfold isC; simp
  have n25 : ¬ isC (25, 0) := by unfold isC; simp
  have n27 : ¬ isC (27, 0) := by unfold isC; simp
  have n29 : ¬ isC (29, 0) := by unfold isC; simp
  have n30 : ¬ isC (30, 0) := by unfold isC; simp
  have n31 : ¬ isC (31, 0) := by unfold isC; simp
  unfold sm rN rY rO
  rw [n _ _ n9, n _ _ n25, n _ _ n27, n _ _ n29, n _ _ n30, n _ _ n31]
  exact h
theorem am_fr.tost {I I' : am_I} {s : pt_G} (h : st I s) (hf : am_fr isM I I') : st I' s := h.kept fun c hc => hf c (fun q => by
  rcases hc with z | z | z | z | z | z
  · rw [z] at q; unfold isM at q; simp at q
  · rw [z] at q; unfold isM at q; simp at q
  · have := z.2; unfold isM at q; omega
  · rcases z with z | ⟨_, _, _, z⟩
    · rw [z] at q; unfold isM at q; simp at q
    · have := z.2; unfold isM at q; omega
  · rcases z with z | z | z
    · rw [z] at q; unfold isM at q; simp at q
    · have := z.2; unfold isM at q; omega
    · have := z.2; unfold isM at q; omega
  · rw [z] at q; unfold isM at q; simp at q)
section LW
variable {l : Launch} {D : Nat} {I : am_I} {J : am_J} {P : am_P}
theorem s_M_thrown (hD : 1 ≤ D) (k : P (.inl (some (vI (I (9, 0) 0)))) am_G0 I J) : am_T l D y_M_thrown [vR (9, 0)] am_G0 I J P := by
  obtain ⟨d, rfl⟩ : ∃ d, D = d + 1 := ⟨D - 1, by omega⟩
  refine en_M_thrown 20 (Nat.le_of_ble_eq_true rfl) ?_
  simp (disch := omega) only [am_z, cq_M_thrown, Nat.reduceAdd, Nat.zero_le, Nat.reduceLeDiff, ar_lit]
  exact k
/-- the class and the reference, in the same state -/
def both (I : am_I) (s : pt_G) : Prop := st I s ∧ sm I s
theorem both.k {s : pt_G} (h : both I s) {I' : am_I} {r : (Nat × Int32) × pt_G} (hf : am_fr isC I I') (hs : st I' r.2) : st I' r.2 ∧ sm I' s := ⟨hs, hf.tosm h.2⟩
theorem lc_r (x : Int32) : (lg_cmp x.toInt64 x.toInt64 = nI 0) = True := by
  rw [lc_eq]
  simp
end LW
