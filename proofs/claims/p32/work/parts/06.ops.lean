/-! written by wip/whole/ops.py: instructions without cells -/
theorem am_off {pc tg : Nat} {o : Int} (h : (pc : Int) + o = (tg : Int)) : (pc : Int) + o = (tg : Int) := h
section AMO
variable {l : Launch} {sc : Nat × (Nat → Int32)} {d y pc : Nat}
def am_push (v : am_V) (nx : Nat) : am_S := fun K X P ls st kc ks G I J => K nx ls (v :: st) kc ks G I J
theorem ok_iconst {n : Int} {v : Int32} (h : decode (am_mB y) pc = .ok (.iconst n, 1)) (hv : Int32.ofInt n = v) : am_ok l sc d y pc (am_push (vI v) (pc + 1)) := by
  intro K X P ls st kc ks G I J hK _ hs
  intro p R e s m args below meth c D cT A ad0 G0 Q ad H locs LS hC hM hc hn
  refine lv_iconst hC.1.1 hC.1.2.1 h hv ?_
  exact hK _ _ _ _ _ _ _ _ hs _ _ _ _ _ _ _ _ _ _ _ _ _ _ _ _ _ _ _ hC (hM.stk (List.forall_mem_cons.mpr ⟨trivial, hM.sok⟩)) hc hn
theorem ok_bipush {n : Int} {v : Int32} (h : decode (am_mB y) pc = .ok (.bipush n, 2)) (hv : (Int8.ofInt n).toInt32 = v) : am_ok l sc d y pc (am_push (vI v) (pc + 2)) := by
  intro K X P ls st kc ks G I J hK _ hs
  intro p R e s m args below meth c D cT A ad0 G0 Q ad H locs LS hC hM hc hn
  refine lv_bipush hC.1.1 hC.1.2.1 h hv ?_
  exact hK _ _ _ _ _ _ _ _ hs _ _ _ _ _ _ _ _ _ _ _ _ _ _ _ _ _ _ _ hC (hM.stk (List.forall_mem_cons.mpr ⟨trivial, hM.sok⟩)) hc hn
theorem ok_sipush {n : Int} {v : Int32} (h : decode (am_mB y) pc = .ok (.sipush n, 3)) (hv : (Int16.ofInt n).toInt32 = v) : am_ok l sc d y pc (am_push (vI v) (pc + 3)) := by
  intro K X P ls st kc ks G I J hK _ hs
  intro p R e s m args below meth c D cT A ad0 G0 Q ad H locs LS hC hM hc hn
  refine lv_sipush hC.1.1 hC.1.2.1 h hv ?_
  exact hK _ _ _ _ _ _ _ _ hs _ _ _ _ _ _ _ _ _ _ _ _ _ _ _ _ _ _ _ hC (hM.stk (List.forall_mem_cons.mpr ⟨trivial, hM.sok⟩)) hc hn
theorem ok_lconst {n : Fin 2} {v : Int64} (h : decode (am_mB y) pc = .ok (.lconst n, 1)) (hv : Int64.ofNat (n : Nat) = v) : am_ok l sc d y pc (am_push (vL v) (pc + 1)) := by
  intro K X P ls st kc ks G I J hK _ hs
  intro p R e s m args below meth c D cT A ad0 G0 Q ad H locs LS hC hM hc hn
  refine lv_lconst hC.1.1 hC.1.2.1 h hv ?_
  exact hK _ _ _ _ _ _ _ _ hs _ _ _ _ _ _ _ _ _ _ _ _ _ _ _ _ _ _ _ hC (hM.stk (List.forall_mem_cons.mpr ⟨trivial, hM.sok⟩)) hc hn
theorem ok_ldc {n : Nat} {v : Int32} (h : decode (am_mB y) pc = .ok (.ldc n, 2)) (hw : Cond.constant (am_mY y).cls n v ∈ am_tb) : am_ok l sc d y pc (am_push (vI v) (pc + 2)) := by
  intro K X P ls st kc ks G I J hK _ hs
  intro p R e s m args below meth c D cT A ad0 G0 Q ad H locs LS hC hM hc hn
  refine lv_ldc hC.1.1 hC.1.2.1 hC.1.2.2.2.2.1 (hC.2.1.1.use hw _) h ?_
  exact hK _ _ _ _ _ _ _ _ hs _ _ _ _ _ _ _ _ _ _ _ _ _ _ _ _ _ _ _ hC (hM.stk (List.forall_mem_cons.mpr ⟨trivial, hM.sok⟩)) hc hn
theorem ok_ldc2 {n : Nat} {v : Int64} (h : decode (am_mB y) pc = .ok (.ldc2_w n, 3)) (hw : Cond.constantLong (am_mY y).cls n v ∈ am_tb) : am_ok l sc d y pc (am_push (vL v) (pc + 3)) := by
  intro K X P ls st kc ks G I J hK _ hs
  intro p R e s m args below meth c D cT A ad0 G0 Q ad H locs LS hC hM hc hn
  refine lv_ldc2 hC.1.1 hC.1.2.1 hC.1.2.2.2.2.1 (hC.2.1.1.use hw _) h ?_
  exact hK _ _ _ _ _ _ _ _ hs _ _ _ _ _ _ _ _ _ _ _ _ _ _ _ _ _ _ _ hC (hM.stk (List.forall_mem_cons.mpr ⟨trivial, hM.sok⟩)) hc hn
def am_iload (i nx : Nat) : am_S := fun K X P ls st kc ks G I J => match am_lg ls i with
  | some (.inl x) => K nx ls ((.inl x) :: st) kc ks G I J
  | _ => False
theorem ok_iload_n {k : Fin 4} {i : Nat} (h : decode (am_mB y) pc = .ok (.iload_n k, 1)) (hi : (k : Nat) = i) : am_ok l sc d y pc (am_iload i (pc + 1)) := by
  intro K X P ls st kc ks G I J hK _ hs
  unfold am_iload at hs
  split at hs
  · rename_i x hg
    intro p R e s m args below meth c D cT A ad0 G0 Q ad H locs LS hC hM hc hn
    refine lv_iload_n hC.1.1 hC.1.2.1 h hi (hM.lat hg) ?_
    exact hK _ _ _ _ _ _ _ _ hs _ _ _ _ _ _ _ _ _ _ _ _ _ _ _ _ _ _ _ hC (hM.stk (List.forall_mem_cons.mpr ⟨hM.lok hg, hM.sok⟩)) hc hn
  · exact hs.elim
theorem ok_iload {i : Nat} (h : decode (am_mB y) pc = .ok (.iload i, 2)) : am_ok l sc d y pc (am_iload i (pc + 2)) := by
  intro K X P ls st kc ks G I J hK _ hs
  unfold am_iload at hs
  split at hs
  · rename_i x hg
    intro p R e s m args below meth c D cT A ad0 G0 Q ad H locs LS hC hM hc hn
    refine lv_iload hC.1.1 hC.1.2.1 h (hM.lat hg) ?_
    exact hK _ _ _ _ _ _ _ _ hs _ _ _ _ _ _ _ _ _ _ _ _ _ _ _ _ _ _ _ hC (hM.stk (List.forall_mem_cons.mpr ⟨hM.lok hg, hM.sok⟩)) hc hn
  · exact hs.elim
def am_lload (i nx : Nat) : am_S := fun K X P ls st kc ks G I J => match am_lg ls i with
  | some (.inr (.inl x)) => K nx ls ((.inr (.inl x)) :: st) kc ks G I J
  | _ => False
theorem ok_lload_n {k : Fin 4} {i : Nat} (h : decode (am_mB y) pc = .ok (.lload_n k, 1)) (hi : (k : Nat) = i) : am_ok l sc d y pc (am_lload i (pc + 1)) := by
  intro K X P ls st kc ks G I J hK _ hs
  unfold am_lload at hs
  split at hs
  · rename_i x hg
    intro p R e s m args below meth c D cT A ad0 G0 Q ad H locs LS hC hM hc hn
    refine lv_lload_n hC.1.1 hC.1.2.1 h hi (hM.lat hg) ?_
    exact hK _ _ _ _ _ _ _ _ hs _ _ _ _ _ _ _ _ _ _ _ _ _ _ _ _ _ _ _ hC (hM.stk (List.forall_mem_cons.mpr ⟨hM.lok hg, hM.sok⟩)) hc hn
  · exact hs.elim
theorem ok_lload {i : Nat} (h : decode (am_mB y) pc = .ok (.lload i, 2)) : am_ok l sc d y pc (am_lload i (pc + 2)) := by
  intro K X P ls st kc ks G I J hK _ hs
  unfold am_lload at hs
  split at hs
  · rename_i x hg
    intro p R e s m args below meth c D cT A ad0 G0 Q ad H locs LS hC hM hc hn
    refine lv_lload hC.1.1 hC.1.2.1 h (hM.lat hg) ?_
    exact hK _ _ _ _ _ _ _ _ hs _ _ _ _ _ _ _ _ _ _ _ _ _ _ _ _ _ _ _ hC (hM.stk (List.forall_mem_cons.mpr ⟨hM.lok hg, hM.sok⟩)) hc hn
  · exact hs.elim
def am_aload (i nx : Nat) : am_S := fun K X P ls st kc ks G I J => match am_lg ls i with
  | some (.inr (.inr x)) => K nx ls ((.inr (.inr x)) :: st) kc ks G I J
  | _ => False
theorem ok_aload_n {k : Fin 4} {i : Nat} (h : decode (am_mB y) pc = .ok (.aload_n k, 1)) (hi : (k : Nat) = i) : am_ok l sc d y pc (am_aload i (pc + 1)) := by
  intro K X P ls st kc ks G I J hK _ hs
  unfold am_aload at hs
  split at hs
  · rename_i x hg
    intro p R e s m args below meth c D cT A ad0 G0 Q ad H locs LS hC hM hc hn
    refine lv_aload_n hC.1.1 hC.1.2.1 h hi (hM.lat hg) ?_
    exact hK _ _ _ _ _ _ _ _ hs _ _ _ _ _ _ _ _ _ _ _ _ _ _ _ _ _ _ _ hC (hM.stk (List.forall_mem_cons.mpr ⟨hM.lok hg, hM.sok⟩)) hc hn
  · exact hs.elim
theorem ok_aload {i : Nat} (h : decode (am_mB y) pc = .ok (.aload i, 2)) : am_ok l sc d y pc (am_aload i (pc + 2)) := by
  intro K X P ls st kc ks G I J hK _ hs
  unfold am_aload at hs
  split at hs
  · rename_i x hg
    intro p R e s m args below meth c D cT A ad0 G0 Q ad H locs LS hC hM hc hn
    refine lv_aload hC.1.1 hC.1.2.1 h (hM.lat hg) ?_
    exact hK _ _ _ _ _ _ _ _ hs _ _ _ _ _ _ _ _ _ _ _ _ _ _ _ _ _ _ _ hC (hM.stk (List.forall_mem_cons.mpr ⟨hM.lok hg, hM.sok⟩)) hc hn
  · exact hs.elim
def am_istore (i nx : Nat) : am_S := fun K X P ls st kc ks G I J => match st with
  | (.inl x) :: r => K nx (am_s1 ls i (.inl x)) r kc ks G I J
  | _ => False
theorem ok_istore_n {k : Fin 4} {i : Nat} (h : decode (am_mB y) pc = .ok (.istore_n k, 1)) (hi : (k : Nat) = i) (hn0 : i < am_mL y) : am_ok l sc d y pc (am_istore i (pc + 1)) := by
  intro K X P ls st kc ks G I J hK _ hs
  unfold am_istore at hs
  split at hs
  · rename_i x r
    intro p R e s m args below meth c D cT A ad0 G0 Q ad H locs LS hC hM hc hn
    have hv := hM.sok
    simp only [List.forall_mem_cons] at hv
    refine lv_istore_n hC.1.1 hC.1.2.1 h hi hM.1 hn0 rfl (fun LS' hL => ?_)
    exact hK _ _ _ _ _ _ _ _ hs _ _ _ _ _ _ _ _ _ _ _ _ _ _ _ _ _ _ _ hC (hM.st1 hv.1 hv.2 hL) hc hn
  · exact hs.elim
theorem ok_istore {i : Nat} (h : decode (am_mB y) pc = .ok (.istore i, 2)) (hn0 : i < am_mL y) : am_ok l sc d y pc (am_istore i (pc + 2)) := by
  intro K X P ls st kc ks G I J hK _ hs
  unfold am_istore at hs
  split at hs
  · rename_i x r
    intro p R e s m args below meth c D cT A ad0 G0 Q ad H locs LS hC hM hc hn
    have hv := hM.sok
    simp only [List.forall_mem_cons] at hv
    refine lv_istore hC.1.1 hC.1.2.1 h hM.1 hn0 rfl (fun LS' hL => ?_)
    exact hK _ _ _ _ _ _ _ _ hs _ _ _ _ _ _ _ _ _ _ _ _ _ _ _ _ _ _ _ hC (hM.st1 hv.1 hv.2 hL) hc hn
  · exact hs.elim
def am_lstore (i nx : Nat) : am_S := fun K X P ls st kc ks G I J => match st with
  | (.inr (.inl x)) :: r => K nx (am_s2 ls i (.inr (.inl x))) r kc ks G I J
  | _ => False
theorem ok_lstore_n {k : Fin 4} {i : Nat} (h : decode (am_mB y) pc = .ok (.lstore_n k, 1)) (hi : (k : Nat) = i) (hn0 : i + 1 < am_mL y) : am_ok l sc d y pc (am_lstore i (pc + 1)) := by
  intro K X P ls st kc ks G I J hK _ hs
  unfold am_lstore at hs
  split at hs
  · rename_i x r
    intro p R e s m args below meth c D cT A ad0 G0 Q ad H locs LS hC hM hc hn
    have hv := hM.sok
    simp only [List.forall_mem_cons] at hv
    refine lv_lstore_n hC.1.1 hC.1.2.1 h hi hM.1 hn0 rfl (fun LS' hL => ?_)
    exact hK _ _ _ _ _ _ _ _ hs _ _ _ _ _ _ _ _ _ _ _ _ _ _ _ _ _ _ _ hC (hM.st2 hv.1 hv.2 hL) hc hn
  · exact hs.elim
theorem ok_lstore {i : Nat} (h : decode (am_mB y) pc = .ok (.lstore i, 2)) (hn0 : i + 1 < am_mL y) : am_ok l sc d y pc (am_lstore i (pc + 2)) := by
  intro K X P ls st kc ks G I J hK _ hs
  unfold am_lstore at hs
  split at hs
  · rename_i x r
    intro p R e s m args below meth c D cT A ad0 G0 Q ad H locs LS hC hM hc hn
    have hv := hM.sok
    simp only [List.forall_mem_cons] at hv
    refine lv_lstore hC.1.1 hC.1.2.1 h hM.1 hn0 rfl (fun LS' hL => ?_)
    exact hK _ _ _ _ _ _ _ _ hs _ _ _ _ _ _ _ _ _ _ _ _ _ _ _ _ _ _ _ hC (hM.st2 hv.1 hv.2 hL) hc hn
  · exact hs.elim
def am_astore (i nx : Nat) : am_S := fun K X P ls st kc ks G I J => match st with
  | (.inr (.inr x)) :: r => K nx (am_s1 ls i (.inr (.inr x))) r kc ks G I J
  | _ => False
theorem ok_astore_n {k : Fin 4} {i : Nat} (h : decode (am_mB y) pc = .ok (.astore_n k, 1)) (hi : (k : Nat) = i) (hn0 : i < am_mL y) : am_ok l sc d y pc (am_astore i (pc + 1)) := by
  intro K X P ls st kc ks G I J hK _ hs
  unfold am_astore at hs
  split at hs
  · rename_i x r
    intro p R e s m args below meth c D cT A ad0 G0 Q ad H locs LS hC hM hc hn
    have hv := hM.sok
    simp only [List.forall_mem_cons] at hv
    refine lv_astore_n hC.1.1 hC.1.2.1 h hi hM.1 hn0 rfl (fun LS' hL => ?_)
    exact hK _ _ _ _ _ _ _ _ hs _ _ _ _ _ _ _ _ _ _ _ _ _ _ _ _ _ _ _ hC (hM.st1 hv.1 hv.2 hL) hc hn
  · exact hs.elim
theorem ok_astore {i : Nat} (h : decode (am_mB y) pc = .ok (.astore i, 2)) (hn0 : i < am_mL y) : am_ok l sc d y pc (am_astore i (pc + 2)) := by
  intro K X P ls st kc ks G I J hK _ hs
  unfold am_astore at hs
  split at hs
  · rename_i x r
    intro p R e s m args below meth c D cT A ad0 G0 Q ad H locs LS hC hM hc hn
    have hv := hM.sok
    simp only [List.forall_mem_cons] at hv
    refine lv_astore hC.1.1 hC.1.2.1 h hM.1 hn0 rfl (fun LS' hL => ?_)
    exact hK _ _ _ _ _ _ _ _ hs _ _ _ _ _ _ _ _ _ _ _ _ _ _ _ _ _ _ _ hC (hM.st1 hv.1 hv.2 hL) hc hn
  · exact hs.elim
def am_iinc (i : Nat) (n : Int32) (nx : Nat) : am_S := fun K X P ls st kc ks G I J => match am_lg ls i with
  | some (.inl x) => K nx (am_s1 ls i (.inl (x + n))) st kc ks G I J
  | _ => False
theorem ok_iinc {i : Nat} {n : Int} {v : Int32} (h : decode (am_mB y) pc = .ok (.iinc i n, 3)) (hv : Int32.ofInt n = v) (hn0 : i < am_mL y) : am_ok l sc d y pc (am_iinc i v (pc + 3)) := by
  subst hv
  intro K X P ls st kc ks G I J hK _ hs
  unfold am_iinc at hs
  split at hs
  · rename_i x hg
    intro p R e s m args below meth c D cT A ad0 G0 Q ad H locs LS hC hM hc hn
    have hin := am_cl_in ad ls 0 i _ hg
    obtain ⟨k, hk⟩ := List.getElem?_of_mem hin
    rw [Nat.zero_add] at hk
    refine lv_iinc (k := k) hC.1.1 hC.1.2.1 h hM.1 hk rfl hn0 rfl (fun LS' hL => ?_)
    exact hK _ _ _ _ _ _ _ _ hs _ _ _ _ _ _ _ _ _ _ _ _ _ _ _ _ _ _ _ hC (hM.st1 trivial hM.sok hL) hc hn
  · exact hs.elim
def am_iadd (nx : Nat) : am_S := fun K X P ls st kc ks G I J => match st with
  | (.inl b) :: (.inl a) :: r => K nx ls ((.inl (a + b)) :: r) kc ks G I J
  | _ => False
theorem ok_iadd  (h : decode (am_mB y) pc = .ok (.iadd, 1)) : am_ok l sc d y pc (am_iadd (pc + 1)) := by
  intro K X P ls st kc ks G I J hK _ hs
  unfold am_iadd at hs
  split at hs
  · rename_i b a r
    intro p R e s m args below meth c D cT A ad0 G0 Q ad H locs LS hC hM hc hn
    have hx := hC.1.1
    have hb := hC.1.2.1
    have hv := hM.sok
    refine lv_iadd hx hb h ?_
    exact hK _ _ _ _ _ _ _ _ hs _ _ _ _ _ _ _ _ _ _ _ _ _ _ _ _ _ _ _ hC (hM.stk (by simp only [List.forall_mem_cons] at hv ⊢; exact ⟨trivial, hv.2.2⟩)) hc hn
  · exact hs.elim
def am_isub (nx : Nat) : am_S := fun K X P ls st kc ks G I J => match st with
  | (.inl b) :: (.inl a) :: r => K nx ls ((.inl (a - b)) :: r) kc ks G I J
  | _ => False
theorem ok_isub  (h : decode (am_mB y) pc = .ok (.isub, 1)) : am_ok l sc d y pc (am_isub (pc + 1)) := by
  intro K X P ls st kc ks G I J hK _ hs
  unfold am_isub at hs
  split at hs
  · rename_i b a r
    intro p R e s m args below meth c D cT A ad0 G0 Q ad H locs LS hC hM hc hn
    have hx := hC.1.1
    have hb := hC.1.2.1
    have hv := hM.sok
    refine lv_isub hx hb h ?_
    exact hK _ _ _ _ _ _ _ _ hs _ _ _ _ _ _ _ _ _ _ _ _ _ _ _ _ _ _ _ hC (hM.stk (by simp only [List.forall_mem_cons] at hv ⊢; exact ⟨trivial, hv.2.2⟩)) hc hn
  · exact hs.elim
def am_imul (nx : Nat) : am_S := fun K X P ls st kc ks G I J => match st with
  | (.inl b) :: (.inl a) :: r => K nx ls ((.inl (a * b)) :: r) kc ks G I J
  | _ => False
theorem ok_imul  (h : decode (am_mB y) pc = .ok (.imul, 1)) : am_ok l sc d y pc (am_imul (pc + 1)) := by
  intro K X P ls st kc ks G I J hK _ hs
  unfold am_imul at hs
  split at hs
  · rename_i b a r
    intro p R e s m args below meth c D cT A ad0 G0 Q ad H locs LS hC hM hc hn
    have hx := hC.1.1
    have hb := hC.1.2.1
    have hv := hM.sok
    refine lv_imul hx hb h ?_
    exact hK _ _ _ _ _ _ _ _ hs _ _ _ _ _ _ _ _ _ _ _ _ _ _ _ _ _ _ _ hC (hM.stk (by simp only [List.forall_mem_cons] at hv ⊢; exact ⟨trivial, hv.2.2⟩)) hc hn
  · exact hs.elim
def am_iand (nx : Nat) : am_S := fun K X P ls st kc ks G I J => match st with
  | (.inl b) :: (.inl a) :: r => K nx ls ((.inl (a &&& b)) :: r) kc ks G I J
  | _ => False
theorem ok_iand  (h : decode (am_mB y) pc = .ok (.iand, 1)) : am_ok l sc d y pc (am_iand (pc + 1)) := by
  intro K X P ls st kc ks G I J hK _ hs
  unfold am_iand at hs
  split at hs
  · rename_i b a r
    intro p R e s m args below meth c D cT A ad0 G0 Q ad H locs LS hC hM hc hn
    have hx := hC.1.1
    have hb := hC.1.2.1
    have hv := hM.sok
    refine lv_iand hx hb h ?_
    exact hK _ _ _ _ _ _ _ _ hs _ _ _ _ _ _ _ _ _ _ _ _ _ _ _ _ _ _ _ hC (hM.stk (by simp only [List.forall_mem_cons] at hv ⊢; exact ⟨trivial, hv.2.2⟩)) hc hn
  · exact hs.elim
def am_ior (nx : Nat) : am_S := fun K X P ls st kc ks G I J => match st with
  | (.inl b) :: (.inl a) :: r => K nx ls ((.inl (a ||| b)) :: r) kc ks G I J
  | _ => False
theorem ok_ior  (h : decode (am_mB y) pc = .ok (.ior, 1)) : am_ok l sc d y pc (am_ior (pc + 1)) := by
  intro K X P ls st kc ks G I J hK _ hs
  unfold am_ior at hs
  split at hs
  · rename_i b a r
    intro p R e s m args below meth c D cT A ad0 G0 Q ad H locs LS hC hM hc hn
    have hx := hC.1.1
    have hb := hC.1.2.1
    have hv := hM.sok
    refine lv_ior hx hb h ?_
    exact hK _ _ _ _ _ _ _ _ hs _ _ _ _ _ _ _ _ _ _ _ _ _ _ _ _ _ _ _ hC (hM.stk (by simp only [List.forall_mem_cons] at hv ⊢; exact ⟨trivial, hv.2.2⟩)) hc hn
  · exact hs.elim
def am_ixor (nx : Nat) : am_S := fun K X P ls st kc ks G I J => match st with
  | (.inl b) :: (.inl a) :: r => K nx ls ((.inl (a ^^^ b)) :: r) kc ks G I J
  | _ => False
theorem ok_ixor  (h : decode (am_mB y) pc = .ok (.ixor, 1)) : am_ok l sc d y pc (am_ixor (pc + 1)) := by
  intro K X P ls st kc ks G I J hK _ hs
  unfold am_ixor at hs
  split at hs
  · rename_i b a r
    intro p R e s m args below meth c D cT A ad0 G0 Q ad H locs LS hC hM hc hn
    have hx := hC.1.1
    have hb := hC.1.2.1
    have hv := hM.sok
    refine lv_ixor hx hb h ?_
    exact hK _ _ _ _ _ _ _ _ hs _ _ _ _ _ _ _ _ _ _ _ _ _ _ _ _ _ _ _ hC (hM.stk (by simp only [List.forall_mem_cons] at hv ⊢; exact ⟨trivial, hv.2.2⟩)) hc hn
  · exact hs.elim
def am_ishl (nx : Nat) : am_S := fun K X P ls st kc ks G I J => match st with
  | (.inl b) :: (.inl a) :: r => K nx ls ((.inl (a <<< (b &&& 31))) :: r) kc ks G I J
  | _ => False
theorem ok_ishl  (h : decode (am_mB y) pc = .ok (.ishl, 1)) : am_ok l sc d y pc (am_ishl (pc + 1)) := by
  intro K X P ls st kc ks G I J hK _ hs
  unfold am_ishl at hs
  split at hs
  · rename_i b a r
    intro p R e s m args below meth c D cT A ad0 G0 Q ad H locs LS hC hM hc hn
    have hx := hC.1.1
    have hb := hC.1.2.1
    have hv := hM.sok
    refine lv_ishl hx hb h ?_
    exact hK _ _ _ _ _ _ _ _ hs _ _ _ _ _ _ _ _ _ _ _ _ _ _ _ _ _ _ _ hC (hM.stk (by simp only [List.forall_mem_cons] at hv ⊢; exact ⟨trivial, hv.2.2⟩)) hc hn
  · exact hs.elim
def am_ishr (nx : Nat) : am_S := fun K X P ls st kc ks G I J => match st with
  | (.inl b) :: (.inl a) :: r => K nx ls ((.inl (a >>> (b &&& 31))) :: r) kc ks G I J
  | _ => False
theorem ok_ishr  (h : decode (am_mB y) pc = .ok (.ishr, 1)) : am_ok l sc d y pc (am_ishr (pc + 1)) := by
  intro K X P ls st kc ks G I J hK _ hs
  unfold am_ishr at hs
  split at hs
  · rename_i b a r
    intro p R e s m args below meth c D cT A ad0 G0 Q ad H locs LS hC hM hc hn
    have hx := hC.1.1
    have hb := hC.1.2.1
    have hv := hM.sok
    refine lv_ishr hx hb h ?_
    exact hK _ _ _ _ _ _ _ _ hs _ _ _ _ _ _ _ _ _ _ _ _ _ _ _ _ _ _ _ hC (hM.stk (by simp only [List.forall_mem_cons] at hv ⊢; exact ⟨trivial, hv.2.2⟩)) hc hn
  · exact hs.elim
def am_iushr (nx : Nat) : am_S := fun K X P ls st kc ks G I J => match st with
  | (.inl b) :: (.inl a) :: r => K nx ls ((.inl ((a.toUInt32 >>> (b.toUInt32 &&& Int32.toUInt32 31)).toInt32)) :: r) kc ks G I J
  | _ => False
theorem ok_iushr  (h : decode (am_mB y) pc = .ok (.iushr, 1)) : am_ok l sc d y pc (am_iushr (pc + 1)) := by
  intro K X P ls st kc ks G I J hK _ hs
  unfold am_iushr at hs
  split at hs
  · rename_i b a r
    intro p R e s m args below meth c D cT A ad0 G0 Q ad H locs LS hC hM hc hn
    have hx := hC.1.1
    have hb := hC.1.2.1
    have hv := hM.sok
    refine lv_iushr hx hb h rfl ?_
    exact hK _ _ _ _ _ _ _ _ hs _ _ _ _ _ _ _ _ _ _ _ _ _ _ _ _ _ _ _ hC (hM.stk (by simp only [List.forall_mem_cons] at hv ⊢; exact ⟨trivial, hv.2.2⟩)) hc hn
  · exact hs.elim
def am_ladd (nx : Nat) : am_S := fun K X P ls st kc ks G I J => match st with
  | (.inr (.inl b)) :: (.inr (.inl a)) :: r => K nx ls ((.inr (.inl (a + b))) :: r) kc ks G I J
  | _ => False
theorem ok_ladd  (h : decode (am_mB y) pc = .ok (.ladd, 1)) : am_ok l sc d y pc (am_ladd (pc + 1)) := by
  intro K X P ls st kc ks G I J hK _ hs
  unfold am_ladd at hs
  split at hs
  · rename_i b a r
    intro p R e s m args below meth c D cT A ad0 G0 Q ad H locs LS hC hM hc hn
    have hx := hC.1.1
    have hb := hC.1.2.1
    have hv := hM.sok
    refine lv_ladd hx hb h ?_
    exact hK _ _ _ _ _ _ _ _ hs _ _ _ _ _ _ _ _ _ _ _ _ _ _ _ _ _ _ _ hC (hM.stk (by simp only [List.forall_mem_cons] at hv ⊢; exact ⟨trivial, hv.2.2⟩)) hc hn
  · exact hs.elim
def am_lsub (nx : Nat) : am_S := fun K X P ls st kc ks G I J => match st with
  | (.inr (.inl b)) :: (.inr (.inl a)) :: r => K nx ls ((.inr (.inl (a - b))) :: r) kc ks G I J
  | _ => False
theorem ok_lsub  (h : decode (am_mB y) pc = .ok (.lsub, 1)) : am_ok l sc d y pc (am_lsub (pc + 1)) := by
  intro K X P ls st kc ks G I J hK _ hs
  unfold am_lsub at hs
  split at hs
  · rename_i b a r
    intro p R e s m args below meth c D cT A ad0 G0 Q ad H locs LS hC hM hc hn
    have hx := hC.1.1
    have hb := hC.1.2.1
    have hv := hM.sok
    refine lv_lsub hx hb h ?_
    exact hK _ _ _ _ _ _ _ _ hs _ _ _ _ _ _ _ _ _ _ _ _ _ _ _ _ _ _ _ hC (hM.stk (by simp only [List.forall_mem_cons] at hv ⊢; exact ⟨trivial, hv.2.2⟩)) hc hn
  · exact hs.elim
def am_lmul (nx : Nat) : am_S := fun K X P ls st kc ks G I J => match st with
  | (.inr (.inl b)) :: (.inr (.inl a)) :: r => K nx ls ((.inr (.inl (a * b))) :: r) kc ks G I J
  | _ => False
theorem ok_lmul  (h : decode (am_mB y) pc = .ok (.lmul, 1)) : am_ok l sc d y pc (am_lmul (pc + 1)) := by
  intro K X P ls st kc ks G I J hK _ hs
  unfold am_lmul at hs
  split at hs
  · rename_i b a r
    intro p R e s m args below meth c D cT A ad0 G0 Q ad H locs LS hC hM hc hn
    have hx := hC.1.1
    have hb := hC.1.2.1
    have hv := hM.sok
    refine lv_lmul hx hb h ?_
    exact hK _ _ _ _ _ _ _ _ hs _ _ _ _ _ _ _ _ _ _ _ _ _ _ _ _ _ _ _ hC (hM.stk (by simp only [List.forall_mem_cons] at hv ⊢; exact ⟨trivial, hv.2.2⟩)) hc hn
  · exact hs.elim
def am_land (nx : Nat) : am_S := fun K X P ls st kc ks G I J => match st with
  | (.inr (.inl b)) :: (.inr (.inl a)) :: r => K nx ls ((.inr (.inl (a &&& b))) :: r) kc ks G I J
  | _ => False
theorem ok_land  (h : decode (am_mB y) pc = .ok (.land, 1)) : am_ok l sc d y pc (am_land (pc + 1)) := by
  intro K X P ls st kc ks G I J hK _ hs
  unfold am_land at hs
  split at hs
  · rename_i b a r
    intro p R e s m args below meth c D cT A ad0 G0 Q ad H locs LS hC hM hc hn
    have hx := hC.1.1
    have hb := hC.1.2.1
    have hv := hM.sok
    refine lv_land hx hb h ?_
    exact hK _ _ _ _ _ _ _ _ hs _ _ _ _ _ _ _ _ _ _ _ _ _ _ _ _ _ _ _ hC (hM.stk (by simp only [List.forall_mem_cons] at hv ⊢; exact ⟨trivial, hv.2.2⟩)) hc hn
  · exact hs.elim
def am_lor (nx : Nat) : am_S := fun K X P ls st kc ks G I J => match st with
  | (.inr (.inl b)) :: (.inr (.inl a)) :: r => K nx ls ((.inr (.inl (a ||| b))) :: r) kc ks G I J
  | _ => False
theorem ok_lor  (h : decode (am_mB y) pc = .ok (.lor, 1)) : am_ok l sc d y pc (am_lor (pc + 1)) := by
  intro K X P ls st kc ks G I J hK _ hs
  unfold am_lor at hs
  split at hs
  · rename_i b a r
    intro p R e s m args below meth c D cT A ad0 G0 Q ad H locs LS hC hM hc hn
    have hx := hC.1.1
    have hb := hC.1.2.1
    have hv := hM.sok
    refine lv_lor hx hb h ?_
    exact hK _ _ _ _ _ _ _ _ hs _ _ _ _ _ _ _ _ _ _ _ _ _ _ _ _ _ _ _ hC (hM.stk (by simp only [List.forall_mem_cons] at hv ⊢; exact ⟨trivial, hv.2.2⟩)) hc hn
  · exact hs.elim
def am_idiv (nx : Nat) : am_S := fun K X P ls st kc ks G I J => match st with
  | (.inl b) :: (.inl a) :: r => ¬ b = 0 ∧ K nx ls ((.inl (a / b)) :: r) kc ks G I J
  | _ => False
theorem ok_idiv  (h : decode (am_mB y) pc = .ok (.idiv, 1)) : am_ok l sc d y pc (am_idiv (pc + 1)) := by
  intro K X P ls st kc ks G I J hK _ hs
  unfold am_idiv at hs
  split at hs
  · rename_i b a r
    intro p R e s m args below meth c D cT A ad0 G0 Q ad H locs LS hC hM hc hn
    have hx := hC.1.1
    have hb := hC.1.2.1
    have hv := hM.sok
    refine lv_idiv hx hb h hs.1 ?_
    exact hK _ _ _ _ _ _ _ _ hs.2 _ _ _ _ _ _ _ _ _ _ _ _ _ _ _ _ _ _ _ hC (hM.stk (by simp only [List.forall_mem_cons] at hv ⊢; exact ⟨trivial, hv.2.2⟩)) hc hn
  · exact hs.elim
def am_irem (nx : Nat) : am_S := fun K X P ls st kc ks G I J => match st with
  | (.inl b) :: (.inl a) :: r => ¬ b = 0 ∧ K nx ls ((.inl (a - a / b * b)) :: r) kc ks G I J
  | _ => False
theorem ok_irem  (h : decode (am_mB y) pc = .ok (.irem, 1)) : am_ok l sc d y pc (am_irem (pc + 1)) := by
  intro K X P ls st kc ks G I J hK _ hs
  unfold am_irem at hs
  split at hs
  · rename_i b a r
    intro p R e s m args below meth c D cT A ad0 G0 Q ad H locs LS hC hM hc hn
    have hx := hC.1.1
    have hb := hC.1.2.1
    have hv := hM.sok
    refine lv_irem hx hb h hs.1 ?_
    exact hK _ _ _ _ _ _ _ _ hs.2 _ _ _ _ _ _ _ _ _ _ _ _ _ _ _ _ _ _ _ hC (hM.stk (by simp only [List.forall_mem_cons] at hv ⊢; exact ⟨trivial, hv.2.2⟩)) hc hn
  · exact hs.elim
def am_ldiv (nx : Nat) : am_S := fun K X P ls st kc ks G I J => match st with
  | (.inr (.inl b)) :: (.inr (.inl a)) :: r => ¬ b = 0 ∧ K nx ls ((.inr (.inl (a / b))) :: r) kc ks G I J
  | _ => False
theorem ok_ldiv  (h : decode (am_mB y) pc = .ok (.ldiv, 1)) : am_ok l sc d y pc (am_ldiv (pc + 1)) := by
  intro K X P ls st kc ks G I J hK _ hs
  unfold am_ldiv at hs
  split at hs
  · rename_i b a r
    intro p R e s m args below meth c D cT A ad0 G0 Q ad H locs LS hC hM hc hn
    have hx := hC.1.1
    have hb := hC.1.2.1
    have hv := hM.sok
    refine lv_ldiv hx hb h hs.1 ?_
    exact hK _ _ _ _ _ _ _ _ hs.2 _ _ _ _ _ _ _ _ _ _ _ _ _ _ _ _ _ _ _ hC (hM.stk (by simp only [List.forall_mem_cons] at hv ⊢; exact ⟨trivial, hv.2.2⟩)) hc hn
  · exact hs.elim
def am_lrem (nx : Nat) : am_S := fun K X P ls st kc ks G I J => match st with
  | (.inr (.inl b)) :: (.inr (.inl a)) :: r => ¬ b = 0 ∧ K nx ls ((.inr (.inl (a - a / b * b))) :: r) kc ks G I J
  | _ => False
theorem ok_lrem  (h : decode (am_mB y) pc = .ok (.lrem, 1)) : am_ok l sc d y pc (am_lrem (pc + 1)) := by
  intro K X P ls st kc ks G I J hK _ hs
  unfold am_lrem at hs
  split at hs
  · rename_i b a r
    intro p R e s m args below meth c D cT A ad0 G0 Q ad H locs LS hC hM hc hn
    have hx := hC.1.1
    have hb := hC.1.2.1
    have hv := hM.sok
    refine lv_lrem hx hb h hs.1 ?_
    exact hK _ _ _ _ _ _ _ _ hs.2 _ _ _ _ _ _ _ _ _ _ _ _ _ _ _ _ _ _ _ hC (hM.stk (by simp only [List.forall_mem_cons] at hv ⊢; exact ⟨trivial, hv.2.2⟩)) hc hn
  · exact hs.elim
def am_lshl (nx : Nat) : am_S := fun K X P ls st kc ks G I J => match st with
  | (.inl b) :: (.inr (.inl a)) :: r => K nx ls ((.inr (.inl (a <<< (b.toInt64 &&& 63)))) :: r) kc ks G I J
  | _ => False
theorem ok_lshl  (h : decode (am_mB y) pc = .ok (.lshl, 1)) : am_ok l sc d y pc (am_lshl (pc + 1)) := by
  intro K X P ls st kc ks G I J hK _ hs
  unfold am_lshl at hs
  split at hs
  · rename_i b a r
    intro p R e s m args below meth c D cT A ad0 G0 Q ad H locs LS hC hM hc hn
    have hx := hC.1.1
    have hb := hC.1.2.1
    have hv := hM.sok
    refine lv_lshl hx hb h rfl ?_
    exact hK _ _ _ _ _ _ _ _ hs _ _ _ _ _ _ _ _ _ _ _ _ _ _ _ _ _ _ _ hC (hM.stk (by simp only [List.forall_mem_cons] at hv ⊢; exact ⟨trivial, hv.2.2⟩)) hc hn
  · exact hs.elim
def am_lushr (nx : Nat) : am_S := fun K X P ls st kc ks G I J => match st with
  | (.inl b) :: (.inr (.inl a)) :: r => K nx ls ((.inr (.inl ((a.toUInt64 >>> (b.toInt64.toUInt64 &&& Int64.toUInt64 63)).toInt64))) :: r) kc ks G I J
  | _ => False
theorem ok_lushr  (h : decode (am_mB y) pc = .ok (.lushr, 1)) : am_ok l sc d y pc (am_lushr (pc + 1)) := by
  intro K X P ls st kc ks G I J hK _ hs
  unfold am_lushr at hs
  split at hs
  · rename_i b a r
    intro p R e s m args below meth c D cT A ad0 G0 Q ad H locs LS hC hM hc hn
    have hx := hC.1.1
    have hb := hC.1.2.1
    have hv := hM.sok
    refine lv_lushr hx hb h rfl ?_
    exact hK _ _ _ _ _ _ _ _ hs _ _ _ _ _ _ _ _ _ _ _ _ _ _ _ _ _ _ _ hC (hM.stk (by simp only [List.forall_mem_cons] at hv ⊢; exact ⟨trivial, hv.2.2⟩)) hc hn
  · exact hs.elim
def am_lshr (nx : Nat) : am_S := fun K X P ls st kc ks G I J => match st with
  | (.inl b) :: (.inr (.inl a)) :: r => K nx ls ((.inr (.inl (a >>> (b.toInt64 &&& 63)))) :: r) kc ks G I J
  | _ => False
theorem ok_lshr  (h : decode (am_mB y) pc = .ok (.lshr, 1)) : am_ok l sc d y pc (am_lshr (pc + 1)) := by
  intro K X P ls st kc ks G I J hK _ hs
  unfold am_lshr at hs
  split at hs
  · rename_i b a r
    intro p R e s m args below meth c D cT A ad0 G0 Q ad H locs LS hC hM hc hn
    have hx := hC.1.1
    have hb := hC.1.2.1
    have hv := hM.sok
    refine lv_lshr hx hb h rfl ?_
    exact hK _ _ _ _ _ _ _ _ hs _ _ _ _ _ _ _ _ _ _ _ _ _ _ _ _ _ _ _ hC (hM.stk (by simp only [List.forall_mem_cons] at hv ⊢; exact ⟨trivial, hv.2.2⟩)) hc hn
  · exact hs.elim
def am_lcmp (nx : Nat) : am_S := fun K X P ls st kc ks G I J => match st with
  | (.inr (.inl b)) :: (.inr (.inl a)) :: r => K nx ls ((.inl (lg_cmp a b)) :: r) kc ks G I J
  | _ => False
theorem ok_lcmp  (h : decode (am_mB y) pc = .ok (.lcmp, 1)) : am_ok l sc d y pc (am_lcmp (pc + 1)) := by
  intro K X P ls st kc ks G I J hK _ hs
  unfold am_lcmp at hs
  split at hs
  · rename_i b a r
    intro p R e s m args below meth c D cT A ad0 G0 Q ad H locs LS hC hM hc hn
    have hx := hC.1.1
    have hb := hC.1.2.1
    have hv := hM.sok
    refine W.lcmp hx hb h ?_
    exact hK _ _ _ _ _ _ _ _ hs _ _ _ _ _ _ _ _ _ _ _ _ _ _ _ _ _ _ _ hC (hM.stk (by simp only [List.forall_mem_cons] at hv ⊢; exact ⟨trivial, hv.2.2⟩)) hc hn
  · exact hs.elim
def am_ineg (nx : Nat) : am_S := fun K X P ls st kc ks G I J => match st with
  | (.inl a) :: r => K nx ls ((.inl (-a)) :: r) kc ks G I J
  | _ => False
theorem ok_ineg  (h : decode (am_mB y) pc = .ok (.ineg, 1)) : am_ok l sc d y pc (am_ineg (pc + 1)) := by
  intro K X P ls st kc ks G I J hK _ hs
  unfold am_ineg at hs
  split at hs
  · rename_i a r
    intro p R e s m args below meth c D cT A ad0 G0 Q ad H locs LS hC hM hc hn
    have hx := hC.1.1
    have hb := hC.1.2.1
    have hv := hM.sok
    refine lv_ineg hx hb h ?_
    exact hK _ _ _ _ _ _ _ _ hs _ _ _ _ _ _ _ _ _ _ _ _ _ _ _ _ _ _ _ hC (hM.stk (by simp only [List.forall_mem_cons] at hv ⊢; exact ⟨trivial, hv.2⟩)) hc hn
  · exact hs.elim
def am_i2l (nx : Nat) : am_S := fun K X P ls st kc ks G I J => match st with
  | (.inl a) :: r => K nx ls ((.inr (.inl (a.toInt64))) :: r) kc ks G I J
  | _ => False
theorem ok_i2l  (h : decode (am_mB y) pc = .ok (.i2l, 1)) : am_ok l sc d y pc (am_i2l (pc + 1)) := by
  intro K X P ls st kc ks G I J hK _ hs
  unfold am_i2l at hs
  split at hs
  · rename_i a r
    intro p R e s m args below meth c D cT A ad0 G0 Q ad H locs LS hC hM hc hn
    have hx := hC.1.1
    have hb := hC.1.2.1
    have hv := hM.sok
    refine lv_i2l hx hb h rfl ?_
    exact hK _ _ _ _ _ _ _ _ hs _ _ _ _ _ _ _ _ _ _ _ _ _ _ _ _ _ _ _ hC (hM.stk (by simp only [List.forall_mem_cons] at hv ⊢; exact ⟨trivial, hv.2⟩)) hc hn
  · exact hs.elim
def am_l2i (nx : Nat) : am_S := fun K X P ls st kc ks G I J => match st with
  | (.inr (.inl a)) :: r => K nx ls ((.inl (a.toInt32)) :: r) kc ks G I J
  | _ => False
theorem ok_l2i  (h : decode (am_mB y) pc = .ok (.l2i, 1)) : am_ok l sc d y pc (am_l2i (pc + 1)) := by
  intro K X P ls st kc ks G I J hK _ hs
  unfold am_l2i at hs
  split at hs
  · rename_i a r
    intro p R e s m args below meth c D cT A ad0 G0 Q ad H locs LS hC hM hc hn
    have hx := hC.1.1
    have hb := hC.1.2.1
    have hv := hM.sok
    refine lv_l2i hx hb h rfl ?_
    exact hK _ _ _ _ _ _ _ _ hs _ _ _ _ _ _ _ _ _ _ _ _ _ _ _ _ _ _ _ hC (hM.stk (by simp only [List.forall_mem_cons] at hv ⊢; exact ⟨trivial, hv.2⟩)) hc hn
  · exact hs.elim
def am_i2c (nx : Nat) : am_S := fun K X P ls st kc ks G I J => match st with
  | (.inl a) :: r => K nx ls ((.inl ((a.toUInt32 % 65536).toInt32)) :: r) kc ks G I J
  | _ => False
theorem ok_i2c  (h : decode (am_mB y) pc = .ok (.i2c, 1)) : am_ok l sc d y pc (am_i2c (pc + 1)) := by
  intro K X P ls st kc ks G I J hK _ hs
  unfold am_i2c at hs
  split at hs
  · rename_i a r
    intro p R e s m args below meth c D cT A ad0 G0 Q ad H locs LS hC hM hc hn
    have hx := hC.1.1
    have hb := hC.1.2.1
    have hv := hM.sok
    refine lv_i2c hx hb h rfl ?_
    exact hK _ _ _ _ _ _ _ _ hs _ _ _ _ _ _ _ _ _ _ _ _ _ _ _ _ _ _ _ hC (hM.stk (by simp only [List.forall_mem_cons] at hv ⊢; exact ⟨trivial, hv.2⟩)) hc hn
  · exact hs.elim
def am_c1 : am_V → Bool
  | .inr (.inl _) => false
  | _ => true
theorem am_c1_cat {ad : am_A → Nat} {v : am_V} (h : am_c1 v = true) : (am_cv ad v).category = 1 := by
  rcases v with x | x | a
  · rfl
  · cases h
  · rfl
def am_dup (nx : Nat) : am_S := fun K X P ls st kc ks G I J => match st with
  | v :: r => am_c1 v = true ∧ K nx ls (v :: v :: r) kc ks G I J
  | _ => False
theorem ok_dup  (h : decode (am_mB y) pc = .ok (.dup, 1)) : am_ok l sc d y pc (am_dup (pc + 1)) := by
  intro K X P ls st kc ks G I J hK _ hs
  unfold am_dup at hs
  split at hs
  · rename_i v r
    intro p R e s m args below meth c D cT A ad0 G0 Q ad H locs LS hC hM hc hn
    have hx := hC.1.1
    have hb := hC.1.2.1
    have hv := hM.sok
    refine lv_dup hx hb h (am_c1_cat hs.1) ?_
    exact hK _ _ _ _ _ _ _ _ hs.2 _ _ _ _ _ _ _ _ _ _ _ _ _ _ _ _ _ _ _ hC (hM.stk (by simp only [List.forall_mem_cons] at hv ⊢; exact ⟨hv.1, hv.1, hv.2⟩)) hc hn
  · exact hs.elim
def am_pop (nx : Nat) : am_S := fun K X P ls st kc ks G I J => match st with
  | v :: r => am_c1 v = true ∧ K nx ls r kc ks G I J
  | _ => False
theorem ok_pop  (h : decode (am_mB y) pc = .ok (.pop, 1)) : am_ok l sc d y pc (am_pop (pc + 1)) := by
  intro K X P ls st kc ks G I J hK _ hs
  unfold am_pop at hs
  split at hs
  · rename_i v r
    intro p R e s m args below meth c D cT A ad0 G0 Q ad H locs LS hC hM hc hn
    have hx := hC.1.1
    have hb := hC.1.2.1
    have hv := hM.sok
    refine lv_pop hx hb h (am_c1_cat hs.1) ?_
    exact hK _ _ _ _ _ _ _ _ hs.2 _ _ _ _ _ _ _ _ _ _ _ _ _ _ _ _ _ _ _ hC (hM.stk (by simp only [List.forall_mem_cons] at hv ⊢; exact hv.2)) hc hn
  · exact hs.elim
def am_dup2 (nx : Nat) : am_S := fun K X P ls st kc ks G I J => match st with
  | v :: u :: r => (am_c1 v = true ∧ am_c1 u = true) ∧ K nx ls (v :: u :: v :: u :: r) kc ks G I J
  | _ => False
theorem ok_dup2  (h : decode (am_mB y) pc = .ok (.dup2, 1)) : am_ok l sc d y pc (am_dup2 (pc + 1)) := by
  intro K X P ls st kc ks G I J hK _ hs
  unfold am_dup2 at hs
  split at hs
  · rename_i v u r
    intro p R e s m args below meth c D cT A ad0 G0 Q ad H locs LS hC hM hc hn
    have hx := hC.1.1
    have hb := hC.1.2.1
    have hv := hM.sok
    refine lv_dup2_11 hx hb h (am_c1_cat hs.1.1) (am_c1_cat hs.1.2) ?_
    exact hK _ _ _ _ _ _ _ _ hs.2 _ _ _ _ _ _ _ _ _ _ _ _ _ _ _ _ _ _ _ hC (hM.stk (by simp only [List.forall_mem_cons] at hv ⊢; exact ⟨hv.1, hv.2.1, hv.1, hv.2.1, hv.2.2⟩)) hc hn
  · exact hs.elim
def am_if_eq (nx tg : Nat) : am_S := fun K X P ls st kc ks G I J => match st with
  | (.inl a) :: r => if a = 0 then K tg ls r kc ks G I J else K nx ls r kc ks G I J
  | _ => False
theorem ok_if_eq {off : Int} {tg : Nat} (h : decode (am_mB y) pc = .ok (.ifCond .eq off, 3)) (ht : (pc : Int) + off = (tg : Int)) : am_ok l sc d y pc (am_if_eq (pc + 3) tg) := by
  intro K X P ls st kc ks G I J hK _ hs
  unfold am_if_eq at hs
  split at hs
  · rename_i a r
    intro p R e s m args below meth c D cT A ad0 G0 Q ad H locs LS hC hM hc hn
    have hv := hM.sok
    simp only [List.forall_mem_cons] at hv
    refine lv_if_eq hC.1.1 hC.1.2.1 h ht (fun q => ?_) (fun q => ?_)
    · rw [if_pos q] at hs
      exact hK _ _ _ _ _ _ _ _ hs _ _ _ _ _ _ _ _ _ _ _ _ _ _ _ _ _ _ _ hC (hM.stk hv.2) hc hn
    · rw [if_neg q] at hs
      exact hK _ _ _ _ _ _ _ _ hs _ _ _ _ _ _ _ _ _ _ _ _ _ _ _ _ _ _ _ hC (hM.stk hv.2) hc hn
  · exact hs.elim
def am_icmp_eq (nx tg : Nat) : am_S := fun K X P ls st kc ks G I J => match st with
  | (.inl b) :: (.inl a) :: r => if a = b then K tg ls r kc ks G I J else K nx ls r kc ks G I J
  | _ => False
theorem ok_icmp_eq {off : Int} {tg : Nat} (h : decode (am_mB y) pc = .ok (.if_icmp .eq off, 3)) (ht : (pc : Int) + off = (tg : Int)) : am_ok l sc d y pc (am_icmp_eq (pc + 3) tg) := by
  intro K X P ls st kc ks G I J hK _ hs
  unfold am_icmp_eq at hs
  split at hs
  · rename_i b a r
    intro p R e s m args below meth c D cT A ad0 G0 Q ad H locs LS hC hM hc hn
    have hv := hM.sok
    simp only [List.forall_mem_cons] at hv
    refine lv_icmp_eq hC.1.1 hC.1.2.1 h ht (fun q => ?_) (fun q => ?_)
    · rw [if_pos q] at hs
      exact hK _ _ _ _ _ _ _ _ hs _ _ _ _ _ _ _ _ _ _ _ _ _ _ _ _ _ _ _ hC (hM.stk hv.2.2) hc hn
    · rw [if_neg q] at hs
      exact hK _ _ _ _ _ _ _ _ hs _ _ _ _ _ _ _ _ _ _ _ _ _ _ _ _ _ _ _ hC (hM.stk hv.2.2) hc hn
  · exact hs.elim
def am_if_ne (nx tg : Nat) : am_S := fun K X P ls st kc ks G I J => match st with
  | (.inl a) :: r => if a = 0 then K nx ls r kc ks G I J else K tg ls r kc ks G I J
  | _ => False
theorem ok_if_ne {off : Int} {tg : Nat} (h : decode (am_mB y) pc = .ok (.ifCond .ne off, 3)) (ht : (pc : Int) + off = (tg : Int)) : am_ok l sc d y pc (am_if_ne (pc + 3) tg) := by
  intro K X P ls st kc ks G I J hK _ hs
  unfold am_if_ne at hs
  split at hs
  · rename_i a r
    intro p R e s m args below meth c D cT A ad0 G0 Q ad H locs LS hC hM hc hn
    have hv := hM.sok
    simp only [List.forall_mem_cons] at hv
    refine lv_if_ne hC.1.1 hC.1.2.1 h ht (fun q => ?_) (fun q => ?_)
    · rw [if_neg q] at hs
      exact hK _ _ _ _ _ _ _ _ hs _ _ _ _ _ _ _ _ _ _ _ _ _ _ _ _ _ _ _ hC (hM.stk hv.2) hc hn
    · rw [if_pos q] at hs
      exact hK _ _ _ _ _ _ _ _ hs _ _ _ _ _ _ _ _ _ _ _ _ _ _ _ _ _ _ _ hC (hM.stk hv.2) hc hn
  · exact hs.elim
def am_icmp_ne (nx tg : Nat) : am_S := fun K X P ls st kc ks G I J => match st with
  | (.inl b) :: (.inl a) :: r => if a = b then K nx ls r kc ks G I J else K tg ls r kc ks G I J
  | _ => False
theorem ok_icmp_ne {off : Int} {tg : Nat} (h : decode (am_mB y) pc = .ok (.if_icmp .ne off, 3)) (ht : (pc : Int) + off = (tg : Int)) : am_ok l sc d y pc (am_icmp_ne (pc + 3) tg) := by
  intro K X P ls st kc ks G I J hK _ hs
  unfold am_icmp_ne at hs
  split at hs
  · rename_i b a r
    intro p R e s m args below meth c D cT A ad0 G0 Q ad H locs LS hC hM hc hn
    have hv := hM.sok
    simp only [List.forall_mem_cons] at hv
    refine lv_icmp_ne hC.1.1 hC.1.2.1 h ht (fun q => ?_) (fun q => ?_)
    · rw [if_neg q] at hs
      exact hK _ _ _ _ _ _ _ _ hs _ _ _ _ _ _ _ _ _ _ _ _ _ _ _ _ _ _ _ hC (hM.stk hv.2.2) hc hn
    · rw [if_pos q] at hs
      exact hK _ _ _ _ _ _ _ _ hs _ _ _ _ _ _ _ _ _ _ _ _ _ _ _ _ _ _ _ hC (hM.stk hv.2.2) hc hn
  · exact hs.elim
def am_if_lt (nx tg : Nat) : am_S := fun K X P ls st kc ks G I J => match st with
  | (.inl a) :: r => if a < 0 then K tg ls r kc ks G I J else K nx ls r kc ks G I J
  | _ => False
theorem ok_if_lt {off : Int} {tg : Nat} (h : decode (am_mB y) pc = .ok (.ifCond .lt off, 3)) (ht : (pc : Int) + off = (tg : Int)) : am_ok l sc d y pc (am_if_lt (pc + 3) tg) := by
  intro K X P ls st kc ks G I J hK _ hs
  unfold am_if_lt at hs
  split at hs
  · rename_i a r
    intro p R e s m args below meth c D cT A ad0 G0 Q ad H locs LS hC hM hc hn
    have hv := hM.sok
    simp only [List.forall_mem_cons] at hv
    refine lv_if_lt hC.1.1 hC.1.2.1 h ht (fun q => ?_) (fun q => ?_)
    · rw [if_pos q] at hs
      exact hK _ _ _ _ _ _ _ _ hs _ _ _ _ _ _ _ _ _ _ _ _ _ _ _ _ _ _ _ hC (hM.stk hv.2) hc hn
    · rw [if_neg q] at hs
      exact hK _ _ _ _ _ _ _ _ hs _ _ _ _ _ _ _ _ _ _ _ _ _ _ _ _ _ _ _ hC (hM.stk hv.2) hc hn
  · exact hs.elim
def am_icmp_lt (nx tg : Nat) : am_S := fun K X P ls st kc ks G I J => match st with
  | (.inl b) :: (.inl a) :: r => if a < b then K tg ls r kc ks G I J else K nx ls r kc ks G I J
  | _ => False
theorem ok_icmp_lt {off : Int} {tg : Nat} (h : decode (am_mB y) pc = .ok (.if_icmp .lt off, 3)) (ht : (pc : Int) + off = (tg : Int)) : am_ok l sc d y pc (am_icmp_lt (pc + 3) tg) := by
  intro K X P ls st kc ks G I J hK _ hs
  unfold am_icmp_lt at hs
  split at hs
  · rename_i b a r
    intro p R e s m args below meth c D cT A ad0 G0 Q ad H locs LS hC hM hc hn
    have hv := hM.sok
    simp only [List.forall_mem_cons] at hv
    refine lv_icmp_lt hC.1.1 hC.1.2.1 h ht (fun q => ?_) (fun q => ?_)
    · rw [if_pos q] at hs
      exact hK _ _ _ _ _ _ _ _ hs _ _ _ _ _ _ _ _ _ _ _ _ _ _ _ _ _ _ _ hC (hM.stk hv.2.2) hc hn
    · rw [if_neg q] at hs
      exact hK _ _ _ _ _ _ _ _ hs _ _ _ _ _ _ _ _ _ _ _ _ _ _ _ _ _ _ _ hC (hM.stk hv.2.2) hc hn
  · exact hs.elim
def am_if_ge (nx tg : Nat) : am_S := fun K X P ls st kc ks G I J => match st with
  | (.inl a) :: r => if 0 ≤ a then K tg ls r kc ks G I J else K nx ls r kc ks G I J
  | _ => False
theorem ok_if_ge {off : Int} {tg : Nat} (h : decode (am_mB y) pc = .ok (.ifCond .ge off, 3)) (ht : (pc : Int) + off = (tg : Int)) : am_ok l sc d y pc (am_if_ge (pc + 3) tg) := by
  intro K X P ls st kc ks G I J hK _ hs
  unfold am_if_ge at hs
  split at hs
  · rename_i a r
    intro p R e s m args below meth c D cT A ad0 G0 Q ad H locs LS hC hM hc hn
    have hv := hM.sok
    simp only [List.forall_mem_cons] at hv
    refine lv_if_ge hC.1.1 hC.1.2.1 h ht (fun q => ?_) (fun q => ?_)
    · rw [if_pos q] at hs
      exact hK _ _ _ _ _ _ _ _ hs _ _ _ _ _ _ _ _ _ _ _ _ _ _ _ _ _ _ _ hC (hM.stk hv.2) hc hn
    · rw [if_neg q] at hs
      exact hK _ _ _ _ _ _ _ _ hs _ _ _ _ _ _ _ _ _ _ _ _ _ _ _ _ _ _ _ hC (hM.stk hv.2) hc hn
  · exact hs.elim
def am_icmp_ge (nx tg : Nat) : am_S := fun K X P ls st kc ks G I J => match st with
  | (.inl b) :: (.inl a) :: r => if b ≤ a then K tg ls r kc ks G I J else K nx ls r kc ks G I J
  | _ => False
theorem ok_icmp_ge {off : Int} {tg : Nat} (h : decode (am_mB y) pc = .ok (.if_icmp .ge off, 3)) (ht : (pc : Int) + off = (tg : Int)) : am_ok l sc d y pc (am_icmp_ge (pc + 3) tg) := by
  intro K X P ls st kc ks G I J hK _ hs
  unfold am_icmp_ge at hs
  split at hs
  · rename_i b a r
    intro p R e s m args below meth c D cT A ad0 G0 Q ad H locs LS hC hM hc hn
    have hv := hM.sok
    simp only [List.forall_mem_cons] at hv
    refine lv_icmp_ge hC.1.1 hC.1.2.1 h ht (fun q => ?_) (fun q => ?_)
    · rw [if_pos q] at hs
      exact hK _ _ _ _ _ _ _ _ hs _ _ _ _ _ _ _ _ _ _ _ _ _ _ _ _ _ _ _ hC (hM.stk hv.2.2) hc hn
    · rw [if_neg q] at hs
      exact hK _ _ _ _ _ _ _ _ hs _ _ _ _ _ _ _ _ _ _ _ _ _ _ _ _ _ _ _ hC (hM.stk hv.2.2) hc hn
  · exact hs.elim
def am_if_gt (nx tg : Nat) : am_S := fun K X P ls st kc ks G I J => match st with
  | (.inl a) :: r => if 0 < a then K tg ls r kc ks G I J else K nx ls r kc ks G I J
  | _ => False
theorem ok_if_gt {off : Int} {tg : Nat} (h : decode (am_mB y) pc = .ok (.ifCond .gt off, 3)) (ht : (pc : Int) + off = (tg : Int)) : am_ok l sc d y pc (am_if_gt (pc + 3) tg) := by
  intro K X P ls st kc ks G I J hK _ hs
  unfold am_if_gt at hs
  split at hs
  · rename_i a r
    intro p R e s m args below meth c D cT A ad0 G0 Q ad H locs LS hC hM hc hn
    have hv := hM.sok
    simp only [List.forall_mem_cons] at hv
    refine lv_if_gt hC.1.1 hC.1.2.1 h ht (fun q => ?_) (fun q => ?_)
    · rw [if_pos q] at hs
      exact hK _ _ _ _ _ _ _ _ hs _ _ _ _ _ _ _ _ _ _ _ _ _ _ _ _ _ _ _ hC (hM.stk hv.2) hc hn
    · rw [if_neg q] at hs
      exact hK _ _ _ _ _ _ _ _ hs _ _ _ _ _ _ _ _ _ _ _ _ _ _ _ _ _ _ _ hC (hM.stk hv.2) hc hn
  · exact hs.elim
def am_icmp_gt (nx tg : Nat) : am_S := fun K X P ls st kc ks G I J => match st with
  | (.inl b) :: (.inl a) :: r => if b < a then K tg ls r kc ks G I J else K nx ls r kc ks G I J
  | _ => False
theorem ok_icmp_gt {off : Int} {tg : Nat} (h : decode (am_mB y) pc = .ok (.if_icmp .gt off, 3)) (ht : (pc : Int) + off = (tg : Int)) : am_ok l sc d y pc (am_icmp_gt (pc + 3) tg) := by
  intro K X P ls st kc ks G I J hK _ hs
  unfold am_icmp_gt at hs
  split at hs
  · rename_i b a r
    intro p R e s m args below meth c D cT A ad0 G0 Q ad H locs LS hC hM hc hn
    have hv := hM.sok
    simp only [List.forall_mem_cons] at hv
    refine lv_icmp_gt hC.1.1 hC.1.2.1 h ht (fun q => ?_) (fun q => ?_)
    · rw [if_pos q] at hs
      exact hK _ _ _ _ _ _ _ _ hs _ _ _ _ _ _ _ _ _ _ _ _ _ _ _ _ _ _ _ hC (hM.stk hv.2.2) hc hn
    · rw [if_neg q] at hs
      exact hK _ _ _ _ _ _ _ _ hs _ _ _ _ _ _ _ _ _ _ _ _ _ _ _ _ _ _ _ hC (hM.stk hv.2.2) hc hn
  · exact hs.elim
def am_if_le (nx tg : Nat) : am_S := fun K X P ls st kc ks G I J => match st with
  | (.inl a) :: r => if a ≤ 0 then K tg ls r kc ks G I J else K nx ls r kc ks G I J
  | _ => False
theorem ok_if_le {off : Int} {tg : Nat} (h : decode (am_mB y) pc = .ok (.ifCond .le off, 3)) (ht : (pc : Int) + off = (tg : Int)) : am_ok l sc d y pc (am_if_le (pc + 3) tg) := by
  intro K X P ls st kc ks G I J hK _ hs
  unfold am_if_le at hs
  split at hs
  · rename_i a r
    intro p R e s m args below meth c D cT A ad0 G0 Q ad H locs LS hC hM hc hn
    have hv := hM.sok
    simp only [List.forall_mem_cons] at hv
    refine lv_if_le hC.1.1 hC.1.2.1 h ht (fun q => ?_) (fun q => ?_)
    · rw [if_pos q] at hs
      exact hK _ _ _ _ _ _ _ _ hs _ _ _ _ _ _ _ _ _ _ _ _ _ _ _ _ _ _ _ hC (hM.stk hv.2) hc hn
    · rw [if_neg q] at hs
      exact hK _ _ _ _ _ _ _ _ hs _ _ _ _ _ _ _ _ _ _ _ _ _ _ _ _ _ _ _ hC (hM.stk hv.2) hc hn
  · exact hs.elim
def am_icmp_le (nx tg : Nat) : am_S := fun K X P ls st kc ks G I J => match st with
  | (.inl b) :: (.inl a) :: r => if a ≤ b then K tg ls r kc ks G I J else K nx ls r kc ks G I J
  | _ => False
theorem ok_icmp_le {off : Int} {tg : Nat} (h : decode (am_mB y) pc = .ok (.if_icmp .le off, 3)) (ht : (pc : Int) + off = (tg : Int)) : am_ok l sc d y pc (am_icmp_le (pc + 3) tg) := by
  intro K X P ls st kc ks G I J hK _ hs
  unfold am_icmp_le at hs
  split at hs
  · rename_i b a r
    intro p R e s m args below meth c D cT A ad0 G0 Q ad H locs LS hC hM hc hn
    have hv := hM.sok
    simp only [List.forall_mem_cons] at hv
    refine lv_icmp_le hC.1.1 hC.1.2.1 h ht (fun q => ?_) (fun q => ?_)
    · rw [if_pos q] at hs
      exact hK _ _ _ _ _ _ _ _ hs _ _ _ _ _ _ _ _ _ _ _ _ _ _ _ _ _ _ _ hC (hM.stk hv.2.2) hc hn
    · rw [if_neg q] at hs
      exact hK _ _ _ _ _ _ _ _ hs _ _ _ _ _ _ _ _ _ _ _ _ _ _ _ _ _ _ _ hC (hM.stk hv.2.2) hc hn
  · exact hs.elim
def am_goto (tg : Nat) : am_S := fun K X P ls st kc ks G I J => K tg ls st kc ks G I J
theorem ok_goto {off : Int} {tg : Nat} (h : decode (am_mB y) pc = .ok (.goto off, 3)) (ht : (pc : Int) + off = (tg : Int)) : am_ok l sc d y pc (am_goto tg) := by
  intro K X P ls st kc ks G I J hK _ hs
  intro p R e s m args below meth c D cT A ad0 G0 Q ad H locs LS hC hM hc hn
  refine lv_goto hC.1.1 hC.1.2.1 h ht ?_
  exact hK _ _ _ _ _ _ _ _ hs _ _ _ _ _ _ _ _ _ _ _ _ _ _ _ _ _ _ _ hC hM hc hn
def am_tsw (lo : Int) (tgs : List Nat) (df : Nat) : am_S := fun K X P ls st kc ks G I J => match st with
  | (.inl a) :: r => if a.toInt < lo then K df ls r kc ks G I J else match tgs[(a.toInt - lo).toNat]? with
    | some tg => K tg ls r kc ks G I J
    | none => K df ls r kc ks G I J
  | _ => False
theorem ok_tsw {dflt lo hi : Int} {offs : Array Int} {len df : Nat} {tgs : List Nat} (h : decode (am_mB y) pc = .ok (.tableswitch dflt lo hi offs, len)) (hdf : (pc : Int) + dflt = (df : Int)) (hto : offs.toList.map (fun o => (pc : Int) + o) = tgs.map (fun n : Nat => (n : Int))) (hlen : (tgs.length : Int) = hi + 1 - lo) : am_ok l sc d y pc (am_tsw lo tgs df) := by
  intro K X P ls st kc ks G I J hK _ hs
  unfold am_tsw at hs
  split at hs
  · rename_i a r
    intro p R e s m args below meth c D cT A ad0 G0 Q ad H locs LS hC hM hc hn
    have hv := hM.sok
    simp only [List.forall_mem_cons] at hv
    by_cases q : a.toInt < lo
    · rw [if_pos q] at hs
      refine lv_tableOut hC.1.1 hC.1.2.1 h (Or.inl q) hdf ?_
      exact hK _ _ _ _ _ _ _ _ hs _ _ _ _ _ _ _ _ _ _ _ _ _ _ _ _ _ _ _ hC (hM.stk hv.2) hc hn
    · rw [if_neg q] at hs
      cases ho : tgs[(a.toInt - lo).toNat]? with
      | none =>
        rw [ho] at hs
        have q2 : tgs.length ≤ (a.toInt - lo).toNat := by simpa using ho
        refine lv_tableOut hC.1.1 hC.1.2.1 h (Or.inr (by omega)) hdf ?_
        exact hK _ _ _ _ _ _ _ _ hs _ _ _ _ _ _ _ _ _ _ _ _ _ _ _ _ _ _ _ hC (hM.stk hv.2) hc hn
      | some tg =>
        rw [ho] at hs
        have q2 : (a.toInt - lo).toNat < tgs.length := (List.getElem?_eq_some_iff.mp ho).1
        have e1 : (offs.toList.map (fun o => (pc : Int) + o))[(a.toInt - lo).toNat]? = some (tg : Int) := by rw [hto, List.getElem?_map, ho]; rfl
        rw [List.getElem?_map, Option.map_eq_some_iff] at e1
        obtain ⟨o, e2, e3⟩ := e1
        refine lv_tableIn hC.1.1 hC.1.2.1 h q (by omega) (by rw [← Array.getElem?_toList]; exact e2) e3 ?_
        exact hK _ _ _ _ _ _ _ _ hs _ _ _ _ _ _ _ _ _ _ _ _ _ _ _ _ _ _ _ hC (hM.stk hv.2) hc hn
  · exact hs.elim
end AMO
