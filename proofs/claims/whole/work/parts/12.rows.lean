section SR
variable {G : GG} {A : Nat → Prop} {nc ns : Nat} {p : Program} {l : Launch} {e : Env} {R : Room} {s : State} {m : MethodId} {args : Array Value} {below : List Frame} {meth : Method} {c : Code} {α : Type} {Q : α → State → Prop} {σ : St} {cc : ByteArray} {nL : Nat} {own : String} {pc : Nat} {ls : Array Slot} {st : List Value} {f f1 f2 : Option α} {kf : Int → Option α}
theorem sim_none {g : JFrame} : Sim G A nc ns p l e R s m args below meth c Q σ (none : Option α) g := fun _ h => by cases h
theorem q_iload_n (C : CX G A p m c cc nL s args own) {k : Fin 4} {i : Nat} {x : Int32} (hdg : decode cc pc = .ok (.iload_n k, 1)) (hi : (k : Nat) = i) (hl : ls[i]? = some (.val (.int x))) (kk : Sim G A nc ns p l e R s m args below meth c Q σ f (F0 m (pc + 1) ls (.int x :: st))) : Sim G A nc ns p l e R s m args below meth c Q σ f (F0 m pc ls st) := fun o ho H locs hP hS => lv_iload_n C.1 C.2.1 hdg hi hl (kk o ho H locs hP hS)
theorem q_iload (C : CX G A p m c cc nL s args own) {i : Nat} {x : Int32} (hdg : decode cc pc = .ok (.iload i, 2)) (hl : ls[i]? = some (.val (.int x))) (kk : Sim G A nc ns p l e R s m args below meth c Q σ f (F0 m (pc + 2) ls (.int x :: st))) : Sim G A nc ns p l e R s m args below meth c Q σ f (F0 m pc ls st) := fun o ho H locs hP hS => lv_iload C.1 C.2.1 hdg hl (kk o ho H locs hP hS)
theorem q_lload_n (C : CX G A p m c cc nL s args own) {k : Fin 4} {i : Nat} {x : Int64} (hdg : decode cc pc = .ok (.lload_n k, 1)) (hi : (k : Nat) = i) (hl : ls[i]? = some (.val (.long x))) (kk : Sim G A nc ns p l e R s m args below meth c Q σ f (F0 m (pc + 1) ls (.long x :: st))) : Sim G A nc ns p l e R s m args below meth c Q σ f (F0 m pc ls st) := fun o ho H locs hP hS => lv_lload_n C.1 C.2.1 hdg hi hl (kk o ho H locs hP hS)
theorem q_lload (C : CX G A p m c cc nL s args own) {i : Nat} {x : Int64} (hdg : decode cc pc = .ok (.lload i, 2)) (hl : ls[i]? = some (.val (.long x))) (kk : Sim G A nc ns p l e R s m args below meth c Q σ f (F0 m (pc + 2) ls (.long x :: st))) : Sim G A nc ns p l e R s m args below meth c Q σ f (F0 m pc ls st) := fun o ho H locs hP hS => lv_lload C.1 C.2.1 hdg hl (kk o ho H locs hP hS)
theorem q_aload_n (C : CX G A p m c cc nL s args own) {k : Fin 4} {i : Nat} {x : Nat} (hdg : decode cc pc = .ok (.aload_n k, 1)) (hi : (k : Nat) = i) (hl : ls[i]? = some (.val (.ref x))) (kk : Sim G A nc ns p l e R s m args below meth c Q σ f (F0 m (pc + 1) ls (.ref x :: st))) : Sim G A nc ns p l e R s m args below meth c Q σ f (F0 m pc ls st) := fun o ho H locs hP hS => lv_aload_n C.1 C.2.1 hdg hi hl (kk o ho H locs hP hS)
theorem q_aload (C : CX G A p m c cc nL s args own) {i : Nat} {x : Nat} (hdg : decode cc pc = .ok (.aload i, 2)) (hl : ls[i]? = some (.val (.ref x))) (kk : Sim G A nc ns p l e R s m args below meth c Q σ f (F0 m (pc + 2) ls (.ref x :: st))) : Sim G A nc ns p l e R s m args below meth c Q σ f (F0 m pc ls st) := fun o ho H locs hP hS => lv_aload C.1 C.2.1 hdg hl (kk o ho H locs hP hS)
theorem q_dup (C : CX G A p m c cc nL s args own) {va : Value} (hdg : decode cc pc = .ok (.dup, 1)) (hva : va.category = 1) (kk : Sim G A nc ns p l e R s m args below meth c Q σ f (F0 m (pc + 1) ls (va :: va :: st))) : Sim G A nc ns p l e R s m args below meth c Q σ f (F0 m pc ls (va :: st)) := fun o ho H locs hP hS => lv_dup C.1 C.2.1 hdg hva (kk o ho H locs hP hS)
theorem q_dup2 (C : CX G A p m c cc nL s args own) {va vb : Value} (hdg : decode cc pc = .ok (.dup2, 1)) (hva : va.category = 1) (hvb : vb.category = 1) (kk : Sim G A nc ns p l e R s m args below meth c Q σ f (F0 m (pc + 1) ls (va :: vb :: va :: vb :: st))) : Sim G A nc ns p l e R s m args below meth c Q σ f (F0 m pc ls (va :: vb :: st)) := fun o ho H locs hP hS => lv_dup2_11 C.1 C.2.1 hdg hva hvb (kk o ho H locs hP hS)
theorem q_pop (C : CX G A p m c cc nL s args own) {va : Value} (hdg : decode cc pc = .ok (.pop, 1)) (hva : va.category = 1) (kk : Sim G A nc ns p l e R s m args below meth c Q σ f (F0 m (pc + 1) ls st)) : Sim G A nc ns p l e R s m args below meth c Q σ f (F0 m pc ls (va :: st)) := fun o ho H locs hP hS => lv_pop C.1 C.2.1 hdg hva (kk o ho H locs hP hS)
theorem q_goto (C : CX G A p m c cc nL s args own) {off : Int} (tgt : Nat) (hdg : decode cc pc = .ok (.goto off, 3)) (ht : (pc : Int) + off = (tgt : Int)) (kk : Sim G A nc ns p l e R s m args below meth c Q σ f (F0 m tgt ls st)) : Sim G A nc ns p l e R s m args below meth c Q σ f (F0 m pc ls st) := fun o ho H locs hP hS => lv_goto C.1 C.2.1 hdg ht (kk o ho H locs hP hS)
theorem q_istore_n (C : CX G A p m c cc nL s args own) {k : Fin 4} {i : Nat} {x : Int32} {lv : List (Nat × Value)} (lv' : List (Nat × Value)) (hdg : decode cc pc = .ok (.istore_n k, 1)) (hi : (k : Nat) = i) (h : lv_has ls nL lv) (hn : i < nL) (hl : (i, Value.int x) :: lv.filter (fun q => !(q.1 == i) && !(q.1 + 1 == i && q.2.category == 2)) = lv') (kk : ∀ ls2 : Array Slot, lv_has ls2 nL lv' → Sim G A nc ns p l e R s m args below meth c Q σ f (F0 m (pc + 1) ls2 st)) : Sim G A nc ns p l e R s m args below meth c Q σ f (F0 m pc ls (Value.int x :: st)) := fun o ho H locs hP hS => lv_istore_n C.1 C.2.1 hdg hi h hn hl (fun ls2 h2 => kk ls2 h2 o ho H locs hP hS)
theorem q_istore (C : CX G A p m c cc nL s args own) {i : Nat} {x : Int32} {lv : List (Nat × Value)} (lv' : List (Nat × Value)) (hdg : decode cc pc = .ok (.istore i, 2)) (h : lv_has ls nL lv) (hn : i < nL) (hl : (i, Value.int x) :: lv.filter (fun q => !(q.1 == i) && !(q.1 + 1 == i && q.2.category == 2)) = lv') (kk : ∀ ls2 : Array Slot, lv_has ls2 nL lv' → Sim G A nc ns p l e R s m args below meth c Q σ f (F0 m (pc + 2) ls2 st)) : Sim G A nc ns p l e R s m args below meth c Q σ f (F0 m pc ls (Value.int x :: st)) := fun o ho H locs hP hS => lv_istore C.1 C.2.1 hdg h hn hl (fun ls2 h2 => kk ls2 h2 o ho H locs hP hS)
theorem q_lstore_n (C : CX G A p m c cc nL s args own) {k : Fin 4} {i : Nat} {x : Int64} {lv : List (Nat × Value)} (lv' : List (Nat × Value)) (hdg : decode cc pc = .ok (.lstore_n k, 1)) (hi : (k : Nat) = i) (h : lv_has ls nL lv) (hn : i + 1 < nL) (hl : (i, Value.long x) :: lv.filter (fun q => !(q.1 == i) && (!(q.1 == i + 1) && !(q.1 + 1 == i && q.2.category == 2))) = lv') (kk : ∀ ls2 : Array Slot, lv_has ls2 nL lv' → Sim G A nc ns p l e R s m args below meth c Q σ f (F0 m (pc + 1) ls2 st)) : Sim G A nc ns p l e R s m args below meth c Q σ f (F0 m pc ls (Value.long x :: st)) := fun o ho H locs hP hS => lv_lstore_n C.1 C.2.1 hdg hi h hn hl (fun ls2 h2 => kk ls2 h2 o ho H locs hP hS)
theorem q_lstore (C : CX G A p m c cc nL s args own) {i : Nat} {x : Int64} {lv : List (Nat × Value)} (lv' : List (Nat × Value)) (hdg : decode cc pc = .ok (.lstore i, 2)) (h : lv_has ls nL lv) (hn : i + 1 < nL) (hl : (i, Value.long x) :: lv.filter (fun q => !(q.1 == i) && (!(q.1 == i + 1) && !(q.1 + 1 == i && q.2.category == 2))) = lv') (kk : ∀ ls2 : Array Slot, lv_has ls2 nL lv' → Sim G A nc ns p l e R s m args below meth c Q σ f (F0 m (pc + 2) ls2 st)) : Sim G A nc ns p l e R s m args below meth c Q σ f (F0 m pc ls (Value.long x :: st)) := fun o ho H locs hP hS => lv_lstore C.1 C.2.1 hdg h hn hl (fun ls2 h2 => kk ls2 h2 o ho H locs hP hS)
theorem q_astore_n (C : CX G A p m c cc nL s args own) {k : Fin 4} {i : Nat} {x : Nat} {lv : List (Nat × Value)} (lv' : List (Nat × Value)) (hdg : decode cc pc = .ok (.astore_n k, 1)) (hi : (k : Nat) = i) (h : lv_has ls nL lv) (hn : i < nL) (hl : (i, Value.ref x) :: lv.filter (fun q => !(q.1 == i) && !(q.1 + 1 == i && q.2.category == 2)) = lv') (kk : ∀ ls2 : Array Slot, lv_has ls2 nL lv' → Sim G A nc ns p l e R s m args below meth c Q σ f (F0 m (pc + 1) ls2 st)) : Sim G A nc ns p l e R s m args below meth c Q σ f (F0 m pc ls (Value.ref x :: st)) := fun o ho H locs hP hS => lv_astore_n C.1 C.2.1 hdg hi h hn hl (fun ls2 h2 => kk ls2 h2 o ho H locs hP hS)
theorem q_astore (C : CX G A p m c cc nL s args own) {i : Nat} {x : Nat} {lv : List (Nat × Value)} (lv' : List (Nat × Value)) (hdg : decode cc pc = .ok (.astore i, 2)) (h : lv_has ls nL lv) (hn : i < nL) (hl : (i, Value.ref x) :: lv.filter (fun q => !(q.1 == i) && !(q.1 + 1 == i && q.2.category == 2)) = lv') (kk : ∀ ls2 : Array Slot, lv_has ls2 nL lv' → Sim G A nc ns p l e R s m args below meth c Q σ f (F0 m (pc + 2) ls2 st)) : Sim G A nc ns p l e R s m args below meth c Q σ f (F0 m pc ls (Value.ref x :: st)) := fun o ho H locs hP hS => lv_astore C.1 C.2.1 hdg h hn hl (fun ls2 h2 => kk ls2 h2 o ho H locs hP hS)
theorem ck_some {β : Type} {z : Int} {k : Int → Option β} {o : β} (h : z_ck z k = some o) : iR z ∧ k z = some o := by
  unfold z_ck at h
  by_cases q : -2147483648 ≤ z ∧ z < 2147483648
  · rw [if_pos q] at h; exact ⟨q, h⟩
  · rw [if_neg q] at h; cases h
theorem lk_some {β : Type} {z : Int} {k : Int → Option β} {o : β} (h : z_lk z k = some o) : lR z ∧ k z = some o := by
  unfold z_lk at h
  by_cases q : -9223372036854775808 ≤ z ∧ z < 9223372036854775808
  · rw [if_pos q] at h; exact ⟨q, h⟩
  · rw [if_neg q] at h; cases h
theorem ix_some {β : Type} {i : Int} {n : Nat} {f : Option β} {o : β} (h : z_ix i n f = some o) : (0 ≤ i ∧ i < n) ∧ f = some o := by
  unfold z_ix at h
  by_cases q : 0 ≤ i ∧ i < n
  · rw [if_pos q] at h; exact ⟨q, h⟩
  · rw [if_neg q] at h; cases h
theorem bo_some {β : Type} {v : Int} {f : Option β} {o : β} (h : z_bo v f = some o) : (v = 0 ∨ v = 1) ∧ f = some o := by
  unfold z_bo at h
  by_cases q : v = 0 ∨ v = 1
  · rw [if_pos q] at h; exact ⟨q, h⟩
  · rw [if_neg q] at h; cases h
theorem by_some {β : Type} {v : Int} {f : Option β} {o : β} (h : z_by v f = some o) : (-128 ≤ v ∧ v < 128) ∧ f = some o := by
  unfold z_by at h
  by_cases q : -128 ≤ v ∧ v < 128
  · rw [if_pos q] at h; exact ⟨q, h⟩
  · rw [if_neg q] at h; cases h
theorem nz_some {β : Type} {v : Int} {f : Option β} {o : β} (h : z_nz v f = some o) : ¬ v = 0 ∧ f = some o := by
  unfold z_nz at h
  by_cases q : v = 0
  · rw [if_pos q] at h; cases h
  · rw [if_neg q] at h; exact ⟨q, h⟩
theorem q_iinc (C : CX G A p m c cc nL s args own) {i k : Nat} {n : Int} {x : Int32} {lv : List (Nat × Value)} (lv' : Int32 → List (Nat × Value)) (hdg : decode cc pc = .ok (.iinc i n, 3)) (h : lv_has ls nL lv) (hk : lv[k]? = some (i, .int x)) (hr : (Int32.ofInt n).toInt = n) (hn : i < nL) (hl : ∀ v : Int32, (i, Value.int v) :: lv.filter (fun q => !(q.1 == i) && !(q.1 + 1 == i && q.2.category == 2)) = lv' v) (kk : ∀ (v : Int32) (ls2 : Array Slot), lv_has ls2 nL (lv' v) → Sim G A nc ns p l e R s m args below meth c Q σ (kf v.toInt) (F0 m (pc + 3) ls2 st)) : Sim G A nc ns p l e R s m args below meth c Q σ (z_ck (x.toInt + n) kf) (F0 m pc ls st) := by
  intro o ho H locs hP hS
  obtain ⟨q1, q2⟩ := ck_some ho
  have hv : (x + Int32.ofInt n).toInt = x.toInt + n := by rw [Int32.toInt_add, hr]; exact iR_b q1
  exact lv_iinc C.1 C.2.1 hdg h hk rfl hn (hl _) (fun ls2 h2 => kk (x + Int32.ofInt n) ls2 h2 o (by rw [hv]; exact q2) H locs hP hS)
theorem q_iconst (C : CX G A p m c cc nL s args own) {n z : Int} {v : Int32} (hdg : decode cc pc = .ok (.iconst n, 1)) (hv : Int32.ofInt n = v) (hz : v.toInt = z) (kk : ∀ x : Int32, Sim G A nc ns p l e R s m args below meth c Q σ (kf x.toInt) (F0 m (pc + 1) ls (.int x :: st))) : Sim G A nc ns p l e R s m args below meth c Q σ (z_gt z kf) (F0 m pc ls st) := fun o ho H locs hP hS => lv_iconst C.1 C.2.1 hdg hv (kk v o (by rw [hz]; exact ho) H locs hP hS)
theorem q_bipush (C : CX G A p m c cc nL s args own) {n z : Int} {v : Int32} (hdg : decode cc pc = .ok (.bipush n, 2)) (hv : (Int8.ofInt n).toInt32 = v) (hz : v.toInt = z) (kk : ∀ x : Int32, Sim G A nc ns p l e R s m args below meth c Q σ (kf x.toInt) (F0 m (pc + 2) ls (.int x :: st))) : Sim G A nc ns p l e R s m args below meth c Q σ (z_gt z kf) (F0 m pc ls st) := fun o ho H locs hP hS => lv_bipush C.1 C.2.1 hdg hv (kk v o (by rw [hz]; exact ho) H locs hP hS)
theorem q_sipush (C : CX G A p m c cc nL s args own) {n z : Int} {v : Int32} (hdg : decode cc pc = .ok (.sipush n, 3)) (hv : (Int16.ofInt n).toInt32 = v) (hz : v.toInt = z) (kk : ∀ x : Int32, Sim G A nc ns p l e R s m args below meth c Q σ (kf x.toInt) (F0 m (pc + 3) ls (.int x :: st))) : Sim G A nc ns p l e R s m args below meth c Q σ (z_gt z kf) (F0 m pc ls st) := fun o ho H locs hP hS => lv_sipush C.1 C.2.1 hdg hv (kk v o (by rw [hz]; exact ho) H locs hP hS)
theorem q_lconst (C : CX G A p m c cc nL s args own) {n : Fin 2} {z : Int} {v : Int64} (hdg : decode cc pc = .ok (.lconst n, 1)) (hv : Int64.ofNat (n : Nat) = v) (hz : v.toInt = z) (kk : ∀ x : Int64, Sim G A nc ns p l e R s m args below meth c Q σ (kf x.toInt) (F0 m (pc + 1) ls (.long x :: st))) : Sim G A nc ns p l e R s m args below meth c Q σ (z_gt z kf) (F0 m pc ls st) := fun o ho H locs hP hS => lv_lconst C.1 C.2.1 hdg hv (kk v o (by rw [hz]; exact ho) H locs hP hS)
theorem q_ldc (C : CX G A p m c cc nL s args own) {index : Nat} {z : Int} {v : Int32} (hw : Jvm.Cond.constant own index v ∈ GW) (hdg : decode cc pc = .ok (.ldc index, 2)) (hz : v.toInt = z) (kk : ∀ x : Int32, Sim G A nc ns p l e R s m args below meth c Q σ (kf x.toInt) (F0 m (pc + 2) ls (.int x :: st))) : Sim G A nc ns p l e R s m args below meth c Q σ (z_gt z kf) (F0 m pc ls st) := fun o ho H locs hP hS => lv_ldc C.1 C.2.1 C.2.2.2.1 (C.2.2.2.2.1 _ hw) hdg (kk v o (by rw [hz]; exact ho) H locs hP hS)
theorem q_ldcw (C : CX G A p m c cc nL s args own) {index : Nat} {z : Int} {v : Int32} (hw : Jvm.Cond.constant own index v ∈ GW) (hdg : decode cc pc = .ok (.ldc_w index, 3)) (hz : v.toInt = z) (kk : ∀ x : Int32, Sim G A nc ns p l e R s m args below meth c Q σ (kf x.toInt) (F0 m (pc + 3) ls (.int x :: st))) : Sim G A nc ns p l e R s m args below meth c Q σ (z_gt z kf) (F0 m pc ls st) := fun o ho H locs hP hS => lv_ldcw C.1 C.2.1 C.2.2.2.1 (C.2.2.2.2.1 _ hw) hdg (kk v o (by rw [hz]; exact ho) H locs hP hS)
theorem q_ldc2 (C : CX G A p m c cc nL s args own) {index : Nat} {z : Int} {v : Int64} (hw : Jvm.Cond.constantLong own index v ∈ GW) (hdg : decode cc pc = .ok (.ldc2_w index, 3)) (hz : v.toInt = z) (kk : ∀ x : Int64, Sim G A nc ns p l e R s m args below meth c Q σ (kf x.toInt) (F0 m (pc + 3) ls (.long x :: st))) : Sim G A nc ns p l e R s m args below meth c Q σ (z_gt z kf) (F0 m pc ls st) := fun o ho H locs hP hS => lv_ldc2 C.1 C.2.1 C.2.2.2.1 (C.2.2.2.2.1 _ hw) hdg (kk v o (by rw [hz]; exact ho) H locs hP hS)
theorem q_iadd (C : CX G A p m c cc nL s args own) {x y : Int32} (hdg : decode cc pc = .ok (.iadd, 1)) (kk : ∀ v : Int32, Sim G A nc ns p l e R s m args below meth c Q σ (kf v.toInt) (F0 m (pc + 1) ls (.int v :: st))) : Sim G A nc ns p l e R s m args below meth c Q σ (z_ck (x.toInt + y.toInt) kf) (F0 m pc ls (.int y :: .int x :: st)) := by
  intro o ho H locs hP hS
  obtain ⟨q1, q2⟩ := ck_some ho
  have hv : (x + y).toInt = x.toInt + y.toInt := by rw [Int32.toInt_add]; exact iR_b q1
  exact lv_iadd C.1 C.2.1 hdg (kk (x + y) o (by rw [hv]; exact q2) H locs hP hS)
theorem q_iaddw (C : CX G A p m c cc nL s args own) {x y : Int32} (hdg : decode cc pc = .ok (.iadd, 1)) (kk : ∀ v : Int32, Sim G A nc ns p l e R s m args below meth c Q σ (kf v.toInt) (F0 m (pc + 1) ls (.int v :: st))) : Sim G A nc ns p l e R s m args below meth c Q σ (z_gt (z_w (x.toInt + y.toInt)) kf) (F0 m pc ls (.int y :: .int x :: st)) := by
  intro o ho H locs hP hS
  have hv : (x + y).toInt = z_w (x.toInt + y.toInt) := by unfold z_w iZ; rw [Int32.toInt_add, Int32.toInt_ofInt]
  exact lv_iadd C.1 C.2.1 hdg (kk (x + y) o (by rw [hv]; exact ho) H locs hP hS)
theorem q_isub (C : CX G A p m c cc nL s args own) {x y : Int32} (hdg : decode cc pc = .ok (.isub, 1)) (kk : ∀ v : Int32, Sim G A nc ns p l e R s m args below meth c Q σ (kf v.toInt) (F0 m (pc + 1) ls (.int v :: st))) : Sim G A nc ns p l e R s m args below meth c Q σ (z_ck (x.toInt - y.toInt) kf) (F0 m pc ls (.int y :: .int x :: st)) := by
  intro o ho H locs hP hS
  obtain ⟨q1, q2⟩ := ck_some ho
  have hv : (x - y).toInt = x.toInt - y.toInt := by rw [Int32.toInt_sub]; exact iR_b q1
  exact lv_isub C.1 C.2.1 hdg (kk (x - y) o (by rw [hv]; exact q2) H locs hP hS)
theorem q_isubw (C : CX G A p m c cc nL s args own) {x y : Int32} (hdg : decode cc pc = .ok (.isub, 1)) (kk : ∀ v : Int32, Sim G A nc ns p l e R s m args below meth c Q σ (kf v.toInt) (F0 m (pc + 1) ls (.int v :: st))) : Sim G A nc ns p l e R s m args below meth c Q σ (z_gt (z_w (x.toInt - y.toInt)) kf) (F0 m pc ls (.int y :: .int x :: st)) := by
  intro o ho H locs hP hS
  have hv : (x - y).toInt = z_w (x.toInt - y.toInt) := by unfold z_w iZ; rw [Int32.toInt_sub, Int32.toInt_ofInt]
  exact lv_isub C.1 C.2.1 hdg (kk (x - y) o (by rw [hv]; exact ho) H locs hP hS)
theorem q_imul (C : CX G A p m c cc nL s args own) {x y : Int32} (hdg : decode cc pc = .ok (.imul, 1)) (kk : ∀ v : Int32, Sim G A nc ns p l e R s m args below meth c Q σ (kf v.toInt) (F0 m (pc + 1) ls (.int v :: st))) : Sim G A nc ns p l e R s m args below meth c Q σ (z_ck (x.toInt * y.toInt) kf) (F0 m pc ls (.int y :: .int x :: st)) := by
  intro o ho H locs hP hS
  obtain ⟨q1, q2⟩ := ck_some ho
  have hv : (x * y).toInt = x.toInt * y.toInt := by rw [Int32.toInt_mul]; exact iR_b q1
  exact lv_imul C.1 C.2.1 hdg (kk (x * y) o (by rw [hv]; exact q2) H locs hP hS)
theorem q_imulw (C : CX G A p m c cc nL s args own) {x y : Int32} (hdg : decode cc pc = .ok (.imul, 1)) (kk : ∀ v : Int32, Sim G A nc ns p l e R s m args below meth c Q σ (kf v.toInt) (F0 m (pc + 1) ls (.int v :: st))) : Sim G A nc ns p l e R s m args below meth c Q σ (z_gt (z_w (x.toInt * y.toInt)) kf) (F0 m pc ls (.int y :: .int x :: st)) := by
  intro o ho H locs hP hS
  have hv : (x * y).toInt = z_w (x.toInt * y.toInt) := by unfold z_w iZ; rw [Int32.toInt_mul, Int32.toInt_ofInt]
  exact lv_imul C.1 C.2.1 hdg (kk (x * y) o (by rw [hv]; exact ho) H locs hP hS)
theorem q_ladd (C : CX G A p m c cc nL s args own) {x y : Int64} (hdg : decode cc pc = .ok (.ladd, 1)) (kk : ∀ v : Int64, Sim G A nc ns p l e R s m args below meth c Q σ (kf v.toInt) (F0 m (pc + 1) ls (.long v :: st))) : Sim G A nc ns p l e R s m args below meth c Q σ (z_lk (x.toInt + y.toInt) kf) (F0 m pc ls (.long y :: .long x :: st)) := by
  intro o ho H locs hP hS
  obtain ⟨q1, q2⟩ := lk_some ho
  have hv : (x + y).toInt = x.toInt + y.toInt := by rw [Int64.toInt_add]; exact lR_b q1
  exact lv_ladd C.1 C.2.1 hdg (kk (x + y) o (by rw [hv]; exact q2) H locs hP hS)
theorem q_laddw (C : CX G A p m c cc nL s args own) {x y : Int64} (hdg : decode cc pc = .ok (.ladd, 1)) (kk : ∀ v : Int64, Sim G A nc ns p l e R s m args below meth c Q σ (kf v.toInt) (F0 m (pc + 1) ls (.long v :: st))) : Sim G A nc ns p l e R s m args below meth c Q σ (z_gt (z_lw (x.toInt + y.toInt)) kf) (F0 m pc ls (.long y :: .long x :: st)) := by
  intro o ho H locs hP hS
  have hv : (x + y).toInt = z_lw (x.toInt + y.toInt) := by unfold z_lw lZ; rw [Int64.toInt_add, Int64.toInt_ofInt]
  exact lv_ladd C.1 C.2.1 hdg (kk (x + y) o (by rw [hv]; exact ho) H locs hP hS)
theorem q_lsub (C : CX G A p m c cc nL s args own) {x y : Int64} (hdg : decode cc pc = .ok (.lsub, 1)) (kk : ∀ v : Int64, Sim G A nc ns p l e R s m args below meth c Q σ (kf v.toInt) (F0 m (pc + 1) ls (.long v :: st))) : Sim G A nc ns p l e R s m args below meth c Q σ (z_lk (x.toInt - y.toInt) kf) (F0 m pc ls (.long y :: .long x :: st)) := by
  intro o ho H locs hP hS
  obtain ⟨q1, q2⟩ := lk_some ho
  have hv : (x - y).toInt = x.toInt - y.toInt := by rw [Int64.toInt_sub]; exact lR_b q1
  exact lv_lsub C.1 C.2.1 hdg (kk (x - y) o (by rw [hv]; exact q2) H locs hP hS)
theorem q_lsubw (C : CX G A p m c cc nL s args own) {x y : Int64} (hdg : decode cc pc = .ok (.lsub, 1)) (kk : ∀ v : Int64, Sim G A nc ns p l e R s m args below meth c Q σ (kf v.toInt) (F0 m (pc + 1) ls (.long v :: st))) : Sim G A nc ns p l e R s m args below meth c Q σ (z_gt (z_lw (x.toInt - y.toInt)) kf) (F0 m pc ls (.long y :: .long x :: st)) := by
  intro o ho H locs hP hS
  have hv : (x - y).toInt = z_lw (x.toInt - y.toInt) := by unfold z_lw lZ; rw [Int64.toInt_sub, Int64.toInt_ofInt]
  exact lv_lsub C.1 C.2.1 hdg (kk (x - y) o (by rw [hv]; exact ho) H locs hP hS)
theorem q_lmul (C : CX G A p m c cc nL s args own) {x y : Int64} (hdg : decode cc pc = .ok (.lmul, 1)) (kk : ∀ v : Int64, Sim G A nc ns p l e R s m args below meth c Q σ (kf v.toInt) (F0 m (pc + 1) ls (.long v :: st))) : Sim G A nc ns p l e R s m args below meth c Q σ (z_lk (x.toInt * y.toInt) kf) (F0 m pc ls (.long y :: .long x :: st)) := by
  intro o ho H locs hP hS
  obtain ⟨q1, q2⟩ := lk_some ho
  have hv : (x * y).toInt = x.toInt * y.toInt := by rw [Int64.toInt_mul]; exact lR_b q1
  exact lv_lmul C.1 C.2.1 hdg (kk (x * y) o (by rw [hv]; exact q2) H locs hP hS)
theorem q_lmulw (C : CX G A p m c cc nL s args own) {x y : Int64} (hdg : decode cc pc = .ok (.lmul, 1)) (kk : ∀ v : Int64, Sim G A nc ns p l e R s m args below meth c Q σ (kf v.toInt) (F0 m (pc + 1) ls (.long v :: st))) : Sim G A nc ns p l e R s m args below meth c Q σ (z_gt (z_lw (x.toInt * y.toInt)) kf) (F0 m pc ls (.long y :: .long x :: st)) := by
  intro o ho H locs hP hS
  have hv : (x * y).toInt = z_lw (x.toInt * y.toInt) := by unfold z_lw lZ; rw [Int64.toInt_mul, Int64.toInt_ofInt]
  exact lv_lmul C.1 C.2.1 hdg (kk (x * y) o (by rw [hv]; exact ho) H locs hP hS)
theorem q_iand (C : CX G A p m c cc nL s args own) {x : Int32} {y : Int32} (hdg : decode cc pc = .ok (.iand, 1)) (kk : ∀ v : Int32, Sim G A nc ns p l e R s m args below meth c Q σ (kf v.toInt) (F0 m (pc + 1) ls (.int v :: st))) : Sim G A nc ns p l e R s m args below meth c Q σ (z_gt (z_and x.toInt y.toInt) kf) (F0 m pc ls (.int y :: .int x :: st)) := fun o ho H locs hP hS => lv_iand C.1 C.2.1 hdg (kk (x &&& y) o (by unfold z_gt z_and at ho; simp only [iZ_t, lZ_t] at ho; exact ho) H locs hP hS)
theorem q_ior (C : CX G A p m c cc nL s args own) {x : Int32} {y : Int32} (hdg : decode cc pc = .ok (.ior, 1)) (kk : ∀ v : Int32, Sim G A nc ns p l e R s m args below meth c Q σ (kf v.toInt) (F0 m (pc + 1) ls (.int v :: st))) : Sim G A nc ns p l e R s m args below meth c Q σ (z_gt (z_or x.toInt y.toInt) kf) (F0 m pc ls (.int y :: .int x :: st)) := fun o ho H locs hP hS => lv_ior C.1 C.2.1 hdg (kk (x ||| y) o (by unfold z_gt z_or at ho; simp only [iZ_t, lZ_t] at ho; exact ho) H locs hP hS)
theorem q_ixor (C : CX G A p m c cc nL s args own) {x : Int32} {y : Int32} (hdg : decode cc pc = .ok (.ixor, 1)) (kk : ∀ v : Int32, Sim G A nc ns p l e R s m args below meth c Q σ (kf v.toInt) (F0 m (pc + 1) ls (.int v :: st))) : Sim G A nc ns p l e R s m args below meth c Q σ (z_gt (z_xor x.toInt y.toInt) kf) (F0 m pc ls (.int y :: .int x :: st)) := fun o ho H locs hP hS => lv_ixor C.1 C.2.1 hdg (kk (x ^^^ y) o (by unfold z_gt z_xor at ho; simp only [iZ_t, lZ_t] at ho; exact ho) H locs hP hS)
theorem q_ishl (C : CX G A p m c cc nL s args own) {x : Int32} {y : Int32} (hdg : decode cc pc = .ok (.ishl, 1)) (kk : ∀ v : Int32, Sim G A nc ns p l e R s m args below meth c Q σ (kf v.toInt) (F0 m (pc + 1) ls (.int v :: st))) : Sim G A nc ns p l e R s m args below meth c Q σ (z_gt (z_shl x.toInt y.toInt) kf) (F0 m pc ls (.int y :: .int x :: st)) := fun o ho H locs hP hS => lv_ishl C.1 C.2.1 hdg (kk (x <<< (y &&& 31)) o (by unfold z_gt z_shl at ho; simp only [iZ_t, lZ_t] at ho; exact ho) H locs hP hS)
theorem q_ishr (C : CX G A p m c cc nL s args own) {x : Int32} {y : Int32} (hdg : decode cc pc = .ok (.ishr, 1)) (kk : ∀ v : Int32, Sim G A nc ns p l e R s m args below meth c Q σ (kf v.toInt) (F0 m (pc + 1) ls (.int v :: st))) : Sim G A nc ns p l e R s m args below meth c Q σ (z_gt (z_shr x.toInt y.toInt) kf) (F0 m pc ls (.int y :: .int x :: st)) := fun o ho H locs hP hS => lv_ishr C.1 C.2.1 hdg (kk (x >>> (y &&& 31)) o (by unfold z_gt z_shr at ho; simp only [iZ_t, lZ_t] at ho; exact ho) H locs hP hS)
theorem q_iushr (C : CX G A p m c cc nL s args own) {x : Int32} {y : Int32} (hdg : decode cc pc = .ok (.iushr, 1)) (kk : ∀ v : Int32, Sim G A nc ns p l e R s m args below meth c Q σ (kf v.toInt) (F0 m (pc + 1) ls (.int v :: st))) : Sim G A nc ns p l e R s m args below meth c Q σ (z_gt (z_ushr x.toInt y.toInt) kf) (F0 m pc ls (.int y :: .int x :: st)) := fun o ho H locs hP hS => lv_iushr C.1 C.2.1 hdg rfl (kk ((x.toUInt32 >>> (y.toUInt32 &&& Int32.toUInt32 31)).toInt32) o (by unfold z_gt z_ushr at ho; simp only [iZ_t, lZ_t] at ho; exact ho) H locs hP hS)
theorem q_land (C : CX G A p m c cc nL s args own) {x : Int64} {y : Int64} (hdg : decode cc pc = .ok (.land, 1)) (kk : ∀ v : Int64, Sim G A nc ns p l e R s m args below meth c Q σ (kf v.toInt) (F0 m (pc + 1) ls (.long v :: st))) : Sim G A nc ns p l e R s m args below meth c Q σ (z_gt (z_land x.toInt y.toInt) kf) (F0 m pc ls (.long y :: .long x :: st)) := fun o ho H locs hP hS => lv_land C.1 C.2.1 hdg (kk (x &&& y) o (by unfold z_gt z_land at ho; simp only [iZ_t, lZ_t] at ho; exact ho) H locs hP hS)
theorem q_lor (C : CX G A p m c cc nL s args own) {x : Int64} {y : Int64} (hdg : decode cc pc = .ok (.lor, 1)) (kk : ∀ v : Int64, Sim G A nc ns p l e R s m args below meth c Q σ (kf v.toInt) (F0 m (pc + 1) ls (.long v :: st))) : Sim G A nc ns p l e R s m args below meth c Q σ (z_gt (z_lor x.toInt y.toInt) kf) (F0 m pc ls (.long y :: .long x :: st)) := fun o ho H locs hP hS => lv_lor C.1 C.2.1 hdg (kk (x ||| y) o (by unfold z_gt z_lor at ho; simp only [iZ_t, lZ_t] at ho; exact ho) H locs hP hS)
theorem q_lshl (C : CX G A p m c cc nL s args own) {x : Int64} {y : Int32} (hdg : decode cc pc = .ok (.lshl, 1)) (kk : ∀ v : Int64, Sim G A nc ns p l e R s m args below meth c Q σ (kf v.toInt) (F0 m (pc + 1) ls (.long v :: st))) : Sim G A nc ns p l e R s m args below meth c Q σ (z_gt (z_lshl x.toInt y.toInt) kf) (F0 m pc ls (.int y :: .long x :: st)) := fun o ho H locs hP hS => lv_lshl C.1 C.2.1 hdg rfl (kk (x <<< (y.toInt64 &&& 63)) o (by unfold z_gt z_lshl at ho; simp only [iZ_t, lZ_t] at ho; exact ho) H locs hP hS)
theorem q_lshr (C : CX G A p m c cc nL s args own) {x : Int64} {y : Int32} (hdg : decode cc pc = .ok (.lshr, 1)) (kk : ∀ v : Int64, Sim G A nc ns p l e R s m args below meth c Q σ (kf v.toInt) (F0 m (pc + 1) ls (.long v :: st))) : Sim G A nc ns p l e R s m args below meth c Q σ (z_gt (z_lshr x.toInt y.toInt) kf) (F0 m pc ls (.int y :: .long x :: st)) := fun o ho H locs hP hS => lv_lshr C.1 C.2.1 hdg rfl (kk (x >>> (y.toInt64 &&& 63)) o (by unfold z_gt z_lshr at ho; simp only [iZ_t, lZ_t] at ho; exact ho) H locs hP hS)
theorem q_lushr (C : CX G A p m c cc nL s args own) {x : Int64} {y : Int32} (hdg : decode cc pc = .ok (.lushr, 1)) (kk : ∀ v : Int64, Sim G A nc ns p l e R s m args below meth c Q σ (kf v.toInt) (F0 m (pc + 1) ls (.long v :: st))) : Sim G A nc ns p l e R s m args below meth c Q σ (z_gt (z_lushr x.toInt y.toInt) kf) (F0 m pc ls (.int y :: .long x :: st)) := fun o ho H locs hP hS => lv_lushr C.1 C.2.1 hdg rfl (kk ((x.toUInt64 >>> (y.toInt64.toUInt64 &&& Int64.toUInt64 63)).toInt64) o (by unfold z_gt z_lushr at ho; simp only [iZ_t, lZ_t] at ho; exact ho) H locs hP hS)
theorem q_i2b (C : CX G A p m c cc nL s args own) {x : Int32} (hdg : decode cc pc = .ok (.i2b, 1)) (kk : ∀ v : Int32, Sim G A nc ns p l e R s m args below meth c Q σ (kf v.toInt) (F0 m (pc + 1) ls (.int v :: st))) : Sim G A nc ns p l e R s m args below meth c Q σ (z_gt (z_i2b x.toInt) kf) (F0 m pc ls (.int x :: st)) := fun o ho H locs hP hS => lv_i2b C.1 C.2.1 hdg rfl (kk (x.toInt8.toInt32) o (by unfold z_gt z_i2b at ho; simp only [iZ_t, lZ_t] at ho; exact ho) H locs hP hS)
theorem q_i2s (C : CX G A p m c cc nL s args own) {x : Int32} (hdg : decode cc pc = .ok (.i2s, 1)) (kk : ∀ v : Int32, Sim G A nc ns p l e R s m args below meth c Q σ (kf v.toInt) (F0 m (pc + 1) ls (.int v :: st))) : Sim G A nc ns p l e R s m args below meth c Q σ (z_gt (z_i2s x.toInt) kf) (F0 m pc ls (.int x :: st)) := fun o ho H locs hP hS => lv_i2s C.1 C.2.1 hdg rfl (kk (x.toInt16.toInt32) o (by unfold z_gt z_i2s at ho; simp only [iZ_t, lZ_t] at ho; exact ho) H locs hP hS)
theorem q_i2c (C : CX G A p m c cc nL s args own) {x : Int32} (hdg : decode cc pc = .ok (.i2c, 1)) (kk : ∀ v : Int32, Sim G A nc ns p l e R s m args below meth c Q σ (kf v.toInt) (F0 m (pc + 1) ls (.int v :: st))) : Sim G A nc ns p l e R s m args below meth c Q σ (z_gt (z_i2c x.toInt) kf) (F0 m pc ls (.int x :: st)) := fun o ho H locs hP hS => lv_i2c C.1 C.2.1 hdg rfl (kk ((x.toUInt32 % 65536).toInt32) o (by unfold z_gt z_i2c at ho; simp only [iZ_t, lZ_t] at ho; exact ho) H locs hP hS)
theorem q_l2i (C : CX G A p m c cc nL s args own) {x : Int64} (hdg : decode cc pc = .ok (.l2i, 1)) (kk : ∀ v : Int32, Sim G A nc ns p l e R s m args below meth c Q σ (kf v.toInt) (F0 m (pc + 1) ls (.int v :: st))) : Sim G A nc ns p l e R s m args below meth c Q σ (z_gt (z_l2i x.toInt) kf) (F0 m pc ls (.long x :: st)) := fun o ho H locs hP hS => lv_l2i C.1 C.2.1 hdg rfl (kk (x.toInt32) o (by unfold z_gt z_l2i at ho; simp only [iZ_t, lZ_t] at ho; exact ho) H locs hP hS)
theorem q_i2l (C : CX G A p m c cc nL s args own) {x : Int32} (hdg : decode cc pc = .ok (.i2l, 1)) (kk : ∀ v : Int64, Sim G A nc ns p l e R s m args below meth c Q σ (kf v.toInt) (F0 m (pc + 1) ls (.long v :: st))) : Sim G A nc ns p l e R s m args below meth c Q σ (z_gt x.toInt kf) (F0 m pc ls (.int x :: st)) := fun o ho H locs hP hS => lv_i2l C.1 C.2.1 hdg rfl (kk x.toInt64 o (by rw [Int32.toInt_toInt64]; exact ho) H locs hP hS)
theorem q_ineg (C : CX G A p m c cc nL s args own) {x : Int32} (hdg : decode cc pc = .ok (.ineg, 1)) (kk : ∀ v : Int32, Sim G A nc ns p l e R s m args below meth c Q σ (kf v.toInt) (F0 m (pc + 1) ls (.int v :: st))) : Sim G A nc ns p l e R s m args below meth c Q σ (z_ck (-x.toInt) kf) (F0 m pc ls (.int x :: st)) := by
  intro o ho H locs hP hS
  obtain ⟨q1, q2⟩ := ck_some ho
  have hv : (-x).toInt = -x.toInt := by rw [Int32.toInt_neg]; exact iR_b q1
  exact lv_ineg C.1 C.2.1 hdg (kk (-x) o (by rw [hv]; exact q2) H locs hP hS)
theorem q_lneg (C : CX G A p m c cc nL s args own) {x : Int64} (hdg : decode cc pc = .ok (.lneg, 1)) (kk : ∀ v : Int64, Sim G A nc ns p l e R s m args below meth c Q σ (kf v.toInt) (F0 m (pc + 1) ls (.long v :: st))) : Sim G A nc ns p l e R s m args below meth c Q σ (z_lk (-x.toInt) kf) (F0 m pc ls (.long x :: st)) := by
  intro o ho H locs hP hS
  obtain ⟨q1, q2⟩ := lk_some ho
  have hv : (-x).toInt = -x.toInt := by rw [Int64.toInt_neg]; exact lR_b q1
  exact lv_lneg C.1 C.2.1 hdg (kk (-x) o (by rw [hv]; exact q2) H locs hP hS)
theorem q_idiv (C : CX G A p m c cc nL s args own) {x y : Int32} (hdg : decode cc pc = .ok (.idiv, 1)) (kk : ∀ v : Int32, Sim G A nc ns p l e R s m args below meth c Q σ (kf v.toInt) (F0 m (pc + 1) ls (.int v :: st))) : Sim G A nc ns p l e R s m args below meth c Q σ (z_nz y.toInt (z_ck (x.toInt.tdiv y.toInt) kf)) (F0 m pc ls (.int y :: .int x :: st)) := by
  intro o ho H locs hP hS
  obtain ⟨q0, ho⟩ := nz_some ho
  obtain ⟨q1, q2⟩ := ck_some ho
  have hv : (x / y).toInt = x.toInt.tdiv y.toInt := by rw [Int32.toInt_div]; exact iR_b q1
  exact lv_idiv C.1 C.2.1 hdg (fun z => q0 (by rw [z]; rfl)) (kk (x / y) o (by rw [hv]; exact q2) H locs hP hS)
theorem q_ldiv (C : CX G A p m c cc nL s args own) {x y : Int64} (hdg : decode cc pc = .ok (.ldiv, 1)) (kk : ∀ v : Int64, Sim G A nc ns p l e R s m args below meth c Q σ (kf v.toInt) (F0 m (pc + 1) ls (.long v :: st))) : Sim G A nc ns p l e R s m args below meth c Q σ (z_nz y.toInt (z_lk (x.toInt.tdiv y.toInt) kf)) (F0 m pc ls (.long y :: .long x :: st)) := by
  intro o ho H locs hP hS
  obtain ⟨q0, ho⟩ := nz_some ho
  obtain ⟨q1, q2⟩ := lk_some ho
  have hv : (x / y).toInt = x.toInt.tdiv y.toInt := by rw [Int64.toInt_div]; exact lR_b q1
  exact lv_ldiv C.1 C.2.1 hdg (fun z => q0 (by rw [z]; rfl)) (kk (x / y) o (by rw [hv]; exact q2) H locs hP hS)
theorem q_irem (C : CX G A p m c cc nL s args own) {x y : Int32} (hdg : decode cc pc = .ok (.irem, 1)) (kk : ∀ v : Int32, Sim G A nc ns p l e R s m args below meth c Q σ (kf v.toInt) (F0 m (pc + 1) ls (.int v :: st))) : Sim G A nc ns p l e R s m args below meth c Q σ (z_nz y.toInt (z_gt (x.toInt.tmod y.toInt) kf)) (F0 m pc ls (.int y :: .int x :: st)) := by
  intro o ho H locs hP hS
  obtain ⟨q0, ho⟩ := nz_some ho
  have hv : (x - x / y * y).toInt = x.toInt.tmod y.toInt := by
    have h3 : x - x / y * y = Int32.ofInt (x.toInt.tmod y.toInt) := by
      have g1 := iR_t x
      have g2 := iR_t y
      have e1 : Int32.ofInt (x.toInt.tdiv y.toInt) = x / y := (Int32.ofInt_tdiv (by show (-2147483648 : Int) ≤ x.toInt; exact g1.1) (by show x.toInt ≤ (2147483647 : Int); have := g1.2; omega) (by show (-2147483648 : Int) ≤ y.toInt; exact g2.1) (by show y.toInt ≤ (2147483647 : Int); have := g2.2; omega)).trans (by rw [Int32.ofInt_toInt, Int32.ofInt_toInt])
      rw [Int.tmod_def, Int32.ofInt_sub, Int32.ofInt_mul, e1, Int32.ofInt_toInt, Int32.ofInt_toInt, Int32.mul_comm]
    rw [h3, Int32.toInt_ofInt]
    have h4 := iR_t x
    have h5 : (x.toInt.tmod y.toInt).natAbs ≤ x.toInt.natAbs := by rw [Int.natAbs_tmod]; exact Nat.mod_le _ _
    have h6 : 0 ≤ x.toInt → 0 ≤ x.toInt.tmod y.toInt := fun h => Int.tmod_nonneg y.toInt h
    have h7 : x.toInt < 0 → x.toInt.tmod y.toInt ≤ 0 := fun h => by
      have h8 := Int.tmod_nonneg (a := -x.toInt) y.toInt (by omega)
      rw [Int.neg_tmod] at h8
      omega
    have h9 := h4.1
    have h10 := h4.2
    exact iR_b ⟨by omega, by omega⟩
  exact lv_irem C.1 C.2.1 hdg (fun z => q0 (by rw [z]; rfl)) (kk (x - x / y * y) o (by rw [hv]; exact ho) H locs hP hS)
theorem q_lrem (C : CX G A p m c cc nL s args own) {x y : Int64} (hdg : decode cc pc = .ok (.lrem, 1)) (kk : ∀ v : Int64, Sim G A nc ns p l e R s m args below meth c Q σ (kf v.toInt) (F0 m (pc + 1) ls (.long v :: st))) : Sim G A nc ns p l e R s m args below meth c Q σ (z_nz y.toInt (z_gt (x.toInt.tmod y.toInt) kf)) (F0 m pc ls (.long y :: .long x :: st)) := by
  intro o ho H locs hP hS
  obtain ⟨q0, ho⟩ := nz_some ho
  have hv : (x - x / y * y).toInt = x.toInt.tmod y.toInt := by
    have h3 : x - x / y * y = Int64.ofInt (x.toInt.tmod y.toInt) := by
      have g1 := lR_t x
      have g2 := lR_t y
      have e1 : Int64.ofInt (x.toInt.tdiv y.toInt) = x / y := (Int64.ofInt_tdiv (by show (-9223372036854775808 : Int) ≤ x.toInt; exact g1.1) (by show x.toInt ≤ (9223372036854775807 : Int); have := g1.2; omega) (by show (-9223372036854775808 : Int) ≤ y.toInt; exact g2.1) (by show y.toInt ≤ (9223372036854775807 : Int); have := g2.2; omega)).trans (by rw [Int64.ofInt_toInt, Int64.ofInt_toInt])
      rw [Int.tmod_def, Int64.ofInt_sub, Int64.ofInt_mul, e1, Int64.ofInt_toInt, Int64.ofInt_toInt, Int64.mul_comm]
    rw [h3, Int64.toInt_ofInt]
    have h4 := lR_t x
    have h5 : (x.toInt.tmod y.toInt).natAbs ≤ x.toInt.natAbs := by rw [Int.natAbs_tmod]; exact Nat.mod_le _ _
    have h6 : 0 ≤ x.toInt → 0 ≤ x.toInt.tmod y.toInt := fun h => Int.tmod_nonneg y.toInt h
    have h7 : x.toInt < 0 → x.toInt.tmod y.toInt ≤ 0 := fun h => by
      have h8 := Int.tmod_nonneg (a := -x.toInt) y.toInt (by omega)
      rw [Int.neg_tmod] at h8
      omega
    have h9 := h4.1
    have h10 := h4.2
    exact lR_b ⟨by omega, by omega⟩
  exact lv_lrem C.1 C.2.1 hdg (fun z => q0 (by rw [z]; rfl)) (kk (x - x / y * y) o (by rw [hv]; exact ho) H locs hP hS)
theorem q_lcmp (C : CX G A p m c cc nL s args own) {x y : Int64} (hdg : decode cc pc = .ok (.lcmp, 1)) (kk : ∀ v : Int32, Sim G A nc ns p l e R s m args below meth c Q σ (kf v.toInt) (F0 m (pc + 1) ls (.int v :: st))) : Sim G A nc ns p l e R s m args below meth c Q σ (z_gt (z_cmp x.toInt y.toInt) kf) (F0 m pc ls (.long y :: .long x :: st)) := by
  intro o ho H locs hP hS
  have hv : (lg_cmp x y).toInt = z_cmp x.toInt y.toInt := by
    unfold lg_cmp z_cmp
    simp only [gt_iff_lt, Int64.lt_iff_toInt_lt, ← Int64.toInt_inj]
    by_cases h1 : y.toInt < x.toInt
    · rw [if_pos h1, if_pos h1]; rfl
    · rw [if_neg h1, if_neg h1]
      by_cases h2 : x.toInt = y.toInt
      · rw [if_pos h2, if_pos h2]; rfl
      · rw [if_neg h2, if_neg h2]; rfl
  exact W.lcmp C.1 C.2.1 hdg (kk (lg_cmp x y) o (by rw [hv]; exact ho) H locs hP hS)
theorem q_if_eq (C : CX G A p m c cc nL s args own) {x : Int32} {off : Int} (tgt : Nat) (hdg : decode cc pc = .ok (.ifCond .eq off, 3)) (ht : (pc : Int) + off = (tgt : Int)) (kt : Sim G A nc ns p l e R s m args below meth c Q σ f1 (F0 m tgt ls st)) (kn : Sim G A nc ns p l e R s m args below meth c Q σ f2 (F0 m (pc + 3) ls st)) : Sim G A nc ns p l e R s m args below meth c Q σ (if x.toInt = 0 then f1 else f2) (F0 m pc ls (.int x :: st)) := by
  intro o ho H locs hP hS
  refine lv_if_eq C.1 C.2.1 hdg ht (fun h => kt o ?_ H locs hP hS) (fun h => kn o ?_ H locs hP hS)
  · rw [if_pos (by simp only [ge_iff_le, gt_iff_lt, Int32.lt_iff_toInt_lt, Int32.le_iff_toInt_le, ← Int32.toInt_inj, Int32.toInt_zero, ne_eq] at h ⊢; first | exact h | omega)] at ho; exact ho
  · rw [if_neg (by simp only [ge_iff_le, gt_iff_lt, Int32.lt_iff_toInt_lt, Int32.le_iff_toInt_le, ← Int32.toInt_inj, Int32.toInt_zero, ne_eq] at h ⊢; first | exact h | omega)] at ho; exact ho
theorem q_icmp_eq (C : CX G A p m c cc nL s args own) {x y : Int32} {off : Int} (tgt : Nat) (hdg : decode cc pc = .ok (.if_icmp .eq off, 3)) (ht : (pc : Int) + off = (tgt : Int)) (kt : Sim G A nc ns p l e R s m args below meth c Q σ f1 (F0 m tgt ls st)) (kn : Sim G A nc ns p l e R s m args below meth c Q σ f2 (F0 m (pc + 3) ls st)) : Sim G A nc ns p l e R s m args below meth c Q σ (if x.toInt = y.toInt then f1 else f2) (F0 m pc ls (.int y :: .int x :: st)) := by
  intro o ho H locs hP hS
  refine lv_icmp_eq C.1 C.2.1 hdg ht (fun h => kt o ?_ H locs hP hS) (fun h => kn o ?_ H locs hP hS)
  · rw [if_pos (by simp only [ge_iff_le, gt_iff_lt, Int32.lt_iff_toInt_lt, Int32.le_iff_toInt_le, ← Int32.toInt_inj, Int32.toInt_zero, ne_eq] at h ⊢; first | exact h | omega)] at ho; exact ho
  · rw [if_neg (by simp only [ge_iff_le, gt_iff_lt, Int32.lt_iff_toInt_lt, Int32.le_iff_toInt_le, ← Int32.toInt_inj, Int32.toInt_zero, ne_eq] at h ⊢; first | exact h | omega)] at ho; exact ho
theorem q_if_ne (C : CX G A p m c cc nL s args own) {x : Int32} {off : Int} (tgt : Nat) (hdg : decode cc pc = .ok (.ifCond .ne off, 3)) (ht : (pc : Int) + off = (tgt : Int)) (kt : Sim G A nc ns p l e R s m args below meth c Q σ f1 (F0 m tgt ls st)) (kn : Sim G A nc ns p l e R s m args below meth c Q σ f2 (F0 m (pc + 3) ls st)) : Sim G A nc ns p l e R s m args below meth c Q σ (if ¬ x.toInt = 0 then f1 else f2) (F0 m pc ls (.int x :: st)) := by
  intro o ho H locs hP hS
  refine lv_if_ne C.1 C.2.1 hdg ht (fun h => kt o ?_ H locs hP hS) (fun h => kn o ?_ H locs hP hS)
  · rw [if_pos (by simp only [ge_iff_le, gt_iff_lt, Int32.lt_iff_toInt_lt, Int32.le_iff_toInt_le, ← Int32.toInt_inj, Int32.toInt_zero, ne_eq] at h ⊢; first | exact h | omega)] at ho; exact ho
  · rw [if_neg (by simp only [ge_iff_le, gt_iff_lt, Int32.lt_iff_toInt_lt, Int32.le_iff_toInt_le, ← Int32.toInt_inj, Int32.toInt_zero, ne_eq] at h ⊢; first | exact h | omega)] at ho; exact ho
theorem q_icmp_ne (C : CX G A p m c cc nL s args own) {x y : Int32} {off : Int} (tgt : Nat) (hdg : decode cc pc = .ok (.if_icmp .ne off, 3)) (ht : (pc : Int) + off = (tgt : Int)) (kt : Sim G A nc ns p l e R s m args below meth c Q σ f1 (F0 m tgt ls st)) (kn : Sim G A nc ns p l e R s m args below meth c Q σ f2 (F0 m (pc + 3) ls st)) : Sim G A nc ns p l e R s m args below meth c Q σ (if ¬ x.toInt = y.toInt then f1 else f2) (F0 m pc ls (.int y :: .int x :: st)) := by
  intro o ho H locs hP hS
  refine lv_icmp_ne C.1 C.2.1 hdg ht (fun h => kt o ?_ H locs hP hS) (fun h => kn o ?_ H locs hP hS)
  · rw [if_pos (by simp only [ge_iff_le, gt_iff_lt, Int32.lt_iff_toInt_lt, Int32.le_iff_toInt_le, ← Int32.toInt_inj, Int32.toInt_zero, ne_eq] at h ⊢; first | exact h | omega)] at ho; exact ho
  · rw [if_neg (by simp only [ge_iff_le, gt_iff_lt, Int32.lt_iff_toInt_lt, Int32.le_iff_toInt_le, ← Int32.toInt_inj, Int32.toInt_zero, ne_eq] at h ⊢; first | exact h | omega)] at ho; exact ho
theorem q_if_lt (C : CX G A p m c cc nL s args own) {x : Int32} {off : Int} (tgt : Nat) (hdg : decode cc pc = .ok (.ifCond .lt off, 3)) (ht : (pc : Int) + off = (tgt : Int)) (kt : Sim G A nc ns p l e R s m args below meth c Q σ f1 (F0 m tgt ls st)) (kn : Sim G A nc ns p l e R s m args below meth c Q σ f2 (F0 m (pc + 3) ls st)) : Sim G A nc ns p l e R s m args below meth c Q σ (if x.toInt < 0 then f1 else f2) (F0 m pc ls (.int x :: st)) := by
  intro o ho H locs hP hS
  refine lv_if_lt C.1 C.2.1 hdg ht (fun h => kt o ?_ H locs hP hS) (fun h => kn o ?_ H locs hP hS)
  · rw [if_pos (by simp only [ge_iff_le, gt_iff_lt, Int32.lt_iff_toInt_lt, Int32.le_iff_toInt_le, ← Int32.toInt_inj, Int32.toInt_zero, ne_eq] at h ⊢; first | exact h | omega)] at ho; exact ho
  · rw [if_neg (by simp only [ge_iff_le, gt_iff_lt, Int32.lt_iff_toInt_lt, Int32.le_iff_toInt_le, ← Int32.toInt_inj, Int32.toInt_zero, ne_eq] at h ⊢; first | exact h | omega)] at ho; exact ho
theorem q_icmp_lt (C : CX G A p m c cc nL s args own) {x y : Int32} {off : Int} (tgt : Nat) (hdg : decode cc pc = .ok (.if_icmp .lt off, 3)) (ht : (pc : Int) + off = (tgt : Int)) (kt : Sim G A nc ns p l e R s m args below meth c Q σ f1 (F0 m tgt ls st)) (kn : Sim G A nc ns p l e R s m args below meth c Q σ f2 (F0 m (pc + 3) ls st)) : Sim G A nc ns p l e R s m args below meth c Q σ (if x.toInt < y.toInt then f1 else f2) (F0 m pc ls (.int y :: .int x :: st)) := by
  intro o ho H locs hP hS
  refine lv_icmp_lt C.1 C.2.1 hdg ht (fun h => kt o ?_ H locs hP hS) (fun h => kn o ?_ H locs hP hS)
  · rw [if_pos (by simp only [ge_iff_le, gt_iff_lt, Int32.lt_iff_toInt_lt, Int32.le_iff_toInt_le, ← Int32.toInt_inj, Int32.toInt_zero, ne_eq] at h ⊢; first | exact h | omega)] at ho; exact ho
  · rw [if_neg (by simp only [ge_iff_le, gt_iff_lt, Int32.lt_iff_toInt_lt, Int32.le_iff_toInt_le, ← Int32.toInt_inj, Int32.toInt_zero, ne_eq] at h ⊢; first | exact h | omega)] at ho; exact ho
theorem q_if_ge (C : CX G A p m c cc nL s args own) {x : Int32} {off : Int} (tgt : Nat) (hdg : decode cc pc = .ok (.ifCond .ge off, 3)) (ht : (pc : Int) + off = (tgt : Int)) (kt : Sim G A nc ns p l e R s m args below meth c Q σ f1 (F0 m tgt ls st)) (kn : Sim G A nc ns p l e R s m args below meth c Q σ f2 (F0 m (pc + 3) ls st)) : Sim G A nc ns p l e R s m args below meth c Q σ (if 0 ≤ x.toInt then f1 else f2) (F0 m pc ls (.int x :: st)) := by
  intro o ho H locs hP hS
  refine lv_if_ge C.1 C.2.1 hdg ht (fun h => kt o ?_ H locs hP hS) (fun h => kn o ?_ H locs hP hS)
  · rw [if_pos (by simp only [ge_iff_le, gt_iff_lt, Int32.lt_iff_toInt_lt, Int32.le_iff_toInt_le, ← Int32.toInt_inj, Int32.toInt_zero, ne_eq] at h ⊢; first | exact h | omega)] at ho; exact ho
  · rw [if_neg (by simp only [ge_iff_le, gt_iff_lt, Int32.lt_iff_toInt_lt, Int32.le_iff_toInt_le, ← Int32.toInt_inj, Int32.toInt_zero, ne_eq] at h ⊢; first | exact h | omega)] at ho; exact ho
theorem q_icmp_ge (C : CX G A p m c cc nL s args own) {x y : Int32} {off : Int} (tgt : Nat) (hdg : decode cc pc = .ok (.if_icmp .ge off, 3)) (ht : (pc : Int) + off = (tgt : Int)) (kt : Sim G A nc ns p l e R s m args below meth c Q σ f1 (F0 m tgt ls st)) (kn : Sim G A nc ns p l e R s m args below meth c Q σ f2 (F0 m (pc + 3) ls st)) : Sim G A nc ns p l e R s m args below meth c Q σ (if y.toInt ≤ x.toInt then f1 else f2) (F0 m pc ls (.int y :: .int x :: st)) := by
  intro o ho H locs hP hS
  refine lv_icmp_ge C.1 C.2.1 hdg ht (fun h => kt o ?_ H locs hP hS) (fun h => kn o ?_ H locs hP hS)
  · rw [if_pos (by simp only [ge_iff_le, gt_iff_lt, Int32.lt_iff_toInt_lt, Int32.le_iff_toInt_le, ← Int32.toInt_inj, Int32.toInt_zero, ne_eq] at h ⊢; first | exact h | omega)] at ho; exact ho
  · rw [if_neg (by simp only [ge_iff_le, gt_iff_lt, Int32.lt_iff_toInt_lt, Int32.le_iff_toInt_le, ← Int32.toInt_inj, Int32.toInt_zero, ne_eq] at h ⊢; first | exact h | omega)] at ho; exact ho
theorem q_if_gt (C : CX G A p m c cc nL s args own) {x : Int32} {off : Int} (tgt : Nat) (hdg : decode cc pc = .ok (.ifCond .gt off, 3)) (ht : (pc : Int) + off = (tgt : Int)) (kt : Sim G A nc ns p l e R s m args below meth c Q σ f1 (F0 m tgt ls st)) (kn : Sim G A nc ns p l e R s m args below meth c Q σ f2 (F0 m (pc + 3) ls st)) : Sim G A nc ns p l e R s m args below meth c Q σ (if 0 < x.toInt then f1 else f2) (F0 m pc ls (.int x :: st)) := by
  intro o ho H locs hP hS
  refine lv_if_gt C.1 C.2.1 hdg ht (fun h => kt o ?_ H locs hP hS) (fun h => kn o ?_ H locs hP hS)
  · rw [if_pos (by simp only [ge_iff_le, gt_iff_lt, Int32.lt_iff_toInt_lt, Int32.le_iff_toInt_le, ← Int32.toInt_inj, Int32.toInt_zero, ne_eq] at h ⊢; first | exact h | omega)] at ho; exact ho
  · rw [if_neg (by simp only [ge_iff_le, gt_iff_lt, Int32.lt_iff_toInt_lt, Int32.le_iff_toInt_le, ← Int32.toInt_inj, Int32.toInt_zero, ne_eq] at h ⊢; first | exact h | omega)] at ho; exact ho
theorem q_icmp_gt (C : CX G A p m c cc nL s args own) {x y : Int32} {off : Int} (tgt : Nat) (hdg : decode cc pc = .ok (.if_icmp .gt off, 3)) (ht : (pc : Int) + off = (tgt : Int)) (kt : Sim G A nc ns p l e R s m args below meth c Q σ f1 (F0 m tgt ls st)) (kn : Sim G A nc ns p l e R s m args below meth c Q σ f2 (F0 m (pc + 3) ls st)) : Sim G A nc ns p l e R s m args below meth c Q σ (if y.toInt < x.toInt then f1 else f2) (F0 m pc ls (.int y :: .int x :: st)) := by
  intro o ho H locs hP hS
  refine lv_icmp_gt C.1 C.2.1 hdg ht (fun h => kt o ?_ H locs hP hS) (fun h => kn o ?_ H locs hP hS)
  · rw [if_pos (by simp only [ge_iff_le, gt_iff_lt, Int32.lt_iff_toInt_lt, Int32.le_iff_toInt_le, ← Int32.toInt_inj, Int32.toInt_zero, ne_eq] at h ⊢; first | exact h | omega)] at ho; exact ho
  · rw [if_neg (by simp only [ge_iff_le, gt_iff_lt, Int32.lt_iff_toInt_lt, Int32.le_iff_toInt_le, ← Int32.toInt_inj, Int32.toInt_zero, ne_eq] at h ⊢; first | exact h | omega)] at ho; exact ho
theorem q_if_le (C : CX G A p m c cc nL s args own) {x : Int32} {off : Int} (tgt : Nat) (hdg : decode cc pc = .ok (.ifCond .le off, 3)) (ht : (pc : Int) + off = (tgt : Int)) (kt : Sim G A nc ns p l e R s m args below meth c Q σ f1 (F0 m tgt ls st)) (kn : Sim G A nc ns p l e R s m args below meth c Q σ f2 (F0 m (pc + 3) ls st)) : Sim G A nc ns p l e R s m args below meth c Q σ (if x.toInt ≤ 0 then f1 else f2) (F0 m pc ls (.int x :: st)) := by
  intro o ho H locs hP hS
  refine lv_if_le C.1 C.2.1 hdg ht (fun h => kt o ?_ H locs hP hS) (fun h => kn o ?_ H locs hP hS)
  · rw [if_pos (by simp only [ge_iff_le, gt_iff_lt, Int32.lt_iff_toInt_lt, Int32.le_iff_toInt_le, ← Int32.toInt_inj, Int32.toInt_zero, ne_eq] at h ⊢; first | exact h | omega)] at ho; exact ho
  · rw [if_neg (by simp only [ge_iff_le, gt_iff_lt, Int32.lt_iff_toInt_lt, Int32.le_iff_toInt_le, ← Int32.toInt_inj, Int32.toInt_zero, ne_eq] at h ⊢; first | exact h | omega)] at ho; exact ho
theorem q_icmp_le (C : CX G A p m c cc nL s args own) {x y : Int32} {off : Int} (tgt : Nat) (hdg : decode cc pc = .ok (.if_icmp .le off, 3)) (ht : (pc : Int) + off = (tgt : Int)) (kt : Sim G A nc ns p l e R s m args below meth c Q σ f1 (F0 m tgt ls st)) (kn : Sim G A nc ns p l e R s m args below meth c Q σ f2 (F0 m (pc + 3) ls st)) : Sim G A nc ns p l e R s m args below meth c Q σ (if x.toInt ≤ y.toInt then f1 else f2) (F0 m pc ls (.int y :: .int x :: st)) := by
  intro o ho H locs hP hS
  refine lv_icmp_le C.1 C.2.1 hdg ht (fun h => kt o ?_ H locs hP hS) (fun h => kn o ?_ H locs hP hS)
  · rw [if_pos (by simp only [ge_iff_le, gt_iff_lt, Int32.lt_iff_toInt_lt, Int32.le_iff_toInt_le, ← Int32.toInt_inj, Int32.toInt_zero, ne_eq] at h ⊢; first | exact h | omega)] at ho; exact ho
  · rw [if_neg (by simp only [ge_iff_le, gt_iff_lt, Int32.lt_iff_toInt_lt, Int32.le_iff_toInt_le, ← Int32.toInt_inj, Int32.toInt_zero, ne_eq] at h ⊢; first | exact h | omega)] at ho; exact ho
end SR
