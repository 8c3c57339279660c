theorem xc_of {k : Nat} (h : k < 65536) : (nI k).toUInt32.toUInt16.toUInt32.toInt32 = nI k := by
  apply Int32.toInt_inj.mp
  have h1 : (nI k).toUInt32.toUInt16.toUInt32.toInt32 = Int32.ofNat k := by
    apply Int32.toBitVec_inj.mp
    apply BitVec.eq_of_toNat_eq
    simp [nI]
    omega
  rw [h1]; rfl
section SE
variable {G : GG} {p : Program} {l : Launch} {e : Env} {R : Room} {s : State} {m : MethodId} {args : Array Value} {below : List Frame} {meth : Method} {c : Code} {σ : St} {cc : ByteArray} {nL : Nat} {own : String} {pc : Nat} {ls : Array Slot}
theorem q_iret (C : CX G (AG G) p m c cc nL s args own) {x : Int32} (hr : meth.sig.returnType = some .int) (hlo : meth.locks = false) (hdg : decode cc pc = .ok (.ireturn, 1)) : Sim G (AG G) 0 0 p l e R s m args below meth c (fun r : Int => MQ below (QC G (vI r) (σ)) args s 0 0 (AG G)) σ (some x.toInt) (F0 m pc ls [.int x]) := by
  intro o ho H locs hP hS
  cases ho
  exact W.iret C.1 C.2.1 hr (fun t ht hW => ⟨⟨_, rfl, ⟨x, rfl, rfl⟩, by rw [ht]; exact hP⟩, hS.F ht⟩) hS.2.2 hdg hlo
theorem q_iretE (C : CX G (AG G) p m c cc nL s args own) {x : Int32} (hr : meth.sig.returnType = some .int) (hlo : meth.locks = false) (hdg : decode cc pc = .ok (.ireturn, 1)) : Sim G (AG G) 0 0 p l e R s m args below meth c (fun r : Int × St => MQ below (QC G (vI r.1) (r.2)) args s 0 0 (AG G)) σ (some (x.toInt, σ)) (F0 m pc ls [.int x]) := by
  intro o ho H locs hP hS
  cases ho
  exact W.iret C.1 C.2.1 hr (fun t ht hW => ⟨⟨_, rfl, ⟨x, rfl, rfl⟩, by rw [ht]; exact hP⟩, hS.F ht⟩) hS.2.2 hdg hlo
theorem q_lret (C : CX G (AG G) p m c cc nL s args own) {x : Int64} (hr : meth.sig.returnType = some .long) (hlo : meth.locks = false) (hdg : decode cc pc = .ok (.lreturn, 1)) : Sim G (AG G) 0 0 p l e R s m args below meth c (fun r : Int => MQ below (QC G (vL r) (σ)) args s 0 0 (AG G)) σ (some x.toInt) (F0 m pc ls [.long x]) := by
  intro o ho H locs hP hS
  cases ho
  exact W.lret C.1 C.2.1 hr (fun t ht hW => ⟨⟨_, rfl, ⟨x, rfl, rfl⟩, by rw [ht]; exact hP⟩, hS.F ht⟩) hS.2.2 hdg hlo
theorem q_lretE (C : CX G (AG G) p m c cc nL s args own) {x : Int64} (hr : meth.sig.returnType = some .long) (hlo : meth.locks = false) (hdg : decode cc pc = .ok (.lreturn, 1)) : Sim G (AG G) 0 0 p l e R s m args below meth c (fun r : Int × St => MQ below (QC G (vL r.1) (r.2)) args s 0 0 (AG G)) σ (some (x.toInt, σ)) (F0 m pc ls [.long x]) := by
  intro o ho H locs hP hS
  cases ho
  exact W.lret C.1 C.2.1 hr (fun t ht hW => ⟨⟨_, rfl, ⟨x, rfl, rfl⟩, by rw [ht]; exact hP⟩, hS.F ht⟩) hS.2.2 hdg hlo
theorem q_zret (C : CX G (AG G) p m c cc nL s args own) {x : Int32} (hr : meth.sig.returnType = some .boolean) (hlo : meth.locks = false) (hdg : decode cc pc = .ok (.ireturn, 1)) : Sim G (AG G) 0 0 p l e R s m args below meth c (fun r : Int => MQ below (QC G (vI r) (σ)) args s 0 0 (AG G)) σ (z_bo x.toInt (some x.toInt)) (F0 m pc ls [.int x]) := by
  intro o ho H locs hP hS
  obtain ⟨q1, q2⟩ := bo_some ho
  cases q2
  have hx : x = 0 ∨ x = 1 := q1.imp (fun h => by rw [← iZ_t x, h]; rfl) (fun h => by rw [← iZ_t x, h]; rfl)
  exact W.zret C.1 C.2.1 hr (by rcases hx with h | h <;> rw [h] <;> rfl) (fun t ht hW => ⟨⟨_, rfl, ⟨x, rfl, rfl⟩, by rw [ht]; exact hP⟩, hS.F ht⟩) hS.2.2 hdg hlo
theorem q_zretE (C : CX G (AG G) p m c cc nL s args own) {x : Int32} (hr : meth.sig.returnType = some .boolean) (hlo : meth.locks = false) (hdg : decode cc pc = .ok (.ireturn, 1)) : Sim G (AG G) 0 0 p l e R s m args below meth c (fun r : Int × St => MQ below (QC G (vI r.1) (r.2)) args s 0 0 (AG G)) σ (z_bo x.toInt (some (x.toInt, σ))) (F0 m pc ls [.int x]) := by
  intro o ho H locs hP hS
  obtain ⟨q1, q2⟩ := bo_some ho
  cases q2
  have hx : x = 0 ∨ x = 1 := q1.imp (fun h => by rw [← iZ_t x, h]; rfl) (fun h => by rw [← iZ_t x, h]; rfl)
  exact W.zret C.1 C.2.1 hr (by rcases hx with h | h <;> rw [h] <;> rfl) (fun t ht hW => ⟨⟨_, rfl, ⟨x, rfl, rfl⟩, by rw [ht]; exact hP⟩, hS.F ht⟩) hS.2.2 hdg hlo
theorem q_cret (C : CX G (AG G) p m c cc nL s args own) {x : Int32} (hr : meth.sig.returnType = some .char) (hlo : meth.locks = false) (hdg : decode cc pc = .ok (.ireturn, 1)) : Sim G (AG G) 0 0 p l e R s m args below meth c (fun r : Int => MQ below (QC G (vI r) (σ)) args s 0 0 (AG G)) σ (z_ix x.toInt 65536 (some x.toInt)) (F0 m pc ls [.int x]) := by
  intro o ho H locs hP hS
  obtain ⟨q1, q2⟩ := ix_some ho
  cases q2
  refine W.zret C.1 C.2.1 hr ?_ (fun t ht hW => ⟨⟨_, rfl, ⟨x, rfl, rfl⟩, by rw [ht]; exact hP⟩, hS.F ht⟩) hS.2.2 hdg hlo
  have h1 : vp_nar .char x = x := by
    rw [vp_nar_char]
    have h2 : x = nI x.toInt.toNat := by
      apply Int32.toInt_inj.mp
      rw [nI_toInt (by omega)]
      omega
    rw [h2]
    apply Int32.toInt_inj.mp
    have h3 : x.toInt.toNat < 65536 := by omega
    generalize x.toInt.toNat = k at h3
    rw [xc_of h3]
  have h4 : narrow .char (.int x) = .int (vp_nar .char x) := rfl
  rw [h4, h1]
theorem q_vretE (C : CX G (AG G) p m c cc nL s args own) (hr : meth.sig.returnType = none) (hlo : meth.locks = false) (hdg : decode cc pc = .ok (.return_, 1)) : Sim G (AG G) 0 0 p l e R s m args below meth c (fun r : St => MQ below (QC G (vV) (r)) args s 0 0 (AG G)) σ (some σ) (F0 m pc ls []) := by
  intro o ho H locs hP hS
  cases ho
  exact W.vret C.1 C.2.1 hr (fun t ht hW => ⟨⟨_, rfl, rfl, by rw [ht]; exact hP⟩, hS.F ht⟩) hS.2.2 hdg hlo
theorem q_vret (C : CX G (AG G) p m c cc nL s args own) (hr : meth.sig.returnType = none) (hlo : meth.locks = false) (hdg : decode cc pc = .ok (.return_, 1)) : Sim G (AG G) 0 0 p l e R s m args below meth c (fun r : Unit => MQ below (QC G (vV) (σ)) args s 0 0 (AG G)) σ (some ()) (F0 m pc ls []) := by
  intro o ho H locs hP hS
  cases ho
  exact W.vret C.1 C.2.1 hr (fun t ht hW => ⟨⟨_, rfl, rfl, by rw [ht]; exact hP⟩, hS.F ht⟩) hS.2.2 hdg hlo
theorem q_aret (C : CX G (AG G) p m c cc nL s args own) {k : Nat} {rc : String} (hr : meth.sig.returnType = some (.object rc)) (hlo : meth.locks = false) (hdg : decode cc pc = .ok (.areturn, 1)) : Sim G (AG G) 0 0 p l e R s m args below meth c (fun r : Option Nat => MQ below (QC G (vA G r) (σ)) args s 0 0 (AG G)) σ (some (some k)) (F0 m pc ls [.ref (gad G k)]) := by
  intro o ho H locs hP hS
  cases ho
  exact W.aret C.1 C.2.1 hr (Or.inl ⟨rc, rfl⟩) (Or.inr ⟨_, rfl⟩) (fun t ht hW => ⟨⟨_, rfl, rfl, by rw [ht]; exact hP⟩, hS.F ht⟩) hS.2.2 hdg hlo
theorem q_aretN (C : CX G (AG G) p m c cc nL s args own) {rc : String} (hr : meth.sig.returnType = some (.object rc)) (hlo : meth.locks = false) (hdg : decode cc pc = .ok (.areturn, 1)) : Sim G (AG G) 0 0 p l e R s m args below meth c (fun r : Option Nat => MQ below (QC G (vA G r) (σ)) args s 0 0 (AG G)) σ (some (none : Option Nat)) (F0 m pc ls [.null]) := by
  intro o ho H locs hP hS
  cases ho
  exact W.aret C.1 C.2.1 hr (Or.inl ⟨rc, rfl⟩) (Or.inl rfl) (fun t ht hW => ⟨⟨_, rfl, rfl, by rw [ht]; exact hP⟩, hS.F ht⟩) hS.2.2 hdg hlo
theorem q_aretE (C : CX G (AG G) p m c cc nL s args own) {k : Nat} {rc : String} (hr : meth.sig.returnType = some (.object rc)) (hlo : meth.locks = false) (hdg : decode cc pc = .ok (.areturn, 1)) : Sim G (AG G) 0 0 p l e R s m args below meth c (fun r : Option Nat × St => MQ below (QC G (vA G r.1) (r.2)) args s 0 0 (AG G)) σ (some (some k, σ)) (F0 m pc ls [.ref (gad G k)]) := by
  intro o ho H locs hP hS
  cases ho
  exact W.aret C.1 C.2.1 hr (Or.inl ⟨rc, rfl⟩) (Or.inr ⟨_, rfl⟩) (fun t ht hW => ⟨⟨_, rfl, rfl, by rw [ht]; exact hP⟩, hS.F ht⟩) hS.2.2 hdg hlo
theorem q_aretNE (C : CX G (AG G) p m c cc nL s args own) {rc : String} (hr : meth.sig.returnType = some (.object rc)) (hlo : meth.locks = false) (hdg : decode cc pc = .ok (.areturn, 1)) : Sim G (AG G) 0 0 p l e R s m args below meth c (fun r : Option Nat × St => MQ below (QC G (vA G r.1) (r.2)) args s 0 0 (AG G)) σ (some ((none : Option Nat), σ)) (F0 m pc ls [.null]) := by
  intro o ho H locs hP hS
  cases ho
  exact W.aret C.1 C.2.1 hr (Or.inl ⟨rc, rfl⟩) (Or.inl rfl) (fun t ht hW => ⟨⟨_, rfl, rfl, by rw [ht]; exact hP⟩, hS.F ht⟩) hS.2.2 hdg hlo
theorem q_sret (C : CX G (AG G) p m c cc nL s args own) {t : Nat} {rc : String} (htt : t < 13) (hr : meth.sig.returnType = some (.object rc)) (hlo : meth.locks = false) (hdg : decode cc pc = .ok (.areturn, 1)) : Sim G (AG G) 0 0 p l e R s m args below meth c (fun r : Nat => MQ below (QC G (vS G r) (σ)) args s 0 0 (AG G)) σ (some t) (F0 m pc ls [.ref (gak G t)]) := by
  intro o ho H locs hP hS
  cases ho
  exact W.aret C.1 C.2.1 hr (Or.inl ⟨rc, rfl⟩) (Or.inr ⟨_, rfl⟩) (fun t ht hW => ⟨⟨_, rfl, ⟨htt, rfl⟩, by rw [ht]; exact hP⟩, hS.F ht⟩) hS.2.2 hdg hlo
end SE
def z_sb (t : Nat) (i : Int) : Int := ((sbX.getD t []).getD i.toNat 0).toInt
def z_nk (i : Int) : Int := (nkX.getD i.toNat 0).toInt
def z_min (a b : Int) : Int := if b < a then b else a
def z_max (a b : Int) : Int := if a < b then b else a
def z_cpk {γ : Type} (sp dp n : Int) (n0 n1 : Nat) (f : Option γ) : Option γ := if 0 ≤ sp ∧ 0 ≤ dp ∧ 0 ≤ n ∧ sp + n ≤ n0 ∧ dp + n ≤ n1 then f else none
section SG
variable {G : GG} {A : Nat → Prop} {nc ns : Nat} {p : Program} {l : Launch} {e : Env} {R : Room} {s : State} {m : MethodId} {args : Array Value} {below : List Frame} {meth : Method} {c : Code} {α : Type} {Q : α → State → Prop} {σ : St} {cc : ByteArray} {nL : Nat} {own : String} {pc : Nat} {ls : Array Slot} {st : List Value} {f f1 f2 : Option α} {kf : Int → Option α}
theorem q_ldcs (C : CX G A p m c cc nL s args own) {idx : Nat} {tx : String} (t : Nat) (hm : (own, idx, tx, t) ∈ srX) (hdg : decode cc pc = .ok (.ldc idx, 2)) (kk : Sim G A nc ns p l e R s m args below meth c Q σ f (F0 m (pc + 2) ls (.ref (gak G t) :: st))) : Sim G A nc ns p l e R s m args below meth c Q σ f (F0 m pc ls st) := fun o ho H locs hP hS => va_ldcS C.1 C.2.1 C.2.2.2.1 (C.2.2.2.2.2.1.2.2.2.2.2.2.2.2 _ hm) hdg (kk o ho H locs hP hS)
theorem q_scoder (C : CX G A p m c cc nL s args own) {t idx : Nat} (ht : t < 13) (hl : Cond.fieldLink own idx "java/lang/String" "coder" "B" ∈ GW) (hdg : decode cc pc = .ok (.getfield idx, 3)) (kk : ∀ x : Int32, Sim G A nc ns p l e R s m args below meth c Q σ (kf x.toInt) (F0 m (pc + 3) ls (.int x :: st))) : Sim G A nc ns p l e R s m args below meth c Q σ (z_gt 0 kf) (F0 m pc ls (.ref (gak G t) :: st)) := fun o ho H locs hP hS => vk_getf C.1 C.2.1 ((C.2.2.2.2.2.1.2.2.2.2.2.2.2.1 t ht).2.1) hS C.2.2.2.1 (C.2.2.2.2.1 _ hl) (fun _ h => h) hdg (kk 0 o ho H locs hP hS)
theorem q_svalue (C : CX G A p m c cc nL s args own) {t idx : Nat} (ht : t < 13) (hl : Cond.fieldLink own idx "java/lang/String" "value" "[B" ∈ GW) (hdg : decode cc pc = .ok (.getfield idx, 3)) (kk : Sim G A nc ns p l e R s m args below meth c Q σ f (F0 m (pc + 3) ls (.ref (gav G t) :: st))) : Sim G A nc ns p l e R s m args below meth c Q σ f (F0 m pc ls (.ref (gak G t) :: st)) := fun o ho H locs hP hS => vk_getf C.1 C.2.1 ((C.2.2.2.2.2.1.2.2.2.2.2.2.2.1 t ht).2.2.1) hS C.2.2.2.1 (C.2.2.2.2.1 _ hl) (fun _ h => h) hdg (kk o ho H locs hP hS)
theorem q_slen (C : CX G A p m c cc nL s args own) {t : Nat} (ht : t < 13) (hdg : decode cc pc = .ok (.arraylength, 1)) (kk : ∀ x : Int32, Sim G A nc ns p l e R s m args below meth c Q σ (kf x.toInt) (F0 m (pc + 1) ls (.int x :: st))) : Sim G A nc ns p l e R s m args below meth c Q σ (z_gt (slX.getD t 0) kf) (F0 m pc ls (.ref (gav G t) :: st)) := fun o ho H locs hP hS => va_tlen C.1 C.2.1 ((C.2.2.2.2.2.1.2.2.2.2.2.2.2.1 t ht).2.2.2) hS rfl hdg (kk (Int32.ofNat (slX.getD t 0)) o (by
  have h : ∀ t, t < 13 → (Int32.ofNat (slX.getD t 0)).toInt = (slX.getD t 0 : Int) := by decide +kernel
  rw [h t ht]; exact ho) H locs hP hS)
theorem q_sbald (C : CX G A p m c cc nL s args own) {t : Nat} {i : Int32} (ht : t < 13) (hdg : decode cc pc = .ok (.baload, 1)) (kk : ∀ x : Int32, Sim G A nc ns p l e R s m args below meth c Q σ (kf x.toInt) (F0 m (pc + 1) ls (.int x :: st))) : Sim G A nc ns p l e R s m args below meth c Q σ (z_ix i.toInt (slX.getD t 0) (z_gt (z_sb t i.toInt) kf)) (F0 m pc ls (.int i :: .ref (gav G t) :: st)) := by
  intro o ho H locs hP hS
  obtain ⟨q1, q2⟩ := ix_some ho
  obtain ⟨q3, q4⟩ := vin_of q1
  refine va_tb C.1 C.2.1 ((C.2.2.2.2.2.1.2.2.2.2.2.2.2.1 t ht).2.2.2) hS q3 rfl hdg ?_
  refine kk _ o ?_ H locs hP hS
  have h : z_sb t i.toInt = ((sbX.getD t []).getD i.toNatClampNeg 0).toInt := by
    unfold z_sb
    have : i.toInt.toNat = i.toNatClampNeg := by omega
    rw [this]
  rw [← h]
  exact q2
theorem q_gcs (C : CX G A p m c cc nL s args own) {idx : Nat} (hl : Cond.fieldLink own idx "java/lang/String" "COMPACT_STRINGS" "Z" ∈ GW) (hdg : decode cc pc = .ok (.getstatic idx, 3)) (kk : ∀ x : Int32, Sim G A nc ns p l e R s m args below meth c Q σ (kf x.toInt) (F0 m (pc + 3) ls (.int x :: st))) : Sim G A nc ns p l e R s m args below meth c Q σ (z_gt 1 kf) (F0 m pc ls st) := fun o ho H locs hP hS => va_gets C.1 C.2.1 C.2.2.2.2.2.1.2.2.2.2.2.1 hS C.2.2.2.1 (C.2.2.2.2.1 _ hl) (fun _ h => h) hdg (kk 1 o ho H locs hP hS)
theorem q_gfm (C : CX G A p m c cc nL s args own) {idx : Nat} (hl : Cond.fieldLink own idx "jdk/internal/util/Preconditions" "SIOOBE_FORMATTER" "Ljava/util/function/BiFunction;" ∈ GW) (hdg : decode cc pc = .ok (.getstatic idx, 3)) (kk : ∀ v : Value, v.category = 1 → Sim G A nc ns p l e R s m args below meth c Q σ f (F0 m (pc + 3) ls (v :: st))) : Sim G A nc ns p l e R s m args below meth c Q σ f (F0 m pc ls st) := by
  intro o ho H locs hP hS
  rcases C.2.2.2.2.2.1.2.2.2.2.2.2.1 with h | ⟨t, h⟩
  · exact va_gets C.1 C.2.1 h hS C.2.2.2.1 (C.2.2.2.2.1 _ hl) (fun _ h => h) hdg (kk _ rfl o ho H locs hP hS)
  · exact va_gets C.1 C.2.1 h hS C.2.2.2.1 (C.2.2.2.2.1 _ hl) (fun _ h => h) hdg (kk _ rfl o ho H locs hP hS)
theorem q_gnk (C : CX G A p m c cc nL s args own) {idx : Nat} (hl : Cond.fieldLink own idx RX6 "NUMBERS_OF_KIND" "[I" ∈ GW) (hdg : decode cc pc = .ok (.getstatic idx, 3)) (kk : Sim G A nc ns p l e R s m args below meth c Q σ f (F0 m (pc + 3) ls (.ref (gts G) :: st))) : Sim G A nc ns p l e R s m args below meth c Q σ f (F0 m pc ls st) := fun o ho H locs hP hS => va_gets C.1 C.2.1 C.2.2.2.2.2.1.2.2.2.1 hS C.2.2.2.1 (C.2.2.2.2.1 _ hl) (fun _ h => h) hdg (kk o ho H locs hP hS)
theorem q_gnkN (C : CX G A p m c cc nL s args own) {idx : Nat} {ref host : String} (hl : Cond.fieldLinkNest own idx ref "NUMBERS_OF_KIND" "[I" host ∈ nwX) (href : ref = RX6) (hdg : decode cc pc = .ok (.getstatic idx, 3)) (kk : Sim G A nc ns p l e R s m args below meth c Q σ f (F0 m (pc + 3) ls (.ref (gts G) :: st))) : Sim G A nc ns p l e R s m args below meth c Q σ f (F0 m pc ls st) := fun o ho H locs hP hS => va_getsN C.1 C.2.1 C.2.2.2.2.2.1.2.2.2.1 hS C.2.2.2.1 (va_Nw.use rfl (C.2.2.2.2.2.1.2.2.1 _ hl)) (fun _ h => by rw [href]; exact h) hdg (kk o ho H locs hP hS)
theorem q_nkld (C : CX G A p m c cc nL s args own) {i : Int32} (hdg : decode cc pc = .ok (.iaload, 1)) (kk : ∀ x : Int32, Sim G A nc ns p l e R s m args below meth c Q σ (kf x.toInt) (F0 m (pc + 1) ls (.int x :: st))) : Sim G A nc ns p l e R s m args below meth c Q σ (z_ix i.toInt 9 (z_gt (z_nk i.toInt) kf)) (F0 m pc ls (.int i :: .ref (gts G) :: st)) := by
  intro o ho H locs hP hS
  obtain ⟨q1, q2⟩ := ix_some ho
  obtain ⟨q3, q4⟩ := vin_of q1
  refine va_ti C.1 C.2.1 C.2.2.2.2.2.1.2.2.2.2.1 hS q3 rfl hdg ?_
  refine kk _ o ?_ H locs hP hS
  have h : z_nk i.toInt = (nkX.getD i.toNatClampNeg 0).toInt := by
    unfold z_nk
    have : i.toInt.toNat = i.toNatClampNeg := by omega
    rw [this]
  rw [← h]
  exact q2
theorem q_min (C : CX G A p m c cc nL s args own) {idx : Nat} {x y : Int32} (hl : Cond.methodLink own idx Lib.Math.min.name ∈ GW) (hR : 1 ≤ R.frames ∧ (st.map fun v => v.category).sum + 13 ≤ R.locals) (hcs : nc ≤ R.cells ∧ ns ≤ R.slots) (hsz : ls.size = nL) (hdg : decode cc pc = .ok (.invokestatic idx, 3)) (kk : ∀ v : Int32, Sim G A nc ns p l e R s m args below meth c Q σ (kf v.toInt) (F0 m (pc + 3) ls (.int v :: st))) : Sim G A nc ns p l e R s m args below meth c Q σ (z_gt (z_min x.toInt y.toInt) kf) (F0 m pc ls (.int y :: .int x :: st)) := by
  intro o ho H locs hP hS
  refine va_mmin C.1 C.2.1 (C.2.2.1.trans hsz.symm) C.2.2.2.1 (C.2.2.2.2.1 _ hl) (C.2.2.2.2.1 _ ks_lib_min) (C.2.2.2.2.1 _ kn_J9) (C.2.2.2.2.1 _ kc_lib_min) hR.1 hR.2 hcs.1 hcs.2 hdg (kk (if y < x then y else x) o ?_ H locs hP hS)
  have h : (if y < x then y else x : Int32).toInt = z_min x.toInt y.toInt := by
    unfold z_min
    simp only [Int32.lt_iff_toInt_lt]
    split <;> rfl
  rw [h]
  exact ho
theorem q_max (C : CX G A p m c cc nL s args own) {idx : Nat} {x y : Int32} (hl : Cond.methodLink own idx Lib.Math.max.name ∈ GW) (hR : 1 ≤ R.frames ∧ (st.map fun v => v.category).sum + 13 ≤ R.locals) (hcs : nc ≤ R.cells ∧ ns ≤ R.slots) (hsz : ls.size = nL) (hdg : decode cc pc = .ok (.invokestatic idx, 3)) (kk : ∀ v : Int32, Sim G A nc ns p l e R s m args below meth c Q σ (kf v.toInt) (F0 m (pc + 3) ls (.int v :: st))) : Sim G A nc ns p l e R s m args below meth c Q σ (z_gt (z_max x.toInt y.toInt) kf) (F0 m pc ls (.int y :: .int x :: st)) := by
  intro o ho H locs hP hS
  refine va_mmax C.1 C.2.1 (C.2.2.1.trans hsz.symm) C.2.2.2.1 (C.2.2.2.2.1 _ hl) (C.2.2.2.2.1 _ ks_lib_max) (C.2.2.2.2.1 _ kn_J9) (C.2.2.2.2.1 _ kc_lib_max) hR.1 hR.2 hcs.1 hcs.2 hdg (kk (if x < y then y else x) o ?_ H locs hP hS)
  have h : (if x < y then y else x : Int32).toInt = z_max x.toInt y.toInt := by
    unfold z_max
    simp only [Int32.lt_iff_toInt_lt]
    split <;> rfl
  rw [h]
  exact ho
theorem q_abs (C : CX G A p m c cc nL s args own) {idx : Nat} {x : Int64} (hl : Cond.methodLink own idx Lib.MathLoose.abs_long.x ∈ GW) (hR : 1 ≤ R.frames ∧ (st.map fun v => v.category).sum + 13 ≤ R.locals) (hcs : nc ≤ R.cells ∧ ns ≤ R.slots) (hsz : ls.size = nL) (hdg : decode cc pc = .ok (.invokestatic idx, 3)) (kk : ∀ v : Int64, Sim G A nc ns p l e R s m args below meth c Q σ (kf v.toInt) (F0 m (pc + 3) ls (.long v :: st))) : Sim G A nc ns p l e R s m args below meth c Q σ (z_lk (if 0 < x.toInt then x.toInt else -x.toInt) kf) (F0 m pc ls (.long x :: st)) := by
  intro o ho H locs hP hS
  obtain ⟨q1, q2⟩ := lk_some ho
  refine va_mabs_long C.1 C.2.1 (C.2.2.1.trans hsz.symm) C.2.2.2.1 (C.2.2.2.2.1 _ hl) (C.2.2.2.2.1 _ ks_lib_abs) (C.2.2.2.2.1 _ kn_J9) (C.2.2.2.2.1 _ kc_lib_abs) hR.1 hR.2 hcs.1 hcs.2 hdg (kk (if 0 < x then x else -x) o ?_ H locs hP hS)
  have h : (if 0 < x then x else -x : Int64).toInt = if 0 < x.toInt then x.toInt else -x.toInt := by
    simp only [Int64.lt_iff_toInt_lt, Int64.toInt_zero]
    by_cases q : 0 < x.toInt
    · rw [if_pos q, if_pos q]
    · rw [if_neg q, if_neg q, Int64.toInt_neg]
      rw [if_neg q] at q1
      exact lR_b q1
  rw [h]
  exact q2
theorem q_copyi (C : CX G A p m c cc nL s args own) {idx k0 k1 n0 n1 : Nat} {sp dp n : Int32} (h0 : kdX k0 = 9) (hn0 : lnX k0 = n0) (h1 : kdX k1 = 9) (hn1 : lnX k1 = n1) (hl : Cond.methodLink own idx arraycopyName ∈ GW) (hR : 1 ≤ R.frames ∧ (st.map fun v => v.category).sum + (nativeFrameWords "java/lang/System" "arraycopy" 5 + 11) ≤ R.locals) (hsz : ls.size = nL) (hdg : decode cc pc = .ok (.invokestatic idx, 3)) (kk : Sim G A nc ns p l e R s m args below meth c Q (z_cp σ k0 k1 sp.toInt dp.toInt n.toInt) f (F0 m (pc + 3) ls st)) : Sim G A nc ns p l e R s m args below meth c Q σ (z_cpk sp.toInt dp.toInt n.toInt n0 n1 f) (F0 m pc ls (.int n :: .int dp :: .ref (gad G k1) :: .int sp :: .ref (gad G k0) :: st)) := by
  intro o ho H locs hP hS
  unfold z_cpk at ho
  by_cases q : 0 ≤ sp.toInt ∧ 0 ≤ dp.toInt ∧ 0 ≤ n.toInt ∧ sp.toInt + n.toInt ≤ n0 ∧ dp.toInt + n.toInt ≤ n1
  · rw [if_pos q] at ho
    obtain ⟨q1, q2, q3, q4, q5⟩ := q
    have nn : ∀ z : Int32, 0 ≤ z.toInt → ¬ z < 0 ∧ ((z.toNatClampNeg : Nat) : Int) = z.toInt := by
      intro z hz
      refine ⟨fun h => ?_, ?_⟩
      · rw [Int32.lt_iff_toInt_lt, Int32.toInt_zero] at h; omega
      · show ((z.toInt.toNat : Nat) : Int) = z.toInt
        omega
    have e1 := nn sp q1
    have e2 := nn dp q2
    have e3 := nn n q3
    refine va_copyi (D := gD G) C.1 C.2.1 (C.2.2.1.trans hsz.symm) C.2.2.2.1 (C.2.2.2.2.1 _ hl) (C.2.2.2.2.1 _ kv_lib_arraycopy) (C.2.2.2.2.1 _ ks_lib_arraycopy) (C.2.2.2.2.1 _ kn_J10) C.2.2.2.2.2.1.1 hP.1 (wd_D C.2.2.2.2.2.1 C.2.2.2.2.2.2) hS k0 k1 1 1 ((wd_at (kd_lt h0 (by omega))).trans (by rw [cf_9 h0, hn0])) ((wd_at (kd_lt h1 (by omega))).trans (by rw [cf_9 h1, hn1])) rfl rfl rfl e1.1 e2.1 e3.1 (by omega) (by omega) (fun i _ => rfl) hR.1 hR.2 hdg (fun H1 locs1 hP1 hD1 hS1 => ?_)
    rw [wd_set (σ' := z_cp σ k0 k1 sp.toInt dp.toInt n.toInt) (kd_lt h1 (by omega)) ?_ (fun k' h => by funext j; unfold z_cp; exact if_neg (fun z => h z.1))] at hP1
    · refine kk o ho H1 locs1 ⟨hP1, fun k j => ?_⟩ hS1
      unfold z_cp
      by_cases qq : k = k1 ∧ dp.toInt ≤ j ∧ j < dp.toInt + n.toInt
      · rw [if_pos qq, qq.1]
        exact ⟨(hP.2 k0 _).1, fun _ => (hP.2 k0 _).2 (by rw [h0]; decide)⟩
      · rw [if_neg qq]; exact hP.2 k j
    · rw [cf_9 h1, hn1]
      refine congrArg (fun g => Sum.inl (gcy G 1, n1, Sum.inl g)) (funext fun j => ?_)
      unfold va_cpy z_cp
      by_cases hj : dp.toNatClampNeg ≤ j ∧ j < dp.toNatClampNeg + n.toNatClampNeg
      · rw [if_pos ⟨rfl, by omega, by omega⟩, if_pos hj]
        refine congrArg (fun z => iZ (σ k0 z)) ?_
        omega
      · rw [if_neg (fun z => hj ⟨by omega, by omega⟩), if_neg hj]
  · rw [if_neg q] at ho; cases ho
theorem q_copyl (C : CX G A p m c cc nL s args own) {idx k0 k1 n0 n1 : Nat} {sp dp n : Int32} (h0 : kdX k0 = 10) (hn0 : lnX k0 = n0) (h1 : kdX k1 = 10) (hn1 : lnX k1 = n1) (hl : Cond.methodLink own idx arraycopyName ∈ GW) (hR : 1 ≤ R.frames ∧ (st.map fun v => v.category).sum + (nativeFrameWords "java/lang/System" "arraycopy" 5 + 11) ≤ R.locals) (hsz : ls.size = nL) (hdg : decode cc pc = .ok (.invokestatic idx, 3)) (kk : Sim G A nc ns p l e R s m args below meth c Q (z_cp σ k0 k1 sp.toInt dp.toInt n.toInt) f (F0 m (pc + 3) ls st)) : Sim G A nc ns p l e R s m args below meth c Q σ (z_cpk sp.toInt dp.toInt n.toInt n0 n1 f) (F0 m pc ls (.int n :: .int dp :: .ref (gad G k1) :: .int sp :: .ref (gad G k0) :: st)) := by
  intro o ho H locs hP hS
  unfold z_cpk at ho
  by_cases q : 0 ≤ sp.toInt ∧ 0 ≤ dp.toInt ∧ 0 ≤ n.toInt ∧ sp.toInt + n.toInt ≤ n0 ∧ dp.toInt + n.toInt ≤ n1
  · rw [if_pos q] at ho
    obtain ⟨q1, q2, q3, q4, q5⟩ := q
    have nn : ∀ z : Int32, 0 ≤ z.toInt → ¬ z < 0 ∧ ((z.toNatClampNeg : Nat) : Int) = z.toInt := by
      intro z hz
      refine ⟨fun h => ?_, ?_⟩
      · rw [Int32.lt_iff_toInt_lt, Int32.toInt_zero] at h; omega
      · show ((z.toInt.toNat : Nat) : Int) = z.toInt
        omega
    have e1 := nn sp q1
    have e2 := nn dp q2
    have e3 := nn n q3
    refine va_copyl (D := gD G) C.1 C.2.1 (C.2.2.1.trans hsz.symm) C.2.2.2.1 (C.2.2.2.2.1 _ hl) (C.2.2.2.2.1 _ kv_lib_arraycopy) (C.2.2.2.2.1 _ ks_lib_arraycopy) (C.2.2.2.2.1 _ kn_J10) C.2.2.2.2.2.1.1 hP.1 (wd_D C.2.2.2.2.2.1 C.2.2.2.2.2.2) hS k0 k1 2 2 ((wd_at (kd_lt h0 (by omega))).trans (by rw [cf_10 h0, hn0])) ((wd_at (kd_lt h1 (by omega))).trans (by rw [cf_10 h1, hn1])) rfl rfl rfl e1.1 e2.1 e3.1 (by omega) (by omega) (fun i _ => rfl) hR.1 hR.2 hdg (fun H1 locs1 hP1 hD1 hS1 => ?_)
    rw [wd_set (σ' := z_cp σ k0 k1 sp.toInt dp.toInt n.toInt) (kd_lt h1 (by omega)) ?_ (fun k' h => by funext j; unfold z_cp; exact if_neg (fun z => h z.1))] at hP1
    · refine kk o ho H1 locs1 ⟨hP1, fun k j => ?_⟩ hS1
      unfold z_cp
      by_cases qq : k = k1 ∧ dp.toInt ≤ j ∧ j < dp.toInt + n.toInt
      · rw [if_pos qq, qq.1]
        exact ⟨(hP.2 k0 _).1, fun _ => absurd h1 ‹_›⟩
      · rw [if_neg qq]; exact hP.2 k j
    · rw [cf_10 h1, hn1]
      refine congrArg (fun g => Sum.inl (gcy G 2, n1, Sum.inr (Sum.inl g))) (funext fun j => ?_)
      unfold va_cpy z_cp
      by_cases hj : dp.toNatClampNeg ≤ j ∧ j < dp.toNatClampNeg + n.toNatClampNeg
      · rw [if_pos ⟨rfl, by omega, by omega⟩, if_pos hj]
        refine congrArg (fun z => lZ (σ k0 z)) ?_
        omega
      · rw [if_neg (fun z => hj ⟨by omega, by omega⟩), if_neg hj]
  · rw [if_neg q] at ho; cases ho
end SG
