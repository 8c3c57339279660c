def vI (r : Int) (v : Option Value) : Prop := ∃ x : Int32, v = some (.int x) ∧ x.toInt = r
def vL (r : Int) (v : Option Value) : Prop := ∃ x : Int64, v = some (.long x) ∧ x.toInt = r
def vV (v : Option Value) : Prop := v = none
def vA (G : GG) (r : Option Nat) (v : Option Value) : Prop := v = some (va_rf (r.map (gad G)))
def vS (G : GG) (t : Nat) (v : Option Value) : Prop := t < 13 ∧ v = some (.ref (gak G t))
def QC (G : GG) (vo : Option Value → Prop) (σ' : St) : Array Value → State → Outcome → State → Prop := fun _ st oc t => (∃ v, oc = .returned v ∧ vo v ∧ PH G σ' t.heap) ∧ va_F (AG G) st t
def MC (G : GG) (l : Launch) (y : MethodName) (cd : ByteArray) (mL : Nat) (rt : Option FieldType) (rm : Room) (As : List Value) (σ : St) (vo : Option Value → Prop) (σ' : St) : Prop :=
  Met l y (Cond.code y cd mL rt :: GW) rm (fun v U => v = As.toArray ∧ KX G (AG G) U ∧ PH G σ U.heap) (QC G vo σ') 0 0 (AG G)
/-- a contract out of a walk -/
theorem MC_of {G : GG} {l : Launch} {y : MethodName} {cd : ByteArray} {mL : Nat} {rt : Option FieldType} {fr lo : Nat} {As : List Value} {σ : St} {α : Type} (vo : α → Option Value → Prop) (so : α → St) {f : Option α} {own : String} (hy : plainName y.cls = true) (how : y.cls = own) (hA : (lg_sl As).length ≤ mL)
    (body : ∀ (p : Program) (e : Env) (s : State) (m : MethodId) (args : Array Value) (below : List Frame) (meth : Method) (c : Code), CX G (AG G) p m c cd mL s args own → meth.sig.returnType = rt → meth.locks = false → ∀ ls : Array Slot, lv_has ls mL (lv_args 0 As) → Sim G (AG G) 0 0 p l e { frames := fr, cells := 0, slots := 0, locals := lo } s m args below meth c (fun r => MQ below (QC G (vo r) (so r)) args s 0 0 (AG G)) σ f (F0 m 0 ls [])) :
    ∀ r, f = some r → MC G l y cd mL rt { frames := fr, cells := 0, slots := 0, locals := lo } As σ (vo r) (so r) := by
  intro r hr
  refine Met.ofW (cc := cd) (maxL := mL) (ret := rt) hy rfl ?_
  intro p e s m args below meth c s₁ B hml hv
  obtain ⟨rfl, hK, hP⟩ := hv
  have hts := atoms_spec (ws := Cond.code y cd mL rt :: GW) B.pre
  have hown : s.vm.findClass own = some m.cls := by rw [← how]; exact findClass_of_methodNamed B.named
  have hl := lv_entry As (n := mL) hA
  rw [lg_entry_eq]
  exact body p e s m As.toArray below meth c ⟨B.exec, B.bytes, hml, hown, fun w hw => hts w (List.mem_cons_of_mem _ hw), hK, fun _ h => h⟩ B.returns B.notSynchronized _ hl r hr s.heap [] hP va_S.rf
theorem MC_blind {G : GG} {As : List Value} {σ : St} : FrameBlind (fun v U => v = As.toArray ∧ KX G (AG G) U ∧ PH G σ U.heap) := fun a U g mk q => ⟨q.1, KX_same (u := U) (U := U.calling g mk a) rfl rfl q.2.1, q.2.2⟩
/-- what a caller needs of a method's words -/
def CB (y : MethodName) (cd : ByteArray) (mL : Nat) (rt : Option FieldType) (n : Nat) : Prop := Cond.instanceMethod y ∈ GW ∧ Cond.selects y.cls y y ∈ GW ∧ Cond.initialized y.cls ∈ GW ∧ Cond.code y cd mL rt ∈ GW ∧ y.cls ≠ "java/lang/invoke/MethodHandle" ∧ y.cls ≠ "java/lang/invoke/VarHandle" ∧ (parseMethodDescriptor y.desc).map (fun d => d.parameters.length) = some n
def SB (y : MethodName) (cd : ByteArray) (mL : Nat) (rt : Option FieldType) (n : Nat) : Prop := Cond.static y ∈ GW ∧ Cond.initialized y.cls ∈ GW ∧ Cond.code y cd mL rt ∈ GW ∧ y.cls ≠ "java/lang/invoke/MethodHandle" ∧ y.cls ≠ "java/lang/invoke/VarHandle" ∧ (parseMethodDescriptor y.desc).map (fun d => d.parameters.length) = some n
section SC
variable {G : GG} {A : Nat → Prop} {nc ns : Nat} {p : Program} {l : Launch} {e : Env} {R : Room} {s : State} {m : MethodId} {args : Array Value} {below : List Frame} {meth : Method} {c : Code} {α : Type} {Q : α → State → Prop} {σ : St} {cc : ByteArray} {nL : Nat} {own : String} {pc : Nat} {ls : Array Slot} {st : List Value} {f f1 f2 : Option α} {kf : Int → Option α}
/-- a call that comes back -/
def CR (G : GG) (A : Nat → Prop) (nc ns : Nat) (p : Program) (l : Launch) (e : Env) (R : Room) (s : State) (m : MethodId) (args : Array Value) (below : List Frame) (meth : Method) (c : Code) (σ : St) (g : JFrame) (rest : List Value) (vo : Option Value → Prop) (σ' : St) : Prop :=
  ∀ (H : Heap) (locs : List Loc), PH G σ H → va_S A s.heap H locs → ∃ a : Array Value, va_Run p l e R s m args below meth c H locs nc ns 0 0 g rest (QC G vo σ' a) (AG G)
/-- how it goes on -/
theorem CR_go {σ' : St} {g2 : JFrame} {rest : List Value} {vo : Option Value → Prop} {pc : Nat} {st0 : List Value} (hA : ∀ q, AG G q → A q) (h : CR G A nc ns p l e R s m args below meth c σ (F0 m pc ls st0) rest vo σ') {o : α} {H : Heap} {locs : List Loc} (hP : PH G σ H) (hS : va_S A s.heap H locs)
    (kk : ∀ (v : Option Value) (H1 : Heap) (locs1 : List Loc), vo v → PH G σ' H1 → va_S A s.heap H1 locs1 → W p l e R s m args below meth c H1 locs1 nc ns (Q o) (F0 m (pc + 3) ls (v.toList ++ rest))) : W p l e R s m args below meth c H locs nc ns (Q o) (F0 m pc ls st0) := by
  obtain ⟨a, hr⟩ := h H locs hP hS
  intro T hT X
  obtain ⟨v, st₀, t, T', L, h0, X', hL, e1, e2, ⟨⟨v2, hv, hvo, hb⟩, hz, hk⟩, stp⟩ := hr T hT X
  cases hv
  rw [h0] at hz hk
  obtain ⟨t2, a1, b1⟩ := kk v T'.heap (locs ++ L) hvo (by rw [e1]; exact hb)
    ⟨Nat.le_trans hS.1 (by rw [e1]; exact hz), fun q h1 h2 => by rw [e1, hk q (Nat.lt_of_lt_of_le h1 hS.1) (fun z => h2 (hA q z))]; exact hS.2.1 q h1 h2, fun q hq => by
      rcases List.mem_append.mp hq with h | h
      · exact hS.2.2 q h
      · exact hA _ (hL q h)⟩ T' rfl X'
  exact ⟨t2, stp t2 a1, b1⟩
theorem cr_V (C : CX G A p m c cc nL s args own) {y : MethodName} {cd : ByteArray} {mL : Nat} {rt : Option FieldType} {n fr lo idx : Nat} {As rest : List Value} {vo : Option Value → Prop} {σ' : St} {k ci N : Nat} {Cn : String} {T : u_T} {fs : List Value} (hM : MC G l y cd mL rt { frames := fr, cells := 0, slots := 0, locals := lo } (.ref (gad G k) :: As) σ vo σ') (B : CB y cd mL rt n) (hk : kdX k = ci) (hlt : ci < 99) (hc : clsX[ci]? = some (Cn, T, N)) (he : cfX G k (σ k) = .inr (ci, fs)) (hy : y.cls = Cn) (w1 : Cond.methodLink own idx y ∈ GW) (hR : fr + 1 ≤ R.frames ∧ 8 + (mL + 11) + lo ≤ R.locals) (hcs : nc ≤ R.cells ∧ ns ≤ R.slots) (hsz : ls.size = nL) (hn : As.length = n) (hW : (rest.map fun v => v.category).sum ≤ 8) (hdg : decode cc pc = .ok (.invokevirtual idx, 3)) {st0 : List Value} (hst : st0 = As.reverse ++ .ref (gad G k) :: rest) : CR G A nc ns p l e R s m args below meth c σ (F0 m pc ls st0) rest vo σ' := by
  subst hst
  intro H locs hP hS
  have hg : GoodIn GW (wsV own idx y.cls y (Cond.code y cd mL rt :: GW)) := good_gw (fun w h => by
    unfold wsV at h
    simp only [List.mem_append, List.mem_cons, List.not_mem_nil, or_false] at h
    rcases h with (rfl | rfl | rfl | rfl) | (rfl | h)
    · exact w1
    · exact B.1
    · exact B.2.1
    · exact B.2.2.1
    · exact B.2.2.2.1
    · exact h)
  have hrc := va_recv C.2.2.2.2.2.1.1 hP.1 (ci := ci) (q0 := k) hc ((wd_at (kd_lt hk hlt)).trans (by rw [he]))
  refine ⟨_, va_runV (As := As) (rest := rest) (C := y.cls) ⟨C.1, C.2.1, C.2.2.1, C.2.2.2.1, C.2.2.2.2.1⟩ hM (cwV n C.2.2.2.2.1 hg rfl rfl rfl ⟨rfl, B.2.2.2.2⟩ hR) ⟨MC_blind, by rw [hy]; exact hrc, fun U hU hW => ⟨rfl, KX_call C.2.2.2.2.2.1 hS C.2.2.2.2.2.2 hU hW, by rw [hU]; exact hP⟩⟩ rfl hn hsz rfl (lv_room hW) hdg ⟨hcs.1, hcs.2⟩⟩
theorem cr_S (C : CX G A p m c cc nL s args own) {y : MethodName} {cd : ByteArray} {mL : Nat} {rt : Option FieldType} {n fr lo idx : Nat} {As rest : List Value} {vo : Option Value → Prop} {σ' : St} (hM : MC G l y cd mL rt { frames := fr, cells := 0, slots := 0, locals := lo } As σ vo σ') (B : SB y cd mL rt n) (w1 : Cond.methodLink own idx y ∈ GW) (hR : fr + 1 ≤ R.frames ∧ 8 + (mL + 11) + lo ≤ R.locals) (hcs : nc ≤ R.cells ∧ ns ≤ R.slots) (hsz : ls.size = nL) (hn : As.length = n) (hW : (rest.map fun v => v.category).sum ≤ 8) (hdg : decode cc pc = .ok (.invokestatic idx, 3)) {st0 : List Value} (hst : st0 = As.reverse ++ rest) : CR G A nc ns p l e R s m args below meth c σ (F0 m pc ls st0) rest vo σ' := by
  subst hst
  intro H locs hP hS
  have hg : GoodIn GW (va_wsS own idx y (Cond.code y cd mL rt :: GW)) := good_gw (fun w h => by
    unfold va_wsS at h
    simp only [List.mem_append, List.mem_cons, List.not_mem_nil, or_false] at h
    rcases h with (rfl | rfl | rfl) | (rfl | h)
    · exact w1
    · exact B.1
    · exact B.2.1
    · exact B.2.2.1
    · exact h)
  exact ⟨_, va_runS (As := As) (rest := rest) ⟨C.1, C.2.1, C.2.2.1, C.2.2.2.1, C.2.2.2.2.1⟩ hM (va_cwS n C.2.2.2.2.1 hg rfl rfl rfl B.2.2.2 hR) ⟨MC_blind, fun U hU hW => ⟨rfl, KX_call C.2.2.2.2.2.1 hS C.2.2.2.2.2.2 hU hW, by rw [hU]; exact hP⟩⟩ rfl hn hsz rfl (lv_room hW) hdg ⟨hcs.1, hcs.2⟩⟩
theorem cr_SN (C : CX G A p m c cc nL s args own) {y : MethodName} {cd : ByteArray} {mL : Nat} {rt : Option FieldType} {n fr lo idx : Nat} {As rest : List Value} {vo : Option Value → Prop} {σ' : St} {host : String} (hM : MC G l y cd mL rt { frames := fr, cells := 0, slots := 0, locals := lo } As σ vo σ') (B : SB y cd mL rt n) (w1 : Cond.methodLinkNest own idx y host ∈ nwX) (hR : fr + 1 ≤ R.frames ∧ 8 + (mL + 11) + lo ≤ R.locals) (hcs : nc ≤ R.cells ∧ ns ≤ R.slots) (hsz : ls.size = nL) (hn : As.length = n) (hW : (rest.map fun v => v.category).sum ≤ 8) (hdg : decode cc pc = .ok (.invokestatic idx, 3)) {st0 : List Value} (hst : st0 = As.reverse ++ rest) : CR G A nc ns p l e R s m args below meth c σ (F0 m pc ls st0) rest vo σ' := by
  subst hst
  intro H locs hP hS
  have hg : GoodIn GW (Cond.code y cd mL rt :: GW) := good_gw (fun w h => by
    simp only [List.mem_cons] at h
    rcases h with rfl | h
    · exact B.2.2.1
    · exact h)
  exact ⟨_, va_runSN (As := As) (rest := rest) (host := host) ⟨C.1, C.2.1, C.2.2.1, C.2.2.2.1, C.2.2.2.2.1⟩ hM ⟨va_cnB n C.2.2.2.2.1 hg rfl rfl rfl (C.2.2.2.2.2.1.2.2.1 _ w1) (C.2.2.2.2.1 _ B.2.1) B.2.2.2 hR, C.2.2.2.2.1 _ B.1, trivial⟩ ⟨MC_blind, fun U hU hW => ⟨rfl, KX_call C.2.2.2.2.2.1 hS C.2.2.2.2.2.2 hU hW, by rw [hU]; exact hP⟩⟩ rfl hn hsz rfl (lv_room hW) hdg ⟨hcs.1, hcs.2⟩⟩
theorem cr_VS (C : CX G A p m c cc nL s args own) {y : MethodName} {cd : ByteArray} {mL : Nat} {rt : Option FieldType} {n fr lo idx : Nat} {As rest : List Value} {vo : Option Value → Prop} {σ' : St} {t : Nat} (hM : MC G l y cd mL rt { frames := fr, cells := 0, slots := 0, locals := lo } (.ref (gak G t) :: As) σ vo σ') (ht : t < 13) (B : CB y cd mL rt n) (hy : y.cls = "java/lang/String") (w1 : Cond.methodLink own idx y ∈ GW) (hR : fr + 1 ≤ R.frames ∧ 8 + (mL + 11) + lo ≤ R.locals) (hcs : nc ≤ R.cells ∧ ns ≤ R.slots) (hsz : ls.size = nL) (hn : As.length = n) (hW : (rest.map fun v => v.category).sum ≤ 8) (hdg : decode cc pc = .ok (.invokevirtual idx, 3)) {st0 : List Value} (hst : st0 = As.reverse ++ .ref (gak G t) :: rest) : CR G A nc ns p l e R s m args below meth c σ (F0 m pc ls st0) rest vo σ' := by
  subst hst
  intro H locs hP hS
  have hg : GoodIn GW (wsV own idx y.cls y (Cond.code y cd mL rt :: GW)) := good_gw (fun w h => by
    unfold wsV at h
    simp only [List.mem_append, List.mem_cons, List.not_mem_nil, or_false] at h
    rcases h with (rfl | rfl | rfl | rfl) | (rfl | h)
    · exact w1
    · exact B.1
    · exact B.2.1
    · exact B.2.2.1
    · exact B.2.2.2.1
    · exact h)
  obtain ⟨cell, g1, g2, g3, -⟩ := (C.2.2.2.2.2.1.2.2.2.2.2.2.2.1 t ht).1.kept hS.2.1
  refine ⟨_, va_runV (As := As) (rest := rest) (C := y.cls) ⟨C.1, C.2.1, C.2.2.1, C.2.2.2.1, C.2.2.2.2.1⟩ hM (cwV n C.2.2.2.2.1 hg rfl rfl rfl ⟨rfl, B.2.2.2.2⟩ hR) ⟨MC_blind, ⟨cell, g1, g2, by rw [hy]; exact g3⟩, fun U hU hW => ⟨rfl, KX_call C.2.2.2.2.2.1 hS C.2.2.2.2.2.2 hU hW, by rw [hU]; exact hP⟩⟩ rfl hn hsz rfl (lv_room hW) hdg ⟨hcs.1, hcs.2⟩⟩
def z_c1 {β γ : Type} (fc : Option β) (k : β → Option γ) : Option γ := match fc with
  | some q => k q
  | none => none
def z_c2 {β δ γ : Type} (fc : Option (β × δ)) (k : β → δ → Option γ) : Option γ := match fc with
  | some q => k q.1 q.2
  | none => none
def z_ca {γ : Type} (fc : Option (Option Nat)) (f0 : Option γ) (k : Nat → Option γ) : Option γ := match fc with
  | some (some q) => k q
  | some none => f0
  | none => none
def z_cb {γ : Type} (fc : Option (Option Nat × St)) (f0 : St → Option γ) (k : Nat → St → Option γ) : Option γ := match fc with
  | some (some q, σ) => k q σ
  | some (none, σ) => f0 σ
  | none => none
theorem c1_some {β γ : Type} {fc : Option β} {k : β → Option γ} {o : γ} (h : z_c1 fc k = some o) : ∃ q, fc = some q ∧ k q = some o := by
  cases fc with
  | none => cases h
  | some q => exact ⟨q, rfl, h⟩
theorem c2_some {β δ γ : Type} {fc : Option (β × δ)} {k : β → δ → Option γ} {o : γ} (h : z_c2 fc k = some o) : ∃ q, fc = some q ∧ k q.1 q.2 = some o := by
  cases fc with
  | none => cases h
  | some q => exact ⟨q, rfl, h⟩
theorem q_c1i (C : CX G A p m c cc nL s args own) {fc : Option Int} {st0 rest : List Value} (h : ∀ r, fc = some r → CR G A nc ns p l e R s m args below meth c σ (F0 m pc ls st0) rest (vI r) σ) (kk : ∀ x : Int32, Sim G A nc ns p l e R s m args below meth c Q σ (kf x.toInt) (F0 m (pc + 3) ls (.int x :: rest))) : Sim G A nc ns p l e R s m args below meth c Q σ (z_c1 fc kf) (F0 m pc ls st0) := by
  intro o ho H locs hP hS
  obtain ⟨q, hq, ho⟩ := c1_some ho
  refine CR_go (g2 := F0 m pc ls st0) C.2.2.2.2.2.2 (h q hq) hP hS (fun v H1 locs1 hv hP1 hS1 => ?_)
  obtain ⟨x, rfl, hx⟩ := hv
  exact kk x o (by rw [hx]; exact ho) H1 locs1 hP1 hS1
theorem q_c2i (C : CX G A p m c cc nL s args own) {fc : Option (Int × St)} {k2 : Int → St → Option α} {st0 rest : List Value} (h : ∀ r, fc = some r → CR G A nc ns p l e R s m args below meth c σ (F0 m pc ls st0) rest (vI r.1) r.2) (kk : ∀ (x : Int32) (σ' : St), Sim G A nc ns p l e R s m args below meth c Q σ' (k2 x.toInt σ') (F0 m (pc + 3) ls (.int x :: rest))) : Sim G A nc ns p l e R s m args below meth c Q σ (z_c2 fc k2) (F0 m pc ls st0) := by
  intro o ho H locs hP hS
  obtain ⟨q, hq, ho⟩ := c2_some ho
  refine CR_go (g2 := F0 m pc ls st0) C.2.2.2.2.2.2 (h q hq) hP hS (fun v H1 locs1 hv hP1 hS1 => ?_)
  obtain ⟨x, rfl, hx⟩ := hv
  exact kk x q.2 o (by rw [hx]; exact ho) H1 locs1 hP1 hS1
theorem q_c1l (C : CX G A p m c cc nL s args own) {fc : Option Int} {st0 rest : List Value} (h : ∀ r, fc = some r → CR G A nc ns p l e R s m args below meth c σ (F0 m pc ls st0) rest (vL r) σ) (kk : ∀ x : Int64, Sim G A nc ns p l e R s m args below meth c Q σ (kf x.toInt) (F0 m (pc + 3) ls (.long x :: rest))) : Sim G A nc ns p l e R s m args below meth c Q σ (z_c1 fc kf) (F0 m pc ls st0) := by
  intro o ho H locs hP hS
  obtain ⟨q, hq, ho⟩ := c1_some ho
  refine CR_go (g2 := F0 m pc ls st0) C.2.2.2.2.2.2 (h q hq) hP hS (fun v H1 locs1 hv hP1 hS1 => ?_)
  obtain ⟨x, rfl, hx⟩ := hv
  exact kk x o (by rw [hx]; exact ho) H1 locs1 hP1 hS1
theorem q_c2l (C : CX G A p m c cc nL s args own) {fc : Option (Int × St)} {k2 : Int → St → Option α} {st0 rest : List Value} (h : ∀ r, fc = some r → CR G A nc ns p l e R s m args below meth c σ (F0 m pc ls st0) rest (vL r.1) r.2) (kk : ∀ (x : Int64) (σ' : St), Sim G A nc ns p l e R s m args below meth c Q σ' (k2 x.toInt σ') (F0 m (pc + 3) ls (.long x :: rest))) : Sim G A nc ns p l e R s m args below meth c Q σ (z_c2 fc k2) (F0 m pc ls st0) := by
  intro o ho H locs hP hS
  obtain ⟨q, hq, ho⟩ := c2_some ho
  refine CR_go (g2 := F0 m pc ls st0) C.2.2.2.2.2.2 (h q hq) hP hS (fun v H1 locs1 hv hP1 hS1 => ?_)
  obtain ⟨x, rfl, hx⟩ := hv
  exact kk x q.2 o (by rw [hx]; exact ho) H1 locs1 hP1 hS1
theorem q_cv (C : CX G A p m c cc nL s args own) {fc : Option St} {k2 : St → Option α} {st0 rest : List Value} (h : ∀ r, fc = some r → CR G A nc ns p l e R s m args below meth c σ (F0 m pc ls st0) rest vV r) (kk : ∀ σ' : St, Sim G A nc ns p l e R s m args below meth c Q σ' (k2 σ') (F0 m (pc + 3) ls rest)) : Sim G A nc ns p l e R s m args below meth c Q σ (z_c1 fc k2) (F0 m pc ls st0) := by
  intro o ho H locs hP hS
  obtain ⟨q, hq, ho⟩ := c1_some ho
  refine CR_go (g2 := F0 m pc ls st0) C.2.2.2.2.2.2 (h q hq) hP hS (fun v H1 locs1 hv hP1 hS1 => ?_)
  cases hv
  exact kk q o ho H1 locs1 hP1 hS1
theorem q_cu (C : CX G A p m c cc nL s args own) {fc : Option Unit} {k2 : Unit → Option α} {st0 rest : List Value} (h : ∀ r, fc = some r → CR G A nc ns p l e R s m args below meth c σ (F0 m pc ls st0) rest vV σ) (kk : Sim G A nc ns p l e R s m args below meth c Q σ (k2 ()) (F0 m (pc + 3) ls rest)) : Sim G A nc ns p l e R s m args below meth c Q σ (z_c1 fc k2) (F0 m pc ls st0) := by
  intro o ho H locs hP hS
  obtain ⟨q, hq, ho⟩ := c1_some ho
  refine CR_go (g2 := F0 m pc ls st0) C.2.2.2.2.2.2 (h q hq) hP hS (fun v H1 locs1 hv hP1 hS1 => ?_)
  cases hv
  exact kk o ho H1 locs1 hP1 hS1
theorem q_cs (C : CX G A p m c cc nL s args own) {fc : Option Nat} {k2 : Nat → Option α} {st0 rest : List Value} (h : ∀ r, fc = some r → CR G A nc ns p l e R s m args below meth c σ (F0 m pc ls st0) rest (vS G r) σ) (kk : ∀ t : Nat, t < 13 → Sim G A nc ns p l e R s m args below meth c Q σ (k2 t) (F0 m (pc + 3) ls (.ref (gak G t) :: rest))) : Sim G A nc ns p l e R s m args below meth c Q σ (z_c1 fc k2) (F0 m pc ls st0) := by
  intro o ho H locs hP hS
  obtain ⟨q, hq, ho⟩ := c1_some ho
  refine CR_go (g2 := F0 m pc ls st0) C.2.2.2.2.2.2 (h q hq) hP hS (fun v H1 locs1 hv hP1 hS1 => ?_)
  obtain ⟨ht, rfl⟩ := hv
  exact kk q ht o ho H1 locs1 hP1 hS1
theorem q_ca (C : CX G A p m c cc nL s args own) {fc : Option (Option Nat)} {f0 : Option α} {k2 : Nat → Option α} {st0 rest : List Value} (h : ∀ r, fc = some r → CR G A nc ns p l e R s m args below meth c σ (F0 m pc ls st0) rest (vA G r) σ) (k0 : Sim G A nc ns p l e R s m args below meth c Q σ f0 (F0 m (pc + 3) ls (.null :: rest))) (kk : ∀ t : Nat, Sim G A nc ns p l e R s m args below meth c Q σ (k2 t) (F0 m (pc + 3) ls (.ref (gad G t) :: rest))) : Sim G A nc ns p l e R s m args below meth c Q σ (z_ca fc f0 k2) (F0 m pc ls st0) := by
  intro o ho H locs hP hS
  cases hc : fc with
  | none => rw [hc] at ho; cases ho
  | some r =>
    refine CR_go (g2 := F0 m pc ls st0) C.2.2.2.2.2.2 (h r hc) hP hS (fun v H1 locs1 hv hP1 hS1 => ?_)
    cases hv
    rw [hc] at ho
    cases r with
    | none => exact k0 o ho H1 locs1 hP1 hS1
    | some q => exact kk q o ho H1 locs1 hP1 hS1
theorem q_cb (C : CX G A p m c cc nL s args own) {fc : Option (Option Nat × St)} {f0 : St → Option α} {k2 : Nat → St → Option α} {st0 rest : List Value} (h : ∀ r, fc = some r → CR G A nc ns p l e R s m args below meth c σ (F0 m pc ls st0) rest (vA G r.1) r.2) (k0 : ∀ σ', Sim G A nc ns p l e R s m args below meth c Q σ' (f0 σ') (F0 m (pc + 3) ls (.null :: rest))) (kk : ∀ (t : Nat) (σ' : St), Sim G A nc ns p l e R s m args below meth c Q σ' (k2 t σ') (F0 m (pc + 3) ls (.ref (gad G t) :: rest))) : Sim G A nc ns p l e R s m args below meth c Q σ (z_cb fc f0 k2) (F0 m pc ls st0) := by
  intro o ho H locs hP hS
  cases hc : fc with
  | none => rw [hc] at ho; cases ho
  | some r =>
    refine CR_go (g2 := F0 m pc ls st0) C.2.2.2.2.2.2 (h r hc) hP hS (fun v H1 locs1 hv hP1 hS1 => ?_)
    cases hv
    rw [hc] at ho
    obtain ⟨r, σ'⟩ := r
    cases r with
    | none => exact k0 σ' o ho H1 locs1 hP1 hS1
    | some q => exact kk q σ' o ho H1 locs1 hP1 hS1
def z_ob {γ : Type} (ci k : Nat) (f : Option γ) : Option γ := if kdX k = ci then f else none
theorem q_ob {ci k : Nat} {g : JFrame} (kk : kdX k = ci → Sim G A nc ns p l e R s m args below meth c Q σ f g) : Sim G A nc ns p l e R s m args below meth c Q σ (z_ob ci k f) g := by
  intro o ho
  unfold z_ob at ho
  by_cases q : kdX k = ci
  · rw [if_pos q] at ho; exact kk q o ho
  · rw [if_neg q] at ho; cases ho
def z_st {γ : Type} (t : Nat) (f : Option γ) : Option γ := if t < 13 then f else none
theorem q_st {t : Nat} {g : JFrame} (kk : t < 13 → Sim G A nc ns p l e R s m args below meth c Q σ f g) : Sim G A nc ns p l e R s m args below meth c Q σ (z_st t f) g := by
  intro o ho
  unfold z_st at ho
  by_cases q : t < 13
  · rw [if_pos q] at ho; exact kk q o ho
  · rw [if_neg q] at ho; cases ho
theorem q_ite {P : Prop} {g : JFrame} (h1 : P → Sim G A nc ns p l e R s m args below meth c Q σ f1 g) (h2 : ¬ P → Sim G A nc ns p l e R s m args below meth c Q σ f2 g) : ∀ (d : Decidable P), Sim G A nc ns p l e R s m args below meth c Q σ (@ite (Option α) P d f1 f2) g := by
  intro d o ho
  by_cases q : P
  · rw [if_pos q] at ho; exact h1 q o ho
  · rw [if_neg q] at ho; exact h2 q o ho
theorem q_tin (C : CX G A p m c cc nL s args own) {dflt lo hi off i : Int} {offs : Array Int} {len : Nat} {x : Int32} (tgt : Nat) (hi2 : x.toInt = i) (hdg : decode cc pc = .ok (.tableswitch dflt lo hi offs, len)) (h1 : ¬ i < lo) (h2 : ¬ hi < i) (hx : offs[(i - lo).toNat]? = some off) (ht : (pc : Int) + off = (tgt : Int)) (kk : Sim G A nc ns p l e R s m args below meth c Q σ f (F0 m tgt ls st)) : Sim G A nc ns p l e R s m args below meth c Q σ f (F0 m pc ls (.int x :: st)) := fun o ho H locs hP hS => lv_tableIn C.1 C.2.1 hdg (by rw [hi2]; exact h1) (by rw [hi2]; exact h2) (by rw [hi2]; exact hx) ht (kk o ho H locs hP hS)
theorem q_tout (C : CX G A p m c cc nL s args own) {dflt lo hi : Int} {offs : Array Int} {len : Nat} {x : Int32} (tgt : Nat) (hdg : decode cc pc = .ok (.tableswitch dflt lo hi offs, len)) (h : x.toInt < lo ∨ hi < x.toInt) (ht : (pc : Int) + dflt = (tgt : Int)) (kk : Sim G A nc ns p l e R s m args below meth c Q σ f (F0 m tgt ls st)) : Sim G A nc ns p l e R s m args below meth c Q σ f (F0 m pc ls (.int x :: st)) := fun o ho H locs hP hS => lv_tableOut C.1 C.2.1 hdg h ht (kk o ho H locs hP hS)
theorem q_ifnull (C : CX G A p m c cc nL s args own) {x : Nat} {off : Int} (hdg : decode cc pc = .ok (.ifnull off, 3)) (kk : Sim G A nc ns p l e R s m args below meth c Q σ f (F0 m (pc + 3) ls st)) : Sim G A nc ns p l e R s m args below meth c Q σ f (F0 m pc ls (.ref x :: st)) := fun o ho H locs hP hS => lv_ifnull C.1 C.2.1 hdg (kk o ho H locs hP hS)
theorem q_ifnullN (C : CX G A p m c cc nL s args own) {off : Int} (tgt : Nat) (hdg : decode cc pc = .ok (.ifnull off, 3)) (ht : (pc : Int) + off = (tgt : Int)) (kk : Sim G A nc ns p l e R s m args below meth c Q σ f (F0 m tgt ls st)) : Sim G A nc ns p l e R s m args below meth c Q σ f (F0 m pc ls (.null :: st)) := fun o ho H locs hP hS => lv_ifnullN C.1 C.2.1 hdg ht (kk o ho H locs hP hS)
theorem q_ifnonnull (C : CX G A p m c cc nL s args own) {x : Nat} {off : Int} (tgt : Nat) (hdg : decode cc pc = .ok (.ifnonnull off, 3)) (ht : (pc : Int) + off = (tgt : Int)) (kk : Sim G A nc ns p l e R s m args below meth c Q σ f (F0 m tgt ls st)) : Sim G A nc ns p l e R s m args below meth c Q σ f (F0 m pc ls (.ref x :: st)) := fun o ho H locs hP hS => lv_ifnonnull C.1 C.2.1 hdg ht (kk o ho H locs hP hS)
theorem q_ifnonnullN (C : CX G A p m c cc nL s args own) {off : Int} (hdg : decode cc pc = .ok (.ifnonnull off, 3)) (kk : Sim G A nc ns p l e R s m args below meth c Q σ f (F0 m (pc + 3) ls st)) : Sim G A nc ns p l e R s m args below meth c Q σ f (F0 m pc ls (.null :: st)) := fun o ho H locs hP hS => lv_ifnonnullN C.1 C.2.1 hdg (kk o ho H locs hP hS)
theorem q_aload_nN (C : CX G A p m c cc nL s args own) {k : Fin 4} {i : Nat} (hdg : decode cc pc = .ok (.aload_n k, 1)) (hi : (k : Nat) = i) (hl : ls[i]? = some (.val .null)) (kk : Sim G A nc ns p l e R s m args below meth c Q σ f (F0 m (pc + 1) ls (.null :: st))) : Sim G A nc ns p l e R s m args below meth c Q σ f (F0 m pc ls st) := fun o ho H locs hP hS => lv_aload_nN C.1 C.2.1 hdg hi hl (kk o ho H locs hP hS)
theorem q_astore_nN (C : CX G A p m c cc nL s args own) {k : Fin 4} {i : Nat} {lv : List (Nat × Value)} (lv' : List (Nat × Value)) (hdg : decode cc pc = .ok (.astore_n k, 1)) (hi : (k : Nat) = i) (h : lv_has ls nL lv) (hn : i < nL) (hl : (i, Value.null) :: lv.filter (fun q => !(q.1 == i) && !(q.1 + 1 == i && q.2.category == 2)) = lv') (kk : ∀ ls2 : Array Slot, lv_has ls2 nL lv' → Sim G A nc ns p l e R s m args below meth c Q σ f (F0 m (pc + 1) ls2 st)) : Sim G A nc ns p l e R s m args below meth c Q σ f (F0 m pc ls (.null :: st)) := fun o ho H locs hP hS => lv_astore_nN C.1 C.2.1 hdg hi h hn hl (fun ls2 h2 => kk ls2 h2 o ho H locs hP hS)
end SC
