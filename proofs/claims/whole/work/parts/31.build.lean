def iniX (k : Nat) (j : Int) : Int := if kdX k = 2 ∧ j = 2 then -1 else if kdX k = 3 ∧ j = 4 then -1 else if kdX k = 7 ∧ j = 13 then -1 else if k = 255 ∧ 0 ≤ j ∧ j < 4 then -1 else 0
def Bw (G : GG) (z b k : Nat) (en : Nat → va_E) (H : Heap) : Prop := H.size = z + b + k ∧ ∀ i, i < k → va_at (gD G) clsX (z + b + i, en i) H
def KB (G : GG) (U : State) : Prop := va_K (gD G) clsX (tysX G) U ∧ (∀ w ∈ nwX, va_Nw w U) ∧ va_AO RX1 U ∧ va_AO RX4 U ∧ va_AO RX5 U
theorem KB_call {G : GG} {s U : State} (h : KB G s) (hW : s.WarmedH U.vm) : KB G U := ⟨va_K.moved hW.alike h.1, nw_warm hW h.2.1, va_AO.moved hW.alike h.2.2.1, va_AO.moved hW.alike h.2.2.2.1, va_AO.moved hW.alike h.2.2.2.2⟩
theorem KB_same {G : GG} {u U : State} (hv : u.vm = U.vm) (h : KB G u) : KB G U := by
  have ha : u.vm.Alike U.vm := by rw [hv]; exact Vm.Alike.refl U.vm
  exact ⟨va_K.moved ha h.1, nw_same hv h.2.1, va_AO.moved ha h.2.2.1, va_AO.moved ha h.2.2.2.1, va_AO.moved ha h.2.2.2.2⟩
def CXB (G : GG) (p : Program) (m : MethodId) (c : Code) (cc : ByteArray) (nL : Nat) (s : State) (args : Array Value) (own : String) : Prop :=
  p.tables.exec = Jvm.exec ∧ c.code = cc ∧ c.maxLocals = nL ∧ s.vm.findClass own = some m.cls ∧ (∀ w ∈ GW, w.before args s = true) ∧ KB G s
def AB (z b : Nat) : Nat → Prop := fun q => z + b ≤ q
def Bs (G : GG) (z b : Nat) (p : Program) (l : Launch) (e : Env) (R : Room) (s : State) (m : MethodId) (args : Array Value) (below : List Frame) (meth : Method) (c : Code) (cells slots : Nat) (Q : State → Prop) (k : Nat) (en : Nat → va_E) (g : JFrame) : Prop :=
  ∀ (H : Heap) (locs : List Loc), Bw G z b k en H → va_S (AB z b) s.heap H locs → W p l e R s m args below meth c H locs cells slots Q g
def bws (z b k : Nat) (en : Nat → va_E) : va_W := (List.range k).map (fun i => (z + b + i, en i))
theorem bws_at {z b k i : Nat} {en : Nat → va_E} (h : i < k) : (bws z b k en)[i]? = some (z + b + i, en i) := by
  unfold bws
  rw [List.getElem?_map, List.getElem?_range h]
  rfl
theorem bws_inv {z b k i : Nat} {en : Nat → va_E} {q : Nat × va_E} (h : (bws z b k en)[i]? = some q) : i < k ∧ q = (z + b + i, en i) := by
  have hk : i < k := by
    have := (List.getElem?_eq_some_iff.mp h).1
    simpa [bws] using this
  rw [bws_at hk] at h
  exact ⟨hk, (Option.some.inj h).symm⟩
theorem bws_P {G : GG} {z b k : Nat} {en : Nat → va_E} {H : Heap} (h : Bw G z b k en H) : va_P (gD G) clsX (bws z b k en) H := fun i q hq => by
  obtain ⟨h1, rfl⟩ := bws_inv hq
  exact h.2 i h1
theorem bws_D {z b k : Nat} {en : Nat → va_E} : va_D (AB z b) (bws z b k en) := by
  refine ⟨fun i j x y hi hj hxy => ?_, fun i q hq => ?_⟩
  · obtain ⟨h1, rfl⟩ := bws_inv hi
    obtain ⟨h2, rfl⟩ := bws_inv hj
    have : z + b + i = z + b + j := hxy
    omega
  · obtain ⟨h1, rfl⟩ := bws_inv hq
    show z + b ≤ z + b + i
    omega
theorem bws_set {G : GG} {z b k i : Nat} {en : Nat → va_E} {x : va_E} {H : Heap} (hi : i < k) (hz : H.size = z + b + k) (h : va_P (gD G) clsX ((bws z b k en).set i (z + b + i, x)) H) : Bw G z b k (va_up en i x) H := by
  have hl : i < (bws z b k en).length := by simpa [bws] using hi
  refine ⟨hz, fun j hj => ?_⟩
  by_cases q : j = i
  · subst q
    rw [va_up_self]
    exact h j _ (List.getElem?_set_self hl)
  · rw [va_up_ne _ _ q]
    exact h j _ ((List.getElem?_set_ne (Ne.symm q)).trans (bws_at hj))
def eqE (x y : va_E) : Prop := ∀ (D : va_G) (cl : List vw_C) (a : Nat) (H : Heap), va_at D cl (a, x) H → va_at D cl (a, y) H
theorem eqE_eq {x y : va_E} (h : x = y) : eqE x y := fun _ _ _ _ q => by rw [← h]; exact q
theorem eqE_q {cA : ClassId} {n : Nat} {f g : Nat → Option Nat} (h : ∀ j, j < n → f j = g j) : eqE (.inl (cA, n, .inr (.inr (.inr (.inr f))))) (.inl (cA, n, .inr (.inr (.inr (.inr g))))) := by
  intro D cl a H q
  have e1 : vp_cell cA (n, .inr (.inr (.inr (.inr f)))) = vp_cell cA (n, .inr (.inr (.inr (.inr g)))) := by
    rw [vp_cell_q, vp_cell_q]
    unfold arrV
    congr 2
    funext j
    show va_rf (f j.val) = va_rf (g j.val)
    rw [h j.val j.isLt]
  exact q.trans (congrArg some e1)
section BL
variable {G : GG} {z b : Nat} {p : Program} {l : Launch} {e : Env} {R : Room} {s : State} {m : MethodId} {args : Array Value} {below : List Frame} {meth : Method} {c : Code} {cells slots : Nat} {Q : State → Prop} {k : Nat} {en : Nat → va_E} {cc : ByteArray} {nL : Nat} {own : String} {pc : Nat} {ls : Array Slot} {st : List Value}
theorem b_new (C : CXB G p m c cc nL s args own) {idx ci N : Nat} {Cn : String} {T : u_T} {ty : Nat → FieldType} (fs : List Value) (hc : clsX[ci]? = some (Cn, T, N)) (hin : ∀ w ∈ u_ws Cn T N, w ∈ GW) (hty : ∀ k, k < N → parseFieldDescriptor (T k).2.2.1 = some (ty k)) (w1 : Cond.classLink own idx Cn ∈ GW) (w2 : Cond.instantiable Cn N ∈ GW) (w3 : Cond.initialized Cn ∈ GW) (hfs : ∀ j, j < N → defaultValue (ty j) = vp_V fs j) (hcells : cells + 1 ≤ R.cells) (hslots : slots + N ≤ R.slots) (hdg : decode cc pc = .ok (.new idx, 3)) (kk : ∀ en' : Nat → va_E, en' k = .inr (ci, fs) → (∀ i, i < k → en' i = en i) → Bs G z b p l e R s m args below meth c (cells + 1) (slots + N) Q (k + 1) en' (F0 m (pc + 3) ls (.ref (z + b + k) :: st))) : Bs G z b p l e R s m args below meth c cells slots Q k en (F0 m pc ls st) := by
  intro H locs hB hS
  have hKn := C.2.2.2.2.2.1.1 ci _ hc
  refine W.newcK C.1 C.2.1 C.2.2.2.1 (C.2.2.2.2.1 _ w1) (C.2.2.2.2.1 _ w2) (C.2.2.2.2.1 _ w3) rfl hdg hcells hslots hKn.2.1 hB.1 (fun H1 kC hkC e1 z1 o1 => ?_)
  refine kk (va_up en k (.inr (ci, fs))) (va_up_self _ _ _) (fun i hi => va_up_ne _ _ (by omega)) H1 locs ⟨by omega, fun i hi => ?_⟩ ⟨by have := hS.1; have := hB.1; omega, fun x h1 h2 => (o1 x (by have := hS.1; have := hB.1; omega)).trans (hS.2.1 x h1 h2), hS.2.2⟩
  by_cases q : i = k
  · subst q
    rw [va_up_self]
    exact ⟨_, hc, (u_born ty C.2.2.2.2.1 hin hKn hkC e1 hty).to hfs⟩
  · rw [va_up_ne _ _ q]
    exact (hB.2 i (by omega)).kept (o1 _ (by show z + b + i < z + b + k; omega))
theorem b_newa_int (C : CXB G p m c cc nL s args own) {n : Int32} {N : Nat} (hn : ¬ n < 0) (hN : n.toNatClampNeg = N) (hbytes : N * componentBytes .int ≤ 536870912) (hcells : cells + 1 ≤ R.cells) (hslots : slots + N ≤ R.slots) (hdg : decode cc pc = .ok (.newarray .int, 2)) (kk : ∀ en' : Nat → va_E, en' k = .inl (gcy G 1, N, .inl (fun _ => 0)) → (∀ i, i < k → en' i = en i) → Bs G z b p l e R s m args below meth c (cells + 1) (slots + N) Q (k + 1) en' (F0 m (pc + 2) ls (.ref (z + b + k) :: st))) : Bs G z b p l e R s m args below meth c cells slots Q k en (F0 m pc ls (.int n :: st)) := by
  intro H locs hB hS
  refine va_newaK (atype := .int) C.1 C.2.1 (C.2.2.2.2.1 _ ka_int) rfl hdg rfl hn hN hbytes hcells hslots hB.1 (fun H1 cA e1 z1 o1 hAr hNm => ?_)
  have hcA : cA = gcy G 1 := Option.some.inj (hNm.symm.trans (C.2.2.2.2.2.1.2 1 _ rfl).2)
  refine kk (va_up en k (.inl (gcy G 1, N, .inl (fun _ => 0)))) (va_up_self _ _ _) (fun i hi => va_up_ne _ _ (by omega)) H1 locs ⟨by omega, fun i hi => ?_⟩ ⟨by have := hS.1; have := hB.1; omega, fun x h1 h2 => (o1 x (by have := hS.1; have := hB.1; omega)).trans (hS.2.1 x h1 h2), hS.2.2⟩
  by_cases q : i = k
  · subst q
    rw [va_up_self, ← hcA]
    exact e1
  · rw [va_up_ne _ _ q]
    exact (hB.2 i (by omega)).kept (o1 _ (by show z + b + i < z + b + k; omega))
theorem b_newa_byte (C : CXB G p m c cc nL s args own) {n : Int32} {N : Nat} (hn : ¬ n < 0) (hN : n.toNatClampNeg = N) (hbytes : N * componentBytes .byte ≤ 536870912) (hcells : cells + 1 ≤ R.cells) (hslots : slots + N ≤ R.slots) (hdg : decode cc pc = .ok (.newarray .byte, 2)) (kk : ∀ en' : Nat → va_E, en' k = .inl (gcy G 0, N, .inl (fun _ => 0)) → (∀ i, i < k → en' i = en i) → Bs G z b p l e R s m args below meth c (cells + 1) (slots + N) Q (k + 1) en' (F0 m (pc + 2) ls (.ref (z + b + k) :: st))) : Bs G z b p l e R s m args below meth c cells slots Q k en (F0 m pc ls (.int n :: st)) := by
  intro H locs hB hS
  refine va_newaK (atype := .byte) C.1 C.2.1 (C.2.2.2.2.1 _ ka_byte) rfl hdg rfl hn hN hbytes hcells hslots hB.1 (fun H1 cA e1 z1 o1 hAr hNm => ?_)
  have hcA : cA = gcy G 0 := Option.some.inj (hNm.symm.trans (C.2.2.2.2.2.1.2 0 _ rfl).2)
  refine kk (va_up en k (.inl (gcy G 0, N, .inl (fun _ => 0)))) (va_up_self _ _ _) (fun i hi => va_up_ne _ _ (by omega)) H1 locs ⟨by omega, fun i hi => ?_⟩ ⟨by have := hS.1; have := hB.1; omega, fun x h1 h2 => (o1 x (by have := hS.1; have := hB.1; omega)).trans (hS.2.1 x h1 h2), hS.2.2⟩
  by_cases q : i = k
  · subst q
    rw [va_up_self, ← hcA]
    exact e1
  · rw [va_up_ne _ _ q]
    exact (hB.2 i (by omega)).kept (o1 _ (by show z + b + i < z + b + k; omega))
theorem b_newa_long (C : CXB G p m c cc nL s args own) {n : Int32} {N : Nat} (hn : ¬ n < 0) (hN : n.toNatClampNeg = N) (hbytes : N * componentBytes .long ≤ 536870912) (hcells : cells + 1 ≤ R.cells) (hslots : slots + N ≤ R.slots) (hdg : decode cc pc = .ok (.newarray .long, 2)) (kk : ∀ en' : Nat → va_E, en' k = .inl (gcy G 2, N, .inr (.inl (fun _ => 0))) → (∀ i, i < k → en' i = en i) → Bs G z b p l e R s m args below meth c (cells + 1) (slots + N) Q (k + 1) en' (F0 m (pc + 2) ls (.ref (z + b + k) :: st))) : Bs G z b p l e R s m args below meth c cells slots Q k en (F0 m pc ls (.int n :: st)) := by
  intro H locs hB hS
  refine va_newaK (atype := .long) C.1 C.2.1 (C.2.2.2.2.1 _ ka_long) rfl hdg rfl hn hN hbytes hcells hslots hB.1 (fun H1 cA e1 z1 o1 hAr hNm => ?_)
  have hcA : cA = gcy G 2 := Option.some.inj (hNm.symm.trans (C.2.2.2.2.2.1.2 2 _ rfl).2)
  refine kk (va_up en k (.inl (gcy G 2, N, .inr (.inl (fun _ => 0))))) (va_up_self _ _ _) (fun i hi => va_up_ne _ _ (by omega)) H1 locs ⟨by omega, fun i hi => ?_⟩ ⟨by have := hS.1; have := hB.1; omega, fun x h1 h2 => (o1 x (by have := hS.1; have := hB.1; omega)).trans (hS.2.1 x h1 h2), hS.2.2⟩
  by_cases q : i = k
  · subst q
    rw [va_up_self, ← hcA]
    exact e1
  · rw [va_up_ne _ _ q]
    exact (hB.2 i (by omega)).kept (o1 _ (by show z + b + i < z + b + k; omega))
theorem b_newa_boolean (C : CXB G p m c cc nL s args own) {n : Int32} {N : Nat} (hn : ¬ n < 0) (hN : n.toNatClampNeg = N) (hbytes : N * componentBytes .boolean ≤ 536870912) (hcells : cells + 1 ≤ R.cells) (hslots : slots + N ≤ R.slots) (hdg : decode cc pc = .ok (.newarray .boolean, 2)) (kk : ∀ en' : Nat → va_E, en' k = .inl (gcy G 3, N, .inl (fun _ => 0)) → (∀ i, i < k → en' i = en i) → Bs G z b p l e R s m args below meth c (cells + 1) (slots + N) Q (k + 1) en' (F0 m (pc + 2) ls (.ref (z + b + k) :: st))) : Bs G z b p l e R s m args below meth c cells slots Q k en (F0 m pc ls (.int n :: st)) := by
  intro H locs hB hS
  refine va_newaK (atype := .boolean) C.1 C.2.1 (C.2.2.2.2.1 _ ka_boolean) rfl hdg rfl hn hN hbytes hcells hslots hB.1 (fun H1 cA e1 z1 o1 hAr hNm => ?_)
  have hcA : cA = gcy G 3 := Option.some.inj (hNm.symm.trans (C.2.2.2.2.2.1.2 3 _ rfl).2)
  refine kk (va_up en k (.inl (gcy G 3, N, .inl (fun _ => 0)))) (va_up_self _ _ _) (fun i hi => va_up_ne _ _ (by omega)) H1 locs ⟨by omega, fun i hi => ?_⟩ ⟨by have := hS.1; have := hB.1; omega, fun x h1 h2 => (o1 x (by have := hS.1; have := hB.1; omega)).trans (hS.2.1 x h1 h2), hS.2.2⟩
  by_cases q : i = k
  · subst q
    rw [va_up_self, ← hcA]
    exact e1
  · rw [va_up_ne _ _ q]
    exact (hB.2 i (by omega)).kept (o1 _ (by show z + b + i < z + b + k; omega))
theorem b_newq_1 (C : CXB G p m c cc nL s args own) {idx : Nat} {n : Int32} {N : Nat} (w1 : Cond.classLink own idx RX1 ∈ GW) (hn : ¬ n < 0) (hN : n.toNatClampNeg = N) (hbytes : N * 4 ≤ 536870912) (hcells : cells + 1 ≤ R.cells) (hslots : slots + N ≤ R.slots) (hdg : decode cc pc = .ok (.anewarray idx, 3)) (kk : ∀ en' : Nat → va_E, en' k = .inl (gcy G 4, N, .inr (.inr (.inr (.inr (fun _ => none))))) → (∀ i, i < k → en' i = en i) → Bs G z b p l e R s m args below meth c (cells + 1) (slots + N) Q (k + 1) en' (F0 m (pc + 3) ls (.ref (z + b + k) :: st))) : Bs G z b p l e R s m args below meth c cells slots Q k en (F0 m pc ls (.int n :: st)) := by
  intro H locs hB hS
  subst hN
  refine W.anew C.1 C.2.1 C.2.2.2.1 (C.2.2.2.2.1 _ w1) (va_AO.use C.2.2.2.2.2.2.2.1) rfl hdg rfl hn hbytes hcells hslots (fun cA kA comp f1 f2 f3 f4 => ?_)
  obtain ⟨kA2, comp2, g1, g2, g3, g4⟩ := (C.2.2.2.2.2.1.2 4 _ rfl).2
  have hcA : cA = gcy G 4 := Option.some.inj (f1.symm.trans g4)
  generalize hH1 : H.push ({ cls := cA, slots := Array.replicate n.toNatClampNeg .null, vm := .none } : Cell) = H1
  have z1 : H1.size = H.size + 1 := by rw [← hH1, Array.size_push]
  have e1 : H1[H.size]? = some (arrV cA n.toNatClampNeg (fun _ => .null)) := by rw [← hH1, Array.getElem?_push_size, ← arrV_new]
  have o1 : ∀ q : Nat, q < H.size → H1[q]? = H[q]? := fun q hq => by rw [← hH1, Array.getElem?_push, if_neg (Nat.ne_of_lt hq)]
  have hB1 := hB.1
  refine W.eq (g2 := F0 m (pc + 3) ls (.ref (z + b + k) :: st)) (by rw [hB1]) ?_
  refine kk (va_up en k (.inl (gcy G 4, n.toNatClampNeg, .inr (.inr (.inr (.inr (fun _ => none))))))) (va_up_self _ _ _) (fun i hi => va_up_ne _ _ (by omega)) H1 locs ⟨by omega, fun i hi => ?_⟩ ⟨by have := hS.1; omega, fun x h1 h2 => (o1 x (by have := hS.1; omega)).trans (hS.2.1 x h1 h2), hS.2.2⟩
  by_cases q : i = k
  · subst q
    rw [va_up_self, ← hcA, ← hB1]
    show H1[H.size]? = some (vp_cell _ _)
    rw [vp_cell_q]
    exact e1
  · rw [va_up_ne _ _ q]
    exact (hB.2 i (by omega)).kept (o1 _ (by show z + b + i < H.size; omega))
theorem b_newq_4 (C : CXB G p m c cc nL s args own) {idx : Nat} {n : Int32} {N : Nat} (w1 : Cond.classLink own idx RX4 ∈ GW) (hn : ¬ n < 0) (hN : n.toNatClampNeg = N) (hbytes : N * 4 ≤ 536870912) (hcells : cells + 1 ≤ R.cells) (hslots : slots + N ≤ R.slots) (hdg : decode cc pc = .ok (.anewarray idx, 3)) (kk : ∀ en' : Nat → va_E, en' k = .inl (gcy G 5, N, .inr (.inr (.inr (.inr (fun _ => none))))) → (∀ i, i < k → en' i = en i) → Bs G z b p l e R s m args below meth c (cells + 1) (slots + N) Q (k + 1) en' (F0 m (pc + 3) ls (.ref (z + b + k) :: st))) : Bs G z b p l e R s m args below meth c cells slots Q k en (F0 m pc ls (.int n :: st)) := by
  intro H locs hB hS
  subst hN
  refine W.anew C.1 C.2.1 C.2.2.2.1 (C.2.2.2.2.1 _ w1) (va_AO.use C.2.2.2.2.2.2.2.2.1) rfl hdg rfl hn hbytes hcells hslots (fun cA kA comp f1 f2 f3 f4 => ?_)
  obtain ⟨kA2, comp2, g1, g2, g3, g4⟩ := (C.2.2.2.2.2.1.2 5 _ rfl).2
  have hcA : cA = gcy G 5 := Option.some.inj (f1.symm.trans g4)
  generalize hH1 : H.push ({ cls := cA, slots := Array.replicate n.toNatClampNeg .null, vm := .none } : Cell) = H1
  have z1 : H1.size = H.size + 1 := by rw [← hH1, Array.size_push]
  have e1 : H1[H.size]? = some (arrV cA n.toNatClampNeg (fun _ => .null)) := by rw [← hH1, Array.getElem?_push_size, ← arrV_new]
  have o1 : ∀ q : Nat, q < H.size → H1[q]? = H[q]? := fun q hq => by rw [← hH1, Array.getElem?_push, if_neg (Nat.ne_of_lt hq)]
  have hB1 := hB.1
  refine W.eq (g2 := F0 m (pc + 3) ls (.ref (z + b + k) :: st)) (by rw [hB1]) ?_
  refine kk (va_up en k (.inl (gcy G 5, n.toNatClampNeg, .inr (.inr (.inr (.inr (fun _ => none))))))) (va_up_self _ _ _) (fun i hi => va_up_ne _ _ (by omega)) H1 locs ⟨by omega, fun i hi => ?_⟩ ⟨by have := hS.1; omega, fun x h1 h2 => (o1 x (by have := hS.1; omega)).trans (hS.2.1 x h1 h2), hS.2.2⟩
  by_cases q : i = k
  · subst q
    rw [va_up_self, ← hcA, ← hB1]
    show H1[H.size]? = some (vp_cell _ _)
    rw [vp_cell_q]
    exact e1
  · rw [va_up_ne _ _ q]
    exact (hB.2 i (by omega)).kept (o1 _ (by show z + b + i < H.size; omega))
theorem b_newq_5 (C : CXB G p m c cc nL s args own) {idx : Nat} {n : Int32} {N : Nat} (w1 : Cond.classLink own idx RX5 ∈ GW) (hn : ¬ n < 0) (hN : n.toNatClampNeg = N) (hbytes : N * 4 ≤ 536870912) (hcells : cells + 1 ≤ R.cells) (hslots : slots + N ≤ R.slots) (hdg : decode cc pc = .ok (.anewarray idx, 3)) (kk : ∀ en' : Nat → va_E, en' k = .inl (gcy G 6, N, .inr (.inr (.inr (.inr (fun _ => none))))) → (∀ i, i < k → en' i = en i) → Bs G z b p l e R s m args below meth c (cells + 1) (slots + N) Q (k + 1) en' (F0 m (pc + 3) ls (.ref (z + b + k) :: st))) : Bs G z b p l e R s m args below meth c cells slots Q k en (F0 m pc ls (.int n :: st)) := by
  intro H locs hB hS
  subst hN
  refine W.anew C.1 C.2.1 C.2.2.2.1 (C.2.2.2.2.1 _ w1) (va_AO.use C.2.2.2.2.2.2.2.2.2) rfl hdg rfl hn hbytes hcells hslots (fun cA kA comp f1 f2 f3 f4 => ?_)
  obtain ⟨kA2, comp2, g1, g2, g3, g4⟩ := (C.2.2.2.2.2.1.2 6 _ rfl).2
  have hcA : cA = gcy G 6 := Option.some.inj (f1.symm.trans g4)
  generalize hH1 : H.push ({ cls := cA, slots := Array.replicate n.toNatClampNeg .null, vm := .none } : Cell) = H1
  have z1 : H1.size = H.size + 1 := by rw [← hH1, Array.size_push]
  have e1 : H1[H.size]? = some (arrV cA n.toNatClampNeg (fun _ => .null)) := by rw [← hH1, Array.getElem?_push_size, ← arrV_new]
  have o1 : ∀ q : Nat, q < H.size → H1[q]? = H[q]? := fun q hq => by rw [← hH1, Array.getElem?_push, if_neg (Nat.ne_of_lt hq)]
  have hB1 := hB.1
  refine W.eq (g2 := F0 m (pc + 3) ls (.ref (z + b + k) :: st)) (by rw [hB1]) ?_
  refine kk (va_up en k (.inl (gcy G 6, n.toNatClampNeg, .inr (.inr (.inr (.inr (fun _ => none))))))) (va_up_self _ _ _) (fun i hi => va_up_ne _ _ (by omega)) H1 locs ⟨by omega, fun i hi => ?_⟩ ⟨by have := hS.1; omega, fun x h1 h2 => (o1 x (by have := hS.1; omega)).trans (hS.2.1 x h1 h2), hS.2.2⟩
  by_cases q : i = k
  · subst q
    rw [va_up_self, ← hcA, ← hB1]
    show H1[H.size]? = some (vp_cell _ _)
    rw [vp_cell_q]
    exact e1
  · rw [va_up_ne _ _ q]
    exact (hB.2 i (by omega)).kept (o1 _ (by show z + b + i < H.size; omega))
theorem b_putF (C : CXB G p m c cc nL s args own) {idx i ci j N : Nat} {Cn : String} {T : u_T} {ty0 : Nat → FieldType} {ty : FieldType} {fs : List Value} {v : Value} (hc : clsX[ci]? = some (Cn, T, N)) (hin : ∀ w ∈ u_ws Cn T N, w ∈ GW) (hty : ∀ k, k < N → parseFieldDescriptor (T k).2.2.1 = some (ty0 k)) (hnm : ∀ a, a < N → ∀ b, b < N → a ≠ b → (T a).2.1 ≠ (T b).2.1) (hi : i < k) (he : en i = .inr (ci, fs)) (hj : j < N) (hl : Cond.fieldLink own idx (T j).1 (T j).2.1 (T j).2.2.1 ∈ GW) (hfin : (T j).2.2.2 = true) (hini : meth.name = "<init>") (hdecl : (T j).1 = own) (hd : parseFieldDescriptor (T j).2.2.1 = some ty) (hn : narrow ty v = v) (hfit : fits ty v = true) (hlen : j < fs.length) (hdg : decode cc pc = .ok (.putfield idx, 3)) (kk : ∀ en' : Nat → va_E, en' i = .inr (ci, fs.set j v) → (∀ i', i' ≠ i → en' i' = en i') → Bs G z b p l e R s m args below meth c cells slots Q k en' (F0 m (pc + 3) ls st)) : Bs G z b p l e R s m args below meth c cells slots Q k en (F0 m pc ls (v :: .ref (z + b + i) :: st)) := by
  intro H locs hB hS0
  have hts := C.2.2.2.2.1
  have hown := C.2.2.2.1
  have hK := C.2.2.2.2.2.1
  have hap := va_apart (own := own) hts hin ty0 hty hnm hK hc
  have h0 := hB.2 i hi
  rw [he] at h0
  obtain ⟨r, h1, cell, q1, q2, q3, q4⟩ := h0
  have hr : r = (Cn, T, N) := Option.some.inj (h1.symm.trans hc)
  subst hr
  obtain ⟨hS, hfc, kC, hkC, hkind⟩ := hK.1 ci _ hc
  obtain ⟨cf, kf, fi, f, hif, hsl⟩ := hS j hj
  have hlay := hts _ (hin _ (u_in_lay hj))
  unfold u_lay at hlay
  rw [if_pos hfin] at hlay
  have hst := (u_facts hfc hkC (u_lays hts hin hj) hif).1
  have hcf : m.cls = cf := by
    obtain ⟨_, _, c', _, _, _, -, -, hf', -, -, -, hown2, -⟩ := Cond.laysFinal_spec hlay
    have e1 : c' = cf := by have := hif.symm.trans hf'; simp at this; exact this.1.symm
    rw [hdecl] at hown2
    rw [← e1]; exact Option.some.inj (hown.symm.trans hown2)
  have h6 := u_fits hfc hkC hkind (Or.inr hlay) hif hd hn hfit
  refine W.putFinK C.1 C.2.1 hown (hts _ hl) hif hst hcf hini (by rw [q2]; exact h6) q1 q3 (by rw [hsl]; exact k2_hasslot (q4 j hj)) rfl rfl hdg fun H' e1 e2 e3 => ?_
  rw [hsl] at e1 ⊢
  refine kk (va_up en i (.inr (ci, fs.set j v))) (va_up_self _ _ _) (fun i' h => va_up_ne _ _ h) H' _ ⟨e2.trans hB.1, fun i2 hi2 => ?_⟩ (hS0.put e2 e3 (by show z + b ≤ z + b + i; omega))
  by_cases q : i2 = i
  · subst q
    rw [va_up_self]
    exact ⟨_, hc, t_OB.to (V := updV (vp_V fs) j v) ⟨_, e1, q2, q3, t_set q4 hap hj v⟩ (fun j2 _ => vp_updV_set hlen v j2)⟩
  · rw [va_up_ne _ _ q]
    exact (hB.2 i2 hi2).kept (e3 _ (by show z + b + i2 ≠ z + b + i; omega))
theorem b_putI (C : CXB G p m c cc nL s args own) {idx i ci j N : Nat} {Cn : String} {T : u_T} {ty0 : Nat → FieldType} {ty : FieldType} {fs : List Value} {v : Value} (hc : clsX[ci]? = some (Cn, T, N)) (hin : ∀ w ∈ u_ws Cn T N, w ∈ GW) (hty : ∀ k, k < N → parseFieldDescriptor (T k).2.2.1 = some (ty0 k)) (hnm : ∀ a, a < N → ∀ b, b < N → a ≠ b → (T a).2.1 ≠ (T b).2.1) (hi : i < k) (he : en i = .inr (ci, fs)) (hj : j < N) (hl : Cond.fieldLink own idx (T j).1 (T j).2.1 (T j).2.2.1 ∈ GW) (hfin : (T j).2.2.2 = false) (hd : parseFieldDescriptor (T j).2.2.1 = some ty) (hn : narrow ty v = v) (hfit : fits ty v = true) (hlen : j < fs.length) (hdg : decode cc pc = .ok (.putfield idx, 3)) (kk : ∀ en' : Nat → va_E, en' i = .inr (ci, fs.set j v) → (∀ i', i' ≠ i → en' i' = en i') → Bs G z b p l e R s m args below meth c cells slots Q k en' (F0 m (pc + 3) ls st)) : Bs G z b p l e R s m args below meth c cells slots Q k en (F0 m pc ls (v :: .ref (z + b + i) :: st)) := by
  intro H locs hB hS0
  have hts := C.2.2.2.2.1
  have hown := C.2.2.2.1
  have hK := C.2.2.2.2.2.1
  have hap := va_apart (own := own) hts hin ty0 hty hnm hK hc
  have h0 := hB.2 i hi
  rw [he] at h0
  obtain ⟨r, h1, cell, q1, q2, q3, q4⟩ := h0
  have hr : r = (Cn, T, N) := Option.some.inj (h1.symm.trans hc)
  subst hr
  obtain ⟨hS, hfc, kC, hkC, hkind⟩ := hK.1 ci _ hc
  obtain ⟨cf, kf, fi, f, hif, hsl⟩ := hS j hj
  have hlay := hts _ (hin _ (u_in_lay hj))
  unfold u_lay at hlay
  rw [if_neg (by rw [hfin]; decide)] at hlay
  have hst := (u_facts hfc hkC (u_lays hts hin hj) hif).1
  have h6 := u_store hfc hkC hkind hlay hif hd hn hfit
  refine W.putK C.1 C.2.1 (f := f) ⟨hown, hts _ hl, ⟨_, _, _, hif⟩, hst⟩ (by rw [q2]; exact h6) q1 q3 (by rw [hsl]; exact k2_hasslot (q4 j hj)) rfl rfl hdg fun H' e1 e2 e3 => ?_
  rw [hsl] at e1 ⊢
  refine kk (va_up en i (.inr (ci, fs.set j v))) (va_up_self _ _ _) (fun i' h => va_up_ne _ _ h) H' _ ⟨e2.trans hB.1, fun i2 hi2 => ?_⟩ (hS0.put e2 e3 (by show z + b ≤ z + b + i; omega))
  by_cases q : i2 = i
  · subst q
    rw [va_up_self]
    exact ⟨_, hc, t_OB.to (V := updV (vp_V fs) j v) ⟨_, e1, q2, q3, t_set q4 hap hj v⟩ (fun j2 _ => vp_updV_set hlen v j2)⟩
  · rw [va_up_ne _ _ q]
    exact (hB.2 i2 hi2).kept (e3 _ (by show z + b + i2 ≠ z + b + i; omega))
theorem b_get (C : CXB G p m c cc nL s args own) {idx i ci j N : Nat} {Cn : String} {T : u_T} {fs : List Value} {v : Value} (hc : clsX[ci]? = some (Cn, T, N)) (hin : ∀ w ∈ u_ws Cn T N, w ∈ GW) (hi : i < k) (he : en i = .inr (ci, fs)) (hj : j < N) (hl : Cond.fieldLink own idx (T j).1 (T j).2.1 (T j).2.2.1 ∈ GW) (hv : fs[j]? = some v) (hdg : decode cc pc = .ok (.getfield idx, 3)) (kk : Bs G z b p l e R s m args below meth c cells slots Q k en (F0 m (pc + 3) ls (v :: st))) : Bs G z b p l e R s m args below meth c cells slots Q k en (F0 m pc ls (.ref (z + b + i) :: st)) := fun H locs hB hS => va_get (D := gD G) C.1 C.2.1 C.2.2.2.2.1 hin C.2.2.2.1 C.2.2.2.2.2.1 (bws_P hB) i ((bws_at hi).trans (by rw [he])) hc j hj (C.2.2.2.2.1 _ hl) (fun _ h9 => h9) hv hdg (kk H locs hB hS)
theorem b_ast (C : CXB G p m c cc nL s args own) {t0 i v ci : Nat} {r : vw_C} {cA : ClassId} {n : Nat} {vs : List Value} {f : Nat → Option Nat} {x : Int32} {X : Nat} (hi : i < k) (hv : v < k) (he : en i = .inl (cA, n, .inr (.inr (.inr (.inr f))))) (ht : (tysX G)[t0]? = some (cA, .object r.1)) (hev : en v = .inr (ci, vs)) (hc : clsX[ci]? = some r) (hx : ¬ x < 0) (hX : x.toNatClampNeg = X) (hlt : X < n) (hdg : decode cc pc = .ok (.aastore, 1)) (kk : ∀ en' : Nat → va_E, en' i = .inl (cA, n, .inr (.inr (.inr (.inr (va_up f X (some (z + b + v))))))) → (∀ i', i' ≠ i → en' i' = en i') → Bs G z b p l e R s m args below meth c cells slots Q k en' (F0 m (pc + 1) ls st)) : Bs G z b p l e R s m args below meth c cells slots Q k en (F0 m pc ls (.ref (z + b + v) :: .int x :: .ref (z + b + i) :: st)) := by
  intro H locs hB hS
  subst hX
  have ha := hB.2 i hi
  have hvv := hB.2 v hv
  rw [he] at ha
  rw [hev] at hvv
  obtain ⟨r', hr', cellV, g1, g2, g3, -⟩ := hvv
  have hK := C.2.2.2.2.2.1
  have hcls := (hK.1 ci r hc).2
  obtain ⟨kA, comp, k1, k2, k3, -⟩ := (hK.2 t0 _ ht).2
  have hcomp : comp = (gD G).1 ci := Option.some.inj (k3.symm.trans hcls.1)
  subst hcomp
  obtain ⟨kC, hkC, -⟩ := hcls.2
  refine W.aast C.1 C.2.1 ha (fun q h => by cases h) (fun h => by cases h) k1 k2 rfl hkC ⟨hx, by show _ < (arrV _ _ _).slots.size; rw [arrV_size]; exact hlt⟩ g1 (fun q h => by rw [g3] at h; cases h) (by rw [g2]; exact hkC) (by rw [g2]; exact va_assign hcls) rfl rfl hdg fun H1 e e2 oq => ?_
  refine kk (va_up en i _) (va_up_self _ _ _) (fun i' h => va_up_ne _ _ h) H1 _ ⟨e2.trans hB.1, fun i2 hi2 => ?_⟩ (hS.put e2 oq (by show z + b ≤ z + b + i; omega))
  by_cases q : i2 = i
  · subst q
    rw [va_up_self]
    show H1[z + b + i2]? = some (vp_cell _ _)
    rw [e]
    rw [vp_cell_q, vp_cell_q, arrV_store]
    congr 2
    funext q
    by_cases hq : q = x.toNatClampNeg
    · subst hq
      simp [updV, va_up, va_rf]
    · simp [updV, va_up, hq]
  · rw [va_up_ne _ _ q]
    exact (hB.2 i2 hi2).kept (oq _ (by show z + b + i2 ≠ z + b + i; omega))
theorem b_iast (C : CXB G p m c cc nL s args own) {i : Nat} {n : Nat} {f : Nat → Int32} {x y : Int32} {X : Nat} (hi : i < k) (he : en i = .inl (gcy G 1, n, .inl f)) (hx : ¬ x < 0) (hX : x.toNatClampNeg = X) (hlt : X < n) (hdg : decode cc pc = .ok (.iastore, 1)) (kk : ∀ en' : Nat → va_E, en' i = .inl (gcy G 1, n, .inl (upd f X y)) → (∀ i', i' ≠ i → en' i' = en i') → Bs G z b p l e R s m args below meth c cells slots Q k en' (F0 m (pc + 1) ls st)) : Bs G z b p l e R s m args below meth c cells slots Q k en (F0 m pc ls (.int y :: .int x :: .ref (z + b + i) :: st)) := by
  intro H locs hB hS
  subst hX
  have ha := hB.2 i hi
  rw [he] at ha
  have hK := C.2.2.2.2.2.1
  refine W.iast C.1 C.2.1 ha ((hK.2 1 _ rfl).1 n (fun j => .int (f j))) (fun q => by cases q) (by show ¬ (x < 0 ∨ (arrV _ _ _).slots.size ≤ _); rw [arrV_size]; exact fun q => q.elim hx (fun h => Nat.not_le.mpr hlt h)) rfl rfl hdg fun H1 e e2 oq => ?_
  refine kk (va_up en i _) (va_up_self _ _ _) (fun i' h => va_up_ne _ _ h) H1 _ ⟨e2.trans hB.1, fun i2 hi2 => ?_⟩ (hS.put e2 oq (by show z + b ≤ z + b + i; omega))
  by_cases q : i2 = i
  · subst q
    rw [va_up_self]
    show H1[z + b + i2]? = some (vp_cell _ _)
    rw [e]
    rw [vp_cell_i, vp_cell_i, arrV_store]
    congr 2
    funext q
    by_cases hq : q = x.toNatClampNeg
    · subst hq
      simp [updV, upd]
    · simp [updV, upd, hq]
  · rw [va_up_ne _ _ q]
    exact (hB.2 i2 hi2).kept (oq _ (by show z + b + i2 ≠ z + b + i; omega))
def QN (G : GG) (z b n : Nat) : Array Value → State → Outcome → State → Prop := fun _ st oc t => (oc = .returned none ∧ Bw G z b n (fun i => cfX G (b + i) (iniX (b + i))) t.heap) ∧ va_F (AB z b) st t
def NB (G : GG) (l : Launch) (y : MethodName) (cd : ByteArray) (mL : Nat) (rm : Room) (z b n mc ms : Nat) (x0 : va_E) : Prop :=
  Met l y (Cond.code y cd mL none :: GW) rm (fun v U => v = #[Value.ref (z + b)] ∧ KB G U ∧ Bw G z b 1 (fun _ => x0) U.heap) (QN G z b n) mc ms (AB z b)
theorem NB_of {y : MethodName} {cd : ByteArray} {mL : Nat} {rm : Room} {n mc ms : Nat} {x0 : va_E} {own : String} (hy : plainName y.cls = true) (how : y.cls = own) (hnm : y.name = "<init>") (hA : 1 ≤ mL)
    (body : ∀ (p : Program) (e : Env) (s : State) (m : MethodId) (args : Array Value) (below : List Frame) (meth : Method) (c : Code), CXB G p m c cd mL s args own → meth.sig.returnType = none → meth.locks = false → meth.name = "<init>" → ∀ (ls : Array Slot) (en : Nat → va_E), en 0 = x0 → lv_has ls mL [(0, .ref (z + b))] → Bs G z b p l e rm s m args below meth c 0 0 (MQ below (QN G z b n) args s mc ms (AB z b)) 1 en (F0 m 0 ls [])) :
    NB G l y cd mL rm z b n mc ms x0 := by
  refine Met.ofW (cc := cd) (maxL := mL) (ret := none) hy rfl ?_
  intro p e s m args below meth c s₁ B hml hv
  obtain ⟨rfl, hK, hP⟩ := hv
  have hts := atoms_spec (ws := Cond.code y cd mL none :: GW) B.pre
  have hown : s.vm.findClass own = some m.cls := by rw [← how]; exact findClass_of_methodNamed B.named
  have hin : meth.name = "<init>" := (name_of_methodNamed B.named B.method).1.trans hnm
  have hl := lv_entry ([.ref (z + b)]) (n := mL) (show (lg_sl [Value.ref (z + b)]).length ≤ mL from hA)
  show W p l e _ s m _ below meth c s.heap [] 0 0 _ (entryFrame m ([Value.ref (z + b)] : List Value).toArray mL)
  rw [lg_entry_eq]
  exact body p e s m _ below meth c ⟨B.exec, B.bytes, hml, hown, fun w hw => hts w (List.mem_cons_of_mem _ hw), hK⟩ B.returns B.notSynchronized hin _ (fun _ => x0) rfl hl s.heap [] hP va_S.rf
theorem NB_blind {n : Nat} {x0 : va_E} : FrameBlind (fun v U => v = #[Value.ref (z + b)] ∧ KB G U ∧ Bw G z b n (fun _ => x0) U.heap) := fun a U g mk q => ⟨q.1, KB_same (u := U) (U := U.calling g mk a) rfl q.2.1, q.2.2⟩
/-- behind a constructor's call -/
theorem b_go {k' n mc ms : Nat} {x0 : va_E} (hk : en k' = x0) (h : ∀ (H : Heap) (locs : List Loc), Bw G z b (k' + 1) en H → va_S (AB z b) s.heap H locs → ∃ a : Array Value, va_Run p l e R s m args below meth c H locs cells slots mc ms (F0 m pc ls (.ref (z + b + k') :: st)) st (QN G z (b + k') n a) (AB z (b + k')))
    (kk : ∀ en' : Nat → va_E, (∀ i, i < k' → en' i = en i) → (∀ i, k' ≤ i → i < k' + n → en' i = cfX G (b + i) (iniX (b + i))) → Bs G z b p l e R s m args below meth c (cells + mc) (slots + ms) Q (k' + n) en' (F0 m (pc + 3) ls st)) : Bs G z b p l e R s m args below meth c cells slots Q (k' + 1) en (F0 m pc ls (.ref (z + b + k') :: st)) := by
  intro H locs hB hS
  obtain ⟨a, hr⟩ := h H locs hB hS
  intro T hT X
  obtain ⟨v, st₀, t, T', L, h0, X', hL, e1, e2, ⟨⟨hv, hb⟩, hz, hkp⟩, stp⟩ := hr T hT X
  cases hv
  rw [h0] at hz hkp
  have hsz := hb.1
  have hAB : ∀ q, AB z (b + k') q → AB z b q := fun q h => by unfold AB at h ⊢; omega
  obtain ⟨t2, a1, b1⟩ := kk (fun i => if i < k' then en i else cfX G (b + i) (iniX (b + i))) (fun i hi => if_pos hi) (fun i hi _ => if_neg (by omega)) T'.heap (locs ++ L) ⟨by rw [e1, hsz]; omega, fun i hi => by
      by_cases q : i < k'
      · show va_at (gD G) clsX (z + b + i, if i < k' then en i else _) T'.heap
        rw [if_pos q, e1]
        exact (hB.2 i (by omega)).kept (hkp _ (by have := hB.1; show z + b + i < H.size; omega) (by show ¬ (z + (b + k') ≤ z + b + i); omega))
      · show va_at (gD G) clsX (z + b + i, if i < k' then en i else _) T'.heap
        rw [if_neg q, e1]
        have h3 := hb.2 (i - k') (by omega)
        dsimp only at h3
        rw [show b + k' + (i - k') = b + i by omega, show z + (b + k') + (i - k') = z + b + i by omega] at h3
        exact h3⟩
    ⟨Nat.le_trans hS.1 (by rw [e1]; exact hz), fun q h1 h2 => by rw [e1, hkp q (Nat.lt_of_lt_of_le h1 hS.1) (fun z => h2 (hAB q z))]; exact hS.2.1 q h1 h2, fun q hq => by
      rcases List.mem_append.mp hq with h | h
      · exact hS.2.2 q h
      · exact hAB _ (hL q h)⟩ T' rfl X'
  exact ⟨t2, stp t2 a1, b1⟩
theorem b_callIN (C : CXB G p m c cc nL s args own) {y : MethodName} {cd : ByteArray} {mL idx k' n mc ms fr lo : Nat} {x0 : va_E} {host : String} (w1 : Cond.methodLinkNest own idx y host ∈ nwX) (hM : NB G l y cd mL { frames := fr, cells := mc, slots := ms, locals := lo } z (b + k') n mc ms x0) (hk : en k' = x0) (w2 : Cond.instanceMethod y ∈ GW) (w3 : Cond.initialized y.cls ∈ GW) (w4 : Cond.code y cd mL none ∈ GW) (hnm : y.name = "<init>") (hd : y.cls ≠ "java/lang/invoke/MethodHandle" ∧ y.cls ≠ "java/lang/invoke/VarHandle" ∧ (parseMethodDescriptor y.desc).map (fun d => d.parameters.length) = some 0) (hR : fr + 1 ≤ R.frames ∧ 8 + (mL + 11) + lo ≤ R.locals) (hcs : cells + mc ≤ R.cells ∧ slots + ms ≤ R.slots) (hsz : ls.size = nL) (hW : (st.map fun v => v.category).sum ≤ 8) (hdg : decode cc pc = .ok (.invokespecial idx, 3)) (kk : ∀ en' : Nat → va_E, (∀ i, i < k' → en' i = en i) → (∀ i, k' ≤ i → i < k' + n → en' i = cfX G (b + i) (iniX (b + i))) → Bs G z b p l e R s m args below meth c (cells + mc) (slots + ms) Q (k' + n) en' (F0 m (pc + 3) ls st)) : Bs G z b p l e R s m args below meth c cells slots Q (k' + 1) en (F0 m pc ls (.ref (z + b + k') :: st)) := by
  have hg : GoodIn GW (Cond.code y cd mL none :: GW) := good_gw (fun w h => by
    simp only [List.mem_cons] at h
    rcases h with rfl | h
    · exact w4
    · exact h)
  have hpre : ∀ H : Heap, Bw G z b (k' + 1) en H → Bw G z (b + k') 1 (fun _ => x0) H := fun H hB => ⟨by rw [hB.1]; omega, fun i hi => by
    rw [show i = 0 by omega]
    have h3 := hB.2 k' (by omega)
    rw [hk] at h3
    show va_at (gD G) clsX (z + (b + k') + 0, x0) H
    rw [show z + (b + k') + 0 = z + b + k' by omega]
    exact h3⟩
  exact b_go hk (fun H locs hB hS => ⟨_, va_runIN (As := []) (rest := st) (b := z + b + k') (host := host) ⟨C.1, C.2.1, C.2.2.1, C.2.2.2.1, C.2.2.2.2.1⟩ hM ⟨va_cnB 0 C.2.2.2.2.1 hg rfl rfl rfl (C.2.2.2.2.2.2.1 _ w1) (C.2.2.2.2.1 _ w3) hd hR, hnm, C.2.2.2.2.1 _ w2⟩ ⟨NB_blind, fun U hU hW => ⟨by show #[Value.ref (z + b + k')] = #[Value.ref (z + (b + k'))]; rw [Nat.add_assoc], KB_call C.2.2.2.2.2 hW, by rw [hU]; exact hpre H hB⟩⟩ rfl rfl hsz rfl (lv_room hW) hdg hcs⟩) kk
theorem b_callI (C : CXB G p m c cc nL s args own) {y : MethodName} {cd : ByteArray} {mL idx k' n mc ms fr lo : Nat} {x0 : va_E} (w1 : Cond.methodLink own idx y ∈ GW) (hM : NB G l y cd mL { frames := fr, cells := mc, slots := ms, locals := lo } z (b + k') n mc ms x0) (hk : en k' = x0) (w2 : Cond.instanceMethod y ∈ GW) (w3 : Cond.initialized y.cls ∈ GW) (w4 : Cond.code y cd mL none ∈ GW) (hnm : y.name = "<init>") (hd : y.cls ≠ "java/lang/invoke/MethodHandle" ∧ y.cls ≠ "java/lang/invoke/VarHandle" ∧ (parseMethodDescriptor y.desc).map (fun d => d.parameters.length) = some 0) (hR : fr + 1 ≤ R.frames ∧ 8 + (mL + 11) + lo ≤ R.locals) (hcs : cells + mc ≤ R.cells ∧ slots + ms ≤ R.slots) (hsz : ls.size = nL) (hW : (st.map fun v => v.category).sum ≤ 8) (hdg : decode cc pc = .ok (.invokespecial idx, 3)) (kk : ∀ en' : Nat → va_E, (∀ i, i < k' → en' i = en i) → (∀ i, k' ≤ i → i < k' + n → en' i = cfX G (b + i) (iniX (b + i))) → Bs G z b p l e R s m args below meth c (cells + mc) (slots + ms) Q (k' + n) en' (F0 m (pc + 3) ls st)) : Bs G z b p l e R s m args below meth c cells slots Q (k' + 1) en (F0 m pc ls (.ref (z + b + k') :: st)) := by
  have hg : GoodIn GW (Cond.code y cd mL none :: GW) := good_gw (fun w h => by
    simp only [List.mem_cons] at h
    rcases h with rfl | h
    · exact w4
    · exact h)
  have hpre : ∀ H : Heap, Bw G z b (k' + 1) en H → Bw G z (b + k') 1 (fun _ => x0) H := fun H hB => ⟨by rw [hB.1]; omega, fun i hi => by
    rw [show i = 0 by omega]
    have h3 := hB.2 k' (by omega)
    rw [hk] at h3
    show va_at (gD G) clsX (z + (b + k') + 0, x0) H
    rw [show z + (b + k') + 0 = z + b + k' by omega]
    exact h3⟩
  exact b_go hk (fun H locs hB hS => ⟨_, va_runI (As := []) (rest := st) (b := z + b + k') ⟨C.1, C.2.1, C.2.2.1, C.2.2.2.1, C.2.2.2.2.1⟩ hM (cwI 0 C.2.2.2.2.1 hg rfl rfl rfl (C.2.2.2.2.1 _ w3) (C.2.2.2.2.1 _ w1) (C.2.2.2.2.1 _ w2) hnm hd hR) ⟨NB_blind, fun U hU hW => ⟨by show #[Value.ref (z + b + k')] = #[Value.ref (z + (b + k'))]; rw [Nat.add_assoc], KB_call C.2.2.2.2.2 hW, by rw [hU]; exact hpre H hB⟩⟩ rfl rfl hsz rfl (lv_room hW) hdg hcs⟩) kk
theorem b_ret (C : CXB G p m c cc nL s args own) {n : Nat} (hr : meth.sig.returnType = none) (hlo : meth.locks = false) (hdg : decode cc pc = .ok (.return_, 1)) (h : ∀ i, i < n → eqE (en i) (cfX G (b + i) (iniX (b + i)))) : Bs G z b p l e R s m args below meth c cells slots (MQ below (QN G z b n) args s cells slots (AB z b)) n en (F0 m pc ls []) := by
  intro H locs hB hS
  exact W.vret C.1 C.2.1 hr (fun t ht hW => ⟨⟨rfl, by rw [ht]; exact ⟨hB.1, fun i hi => h i hi _ _ _ _ (hB.2 i hi)⟩⟩, hS.F ht⟩) hS.2.2 hdg hlo
theorem b_obj (C : CXB G p m c cc nL s args own) {idx : Nat} {a : Nat} (w1 : Cond.methodLink own idx objectInit ∈ GW) (hsz : ls.size = nL) (hR : 1 ≤ R.frames ∧ (st.map fun v => v.category).sum + 12 ≤ R.locals) (hdg : decode cc pc = .ok (.invokespecial idx, 3)) (kk : Bs G z b p l e R s m args below meth c cells slots Q k en (F0 m (pc + 3) ls st)) : Bs G z b p l e R s m args below meth c cells slots Q k en (F0 m pc ls (.ref a :: st)) := fun H locs hB hS => W.objInit C.1 C.2.1 C.2.2.2.1 (C.2.2.2.2.1 _ w1) (C.2.2.2.2.1 _ ki_obj) (C.2.2.2.2.1 _ kc_obj) rfl (hsz.trans C.2.2.1.symm) rfl hdg hR.1 (by show 2 * 0 + _ + 12 ≤ _; have := hR.2; omega) (kk H locs hB hS)
theorem b_aload (C : CXB G p m c cc nL s args own) {kf : Fin 4} {i : Nat} {x : Nat} (hdg : decode cc pc = .ok (.aload_n kf, 1)) (hi : (kf : Nat) = i) (hl : ls[i]? = some (.val (.ref x))) (kk : Bs G z b p l e R s m args below meth c cells slots Q k en (F0 m (pc + 1) ls (.ref x :: st))) : Bs G z b p l e R s m args below meth c cells slots Q k en (F0 m pc ls st) := fun H locs hB hS => lv_aload_n C.1 C.2.1 hdg hi hl (kk H locs hB hS)
theorem b_iload (C : CXB G p m c cc nL s args own) {kf : Fin 4} {i : Nat} {x : Int32} (hdg : decode cc pc = .ok (.iload_n kf, 1)) (hi : (kf : Nat) = i) (hl : ls[i]? = some (.val (.int x))) (kk : Bs G z b p l e R s m args below meth c cells slots Q k en (F0 m (pc + 1) ls (.int x :: st))) : Bs G z b p l e R s m args below meth c cells slots Q k en (F0 m pc ls st) := fun H locs hB hS => lv_iload_n C.1 C.2.1 hdg hi hl (kk H locs hB hS)
theorem b_iconst (C : CXB G p m c cc nL s args own) {n : Int} {v : Int32} (hdg : decode cc pc = .ok (.iconst n, 1)) (hv : Int32.ofInt n = v) (kk : Bs G z b p l e R s m args below meth c cells slots Q k en (F0 m (pc + 1) ls (.int v :: st))) : Bs G z b p l e R s m args below meth c cells slots Q k en (F0 m pc ls st) := fun H locs hB hS => lv_iconst C.1 C.2.1 hdg hv (kk H locs hB hS)
theorem b_bipush (C : CXB G p m c cc nL s args own) {n : Int} {v : Int32} (hdg : decode cc pc = .ok (.bipush n, 2)) (hv : (Int8.ofInt n).toInt32 = v) (kk : Bs G z b p l e R s m args below meth c cells slots Q k en (F0 m (pc + 2) ls (.int v :: st))) : Bs G z b p l e R s m args below meth c cells slots Q k en (F0 m pc ls st) := fun H locs hB hS => lv_bipush C.1 C.2.1 hdg hv (kk H locs hB hS)
theorem b_sipush (C : CXB G p m c cc nL s args own) {n : Int} {v : Int32} (hdg : decode cc pc = .ok (.sipush n, 3)) (hv : (Int16.ofInt n).toInt32 = v) (kk : Bs G z b p l e R s m args below meth c cells slots Q k en (F0 m (pc + 3) ls (.int v :: st))) : Bs G z b p l e R s m args below meth c cells slots Q k en (F0 m pc ls st) := fun H locs hB hS => lv_sipush C.1 C.2.1 hdg hv (kk H locs hB hS)
theorem b_dup (C : CXB G p m c cc nL s args own) {va : Value} (hdg : decode cc pc = .ok (.dup, 1)) (hva : va.category = 1) (kk : Bs G z b p l e R s m args below meth c cells slots Q k en (F0 m (pc + 1) ls (va :: va :: st))) : Bs G z b p l e R s m args below meth c cells slots Q k en (F0 m pc ls (va :: st)) := fun H locs hB hS => lv_dup C.1 C.2.1 hdg hva (kk H locs hB hS)
theorem b_goto (C : CXB G p m c cc nL s args own) {off : Int} (tgt : Nat) (hdg : decode cc pc = .ok (.goto off, 3)) (ht : (pc : Int) + off = (tgt : Int)) (kk : Bs G z b p l e R s m args below meth c cells slots Q k en (F0 m tgt ls st)) : Bs G z b p l e R s m args below meth c cells slots Q k en (F0 m pc ls st) := fun H locs hB hS => lv_goto C.1 C.2.1 hdg ht (kk H locs hB hS)
theorem b_istore (C : CXB G p m c cc nL s args own) {kf : Fin 4} {i : Nat} {x : Int32} {lv : List (Nat × Value)} (lv' : List (Nat × Value)) (hdg : decode cc pc = .ok (.istore_n kf, 1)) (hi : (kf : Nat) = i) (h : lv_has ls nL lv) (hn : i < nL) (hl : (i, Value.int x) :: lv.filter (fun q => !(q.1 == i) && !(q.1 + 1 == i && q.2.category == 2)) = lv') (kk : ∀ ls2 : Array Slot, lv_has ls2 nL lv' → Bs G z b p l e R s m args below meth c cells slots Q k en (F0 m (pc + 1) ls2 st)) : Bs G z b p l e R s m args below meth c cells slots Q k en (F0 m pc ls (.int x :: st)) := fun H locs hB hS => lv_istore_n C.1 C.2.1 hdg hi h hn hl (fun ls2 h2 => kk ls2 h2 H locs hB hS)
theorem b_astore (C : CXB G p m c cc nL s args own) {kf : Fin 4} {i : Nat} {x : Nat} {lv : List (Nat × Value)} (lv' : List (Nat × Value)) (hdg : decode cc pc = .ok (.astore_n kf, 1)) (hi : (kf : Nat) = i) (h : lv_has ls nL lv) (hn : i < nL) (hl : (i, Value.ref x) :: lv.filter (fun q => !(q.1 == i) && !(q.1 + 1 == i && q.2.category == 2)) = lv') (kk : ∀ ls2 : Array Slot, lv_has ls2 nL lv' → Bs G z b p l e R s m args below meth c cells slots Q k en (F0 m (pc + 1) ls2 st)) : Bs G z b p l e R s m args below meth c cells slots Q k en (F0 m pc ls (.ref x :: st)) := fun H locs hB hS => lv_astore_n C.1 C.2.1 hdg hi h hn hl (fun ls2 h2 => kk ls2 h2 H locs hB hS)
theorem b_iinc (C : CXB G p m c cc nL s args own) {i kp : Nat} {n : Int} {x v : Int32} {lv : List (Nat × Value)} (lv' : List (Nat × Value)) (hdg : decode cc pc = .ok (.iinc i n, 3)) (h : lv_has ls nL lv) (hk : lv[kp]? = some (i, .int x)) (hv : x + Int32.ofInt n = v) (hn : i < nL) (hl : (i, Value.int v) :: lv.filter (fun q => !(q.1 == i) && !(q.1 + 1 == i && q.2.category == 2)) = lv') (kk : ∀ ls2 : Array Slot, lv_has ls2 nL lv' → Bs G z b p l e R s m args below meth c cells slots Q k en (F0 m (pc + 3) ls2 st)) : Bs G z b p l e R s m args below meth c cells slots Q k en (F0 m pc ls st) := fun H locs hB hS => lv_iinc C.1 C.2.1 hdg h hk hv hn hl (fun ls2 h2 => kk ls2 h2 H locs hB hS)
theorem b_icmp_ge (C : CXB G p m c cc nL s args own) {x y : Int32} {off : Int} (tgt : Nat) (hdg : decode cc pc = .ok (.if_icmp .ge off, 3)) (ht : (pc : Int) + off = (tgt : Int)) (kt : x ≥ y → Bs G z b p l e R s m args below meth c cells slots Q k en (F0 m tgt ls st)) (kn : ¬ x ≥ y → Bs G z b p l e R s m args below meth c cells slots Q k en (F0 m (pc + 3) ls st)) : Bs G z b p l e R s m args below meth c cells slots Q k en (F0 m pc ls (.int y :: .int x :: st)) := fun H locs hB hS => lv_icmp_ge C.1 C.2.1 hdg ht (fun h => kt h H locs hB hS) (fun h => kn h H locs hB hS)
theorem b_widen {k1 n1 : Nat} {g : JFrame} (h1 : cells ≤ k1) (h2 : slots ≤ n1) (kk : Bs G z b p l e R s m args below meth c k1 n1 Q k en g) : Bs G z b p l e R s m args below meth c cells slots Q k en g := fun H locs hB hS => W.widen h1 h2 (kk H locs hB hS)
end BL
