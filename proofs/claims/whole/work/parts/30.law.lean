/-! THE CLAIM OUT OF ONE WALK OF THE LAW'S BODY. Your part is whole_start (and what it stands on); all else here is the same for every law, but numbers. -/
def R_law : String := "CopyWhileRunLaw"
def lw_P (b : Addr) (xs : List Int32) (args : Array Value) (s : State) : Prop := args = #[.ref b] ∧ s.IntsAt b xs ∧ xs.length ≤ 3072 ∧ (Jvm.Cond.and given_1 narrow_1).before args s = true
def lw_Q (_ : Array Value) (s : State) (o : Outcome) (t : State) : Prop := o = .returned (some (.int 1)) ∧ Framed s o t [] 600000 7302250
def lw_Z (below : List Frame) (a : Array Value) (s : State) : State → Prop := fun t => ∃ o, t.status = .running ∧ Ended t below o ∧ lw_Q a s o t
/-- the law's own end, with 1 on the stack, nothing written that was there before, its room as the claim has it -/
theorem lw_ret {p : Program} {l : Launch} {e : Env} {s : State} {m : MethodId} {below : List Frame} {meth : Method} {c : Code} {b : Nat} (hx : p.tables.exec = Jvm.exec) (hb : c.code = code) (hr : meth.sig.returnType = ret) (hlocks : meth.locks = false) {pc : Nat} {H : Heap} {ls : Array Slot} (hdg : decode code pc = .ok (.ireturn, 1)) : W p l e room_1 s m #[Value.ref b] below meth c H [] 600000 7302250 (lw_Z below #[Value.ref b] s) (F0 m pc ls [.int 1]) := by
  intro T hT X
  obtain ⟨fs, hret, hrun, hended, hW, hframe⟩ := X.leave (v := some (.int 1)) (hlocks := hlocks) (fun h => by rw [hr] at h; cases h)
  have hmeth' : T.vm.method? m = some meth := X.method'
  refine ⟨T.setFrames fs, ?_, .returned (some (.int 1)), hrun, hended, rfl, ⟨_, rfl⟩, hW, hframe⟩
  jvm_step X.here [X.here.top, hx, hb, hdg, hmeth', hr, ret, narrow_b1]
  (try refine ⟨rfl, ?_⟩); (try refine ⟨rfl, ?_⟩)
  first | (intro acts; rw [hret _ acts rfl rfl rfl]) | rw [hret _ _ rfl rfl rfl]
  exact Steps.refl _
/-- what holds at the law's entry: the machine, the code, the tables' words (any of lw_tbl by 'hts w (by decide +kernel)'), the script of L ints xs at the cell b, what the Statement gives of the start (any of its parts by flat_of_before) -/
def lw_At (p : Program) (s : State) (m : MethodId) (meth : Method) (c : Code) (b L : Nat) (xs : Nat → Int32) : Prop :=
  p.tables.exec = Jvm.exec ∧ c.code = code ∧ meth.sig.returnType = ret ∧ c.maxLocals = 4 ∧ s.vm.findClass R_law = some m.cls ∧ (∀ w ∈ lw_tbl, w.before #[Value.ref b] s = true) ∧ va_X b L xs s s.heap ∧ b < s.heap.size ∧ meth.locks = false ∧ (Jvm.Cond.and given_1 narrow_1).before #[Value.ref b] s = true
section SX
variable {G : GG} {A : Nat → Prop} {nc ns : Nat} {p : Program} {l : Launch} {e : Env} {R : Room} {s : State} {m : MethodId} {args : Array Value} {below : List Frame} {meth : Method} {c : Code} {α : Type} {Q : α → State → Prop} {σ : St} {cc : ByteArray} {nL : Nat} {own : String} {pc : Nat} {ls : Array Slot} {st : List Value} {kf : Int → Option α} {b L : Nat} {xi : Nat → Int32} {xs : Int → Int}
theorem q_xlen (C : CX G A p m c cc nL s args own) (hL : L ≤ 3072) (hX : va_X b L xi s s.heap) (hbl : b < s.heap.size) (hbA : ¬ A b) (hdg : decode cc pc = .ok (.arraylength, 1)) (kk : ∀ x : Int32, Sim G A nc ns p l e R s m args below meth c Q σ (kf x.toInt) (F0 m (pc + 1) ls (.int x :: st))) : Sim G A nc ns p l e R s m args below meth c Q σ (z_gt L kf) (F0 m pc ls (.ref b :: st)) := by
  intro o ho H locs hP hS
  refine va_slen C.1 C.2.1 hX hbl hbA hS hdg (kk (Int32.ofNat L) o ?_ H locs hP hS)
  have h : (Int32.ofNat L).toInt = (L : Int) := nI_toInt (by omega)
  rw [h]
  exact ho
theorem q_xld (C : CX G A p m c cc nL s args own) (hX : va_X b L xi s s.heap) (hbl : b < s.heap.size) (hbA : ¬ A b) (hxs : ∀ i : Int, 0 ≤ i → xs i = (xi i.toNat).toInt) {i : Int32} (hdg : decode cc pc = .ok (.iaload, 1)) (kk : ∀ x : Int32, Sim G A nc ns p l e R s m args below meth c Q σ (kf x.toInt) (F0 m (pc + 1) ls (.int x :: st))) : Sim G A nc ns p l e R s m args below meth c Q σ (z_ix i.toInt L (z_gt (xs i.toInt) kf)) (F0 m pc ls (.int i :: .ref b :: st)) := by
  intro o ho H locs hP hS
  obtain ⟨q1, q2⟩ := ix_some ho
  obtain ⟨q3, q4⟩ := vin_of q1
  refine va_sld C.1 C.2.1 hX hbl hbA hS q3 hdg (kk _ o ?_ H locs hP hS)
  have h : xs i.toInt = (xi i.toNatClampNeg).toInt := by
    rw [hxs _ q1.1]
    have : i.toInt.toNat = i.toNatClampNeg := by omega
    rw [this]
  rw [← h]
  exact q2
theorem q_law0 {Q2 : State → Prop} {g : JFrame} (h : (σ : St) = σ) : Sim G A nc ns p l e R s m args below meth c (fun (r : Int) (t : State) => r = 1 → Q2 t) σ (some 0) g := by
  intro o ho H locs hP hS
  cases ho
  intro T hT X
  exact ⟨_, Steps.refl _, fun h => absurd h (by decide)⟩
theorem q_law1 (C : CX G A p m c cL_law 4 s #[Value.ref b] RL) (hAe : A = fun q => s.heap.size ≤ q) (hcs : nc ≤ 600000 ∧ ns ≤ 7302250) (hr : meth.sig.returnType = ret) (hlocks : meth.locks = false) (hdg : decode cL_law pc = .ok (.iconst 1, 1)) (hdg2 : decode cL_law (pc + 1) = .ok (.ireturn, 1)) : Sim G A nc ns p l e room_1 s m #[Value.ref b] below meth c (fun (r : Int) (t : State) => r = 1 → lw_Z below #[Value.ref b] s t) σ (some 1) (F0 m pc ls []) := by
  intro o ho H locs hP hS
  cases ho
  have K : W p l e room_1 s m #[Value.ref b] below meth c H locs nc ns (lw_Z below #[Value.ref b] s) (F0 m pc ls []) := by
    refine lv_iconst (v := 1) C.1 C.2.1 hdg (by decide) ?_
    refine va_forget (fun q hq => by have := hS.2.2 q hq; rw [hAe] at this; exact this) ?_
    refine W.widen (k := 600000) (n := 7302250) hcs.1 hcs.2 ?_
    exact lw_ret C.1 C.2.1 hr hlocks hdg2
  intro T hT X
  obtain ⟨t, h1, h2⟩ := K T hT X
  exact ⟨t, h1, fun _ => h2⟩
end SX
def f_law_J2094 (F : Nat) (L : Nat) (xs : Int → Int) (K18 : Int → St → Option (Int))  (x41 : Int) (σ : St) : Option (Int) :=
  z_ck (x41 + 6) fun v42 =>
  K18 v42 σ

def f_law_J296 (F : Nat) (L : Nat) (xs : Int → Int) (K18 : Int → St → Option (Int))  (x8 : Int) (σ : St) : Option (Int) :=
  z_gt 1 fun v9 =>
  z_ck (x8 + v9) fun v10 =>
  z_ix v10 L <| z_gt (xs v10) fun v11 =>
  z_gt 2 fun v12 =>
  z_ck (x8 + v12) fun v13 =>
  z_ix v13 L <| z_gt (xs v13) fun v14 =>
  z_gt 3 fun v15 =>
  z_ck (x8 + v15) fun v16 =>
  z_ix v16 L <| z_gt (xs v16) fun v17 =>
  z_gt 4 fun v18 =>
  z_ck (x8 + v18) fun v19 =>
  z_ix v19 L <| z_gt (xs v19) fun v20 =>
  z_gt 5 fun v21 =>
  z_ck (x8 + v21) fun v22 =>
  z_ix v22 L <| z_gt (xs v22) fun v23 =>
  z_c2 (f_X6_feed F 0 v11 v14 v17 v20 v23 σ) fun v24 σ1 =>
  z_gt 1 fun v25 =>
  z_ck (x8 + v25) fun v26 =>
  z_ix v26 L <| z_gt (xs v26) fun v27 =>
  z_gt 2 fun v28 =>
  z_ck (x8 + v28) fun v29 =>
  z_ix v29 L <| z_gt (xs v29) fun v30 =>
  z_gt 3 fun v31 =>
  z_ck (x8 + v31) fun v32 =>
  z_ix v32 L <| z_gt (xs v32) fun v33 =>
  z_gt 4 fun v34 =>
  z_ck (x8 + v34) fun v35 =>
  z_ix v35 L <| z_gt (xs v35) fun v36 =>
  z_gt 5 fun v37 =>
  z_ck (x8 + v37) fun v38 =>
  z_ix v38 L <| z_gt (xs v38) fun v39 =>
  z_c2 (f_X7_feed F 231 v27 v30 v33 v36 v39 σ1) fun v40 σ2 =>
  if v24 = v40 then (
    f_law_J2094 F L xs K18 x8 σ2)
  else (
    some 0)

def f_law_J359 (F : Nat) (L : Nat) (xs : Int → Int) (K18 : Int → St → Option (Int))  (x43 : Int) (σ : St) : Option (Int) :=
  z_gt 1 fun v44 =>
  z_ck (x43 + v44) fun v45 =>
  z_ix v45 L <| z_gt (xs v45) fun v46 =>
  z_c2 (f_X6_end F 0 v46 σ) fun v47 σ3 =>
  z_gt 1 fun v48 =>
  z_ck (x43 + v48) fun v49 =>
  z_ix v49 L <| z_gt (xs v49) fun v50 =>
  z_c2 (f_X7_end F 231 v50 σ3) fun v51 σ4 =>
  if v47 = v51 then (
    f_law_J2094 F L xs K18 x43 σ4)
  else (
    some 0)

def f_law_J382 (F : Nat) (L : Nat) (xs : Int → Int) (K18 : Int → St → Option (Int))  (x52 : Int) (σ : St) : Option (Int) :=
  z_c2 (f_X6_store F 0 σ) fun v53 σ5 =>
  z_c2 (f_X7_store F 231 σ5) fun v54 σ6 =>
  if v53 = v54 then (
    f_law_J2094 F L xs K18 x52 σ6)
  else (
    some 0)

def f_law_J395 (F : Nat) (L : Nat) (xs : Int → Int) (K18 : Int → St → Option (Int))  (x55 : Int) (σ : St) : Option (Int) :=
  z_gt 1 fun v56 =>
  z_ck (x55 + v56) fun v57 =>
  z_ix v57 L <| z_gt (xs v57) fun v58 =>
  z_c1 (f_X6_fault F 0 v58 σ) fun v59 =>
  z_gt 1 fun v60 =>
  z_ck (x55 + v60) fun v61 =>
  z_ix v61 L <| z_gt (xs v61) fun v62 =>
  z_c1 (f_X7_fault F 231 v62 σ) fun v63 =>
  if v59 = v63 then (
    f_law_J2094 F L xs K18 x55 σ)
  else (
    some 0)

def f_law_J418 (F : Nat) (L : Nat) (xs : Int → Int) (K18 : Int → St → Option (Int))  (x64 : Int) (σ : St) : Option (Int) :=
  z_gt 1 fun v65 =>
  z_ck (x64 + v65) fun v66 =>
  z_ix v66 L <| z_gt (xs v66) fun v67 =>
  z_gt 2 fun v68 =>
  z_ck (x64 + v68) fun v69 =>
  z_ix v69 L <| z_gt (xs v69) fun v70 =>
  z_c1 (f_X6_event F 0 v67 v70 σ) fun v71 =>
  z_gt 1 fun v72 =>
  z_ck (x64 + v72) fun v73 =>
  z_ix v73 L <| z_gt (xs v73) fun v74 =>
  z_gt 2 fun v75 =>
  z_ck (x64 + v75) fun v76 =>
  z_ix v76 L <| z_gt (xs v76) fun v77 =>
  z_c1 (f_X7_event F 231 v74 v77 σ) fun v78 =>
  if v71 = v78 then (
    f_law_J2094 F L xs K18 x64 σ)
  else (
    some 0)

def f_law_J451 (F : Nat) (L : Nat) (xs : Int → Int) (K18 : Int → St → Option (Int))  (x79 : Int) (σ : St) : Option (Int) :=
  z_gt 1 fun v80 =>
  z_ck (x79 + v80) fun v81 =>
  z_ix v81 L <| z_gt (xs v81) fun v82 =>
  z_c2 (f_X6_refused F 0 v82 σ) fun v83 σ7 =>
  z_gt 1 fun v84 =>
  z_ck (x79 + v84) fun v85 =>
  z_ix v85 L <| z_gt (xs v85) fun v86 =>
  z_c2 (f_X7_refused F 231 v86 σ7) fun v87 σ8 =>
  if v83 = v87 then (
    f_law_J2094 F L xs K18 x79 σ8)
  else (
    some 0)

def f_law_J474 (F : Nat) (L : Nat) (xs : Int → Int) (K18 : Int → St → Option (Int))  (x88 : Int) (σ : St) : Option (Int) :=
  z_gt 1 fun v89 =>
  z_ck (x88 + v89) fun v90 =>
  z_ix v90 L <| z_gt (xs v90) fun v91 =>
  z_gt 2 fun v92 =>
  z_ck (x88 + v92) fun v93 =>
  z_ix v93 L <| z_gt (xs v93) fun v94 =>
  z_c2 (f_X6_value F 0 v91 v94 σ) fun v95 σ9 =>
  z_gt 1 fun v96 =>
  z_ck (x88 + v96) fun v97 =>
  z_ix v97 L <| z_gt (xs v97) fun v98 =>
  z_gt 2 fun v99 =>
  z_ck (x88 + v99) fun v100 =>
  z_ix v100 L <| z_gt (xs v100) fun v101 =>
  z_c2 (f_X7_value F 231 v98 v101 σ9) fun v102 σ10 =>
  if v95 = v102 then (
    f_law_J2094 F L xs K18 x88 σ10)
  else (
    some 0)

def f_law_J507 (F : Nat) (L : Nat) (xs : Int → Int) (K18 : Int → St → Option (Int))  (x103 : Int) (σ : St) : Option (Int) :=
  z_gt 1 fun v104 =>
  z_ck (x103 + v104) fun v105 =>
  z_ix v105 L <| z_gt (xs v105) fun v106 =>
  z_c2 (f_X6_sum F 0 v106 σ) fun v107 σ11 =>
  z_gt 1 fun v108 =>
  z_ck (x103 + v108) fun v109 =>
  z_ix v109 L <| z_gt (xs v109) fun v110 =>
  z_c2 (f_X7_sum F 231 v110 σ11) fun v111 σ12 =>
  if v107 = v111 then (
    f_law_J2094 F L xs K18 x103 σ12)
  else (
    some 0)

def f_law_J530 (F : Nat) (L : Nat) (xs : Int → Int) (K18 : Int → St → Option (Int))  (x112 : Int) (σ : St) : Option (Int) :=
  z_gt 1 fun v113 =>
  z_ck (x112 + v113) fun v114 =>
  z_ix v114 L <| z_gt (xs v114) fun v115 =>
  z_c2 (f_X6_changes F 0 v115 σ) fun v116 σ13 =>
  z_gt 1 fun v117 =>
  z_ck (x112 + v117) fun v118 =>
  z_ix v118 L <| z_gt (xs v118) fun v119 =>
  z_c2 (f_X7_changes F 231 v119 σ13) fun v120 σ14 =>
  if v116 = v120 then (
    f_law_J2094 F L xs K18 x112 σ14)
  else (
    some 0)

def f_law_J553 (F : Nat) (L : Nat) (xs : Int → Int) (K18 : Int → St → Option (Int))  (x121 : Int) (σ : St) : Option (Int) :=
  z_gt 1 fun v122 =>
  z_ck (x121 + v122) fun v123 =>
  z_ix v123 L <| z_gt (xs v123) fun v124 =>
  z_gt 2 fun v125 =>
  z_ck (x121 + v125) fun v126 =>
  z_ix v126 L <| z_gt (xs v126) fun v127 =>
  z_c2 (f_X6_latest F 0 v124 v127 σ) fun v128 σ15 =>
  z_gt 1 fun v129 =>
  z_ck (x121 + v129) fun v130 =>
  z_ix v130 L <| z_gt (xs v130) fun v131 =>
  z_gt 2 fun v132 =>
  z_ck (x121 + v132) fun v133 =>
  z_ix v133 L <| z_gt (xs v133) fun v134 =>
  z_c2 (f_X7_latest F 231 v131 v134 σ15) fun v135 σ16 =>
  if v128 = v135 then (
    f_law_J2094 F L xs K18 x121 σ16)
  else (
    some 0)

def f_law_J586 (F : Nat) (L : Nat) (xs : Int → Int) (K18 : Int → St → Option (Int))  (x136 : Int) (σ : St) : Option (Int) :=
  z_gt 1 fun v137 =>
  z_ck (x136 + v137) fun v138 =>
  z_ix v138 L <| z_gt (xs v138) fun v139 =>
  z_gt 2 fun v140 =>
  z_ck (x136 + v140) fun v141 =>
  z_ix v141 L <| z_gt (xs v141) fun v142 =>
  z_c2 (f_X6_dirty F 0 v139 v142 σ) fun v143 σ17 =>
  z_gt 1 fun v144 =>
  z_ck (x136 + v144) fun v145 =>
  z_ix v145 L <| z_gt (xs v145) fun v146 =>
  z_gt 2 fun v147 =>
  z_ck (x136 + v147) fun v148 =>
  z_ix v148 L <| z_gt (xs v148) fun v149 =>
  z_c2 (f_X7_dirty F 231 v146 v149 σ17) fun v150 σ18 =>
  if v143 = v150 then (
    f_law_J2094 F L xs K18 x136 σ18)
  else (
    some 0)

def f_law_J619 (F : Nat) (L : Nat) (xs : Int → Int) (K18 : Int → St → Option (Int))  (x151 : Int) (σ : St) : Option (Int) :=
  z_gt 1 fun v152 =>
  z_ck (x151 + v152) fun v153 =>
  z_ix v153 L <| z_gt (xs v153) fun v154 =>
  z_c2 (f_X6_dirties F 0 v154 σ) fun v155 σ19 =>
  z_gt 1 fun v156 =>
  z_ck (x151 + v156) fun v157 =>
  z_ix v157 L <| z_gt (xs v157) fun v158 =>
  z_c2 (f_X7_dirties F 231 v158 σ19) fun v159 σ20 =>
  if v155 = v159 then (
    f_law_J2094 F L xs K18 x151 σ20)
  else (
    some 0)

def f_law_J642 (F : Nat) (L : Nat) (xs : Int → Int) (K18 : Int → St → Option (Int))  (x160 : Int) (σ : St) : Option (Int) :=
  z_gt 1 fun v161 =>
  z_ck (x160 + v161) fun v162 =>
  z_ix v162 L <| z_gt (xs v162) fun v163 =>
  z_gt 2 fun v164 =>
  z_ck (x160 + v164) fun v165 =>
  z_ix v165 L <| z_gt (xs v165) fun v166 =>
  z_gt 3 fun v167 =>
  z_ck (x160 + v167) fun v168 =>
  z_ix v168 L <| z_gt (xs v168) fun v169 =>
  z_c2 (f_X6_region F 0 v163 v166 v169 σ) fun v170 σ21 =>
  z_gt 1 fun v171 =>
  z_ck (x160 + v171) fun v172 =>
  z_ix v172 L <| z_gt (xs v172) fun v173 =>
  z_gt 2 fun v174 =>
  z_ck (x160 + v174) fun v175 =>
  z_ix v175 L <| z_gt (xs v175) fun v176 =>
  z_gt 3 fun v177 =>
  z_ck (x160 + v177) fun v178 =>
  z_ix v178 L <| z_gt (xs v178) fun v179 =>
  z_c2 (f_X7_region F 231 v173 v176 v179 σ21) fun v180 σ22 =>
  if v170 = v180 then (
    f_law_J2094 F L xs K18 x160 σ22)
  else (
    some 0)

def f_law_J685 (F : Nat) (L : Nat) (xs : Int → Int) (K18 : Int → St → Option (Int))  (x181 : Int) (σ : St) : Option (Int) :=
  z_gt 1 fun v182 =>
  z_ck (x181 + v182) fun v183 =>
  z_ix v183 L <| z_gt (xs v183) fun v184 =>
  z_gt 2 fun v185 =>
  z_ck (x181 + v185) fun v186 =>
  z_ix v186 L <| z_gt (xs v186) fun v187 =>
  z_c2 (f_X6_regions F 0 v184 v187 σ) fun v188 σ23 =>
  z_gt 1 fun v189 =>
  z_ck (x181 + v189) fun v190 =>
  z_ix v190 L <| z_gt (xs v190) fun v191 =>
  z_gt 2 fun v192 =>
  z_ck (x181 + v192) fun v193 =>
  z_ix v193 L <| z_gt (xs v193) fun v194 =>
  z_c2 (f_X7_regions F 231 v191 v194 σ23) fun v195 σ24 =>
  if v188 = v195 then (
    f_law_J2094 F L xs K18 x181 σ24)
  else (
    some 0)

def f_law_J718 (F : Nat) (L : Nat) (xs : Int → Int) (K18 : Int → St → Option (Int))  (x196 : Int) (σ : St) : Option (Int) :=
  z_gt 1 fun v197 =>
  z_ck (x196 + v197) fun v198 =>
  z_ix v198 L <| z_gt (xs v198) fun v199 =>
  z_c2 (f_X6_looks F 0 v199 σ) fun v200 σ25 =>
  z_gt 1 fun v201 =>
  z_ck (x196 + v201) fun v202 =>
  z_ix v202 L <| z_gt (xs v202) fun v203 =>
  z_c2 (f_X7_looks F 231 v203 σ25) fun v204 σ26 =>
  if v200 = v204 then (
    f_law_J2094 F L xs K18 x196 σ26)
  else (
    some 0)

def f_law_J741 (F : Nat) (L : Nat) (xs : Int → Int) (K18 : Int → St → Option (Int))  (x205 : Int) (σ : St) : Option (Int) :=
  z_gt 1 fun v206 =>
  z_ck (x205 + v206) fun v207 =>
  z_ix v207 L <| z_gt (xs v207) fun v208 =>
  z_c2 (f_X6_copies F 0 v208 σ) fun v209 σ27 =>
  z_gt 1 fun v210 =>
  z_ck (x205 + v210) fun v211 =>
  z_ix v211 L <| z_gt (xs v211) fun v212 =>
  z_c2 (f_X7_copies F 231 v212 σ27) fun v213 σ28 =>
  if v209 = v213 then (
    f_law_J2094 F L xs K18 x205 σ28)
  else (
    some 0)

def f_law_J764 (F : Nat) (L : Nat) (xs : Int → Int) (K18 : Int → St → Option (Int))  (x214 : Int) (σ : St) : Option (Int) :=
  z_gt 1 fun v215 =>
  z_ck (x214 + v215) fun v216 =>
  z_ix v216 L <| z_gt (xs v216) fun v217 =>
  z_c2 (f_X6_open F 0 v217 σ) fun v218 σ29 =>
  z_gt 1 fun v219 =>
  z_ck (x214 + v219) fun v220 =>
  z_ix v220 L <| z_gt (xs v220) fun v221 =>
  z_c2 (f_X7_open F 231 v221 σ29) fun v222 σ30 =>
  if v218 = v222 then (
    f_law_J2094 F L xs K18 x214 σ30)
  else (
    some 0)

def f_law_J787 (F : Nat) (L : Nat) (xs : Int → Int) (K18 : Int → St → Option (Int))  (x223 : Int) (σ : St) : Option (Int) :=
  z_gt 1 fun v224 =>
  z_ck (x223 + v224) fun v225 =>
  z_ix v225 L <| z_gt (xs v225) fun v226 =>
  z_gt 2 fun v227 =>
  z_ck (x223 + v227) fun v228 =>
  z_ix v228 L <| z_gt (xs v228) fun v229 =>
  z_c2 (f_X6_copy F 0 v226 v229 σ) fun v230 σ31 =>
  z_gt 1 fun v231 =>
  z_ck (x223 + v231) fun v232 =>
  z_ix v232 L <| z_gt (xs v232) fun v233 =>
  z_gt 2 fun v234 =>
  z_ck (x223 + v234) fun v235 =>
  z_ix v235 L <| z_gt (xs v235) fun v236 =>
  z_c2 (f_X7_copy F 231 v233 v236 σ31) fun v237 σ32 =>
  if v230 = v237 then (
    f_law_J2094 F L xs K18 x223 σ32)
  else (
    some 0)

def f_law_J820 (F : Nat) (L : Nat) (xs : Int → Int) (K18 : Int → St → Option (Int))  (x238 : Int) (σ : St) : Option (Int) :=
  z_gt 1 fun v239 =>
  z_ck (x238 + v239) fun v240 =>
  z_ix v240 L <| z_gt (xs v240) fun v241 =>
  z_gt 2 fun v242 =>
  z_ck (x238 + v242) fun v243 =>
  z_ix v243 L <| z_gt (xs v243) fun v244 =>
  z_c2 (f_X6_kept F 0 v241 v244 σ) fun v245 σ33 =>
  z_gt 1 fun v246 =>
  z_ck (x238 + v246) fun v247 =>
  z_ix v247 L <| z_gt (xs v247) fun v248 =>
  z_gt 2 fun v249 =>
  z_ck (x238 + v249) fun v250 =>
  z_ix v250 L <| z_gt (xs v250) fun v251 =>
  z_c2 (f_X7_kept F 231 v248 v251 σ33) fun v252 σ34 =>
  if v245 = v252 then (
    f_law_J2094 F L xs K18 x238 σ34)
  else (
    some 0)

def f_law_J853 (F : Nat) (L : Nat) (xs : Int → Int) (K18 : Int → St → Option (Int))  (x253 : Int) (σ : St) : Option (Int) :=
  z_gt 1 fun v254 =>
  z_ck (x253 + v254) fun v255 =>
  z_ix v255 L <| z_gt (xs v255) fun v256 =>
  z_gt 2 fun v257 =>
  z_ck (x253 + v257) fun v258 =>
  z_ix v258 L <| z_gt (xs v258) fun v259 =>
  z_c2 (f_X6_saved F 0 v256 v259 σ) fun v260 σ35 =>
  z_gt 1 fun v261 =>
  z_ck (x253 + v261) fun v262 =>
  z_ix v262 L <| z_gt (xs v262) fun v263 =>
  z_gt 2 fun v264 =>
  z_ck (x253 + v264) fun v265 =>
  z_ix v265 L <| z_gt (xs v265) fun v266 =>
  z_c2 (f_X7_saved F 231 v263 v266 σ35) fun v267 σ36 =>
  if v260 = v267 then (
    f_law_J2094 F L xs K18 x253 σ36)
  else (
    some 0)

def f_law_J886 (F : Nat) (L : Nat) (xs : Int → Int) (K18 : Int → St → Option (Int))  (x268 : Int) (σ : St) : Option (Int) :=
  z_gt 1 fun v269 =>
  z_ck (x268 + v269) fun v270 =>
  z_ix v270 L <| z_gt (xs v270) fun v271 =>
  z_gt 2 fun v272 =>
  z_ck (x268 + v272) fun v273 =>
  z_ix v273 L <| z_gt (xs v273) fun v274 =>
  z_c2 (f_X6_order F 0 v271 v274 σ) fun v275 σ37 =>
  z_gt 1 fun v276 =>
  z_ck (x268 + v276) fun v277 =>
  z_ix v277 L <| z_gt (xs v277) fun v278 =>
  z_gt 2 fun v279 =>
  z_ck (x268 + v279) fun v280 =>
  z_ix v280 L <| z_gt (xs v280) fun v281 =>
  z_c2 (f_X7_order F 231 v278 v281 σ37) fun v282 σ38 =>
  if v275 = v282 then (
    f_law_J2094 F L xs K18 x268 σ38)
  else (
    some 0)

def f_law_J919 (F : Nat) (L : Nat) (xs : Int → Int) (K18 : Int → St → Option (Int))  (x283 : Int) (σ : St) : Option (Int) :=
  z_gt 1 fun v284 =>
  z_ck (x283 + v284) fun v285 =>
  z_ix v285 L <| z_gt (xs v285) fun v286 =>
  z_c2 (f_X6_waiting F 0 v286 σ) fun v287 σ39 =>
  z_gt 1 fun v288 =>
  z_ck (x283 + v288) fun v289 =>
  z_ix v289 L <| z_gt (xs v289) fun v290 =>
  z_c2 (f_X7_waiting F 231 v290 σ39) fun v291 σ40 =>
  if v287 = v291 then (
    f_law_J2094 F L xs K18 x283 σ40)
  else (
    some 0)

def f_law_J942 (F : Nat) (L : Nat) (xs : Int → Int) (K18 : Int → St → Option (Int))  (x292 : Int) (σ : St) : Option (Int) :=
  z_gt 1 fun v293 =>
  z_ck (x292 + v293) fun v294 =>
  z_ix v294 L <| z_gt (xs v294) fun v295 =>
  z_c2 (f_X6_saves F 0 v295 σ) fun v296 σ41 =>
  z_gt 1 fun v297 =>
  z_ck (x292 + v297) fun v298 =>
  z_ix v298 L <| z_gt (xs v298) fun v299 =>
  z_c2 (f_X7_saves F 231 v299 σ41) fun v300 σ42 =>
  if v296 = v300 then (
    f_law_J2094 F L xs K18 x292 σ42)
  else (
    some 0)

def f_law_J965 (F : Nat) (L : Nat) (xs : Int → Int) (K18 : Int → St → Option (Int))  (x301 : Int) (σ : St) : Option (Int) :=
  z_gt 1 fun v302 =>
  z_ck (x301 + v302) fun v303 =>
  z_ix v303 L <| z_gt (xs v303) fun v304 =>
  z_c2 (f_X6_work F 0 v304 σ) fun v305 σ43 =>
  z_gt 1 fun v306 =>
  z_ck (x301 + v306) fun v307 =>
  z_ix v307 L <| z_gt (xs v307) fun v308 =>
  z_c2 (f_X7_work F 231 v308 σ43) fun v309 σ44 =>
  if v305 = v309 then (
    f_law_J2094 F L xs K18 x301 σ44)
  else (
    some 0)

def f_law_J988 (F : Nat) (L : Nat) (xs : Int → Int) (K18 : Int → St → Option (Int))  (x310 : Int) (σ : St) : Option (Int) :=
  z_gt 1 fun v311 =>
  z_ck (x310 + v311) fun v312 =>
  z_ix v312 L <| z_gt (xs v312) fun v313 =>
  z_c2 (f_X6_wasted F 0 v313 σ) fun v314 σ45 =>
  z_gt 1 fun v315 =>
  z_ck (x310 + v315) fun v316 =>
  z_ix v316 L <| z_gt (xs v316) fun v317 =>
  z_c2 (f_X7_wasted F 231 v317 σ45) fun v318 σ46 =>
  if v314 = v318 then (
    f_law_J2094 F L xs K18 x310 σ46)
  else (
    some 0)

def f_law_J1011 (F : Nat) (L : Nat) (xs : Int → Int) (K18 : Int → St → Option (Int))  (x319 : Int) (σ : St) : Option (Int) :=
  z_gt 1 fun v320 =>
  z_ck (x319 + v320) fun v321 =>
  z_ix v321 L <| z_gt (xs v321) fun v322 =>
  z_c2 (f_X6_chain F 0 v322 σ) fun v323 σ47 =>
  z_gt 1 fun v324 =>
  z_ck (x319 + v324) fun v325 =>
  z_ix v325 L <| z_gt (xs v325) fun v326 =>
  z_c2 (f_X7_chain F 231 v326 σ47) fun v327 σ48 =>
  if v323 = v327 then (
    f_law_J2094 F L xs K18 x319 σ48)
  else (
    some 0)

def f_law_J1034 (F : Nat) (L : Nat) (xs : Int → Int) (K18 : Int → St → Option (Int))  (x328 : Int) (σ : St) : Option (Int) :=
  z_gt 1 fun v329 =>
  z_ck (x328 + v329) fun v330 =>
  z_ix v330 L <| z_gt (xs v330) fun v331 =>
  z_gt 2 fun v332 =>
  z_ck (x328 + v332) fun v333 =>
  z_ix v333 L <| z_gt (xs v333) fun v334 =>
  z_c2 (f_X6_linked F 0 v331 v334 σ) fun v335 σ49 =>
  z_gt 1 fun v336 =>
  z_ck (x328 + v336) fun v337 =>
  z_ix v337 L <| z_gt (xs v337) fun v338 =>
  z_gt 2 fun v339 =>
  z_ck (x328 + v339) fun v340 =>
  z_ix v340 L <| z_gt (xs v340) fun v341 =>
  z_c2 (f_X7_linked F 231 v338 v341 σ49) fun v342 σ50 =>
  if v335 = v342 then (
    f_law_J2094 F L xs K18 x328 σ50)
  else (
    some 0)

def f_law_J1067 (F : Nat) (L : Nat) (xs : Int → Int) (K18 : Int → St → Option (Int))  (x343 : Int) (σ : St) : Option (Int) :=
  z_gt 1 fun v344 =>
  z_ck (x343 + v344) fun v345 =>
  z_ix v345 L <| z_gt (xs v345) fun v346 =>
  z_c2 (f_X6_replays F 0 v346 σ) fun v347 σ51 =>
  z_gt 1 fun v348 =>
  z_ck (x343 + v348) fun v349 =>
  z_ix v349 L <| z_gt (xs v349) fun v350 =>
  z_c2 (f_X7_replays F 231 v350 σ51) fun v351 σ52 =>
  if v347 = v351 then (
    f_law_J2094 F L xs K18 x343 σ52)
  else (
    some 0)

def f_law_J1090 (F : Nat) (L : Nat) (xs : Int → Int) (K18 : Int → St → Option (Int))  (x352 : Int) (σ : St) : Option (Int) :=
  z_gt 1 fun v353 =>
  z_ck (x352 + v353) fun v354 =>
  z_ix v354 L <| z_gt (xs v354) fun v355 =>
  z_gt 2 fun v356 =>
  z_ck (x352 + v356) fun v357 =>
  z_ix v357 L <| z_gt (xs v357) fun v358 =>
  z_c2 (f_X6_raised F 0 v355 v358 σ) fun v359 σ53 =>
  z_gt 1 fun v360 =>
  z_ck (x352 + v360) fun v361 =>
  z_ix v361 L <| z_gt (xs v361) fun v362 =>
  z_gt 2 fun v363 =>
  z_ck (x352 + v363) fun v364 =>
  z_ix v364 L <| z_gt (xs v364) fun v365 =>
  z_c2 (f_X7_raised F 231 v362 v365 σ53) fun v366 σ54 =>
  if v359 = v366 then (
    f_law_J2094 F L xs K18 x352 σ54)
  else (
    some 0)

def f_law_J1123 (F : Nat) (L : Nat) (xs : Int → Int) (K18 : Int → St → Option (Int))  (x367 : Int) (σ : St) : Option (Int) :=
  z_gt 1 fun v368 =>
  z_ck (x367 + v368) fun v369 =>
  z_ix v369 L <| z_gt (xs v369) fun v370 =>
  z_gt 2 fun v371 =>
  z_ck (x367 + v371) fun v372 =>
  z_ix v372 L <| z_gt (xs v372) fun v373 =>
  z_c2 (f_X6_restored F 0 v370 v373 σ) fun v374 σ55 =>
  z_gt 1 fun v375 =>
  z_ck (x367 + v375) fun v376 =>
  z_ix v376 L <| z_gt (xs v376) fun v377 =>
  z_gt 2 fun v378 =>
  z_ck (x367 + v378) fun v379 =>
  z_ix v379 L <| z_gt (xs v379) fun v380 =>
  z_c2 (f_X7_restored F 231 v377 v380 σ55) fun v381 σ56 =>
  if v374 = v381 then (
    f_law_J2094 F L xs K18 x367 σ56)
  else (
    some 0)

def f_law_J1156 (F : Nat) (L : Nat) (xs : Int → Int) (K18 : Int → St → Option (Int))  (x382 : Int) (σ : St) : Option (Int) :=
  z_gt 1 fun v383 =>
  z_ck (x382 + v383) fun v384 =>
  z_ix v384 L <| z_gt (xs v384) fun v385 =>
  z_c2 (f_X6_doubled F 0 v385 σ) fun v386 σ57 =>
  z_gt 1 fun v387 =>
  z_ck (x382 + v387) fun v388 =>
  z_ix v388 L <| z_gt (xs v388) fun v389 =>
  z_c2 (f_X7_doubled F 231 v389 σ57) fun v390 σ58 =>
  if v386 = v390 then (
    f_law_J2094 F L xs K18 x382 σ58)
  else (
    some 0)

def f_law_J1179 (F : Nat) (L : Nat) (xs : Int → Int) (K18 : Int → St → Option (Int))  (x391 : Int) (σ : St) : Option (Int) :=
  z_gt 1 fun v392 =>
  z_ck (x391 + v392) fun v393 =>
  z_ix v393 L <| z_gt (xs v393) fun v394 =>
  z_gt 2 fun v395 =>
  z_ck (x391 + v395) fun v396 =>
  z_ix v396 L <| z_gt (xs v396) fun v397 =>
  z_c2 (f_X6_source F 0 v394 v397 σ) fun v398 σ59 =>
  z_gt 1 fun v399 =>
  z_ck (x391 + v399) fun v400 =>
  z_ix v400 L <| z_gt (xs v400) fun v401 =>
  z_gt 2 fun v402 =>
  z_ck (x391 + v402) fun v403 =>
  z_ix v403 L <| z_gt (xs v403) fun v404 =>
  z_c2 (f_X7_source F 231 v401 v404 σ59) fun v405 σ60 =>
  if v398 = v405 then (
    f_law_J2094 F L xs K18 x391 σ60)
  else (
    some 0)

def f_law_J1212 (F : Nat) (L : Nat) (xs : Int → Int) (K18 : Int → St → Option (Int))  (x406 : Int) (σ : St) : Option (Int) :=
  z_gt 1 fun v407 =>
  z_ck (x406 + v407) fun v408 =>
  z_ix v408 L <| z_gt (xs v408) fun v409 =>
  z_c2 (f_X6_age F 0 v409 σ) fun v410 σ61 =>
  z_gt 1 fun v411 =>
  z_ck (x406 + v411) fun v412 =>
  z_ix v412 L <| z_gt (xs v412) fun v413 =>
  z_c2 (f_X7_age F 231 v413 σ61) fun v414 σ62 =>
  if v410 = v414 then (
    f_law_J2094 F L xs K18 x406 σ62)
  else (
    some 0)

def f_law_J1235 (F : Nat) (L : Nat) (xs : Int → Int) (K18 : Int → St → Option (Int))  (x415 : Int) (σ : St) : Option (Int) :=
  z_c2 (f_X6_worst F 0 σ) fun v416 σ63 =>
  z_c2 (f_X7_worst F 231 σ63) fun v417 σ64 =>
  if v416 = v417 then (
    f_law_J2094 F L xs K18 x415 σ64)
  else (
    some 0)

def f_law_J1248 (F : Nat) (L : Nat) (xs : Int → Int) (K18 : Int → St → Option (Int))  (x418 : Int) (σ : St) : Option (Int) :=
  z_gt 1 fun v419 =>
  z_ck (x418 + v419) fun v420 =>
  z_ix v420 L <| z_gt (xs v420) fun v421 =>
  z_gt 2 fun v422 =>
  z_ck (x418 + v422) fun v423 =>
  z_ix v423 L <| z_gt (xs v423) fun v424 =>
  z_c2 (f_X6_differ F 0 v421 v424 σ) fun v425 σ65 =>
  z_gt 1 fun v426 =>
  z_ck (x418 + v426) fun v427 =>
  z_ix v427 L <| z_gt (xs v427) fun v428 =>
  z_gt 2 fun v429 =>
  z_ck (x418 + v429) fun v430 =>
  z_ix v430 L <| z_gt (xs v430) fun v431 =>
  z_c2 (f_X7_differ F 231 v428 v431 σ65) fun v432 σ66 =>
  if v425 = v432 then (
    f_law_J2094 F L xs K18 x418 σ66)
  else (
    some 0)

def f_law_J1281 (F : Nat) (L : Nat) (xs : Int → Int) (K18 : Int → St → Option (Int))  (x433 : Int) (σ : St) : Option (Int) :=
  z_gt 1 fun v434 =>
  z_ck (x433 + v434) fun v435 =>
  z_ix v435 L <| z_gt (xs v435) fun v436 =>
  z_c2 (f_X6_same F 0 v436 σ) fun v437 σ67 =>
  z_gt 1 fun v438 =>
  z_ck (x433 + v438) fun v439 =>
  z_ix v439 L <| z_gt (xs v439) fun v440 =>
  z_c2 (f_X7_same F 231 v440 σ67) fun v441 σ68 =>
  if v437 = v441 then (
    f_law_J2094 F L xs K18 x433 σ68)
  else (
    some 0)

def f_law_J1304 (F : Nat) (L : Nat) (xs : Int → Int) (K18 : Int → St → Option (Int))  (x442 : Int) (σ : St) : Option (Int) :=
  z_gt 1 fun v443 =>
  z_ck (x442 + v443) fun v444 =>
  z_ix v444 L <| z_gt (xs v444) fun v445 =>
  z_c2 (f_X6_pace F 0 v445 σ) fun v446 σ69 =>
  z_gt 1 fun v447 =>
  z_ck (x442 + v447) fun v448 =>
  z_ix v448 L <| z_gt (xs v448) fun v449 =>
  z_c2 (f_X7_pace F 231 v449 σ69) fun v450 σ70 =>
  if v446 = v450 then (
    f_law_J2094 F L xs K18 x442 σ70)
  else (
    some 0)

def f_law_J1327 (F : Nat) (L : Nat) (xs : Int → Int) (K18 : Int → St → Option (Int))  (x451 : Int) (σ : St) : Option (Int) :=
  z_c2 (f_X6_best F 0 σ) fun v452 σ71 =>
  z_c2 (f_X7_best F 231 σ71) fun v453 σ72 =>
  if v452 = v453 then (
    f_law_J2094 F L xs K18 x451 σ72)
  else (
    some 0)

def f_law_J1340 (F : Nat) (L : Nat) (xs : Int → Int) (K18 : Int → St → Option (Int))  (x454 : Int) (σ : St) : Option (Int) :=
  z_c2 (f_X6_blame F 0 σ) fun v455 σ73 =>
  z_c2 (f_X7_blame F 231 σ73) fun v456 σ74 =>
  if v455 = v456 then (
    f_law_J2094 F L xs K18 x454 σ74)
  else (
    some 0)

def f_law_J1353 (F : Nat) (L : Nat) (xs : Int → Int) (K18 : Int → St → Option (Int))  (x457 : Int) (σ : St) : Option (Int) :=
  z_c2 (f_X6_idle F 0 σ) fun v458 σ75 =>
  z_c2 (f_X7_idle F 231 σ75) fun v459 σ76 =>
  if v458 = v459 then (
    f_law_J2094 F L xs K18 x457 σ76)
  else (
    some 0)

def f_law_J1366 (F : Nat) (L : Nat) (xs : Int → Int) (K18 : Int → St → Option (Int))  (x460 : Int) (σ : St) : Option (Int) :=
  z_gt 1 fun v461 =>
  z_ck (x460 + v461) fun v462 =>
  z_ix v462 L <| z_gt (xs v462) fun v463 =>
  z_c2 (f_X6_may F 0 v463 σ) fun v464 σ77 =>
  z_gt 1 fun v465 =>
  z_ck (x460 + v465) fun v466 =>
  z_ix v466 L <| z_gt (xs v466) fun v467 =>
  z_c2 (f_X7_may F 231 v467 σ77) fun v468 σ78 =>
  if v464 = v468 then (
    f_law_J2094 F L xs K18 x460 σ78)
  else (
    some 0)

def f_law_J1389 (F : Nat) (L : Nat) (xs : Int → Int) (K18 : Int → St → Option (Int))  (x469 : Int) (σ : St) : Option (Int) :=
  z_gt 1 fun v470 =>
  z_ck (x469 + v470) fun v471 =>
  z_ix v471 L <| z_gt (xs v471) fun v472 =>
  z_c2 (f_X6_which F 0 v472 σ) fun v473 σ79 =>
  z_gt 1 fun v474 =>
  z_ck (x469 + v474) fun v475 =>
  z_ix v475 L <| z_gt (xs v475) fun v476 =>
  z_c2 (f_X7_which F 231 v476 σ79) fun v477 σ80 =>
  if v473 = v477 then (
    f_law_J2094 F L xs K18 x469 σ80)
  else (
    some 0)

def f_law_J1412 (F : Nat) (L : Nat) (xs : Int → Int) (K18 : Int → St → Option (Int))  (x478 : Int) (σ : St) : Option (Int) :=
  z_gt 1 fun v479 =>
  z_ck (x478 + v479) fun v480 =>
  z_ix v480 L <| z_gt (xs v480) fun v481 =>
  z_c2 (f_X6_plain F 0 v481 σ) fun v482 σ81 =>
  z_gt 1 fun v483 =>
  z_ck (x478 + v483) fun v484 =>
  z_ix v484 L <| z_gt (xs v484) fun v485 =>
  z_c2 (f_X7_plain F 231 v485 σ81) fun v486 σ82 =>
  if v482 = v486 then (
    f_law_J2094 F L xs K18 x478 σ82)
  else (
    some 0)

def f_law_J1435 (F : Nat) (L : Nat) (xs : Int → Int) (K18 : Int → St → Option (Int))  (x487 : Int) (σ : St) : Option (Int) :=
  z_gt 1 fun v488 =>
  z_ck (x487 + v488) fun v489 =>
  z_ix v489 L <| z_gt (xs v489) fun v490 =>
  z_c2 (f_X6_by F 0 v490 σ) fun v491 σ83 =>
  z_gt 1 fun v492 =>
  z_ck (x487 + v492) fun v493 =>
  z_ix v493 L <| z_gt (xs v493) fun v494 =>
  z_c2 (f_X7_by F 231 v494 σ83) fun v495 σ84 =>
  if v491 = v495 then (
    f_law_J2094 F L xs K18 x487 σ84)
  else (
    some 0)

def f_law_J1458 (F : Nat) (L : Nat) (xs : Int → Int) (K18 : Int → St → Option (Int))  (x496 : Int) (σ : St) : Option (Int) :=
  z_c2 (f_X6_law F 0 σ) fun v497 σ85 =>
  z_c2 (f_X7_law F 231 σ85) fun v498 σ86 =>
  if v497 = v498 then (
    f_law_J2094 F L xs K18 x496 σ86)
  else (
    some 0)

def f_law_J1471 (F : Nat) (L : Nat) (xs : Int → Int) (K18 : Int → St → Option (Int))  (x499 : Int) (σ : St) : Option (Int) :=
  z_gt 1 fun v500 =>
  z_ck (x499 + v500) fun v501 =>
  z_ix v501 L <| z_gt (xs v501) fun v502 =>
  z_c2 (f_X6_worth F 0 v502 σ) fun v503 σ87 =>
  z_gt 1 fun v504 =>
  z_ck (x499 + v504) fun v505 =>
  z_ix v505 L <| z_gt (xs v505) fun v506 =>
  z_c2 (f_X7_worth F 231 v506 σ87) fun v507 σ88 =>
  if v503 = v507 then (
    f_law_J2094 F L xs K18 x499 σ88)
  else (
    some 0)

def f_law_J1494 (F : Nat) (L : Nat) (xs : Int → Int) (K18 : Int → St → Option (Int))  (x508 : Int) (σ : St) : Option (Int) :=
  z_gt 1 fun v509 =>
  z_ck (x508 + v509) fun v510 =>
  z_ix v510 L <| z_gt (xs v510) fun v511 =>
  z_gt 2 fun v512 =>
  z_ck (x508 + v512) fun v513 =>
  z_ix v513 L <| z_gt (xs v513) fun v514 =>
  z_c2 (f_X6_share F 0 v511 v514 σ) fun v515 σ89 =>
  z_gt 1 fun v516 =>
  z_ck (x508 + v516) fun v517 =>
  z_ix v517 L <| z_gt (xs v517) fun v518 =>
  z_gt 2 fun v519 =>
  z_ck (x508 + v519) fun v520 =>
  z_ix v520 L <| z_gt (xs v520) fun v521 =>
  z_c2 (f_X7_share F 231 v518 v521 σ89) fun v522 σ90 =>
  if v515 = v522 then (
    f_law_J2094 F L xs K18 x508 σ90)
  else (
    some 0)

def f_law_J1527 (F : Nat) (L : Nat) (xs : Int → Int) (K18 : Int → St → Option (Int))  (x523 : Int) (σ : St) : Option (Int) :=
  z_gt 1 fun v524 =>
  z_ck (x523 + v524) fun v525 =>
  z_ix v525 L <| z_gt (xs v525) fun v526 =>
  z_gt 2 fun v527 =>
  z_ck (x523 + v527) fun v528 =>
  z_ix v528 L <| z_gt (xs v528) fun v529 =>
  z_c2 (f_X6_rests F 0 v526 v529 σ) fun v530 σ91 =>
  z_gt 1 fun v531 =>
  z_ck (x523 + v531) fun v532 =>
  z_ix v532 L <| z_gt (xs v532) fun v533 =>
  z_gt 2 fun v534 =>
  z_ck (x523 + v534) fun v535 =>
  z_ix v535 L <| z_gt (xs v535) fun v536 =>
  z_c2 (f_X7_rests F 231 v533 v536 σ91) fun v537 σ92 =>
  if v530 = v537 then (
    f_law_J2094 F L xs K18 x523 σ92)
  else (
    some 0)

def f_law_J1560 (F : Nat) (L : Nat) (xs : Int → Int) (K18 : Int → St → Option (Int))  (x538 : Int) (σ : St) : Option (Int) :=
  z_gt 1 fun v539 =>
  z_ck (x538 + v539) fun v540 =>
  z_ix v540 L <| z_gt (xs v540) fun v541 =>
  z_gt 2 fun v542 =>
  z_ck (x538 + v542) fun v543 =>
  z_ix v543 L <| z_gt (xs v543) fun v544 =>
  z_gt 3 fun v545 =>
  z_ck (x538 + v545) fun v546 =>
  z_ix v546 L <| z_gt (xs v546) fun v547 =>
  z_gt 4 fun v548 =>
  z_ck (x538 + v548) fun v549 =>
  z_ix v549 L <| z_gt (xs v549) fun v550 =>
  z_c2 (f_X6_gets F 0 v541 v544 v547 v550 σ) fun v551 σ93 =>
  z_gt 1 fun v552 =>
  z_ck (x538 + v552) fun v553 =>
  z_ix v553 L <| z_gt (xs v553) fun v554 =>
  z_gt 2 fun v555 =>
  z_ck (x538 + v555) fun v556 =>
  z_ix v556 L <| z_gt (xs v556) fun v557 =>
  z_gt 3 fun v558 =>
  z_ck (x538 + v558) fun v559 =>
  z_ix v559 L <| z_gt (xs v559) fun v560 =>
  z_gt 4 fun v561 =>
  z_ck (x538 + v561) fun v562 =>
  z_ix v562 L <| z_gt (xs v562) fun v563 =>
  z_c2 (f_X7_gets F 231 v554 v557 v560 v563 σ93) fun v564 σ94 =>
  if v551 = v564 then (
    f_law_J2094 F L xs K18 x538 σ94)
  else (
    some 0)

def f_law_J1613 (F : Nat) (L : Nat) (xs : Int → Int) (K18 : Int → St → Option (Int))  (x565 : Int) (σ : St) : Option (Int) :=
  z_gt 1 fun v566 =>
  z_ck (x565 + v566) fun v567 =>
  z_ix v567 L <| z_gt (xs v567) fun v568 =>
  z_gt 2 fun v569 =>
  z_ck (x565 + v569) fun v570 =>
  z_ix v570 L <| z_gt (xs v570) fun v571 =>
  z_gt 3 fun v572 =>
  z_ck (x565 + v572) fun v573 =>
  z_ix v573 L <| z_gt (xs v573) fun v574 =>
  z_c2 (f_X6_chance F 0 v568 v571 v574 σ) fun v575 σ95 =>
  z_gt 1 fun v576 =>
  z_ck (x565 + v576) fun v577 =>
  z_ix v577 L <| z_gt (xs v577) fun v578 =>
  z_gt 2 fun v579 =>
  z_ck (x565 + v579) fun v580 =>
  z_ix v580 L <| z_gt (xs v580) fun v581 =>
  z_gt 3 fun v582 =>
  z_ck (x565 + v582) fun v583 =>
  z_ix v583 L <| z_gt (xs v583) fun v584 =>
  z_c2 (f_X7_chance F 231 v578 v581 v584 σ95) fun v585 σ96 =>
  z_gt (z_cmp v575 v585) fun v586 =>
  if v586 = 0 then (
    f_law_J2094 F L xs K18 x565 σ96)
  else (
    some 0)

def f_law_J1657 (F : Nat) (L : Nat) (xs : Int → Int) (K18 : Int → St → Option (Int))  (x587 : Int) (σ : St) : Option (Int) :=
  z_gt 1 fun v588 =>
  z_ck (x587 + v588) fun v589 =>
  z_ix v589 L <| z_gt (xs v589) fun v590 =>
  z_gt 2 fun v591 =>
  z_ck (x587 + v591) fun v592 =>
  z_ix v592 L <| z_gt (xs v592) fun v593 =>
  z_c2 (f_X6_mean F 0 v590 v593 σ) fun v594 σ97 =>
  z_gt 1 fun v595 =>
  z_ck (x587 + v595) fun v596 =>
  z_ix v596 L <| z_gt (xs v596) fun v597 =>
  z_gt 2 fun v598 =>
  z_ck (x587 + v598) fun v599 =>
  z_ix v599 L <| z_gt (xs v599) fun v600 =>
  z_c2 (f_X7_mean F 231 v597 v600 σ97) fun v601 σ98 =>
  z_gt (z_cmp v594 v601) fun v602 =>
  if v602 = 0 then (
    f_law_J2094 F L xs K18 x587 σ98)
  else (
    some 0)

def f_law_J1691 (F : Nat) (L : Nat) (xs : Int → Int) (K18 : Int → St → Option (Int))  (x603 : Int) (σ : St) : Option (Int) :=
  z_gt 1 fun v604 =>
  z_ck (x603 + v604) fun v605 =>
  z_ix v605 L <| z_gt (xs v605) fun v606 =>
  z_gt 2 fun v607 =>
  z_ck (x603 + v607) fun v608 =>
  z_ix v608 L <| z_gt (xs v608) fun v609 =>
  z_gt 3 fun v610 =>
  z_ck (x603 + v610) fun v611 =>
  z_ix v611 L <| z_gt (xs v611) fun v612 =>
  z_gt 4 fun v613 =>
  z_ck (x603 + v613) fun v614 =>
  z_ix v614 L <| z_gt (xs v614) fun v615 =>
  z_c2 (f_X6_does F 0 v606 v609 v612 v615 σ) fun v616 σ99 =>
  z_gt 1 fun v617 =>
  z_ck (x603 + v617) fun v618 =>
  z_ix v618 L <| z_gt (xs v618) fun v619 =>
  z_gt 2 fun v620 =>
  z_ck (x603 + v620) fun v621 =>
  z_ix v621 L <| z_gt (xs v621) fun v622 =>
  z_gt 3 fun v623 =>
  z_ck (x603 + v623) fun v624 =>
  z_ix v624 L <| z_gt (xs v624) fun v625 =>
  z_gt 4 fun v626 =>
  z_ck (x603 + v626) fun v627 =>
  z_ix v627 L <| z_gt (xs v627) fun v628 =>
  z_c2 (f_X7_does F 231 v619 v622 v625 v628 σ99) fun v629 σ100 =>
  if v616 = v629 then (
    f_law_J2094 F L xs K18 x603 σ100)
  else (
    some 0)

def f_law_J1744 (F : Nat) (L : Nat) (xs : Int → Int) (K18 : Int → St → Option (Int))  (x630 : Int) (σ : St) : Option (Int) :=
  z_c2 (f_X6_undo F 0 σ) fun v631 σ101 =>
  z_c2 (f_X7_undo F 231 σ101) fun v632 σ102 =>
  if v631 = v632 then (
    f_law_J2094 F L xs K18 x630 σ102)
  else (
    some 0)

def f_law_J1757 (F : Nat) (L : Nat) (xs : Int → Int) (K18 : Int → St → Option (Int))  (x633 : Int) (σ : St) : Option (Int) :=
  z_c2 (f_X6_anew F 0 σ) fun v634 σ103 =>
  z_c2 (f_X7_anew F 231 σ103) fun v635 σ104 =>
  if v634 = v635 then (
    f_law_J2094 F L xs K18 x633 σ104)
  else (
    some 0)

def f_law_J1770 (F : Nat) (L : Nat) (xs : Int → Int) (K18 : Int → St → Option (Int))  (x636 : Int) (σ : St) : Option (Int) :=
  z_gt 1 fun v637 =>
  z_ck (x636 + v637) fun v638 =>
  z_ix v638 L <| z_gt (xs v638) fun v639 =>
  z_gt 2 fun v640 =>
  z_ck (x636 + v640) fun v641 =>
  z_ix v641 L <| z_gt (xs v641) fun v642 =>
  z_c2 (f_X6_drawn F 0 v639 v642 σ) fun v643 σ105 =>
  z_gt 1 fun v644 =>
  z_ck (x636 + v644) fun v645 =>
  z_ix v645 L <| z_gt (xs v645) fun v646 =>
  z_gt 2 fun v647 =>
  z_ck (x636 + v647) fun v648 =>
  z_ix v648 L <| z_gt (xs v648) fun v649 =>
  z_c2 (f_X7_drawn F 231 v646 v649 σ105) fun v650 σ106 =>
  if v643 = v650 then (
    f_law_J2094 F L xs K18 x636 σ106)
  else (
    some 0)

def f_law_J1803 (F : Nat) (L : Nat) (xs : Int → Int) (K18 : Int → St → Option (Int))  (x651 : Int) (σ : St) : Option (Int) :=
  z_gt 1 fun v652 =>
  z_ck (x651 + v652) fun v653 =>
  z_ix v653 L <| z_gt (xs v653) fun v654 =>
  z_gt 2 fun v655 =>
  z_ck (x651 + v655) fun v656 =>
  z_ix v656 L <| z_gt (xs v656) fun v657 =>
  z_gt 3 fun v658 =>
  z_ck (x651 + v658) fun v659 =>
  z_ix v659 L <| z_gt (xs v659) fun v660 =>
  z_c2 (f_X6_luck F 0 v654 v657 v660 σ) fun v661 σ107 =>
  z_gt 1 fun v662 =>
  z_ck (x651 + v662) fun v663 =>
  z_ix v663 L <| z_gt (xs v663) fun v664 =>
  z_gt 2 fun v665 =>
  z_ck (x651 + v665) fun v666 =>
  z_ix v666 L <| z_gt (xs v666) fun v667 =>
  z_gt 3 fun v668 =>
  z_ck (x651 + v668) fun v669 =>
  z_ix v669 L <| z_gt (xs v669) fun v670 =>
  z_c2 (f_X7_luck F 231 v664 v667 v670 σ107) fun v671 σ108 =>
  if v661 = v671 then (
    f_law_J2094 F L xs K18 x651 σ108)
  else (
    some 0)

def f_law_J1846 (F : Nat) (L : Nat) (xs : Int → Int) (K18 : Int → St → Option (Int))  (x672 : Int) (σ : St) : Option (Int) :=
  z_gt 1 fun v673 =>
  z_ck (x672 + v673) fun v674 =>
  z_ix v674 L <| z_gt (xs v674) fun v675 =>
  z_c1 (f_X6_count F 0 v675 σ) fun v676 =>
  z_gt 1 fun v677 =>
  z_ck (x672 + v677) fun v678 =>
  z_ix v678 L <| z_gt (xs v678) fun v679 =>
  z_c1 (f_X7_count F 231 v679 σ) fun v680 =>
  if v676 = v680 then (
    f_law_J2094 F L xs K18 x672 σ)
  else (
    some 0)

def f_law_J1869 (F : Nat) (L : Nat) (xs : Int → Int) (K18 : Int → St → Option (Int))  (x681 : Int) (σ : St) : Option (Int) :=
  z_gt 1 fun v682 =>
  z_ck (x681 + v682) fun v683 =>
  z_ix v683 L <| z_gt (xs v683) fun v684 =>
  z_c2 (f_X6_image F 0 v684 σ) fun v685 σ109 =>
  z_gt 1 fun v686 =>
  z_ck (x681 + v686) fun v687 =>
  z_ix v687 L <| z_gt (xs v687) fun v688 =>
  z_c2 (f_X7_image F 231 v688 σ109) fun v689 σ110 =>
  if v685 = v689 then (
    f_law_J2094 F L xs K18 x681 σ110)
  else (
    some 0)

def f_law_J1892 (F : Nat) (L : Nat) (xs : Int → Int) (K18 : Int → St → Option (Int))  (x690 : Int) (σ : St) : Option (Int) :=
  z_gt 1 fun v691 =>
  z_ck (x690 + v691) fun v692 =>
  z_ix v692 L <| z_gt (xs v692) fun v693 =>
  z_c2 (f_X6_back F 0 v693 σ) fun v694 σ111 =>
  z_gt 1 fun v695 =>
  z_ck (x690 + v695) fun v696 =>
  z_ix v696 L <| z_gt (xs v696) fun v697 =>
  z_c2 (f_X7_back F 231 v697 σ111) fun v698 σ112 =>
  if v694 = v698 then (
    f_law_J2094 F L xs K18 x690 σ112)
  else (
    some 0)

def f_law_J1915 (F : Nat) (L : Nat) (xs : Int → Int) (K18 : Int → St → Option (Int))  (x699 : Int) (σ : St) : Option (Int) :=
  z_gt 1 fun v700 =>
  z_ck (x699 + v700) fun v701 =>
  z_ix v701 L <| z_gt (xs v701) fun v702 =>
  z_gt 2 fun v703 =>
  z_ck (x699 + v703) fun v704 =>
  z_ix v704 L <| z_gt (xs v704) fun v705 =>
  z_gt 3 fun v706 =>
  z_ck (x699 + v706) fun v707 =>
  z_ix v707 L <| z_gt (xs v707) fun v708 =>
  z_c2 (f_X6_row F 0 v702 v705 v708 σ) fun v709 σ113 =>
  z_gt 1 fun v710 =>
  z_ck (x699 + v710) fun v711 =>
  z_ix v711 L <| z_gt (xs v711) fun v712 =>
  z_gt 2 fun v713 =>
  z_ck (x699 + v713) fun v714 =>
  z_ix v714 L <| z_gt (xs v714) fun v715 =>
  z_gt 3 fun v716 =>
  z_ck (x699 + v716) fun v717 =>
  z_ix v717 L <| z_gt (xs v717) fun v718 =>
  z_c2 (f_X7_row F 231 v712 v715 v718 σ113) fun v719 σ114 =>
  if v709 = v719 then (
    f_law_J2094 F L xs K18 x699 σ114)
  else (
    some 0)

def f_law_J1958 (F : Nat) (L : Nat) (xs : Int → Int) (K18 : Int → St → Option (Int))  (x720 : Int) (σ : St) : Option (Int) :=
  z_gt 1 fun v721 =>
  z_ck (x720 + v721) fun v722 =>
  z_ix v722 L <| z_gt (xs v722) fun v723 =>
  z_gt 2 fun v724 =>
  z_ck (x720 + v724) fun v725 =>
  z_ix v725 L <| z_gt (xs v725) fun v726 =>
  z_gt 3 fun v727 =>
  z_ck (x720 + v727) fun v728 =>
  z_ix v728 L <| z_gt (xs v728) fun v729 =>
  z_gt v729 fun v730 =>
  z_gt 32 fun v731 =>
  z_gt (z_lshl v730 v731) fun v732 =>
  z_gt 4 fun v733 =>
  z_ck (x720 + v733) fun v734 =>
  z_ix v734 L <| z_gt (xs v734) fun v735 =>
  z_gt v735 fun v736 =>
  z_gt 4294967295 fun v737 =>
  z_gt (z_land v736 v737) fun v738 =>
  z_gt (z_lor v732 v738) fun v739 =>
  z_c2 (f_X6_write F 0 v723 v726 v739 σ) fun v740 σ115 =>
  z_gt 1 fun v741 =>
  z_ck (x720 + v741) fun v742 =>
  z_ix v742 L <| z_gt (xs v742) fun v743 =>
  z_gt 2 fun v744 =>
  z_ck (x720 + v744) fun v745 =>
  z_ix v745 L <| z_gt (xs v745) fun v746 =>
  z_gt 3 fun v747 =>
  z_ck (x720 + v747) fun v748 =>
  z_ix v748 L <| z_gt (xs v748) fun v749 =>
  z_gt v749 fun v750 =>
  z_gt 32 fun v751 =>
  z_gt (z_lshl v750 v751) fun v752 =>
  z_gt 4 fun v753 =>
  z_ck (x720 + v753) fun v754 =>
  z_ix v754 L <| z_gt (xs v754) fun v755 =>
  z_gt v755 fun v756 =>
  z_gt 4294967295 fun v757 =>
  z_gt (z_land v756 v757) fun v758 =>
  z_gt (z_lor v752 v758) fun v759 =>
  z_c2 (f_X7_write F 231 v743 v746 v759 σ115) fun v760 σ116 =>
  if v740 = v760 then (
    f_law_J2094 F L xs K18 x720 σ116)
  else (
    some 0)

def f_law_J2031 (F : Nat) (L : Nat) (xs : Int → Int) (K18 : Int → St → Option (Int))  (x761 : Int) (σ : St) : Option (Int) :=
  z_gt 1 fun v762 =>
  z_ck (x761 + v762) fun v763 =>
  z_ix v763 L <| z_gt (xs v763) fun v764 =>
  z_gt 2 fun v765 =>
  z_ck (x761 + v765) fun v766 =>
  z_ix v766 L <| z_gt (xs v766) fun v767 =>
  z_gt 3 fun v768 =>
  z_ck (x761 + v768) fun v769 =>
  z_ix v769 L <| z_gt (xs v769) fun v770 =>
  z_gt 4 fun v771 =>
  z_ck (x761 + v771) fun v772 =>
  z_ix v772 L <| z_gt (xs v772) fun v773 =>
  z_gt 5 fun v774 =>
  z_ck (x761 + v774) fun v775 =>
  z_ix v775 L <| z_gt (xs v775) fun v776 =>
  z_c2 (f_X6_paste F 0 v764 v767 v770 v773 v776 σ) fun v777 σ117 =>
  z_gt 1 fun v778 =>
  z_ck (x761 + v778) fun v779 =>
  z_ix v779 L <| z_gt (xs v779) fun v780 =>
  z_gt 2 fun v781 =>
  z_ck (x761 + v781) fun v782 =>
  z_ix v782 L <| z_gt (xs v782) fun v783 =>
  z_gt 3 fun v784 =>
  z_ck (x761 + v784) fun v785 =>
  z_ix v785 L <| z_gt (xs v785) fun v786 =>
  z_gt 4 fun v787 =>
  z_ck (x761 + v787) fun v788 =>
  z_ix v788 L <| z_gt (xs v788) fun v789 =>
  z_gt 5 fun v790 =>
  z_ck (x761 + v790) fun v791 =>
  z_ix v791 L <| z_gt (xs v791) fun v792 =>
  z_c2 (f_X7_paste F 231 v780 v783 v786 v789 v792 σ117) fun v793 σ118 =>
  if v777 = v793 then (
    f_law_J2094 F L xs K18 x761 σ118)
  else (
    some 0)

def f_law_L18 (F : Nat) (L : Nat) (xs : Int → Int)   : Nat → Int → St → Option (Int)
  | 0, _, _ => none
  | n + 1, x1, σ =>
    z_gt L fun v2 =>
    z_gt 6 fun v3 =>
    z_ck (v2 - v3) fun v4 =>
    if v4 < x1 then (
      some 1)
    else (
      z_ix x1 L <| z_gt (xs x1) fun v5 =>
      z_gt 63 fun v6 =>
      z_gt (z_and v5 v6) fun v7 =>
      if v7 = 0 then (
        f_law_J296 F L xs (f_law_L18 F L xs n) x1 σ)
      else
      if v7 = 1 then (
        f_law_J359 F L xs (f_law_L18 F L xs n) x1 σ)
      else
      if v7 = 2 then (
        f_law_J382 F L xs (f_law_L18 F L xs n) x1 σ)
      else
      if v7 = 3 then (
        f_law_J395 F L xs (f_law_L18 F L xs n) x1 σ)
      else
      if v7 = 4 then (
        f_law_J418 F L xs (f_law_L18 F L xs n) x1 σ)
      else
      if v7 = 5 then (
        f_law_J451 F L xs (f_law_L18 F L xs n) x1 σ)
      else
      if v7 = 6 then (
        f_law_J474 F L xs (f_law_L18 F L xs n) x1 σ)
      else
      if v7 = 7 then (
        f_law_J507 F L xs (f_law_L18 F L xs n) x1 σ)
      else
      if v7 = 8 then (
        f_law_J530 F L xs (f_law_L18 F L xs n) x1 σ)
      else
      if v7 = 9 then (
        f_law_J553 F L xs (f_law_L18 F L xs n) x1 σ)
      else
      if v7 = 10 then (
        f_law_J586 F L xs (f_law_L18 F L xs n) x1 σ)
      else
      if v7 = 11 then (
        f_law_J619 F L xs (f_law_L18 F L xs n) x1 σ)
      else
      if v7 = 12 then (
        f_law_J642 F L xs (f_law_L18 F L xs n) x1 σ)
      else
      if v7 = 13 then (
        f_law_J685 F L xs (f_law_L18 F L xs n) x1 σ)
      else
      if v7 = 14 then (
        f_law_J718 F L xs (f_law_L18 F L xs n) x1 σ)
      else
      if v7 = 15 then (
        f_law_J741 F L xs (f_law_L18 F L xs n) x1 σ)
      else
      if v7 = 16 then (
        f_law_J764 F L xs (f_law_L18 F L xs n) x1 σ)
      else
      if v7 = 17 then (
        f_law_J787 F L xs (f_law_L18 F L xs n) x1 σ)
      else
      if v7 = 18 then (
        f_law_J820 F L xs (f_law_L18 F L xs n) x1 σ)
      else
      if v7 = 19 then (
        f_law_J853 F L xs (f_law_L18 F L xs n) x1 σ)
      else
      if v7 = 20 then (
        f_law_J886 F L xs (f_law_L18 F L xs n) x1 σ)
      else
      if v7 = 21 then (
        f_law_J919 F L xs (f_law_L18 F L xs n) x1 σ)
      else
      if v7 = 22 then (
        f_law_J942 F L xs (f_law_L18 F L xs n) x1 σ)
      else
      if v7 = 23 then (
        f_law_J965 F L xs (f_law_L18 F L xs n) x1 σ)
      else
      if v7 = 24 then (
        f_law_J988 F L xs (f_law_L18 F L xs n) x1 σ)
      else
      if v7 = 25 then (
        f_law_J1011 F L xs (f_law_L18 F L xs n) x1 σ)
      else
      if v7 = 26 then (
        f_law_J1034 F L xs (f_law_L18 F L xs n) x1 σ)
      else
      if v7 = 27 then (
        f_law_J1067 F L xs (f_law_L18 F L xs n) x1 σ)
      else
      if v7 = 28 then (
        f_law_J1090 F L xs (f_law_L18 F L xs n) x1 σ)
      else
      if v7 = 29 then (
        f_law_J1123 F L xs (f_law_L18 F L xs n) x1 σ)
      else
      if v7 = 30 then (
        f_law_J1156 F L xs (f_law_L18 F L xs n) x1 σ)
      else
      if v7 = 31 then (
        f_law_J1179 F L xs (f_law_L18 F L xs n) x1 σ)
      else
      if v7 = 32 then (
        f_law_J1212 F L xs (f_law_L18 F L xs n) x1 σ)
      else
      if v7 = 33 then (
        f_law_J1235 F L xs (f_law_L18 F L xs n) x1 σ)
      else
      if v7 = 34 then (
        f_law_J1248 F L xs (f_law_L18 F L xs n) x1 σ)
      else
      if v7 = 35 then (
        f_law_J1281 F L xs (f_law_L18 F L xs n) x1 σ)
      else
      if v7 = 36 then (
        f_law_J1304 F L xs (f_law_L18 F L xs n) x1 σ)
      else
      if v7 = 37 then (
        f_law_J1327 F L xs (f_law_L18 F L xs n) x1 σ)
      else
      if v7 = 38 then (
        f_law_J1340 F L xs (f_law_L18 F L xs n) x1 σ)
      else
      if v7 = 39 then (
        f_law_J1353 F L xs (f_law_L18 F L xs n) x1 σ)
      else
      if v7 = 40 then (
        f_law_J1366 F L xs (f_law_L18 F L xs n) x1 σ)
      else
      if v7 = 41 then (
        f_law_J1389 F L xs (f_law_L18 F L xs n) x1 σ)
      else
      if v7 = 42 then (
        f_law_J1412 F L xs (f_law_L18 F L xs n) x1 σ)
      else
      if v7 = 43 then (
        f_law_J1435 F L xs (f_law_L18 F L xs n) x1 σ)
      else
      if v7 = 44 then (
        f_law_J1458 F L xs (f_law_L18 F L xs n) x1 σ)
      else
      if v7 = 45 then (
        f_law_J1471 F L xs (f_law_L18 F L xs n) x1 σ)
      else
      if v7 = 46 then (
        f_law_J1494 F L xs (f_law_L18 F L xs n) x1 σ)
      else
      if v7 = 47 then (
        f_law_J1527 F L xs (f_law_L18 F L xs n) x1 σ)
      else
      if v7 = 48 then (
        f_law_J1560 F L xs (f_law_L18 F L xs n) x1 σ)
      else
      if v7 = 49 then (
        f_law_J1613 F L xs (f_law_L18 F L xs n) x1 σ)
      else
      if v7 = 50 then (
        f_law_J1657 F L xs (f_law_L18 F L xs n) x1 σ)
      else
      if v7 = 51 then (
        f_law_J1691 F L xs (f_law_L18 F L xs n) x1 σ)
      else
      if v7 = 52 then (
        f_law_J1744 F L xs (f_law_L18 F L xs n) x1 σ)
      else
      if v7 = 53 then (
        f_law_J1757 F L xs (f_law_L18 F L xs n) x1 σ)
      else
      if v7 = 54 then (
        f_law_J1770 F L xs (f_law_L18 F L xs n) x1 σ)
      else
      if v7 = 55 then (
        f_law_J1803 F L xs (f_law_L18 F L xs n) x1 σ)
      else
      if v7 = 56 then (
        f_law_J1846 F L xs (f_law_L18 F L xs n) x1 σ)
      else
      if v7 = 57 then (
        f_law_J1869 F L xs (f_law_L18 F L xs n) x1 σ)
      else
      if v7 = 58 then (
        f_law_J1892 F L xs (f_law_L18 F L xs n) x1 σ)
      else
      if v7 = 59 then (
        f_law_J1915 F L xs (f_law_L18 F L xs n) x1 σ)
      else
      if v7 = 60 then (
        f_law_J1958 F L xs (f_law_L18 F L xs n) x1 σ)
      else
      if v7 = 61 then (
        f_law_J2031 F L xs (f_law_L18 F L xs n) x1 σ)
      else
      (
        f_law_J2094 F L xs (f_law_L18 F L xs n) x1 σ))
set_option maxRecDepth 40000 in
set_option maxHeartbeats 40000000 in
theorem law_sim {G : GG} {A : Nat → Prop} {nc ns : Nat} {p : Program} (l : Launch) {e : Env} {s : State} {m : MethodId} {below : List Frame} {meth : Method} {c : Code} {b L : Nat} {xi : Nat → Int32} (F : Nat) (hAe : A = fun q => s.heap.size ≤ q) (hcs : nc ≤ 600000 ∧ ns ≤ 7302250) (C : CX G A p m c cL_law 4 s #[Value.ref b] RL) (hr : meth.sig.returnType = ret) (hlocks : meth.locks = false) (hL : L ≤ 3072) (hX : va_X b L xi s s.heap) (hbl : b < s.heap.size) (xs : Int → Int) (hxs : ∀ i : Int, 0 ≤ i → xs i = (xi i.toNat).toInt) (n : Nat) (x3 : Int32) (σ : St) (ls : Array Slot) (hl : lv_has ls 4 [(0, .ref b), (1, .ref (gad G 0)), (2, .ref (gad G 231)), (3, .int x3)]) : Sim G A nc ns p l e room_1 s m #[Value.ref b] below meth c (fun (r : Int) (t : State) => r = 1 → lw_Z below #[Value.ref b] s t) σ (f_law_L18 F L xs n x3.toInt σ) (F0 m 18 ls []) := by
  have hbA : ¬ A b := by rw [hAe]; exact Nat.not_le.mpr hbl
  have B2094 : ∀ (K18 : Int → St → Option (Int)) (hK18 : ∀ (y0 : Int32) (σ : St) (ls : Array Slot), lv_has ls 4 [(0, .ref b), (1, .ref (gad G 0)), (2, .ref (gad G 231)), (3, .int y0)] → Sim G A nc ns p l e room_1 s m #[Value.ref b] below meth c (fun (r : Int) (t : State) => r = 1 → lw_Z below #[Value.ref b] s t) σ (K18 y0.toInt σ) (F0 m 18 ls [])), ∀  (x41 : Int32) (σ : St) (ls : Array Slot), lv_has ls 4 [(0, .ref b), (1, .ref (gad G 0)), (2, .ref (gad G 231)), (3, .int x41)] → Sim G A nc ns p l e room_1 s m #[Value.ref b] below meth c (fun (r : Int) (t : State) => r = 1 → lw_Z below #[Value.ref b] s t) σ (f_law_J2094 F L xs K18   x41.toInt σ) (F0 m 2094 ls []) := by
    intro K18 hK18
    intro x41 σ ls hl
    unfold f_law_J2094
    refine q_iinc (k := 3) C (fun v42 => [(3, .int v42), (0, .ref b), (1, .ref (gad G 0)), (2, .ref (gad G 231))]) dL_law_2094 hl rfl (by decide) (by decide) (fun _ => rfl) (fun v42 ls hl => ?_)
    refine q_goto C 18 dL_law_2097 (by decide) ?_
    exact hK18 v42 σ ls (lv_sub hl [1, 2, 3, 0] rfl)
  have B296 : ∀ (K18 : Int → St → Option (Int)) (hK18 : ∀ (y0 : Int32) (σ : St) (ls : Array Slot), lv_has ls 4 [(0, .ref b), (1, .ref (gad G 0)), (2, .ref (gad G 231)), (3, .int y0)] → Sim G A nc ns p l e room_1 s m #[Value.ref b] below meth c (fun (r : Int) (t : State) => r = 1 → lw_Z below #[Value.ref b] s t) σ (K18 y0.toInt σ) (F0 m 18 ls [])), ∀  (x8 : Int32) (σ : St) (ls : Array Slot), lv_has ls 4 [(0, .ref b), (1, .ref (gad G 0)), (2, .ref (gad G 231)), (3, .int x8)] → Sim G A nc ns p l e room_1 s m #[Value.ref b] below meth c (fun (r : Int) (t : State) => r = 1 → lw_Z below #[Value.ref b] s t) σ (f_law_J296 F L xs K18   x8.toInt σ) (F0 m 296 ls []) := by
    intro K18 hK18
    intro x8 σ ls hl
    unfold f_law_J296
    refine q_aload_n C dL_law_296 rfl (lv_at hl 1 rfl) ?_
    refine q_aload_n C dL_law_297 rfl (lv_at hl 0 rfl) ?_
    refine q_iload_n C dL_law_298 rfl (lv_at hl 3 rfl) ?_
    refine q_iconst C dL_law_299 rfl (by decide) (fun v9 => ?_)
    refine q_iadd C dL_law_300 (fun v10 => ?_)
    refine q_xld C hX hbl hbA hxs dL_law_301 (fun v11 => ?_)
    refine q_aload_n C dL_law_302 rfl (lv_at hl 0 rfl) ?_
    refine q_iload_n C dL_law_303 rfl (lv_at hl 3 rfl) ?_
    refine q_iconst C dL_law_304 rfl (by decide) (fun v12 => ?_)
    refine q_iadd C dL_law_305 (fun v13 => ?_)
    refine q_xld C hX hbl hbA hxs dL_law_306 (fun v14 => ?_)
    refine q_aload_n C dL_law_307 rfl (lv_at hl 0 rfl) ?_
    refine q_iload_n C dL_law_308 rfl (lv_at hl 3 rfl) ?_
    refine q_iconst C dL_law_309 rfl (by decide) (fun v15 => ?_)
    refine q_iadd C dL_law_310 (fun v16 => ?_)
    refine q_xld C hX hbl hbA hxs dL_law_311 (fun v17 => ?_)
    refine q_aload_n C dL_law_312 rfl (lv_at hl 0 rfl) ?_
    refine q_iload_n C dL_law_313 rfl (lv_at hl 3 rfl) ?_
    refine q_iconst C dL_law_314 rfl (by decide) (fun v18 => ?_)
    refine q_iadd C dL_law_315 (fun v19 => ?_)
    refine q_xld C hX hbl hbA hxs dL_law_316 (fun v20 => ?_)
    refine q_aload_n C dL_law_317 rfl (lv_at hl 0 rfl) ?_
    refine q_iload_n C dL_law_318 rfl (lv_at hl 3 rfl) ?_
    refine q_iconst C dL_law_319 rfl (by decide) (fun v21 => ?_)
    refine q_iadd C dL_law_320 (fun v22 => ?_)
    refine q_xld C hX hbl hbA hxs dL_law_321 (fun v23 => ?_)
    refine q_c2i C (fun r h => cr_V (As := [.int v11, .int v14, .int v17, .int v20, .int v23]) (rest := []) C (m_X6_feed l G F 0 v11 v14 v17 v20 v23 σ r h) cb_X6_feed (rfl : kdX 0 = 6) (by decide) rfl (cf_6 (rfl : kdX 0 = 6) _) rfl kl_L_13 ⟨Nat.le_of_ble_eq_true rfl, Nat.le_of_ble_eq_true rfl⟩ hcs hl.1 rfl (Nat.le_of_ble_eq_true rfl) dL_law_322 rfl) (fun v24 σ1 => ?_)
    refine q_aload_n C dL_law_325 rfl (lv_at hl 2 rfl) ?_
    refine q_aload_n C dL_law_326 rfl (lv_at hl 0 rfl) ?_
    refine q_iload_n C dL_law_327 rfl (lv_at hl 3 rfl) ?_
    refine q_iconst C dL_law_328 rfl (by decide) (fun v25 => ?_)
    refine q_iadd C dL_law_329 (fun v26 => ?_)
    refine q_xld C hX hbl hbA hxs dL_law_330 (fun v27 => ?_)
    refine q_aload_n C dL_law_331 rfl (lv_at hl 0 rfl) ?_
    refine q_iload_n C dL_law_332 rfl (lv_at hl 3 rfl) ?_
    refine q_iconst C dL_law_333 rfl (by decide) (fun v28 => ?_)
    refine q_iadd C dL_law_334 (fun v29 => ?_)
    refine q_xld C hX hbl hbA hxs dL_law_335 (fun v30 => ?_)
    refine q_aload_n C dL_law_336 rfl (lv_at hl 0 rfl) ?_
    refine q_iload_n C dL_law_337 rfl (lv_at hl 3 rfl) ?_
    refine q_iconst C dL_law_338 rfl (by decide) (fun v31 => ?_)
    refine q_iadd C dL_law_339 (fun v32 => ?_)
    refine q_xld C hX hbl hbA hxs dL_law_340 (fun v33 => ?_)
    refine q_aload_n C dL_law_341 rfl (lv_at hl 0 rfl) ?_
    refine q_iload_n C dL_law_342 rfl (lv_at hl 3 rfl) ?_
    refine q_iconst C dL_law_343 rfl (by decide) (fun v34 => ?_)
    refine q_iadd C dL_law_344 (fun v35 => ?_)
    refine q_xld C hX hbl hbA hxs dL_law_345 (fun v36 => ?_)
    refine q_aload_n C dL_law_346 rfl (lv_at hl 0 rfl) ?_
    refine q_iload_n C dL_law_347 rfl (lv_at hl 3 rfl) ?_
    refine q_iconst C dL_law_348 rfl (by decide) (fun v37 => ?_)
    refine q_iadd C dL_law_349 (fun v38 => ?_)
    refine q_xld C hX hbl hbA hxs dL_law_350 (fun v39 => ?_)
    refine q_c2i C (fun r h => cr_V (As := [.int v27, .int v30, .int v33, .int v36, .int v39]) (rest := [.int v24]) C (m_X7_feed l G F 231 v27 v30 v33 v36 v39 σ1 r h) cb_X7_feed (rfl : kdX 231 = 7) (by decide) rfl (cf_7 (rfl : kdX 231 = 7) _) rfl kl_L_17 ⟨Nat.le_of_ble_eq_true rfl, Nat.le_of_ble_eq_true rfl⟩ hcs hl.1 rfl (Nat.le_of_ble_eq_true rfl) dL_law_351 rfl) (fun v40 σ2 => ?_)
    refine q_icmp_eq C 2094 dL_law_354 (by decide) ?_ ?_
    · exact B2094 K18 hK18 x8 σ2 ls (lv_sub hl [0, 1, 2, 3] rfl)
    · exact q_law0 rfl
  have B359 : ∀ (K18 : Int → St → Option (Int)) (hK18 : ∀ (y0 : Int32) (σ : St) (ls : Array Slot), lv_has ls 4 [(0, .ref b), (1, .ref (gad G 0)), (2, .ref (gad G 231)), (3, .int y0)] → Sim G A nc ns p l e room_1 s m #[Value.ref b] below meth c (fun (r : Int) (t : State) => r = 1 → lw_Z below #[Value.ref b] s t) σ (K18 y0.toInt σ) (F0 m 18 ls [])), ∀  (x43 : Int32) (σ : St) (ls : Array Slot), lv_has ls 4 [(0, .ref b), (1, .ref (gad G 0)), (2, .ref (gad G 231)), (3, .int x43)] → Sim G A nc ns p l e room_1 s m #[Value.ref b] below meth c (fun (r : Int) (t : State) => r = 1 → lw_Z below #[Value.ref b] s t) σ (f_law_J359 F L xs K18   x43.toInt σ) (F0 m 359 ls []) := by
    intro K18 hK18
    intro x43 σ ls hl
    unfold f_law_J359
    refine q_aload_n C dL_law_359 rfl (lv_at hl 1 rfl) ?_
    refine q_aload_n C dL_law_360 rfl (lv_at hl 0 rfl) ?_
    refine q_iload_n C dL_law_361 rfl (lv_at hl 3 rfl) ?_
    refine q_iconst C dL_law_362 rfl (by decide) (fun v44 => ?_)
    refine q_iadd C dL_law_363 (fun v45 => ?_)
    refine q_xld C hX hbl hbA hxs dL_law_364 (fun v46 => ?_)
    refine q_c2i C (fun r h => cr_V (As := [.int v46]) (rest := []) C (m_X6_end l G F 0 v46 σ r h) cb_X6_end (rfl : kdX 0 = 6) (by decide) rfl (cf_6 (rfl : kdX 0 = 6) _) rfl kl_L_18 ⟨Nat.le_of_ble_eq_true rfl, Nat.le_of_ble_eq_true rfl⟩ hcs hl.1 rfl (Nat.le_of_ble_eq_true rfl) dL_law_365 rfl) (fun v47 σ3 => ?_)
    refine q_aload_n C dL_law_368 rfl (lv_at hl 2 rfl) ?_
    refine q_aload_n C dL_law_369 rfl (lv_at hl 0 rfl) ?_
    refine q_iload_n C dL_law_370 rfl (lv_at hl 3 rfl) ?_
    refine q_iconst C dL_law_371 rfl (by decide) (fun v48 => ?_)
    refine q_iadd C dL_law_372 (fun v49 => ?_)
    refine q_xld C hX hbl hbA hxs dL_law_373 (fun v50 => ?_)
    refine q_c2i C (fun r h => cr_V (As := [.int v50]) (rest := [.int v47]) C (m_X7_end l G F 231 v50 σ3 r h) cb_X7_end (rfl : kdX 231 = 7) (by decide) rfl (cf_7 (rfl : kdX 231 = 7) _) rfl kl_L_22 ⟨Nat.le_of_ble_eq_true rfl, Nat.le_of_ble_eq_true rfl⟩ hcs hl.1 rfl (Nat.le_of_ble_eq_true rfl) dL_law_374 rfl) (fun v51 σ4 => ?_)
    refine q_icmp_eq C 2094 dL_law_377 (by decide) ?_ ?_
    · exact B2094 K18 hK18 x43 σ4 ls (lv_sub hl [0, 1, 2, 3] rfl)
    · exact q_law0 rfl
  have B382 : ∀ (K18 : Int → St → Option (Int)) (hK18 : ∀ (y0 : Int32) (σ : St) (ls : Array Slot), lv_has ls 4 [(0, .ref b), (1, .ref (gad G 0)), (2, .ref (gad G 231)), (3, .int y0)] → Sim G A nc ns p l e room_1 s m #[Value.ref b] below meth c (fun (r : Int) (t : State) => r = 1 → lw_Z below #[Value.ref b] s t) σ (K18 y0.toInt σ) (F0 m 18 ls [])), ∀  (x52 : Int32) (σ : St) (ls : Array Slot), lv_has ls 4 [(0, .ref b), (1, .ref (gad G 0)), (2, .ref (gad G 231)), (3, .int x52)] → Sim G A nc ns p l e room_1 s m #[Value.ref b] below meth c (fun (r : Int) (t : State) => r = 1 → lw_Z below #[Value.ref b] s t) σ (f_law_J382 F L xs K18   x52.toInt σ) (F0 m 382 ls []) := by
    intro K18 hK18
    intro x52 σ ls hl
    unfold f_law_J382
    refine q_aload_n C dL_law_382 rfl (lv_at hl 1 rfl) ?_
    refine q_c2i C (fun r h => cr_V (As := []) (rest := []) C (m_X6_store l G F 0 σ r h) cb_X6_store (rfl : kdX 0 = 6) (by decide) rfl (cf_6 (rfl : kdX 0 = 6) _) rfl kl_L_23 ⟨Nat.le_of_ble_eq_true rfl, Nat.le_of_ble_eq_true rfl⟩ hcs hl.1 rfl (Nat.le_of_ble_eq_true rfl) dL_law_383 rfl) (fun v53 σ5 => ?_)
    refine q_aload_n C dL_law_386 rfl (lv_at hl 2 rfl) ?_
    refine q_c2i C (fun r h => cr_V (As := []) (rest := [.int v53]) C (m_X7_store l G F 231 σ5 r h) cb_X7_store (rfl : kdX 231 = 7) (by decide) rfl (cf_7 (rfl : kdX 231 = 7) _) rfl kl_L_27 ⟨Nat.le_of_ble_eq_true rfl, Nat.le_of_ble_eq_true rfl⟩ hcs hl.1 rfl (Nat.le_of_ble_eq_true rfl) dL_law_387 rfl) (fun v54 σ6 => ?_)
    refine q_icmp_eq C 2094 dL_law_390 (by decide) ?_ ?_
    · exact B2094 K18 hK18 x52 σ6 ls (lv_sub hl [0, 1, 2, 3] rfl)
    · exact q_law0 rfl
  have B395 : ∀ (K18 : Int → St → Option (Int)) (hK18 : ∀ (y0 : Int32) (σ : St) (ls : Array Slot), lv_has ls 4 [(0, .ref b), (1, .ref (gad G 0)), (2, .ref (gad G 231)), (3, .int y0)] → Sim G A nc ns p l e room_1 s m #[Value.ref b] below meth c (fun (r : Int) (t : State) => r = 1 → lw_Z below #[Value.ref b] s t) σ (K18 y0.toInt σ) (F0 m 18 ls [])), ∀  (x55 : Int32) (σ : St) (ls : Array Slot), lv_has ls 4 [(0, .ref b), (1, .ref (gad G 0)), (2, .ref (gad G 231)), (3, .int x55)] → Sim G A nc ns p l e room_1 s m #[Value.ref b] below meth c (fun (r : Int) (t : State) => r = 1 → lw_Z below #[Value.ref b] s t) σ (f_law_J395 F L xs K18   x55.toInt σ) (F0 m 395 ls []) := by
    intro K18 hK18
    intro x55 σ ls hl
    unfold f_law_J395
    refine q_aload_n C dL_law_395 rfl (lv_at hl 1 rfl) ?_
    refine q_aload_n C dL_law_396 rfl (lv_at hl 0 rfl) ?_
    refine q_iload_n C dL_law_397 rfl (lv_at hl 3 rfl) ?_
    refine q_iconst C dL_law_398 rfl (by decide) (fun v56 => ?_)
    refine q_iadd C dL_law_399 (fun v57 => ?_)
    refine q_xld C hX hbl hbA hxs dL_law_400 (fun v58 => ?_)
    refine q_c1i C (fun r h => cr_V (As := [.int v58]) (rest := []) C (m_X6_fault l G F 0 v58 σ r h) cb_X6_fault (rfl : kdX 0 = 6) (by decide) rfl (cf_6 (rfl : kdX 0 = 6) _) rfl kl_L_28 ⟨Nat.le_of_ble_eq_true rfl, Nat.le_of_ble_eq_true rfl⟩ hcs hl.1 rfl (Nat.le_of_ble_eq_true rfl) dL_law_401 rfl) (fun v59 => ?_)
    refine q_aload_n C dL_law_404 rfl (lv_at hl 2 rfl) ?_
    refine q_aload_n C dL_law_405 rfl (lv_at hl 0 rfl) ?_
    refine q_iload_n C dL_law_406 rfl (lv_at hl 3 rfl) ?_
    refine q_iconst C dL_law_407 rfl (by decide) (fun v60 => ?_)
    refine q_iadd C dL_law_408 (fun v61 => ?_)
    refine q_xld C hX hbl hbA hxs dL_law_409 (fun v62 => ?_)
    refine q_c1i C (fun r h => cr_V (As := [.int v62]) (rest := [.int v59]) C (m_X7_fault l G F 231 v62 σ r h) cb_X7_fault (rfl : kdX 231 = 7) (by decide) rfl (cf_7 (rfl : kdX 231 = 7) _) rfl kl_L_31 ⟨Nat.le_of_ble_eq_true rfl, Nat.le_of_ble_eq_true rfl⟩ hcs hl.1 rfl (Nat.le_of_ble_eq_true rfl) dL_law_410 rfl) (fun v63 => ?_)
    refine q_icmp_eq C 2094 dL_law_413 (by decide) ?_ ?_
    · exact B2094 K18 hK18 x55 σ ls (lv_sub hl [0, 1, 2, 3] rfl)
    · exact q_law0 rfl
  have B418 : ∀ (K18 : Int → St → Option (Int)) (hK18 : ∀ (y0 : Int32) (σ : St) (ls : Array Slot), lv_has ls 4 [(0, .ref b), (1, .ref (gad G 0)), (2, .ref (gad G 231)), (3, .int y0)] → Sim G A nc ns p l e room_1 s m #[Value.ref b] below meth c (fun (r : Int) (t : State) => r = 1 → lw_Z below #[Value.ref b] s t) σ (K18 y0.toInt σ) (F0 m 18 ls [])), ∀  (x64 : Int32) (σ : St) (ls : Array Slot), lv_has ls 4 [(0, .ref b), (1, .ref (gad G 0)), (2, .ref (gad G 231)), (3, .int x64)] → Sim G A nc ns p l e room_1 s m #[Value.ref b] below meth c (fun (r : Int) (t : State) => r = 1 → lw_Z below #[Value.ref b] s t) σ (f_law_J418 F L xs K18   x64.toInt σ) (F0 m 418 ls []) := by
    intro K18 hK18
    intro x64 σ ls hl
    unfold f_law_J418
    refine q_aload_n C dL_law_418 rfl (lv_at hl 1 rfl) ?_
    refine q_aload_n C dL_law_419 rfl (lv_at hl 0 rfl) ?_
    refine q_iload_n C dL_law_420 rfl (lv_at hl 3 rfl) ?_
    refine q_iconst C dL_law_421 rfl (by decide) (fun v65 => ?_)
    refine q_iadd C dL_law_422 (fun v66 => ?_)
    refine q_xld C hX hbl hbA hxs dL_law_423 (fun v67 => ?_)
    refine q_aload_n C dL_law_424 rfl (lv_at hl 0 rfl) ?_
    refine q_iload_n C dL_law_425 rfl (lv_at hl 3 rfl) ?_
    refine q_iconst C dL_law_426 rfl (by decide) (fun v68 => ?_)
    refine q_iadd C dL_law_427 (fun v69 => ?_)
    refine q_xld C hX hbl hbA hxs dL_law_428 (fun v70 => ?_)
    refine q_c1i C (fun r h => cr_V (As := [.int v67, .int v70]) (rest := []) C (m_X6_event l G F 0 v67 v70 σ r h) cb_X6_event (rfl : kdX 0 = 6) (by decide) rfl (cf_6 (rfl : kdX 0 = 6) _) rfl kl_L_32 ⟨Nat.le_of_ble_eq_true rfl, Nat.le_of_ble_eq_true rfl⟩ hcs hl.1 rfl (Nat.le_of_ble_eq_true rfl) dL_law_429 rfl) (fun v71 => ?_)
    refine q_aload_n C dL_law_432 rfl (lv_at hl 2 rfl) ?_
    refine q_aload_n C dL_law_433 rfl (lv_at hl 0 rfl) ?_
    refine q_iload_n C dL_law_434 rfl (lv_at hl 3 rfl) ?_
    refine q_iconst C dL_law_435 rfl (by decide) (fun v72 => ?_)
    refine q_iadd C dL_law_436 (fun v73 => ?_)
    refine q_xld C hX hbl hbA hxs dL_law_437 (fun v74 => ?_)
    refine q_aload_n C dL_law_438 rfl (lv_at hl 0 rfl) ?_
    refine q_iload_n C dL_law_439 rfl (lv_at hl 3 rfl) ?_
    refine q_iconst C dL_law_440 rfl (by decide) (fun v75 => ?_)
    refine q_iadd C dL_law_441 (fun v76 => ?_)
    refine q_xld C hX hbl hbA hxs dL_law_442 (fun v77 => ?_)
    refine q_c1i C (fun r h => cr_V (As := [.int v74, .int v77]) (rest := [.int v71]) C (m_X7_event l G F 231 v74 v77 σ r h) cb_X7_event (rfl : kdX 231 = 7) (by decide) rfl (cf_7 (rfl : kdX 231 = 7) _) rfl kl_L_36 ⟨Nat.le_of_ble_eq_true rfl, Nat.le_of_ble_eq_true rfl⟩ hcs hl.1 rfl (Nat.le_of_ble_eq_true rfl) dL_law_443 rfl) (fun v78 => ?_)
    refine q_icmp_eq C 2094 dL_law_446 (by decide) ?_ ?_
    · exact B2094 K18 hK18 x64 σ ls (lv_sub hl [0, 1, 2, 3] rfl)
    · exact q_law0 rfl
  have B451 : ∀ (K18 : Int → St → Option (Int)) (hK18 : ∀ (y0 : Int32) (σ : St) (ls : Array Slot), lv_has ls 4 [(0, .ref b), (1, .ref (gad G 0)), (2, .ref (gad G 231)), (3, .int y0)] → Sim G A nc ns p l e room_1 s m #[Value.ref b] below meth c (fun (r : Int) (t : State) => r = 1 → lw_Z below #[Value.ref b] s t) σ (K18 y0.toInt σ) (F0 m 18 ls [])), ∀  (x79 : Int32) (σ : St) (ls : Array Slot), lv_has ls 4 [(0, .ref b), (1, .ref (gad G 0)), (2, .ref (gad G 231)), (3, .int x79)] → Sim G A nc ns p l e room_1 s m #[Value.ref b] below meth c (fun (r : Int) (t : State) => r = 1 → lw_Z below #[Value.ref b] s t) σ (f_law_J451 F L xs K18   x79.toInt σ) (F0 m 451 ls []) := by
    intro K18 hK18
    intro x79 σ ls hl
    unfold f_law_J451
    refine q_aload_n C dL_law_451 rfl (lv_at hl 1 rfl) ?_
    refine q_aload_n C dL_law_452 rfl (lv_at hl 0 rfl) ?_
    refine q_iload_n C dL_law_453 rfl (lv_at hl 3 rfl) ?_
    refine q_iconst C dL_law_454 rfl (by decide) (fun v80 => ?_)
    refine q_iadd C dL_law_455 (fun v81 => ?_)
    refine q_xld C hX hbl hbA hxs dL_law_456 (fun v82 => ?_)
    refine q_c2i C (fun r h => cr_V (As := [.int v82]) (rest := []) C (m_X6_refused l G F 0 v82 σ r h) cb_X6_refused (rfl : kdX 0 = 6) (by decide) rfl (cf_6 (rfl : kdX 0 = 6) _) rfl kl_L_37 ⟨Nat.le_of_ble_eq_true rfl, Nat.le_of_ble_eq_true rfl⟩ hcs hl.1 rfl (Nat.le_of_ble_eq_true rfl) dL_law_457 rfl) (fun v83 σ7 => ?_)
    refine q_aload_n C dL_law_460 rfl (lv_at hl 2 rfl) ?_
    refine q_aload_n C dL_law_461 rfl (lv_at hl 0 rfl) ?_
    refine q_iload_n C dL_law_462 rfl (lv_at hl 3 rfl) ?_
    refine q_iconst C dL_law_463 rfl (by decide) (fun v84 => ?_)
    refine q_iadd C dL_law_464 (fun v85 => ?_)
    refine q_xld C hX hbl hbA hxs dL_law_465 (fun v86 => ?_)
    refine q_c2i C (fun r h => cr_V (As := [.int v86]) (rest := [.int v83]) C (m_X7_refused l G F 231 v86 σ7 r h) cb_X7_refused (rfl : kdX 231 = 7) (by decide) rfl (cf_7 (rfl : kdX 231 = 7) _) rfl kl_L_40 ⟨Nat.le_of_ble_eq_true rfl, Nat.le_of_ble_eq_true rfl⟩ hcs hl.1 rfl (Nat.le_of_ble_eq_true rfl) dL_law_466 rfl) (fun v87 σ8 => ?_)
    refine q_icmp_eq C 2094 dL_law_469 (by decide) ?_ ?_
    · exact B2094 K18 hK18 x79 σ8 ls (lv_sub hl [0, 1, 2, 3] rfl)
    · exact q_law0 rfl
  have B474 : ∀ (K18 : Int → St → Option (Int)) (hK18 : ∀ (y0 : Int32) (σ : St) (ls : Array Slot), lv_has ls 4 [(0, .ref b), (1, .ref (gad G 0)), (2, .ref (gad G 231)), (3, .int y0)] → Sim G A nc ns p l e room_1 s m #[Value.ref b] below meth c (fun (r : Int) (t : State) => r = 1 → lw_Z below #[Value.ref b] s t) σ (K18 y0.toInt σ) (F0 m 18 ls [])), ∀  (x88 : Int32) (σ : St) (ls : Array Slot), lv_has ls 4 [(0, .ref b), (1, .ref (gad G 0)), (2, .ref (gad G 231)), (3, .int x88)] → Sim G A nc ns p l e room_1 s m #[Value.ref b] below meth c (fun (r : Int) (t : State) => r = 1 → lw_Z below #[Value.ref b] s t) σ (f_law_J474 F L xs K18   x88.toInt σ) (F0 m 474 ls []) := by
    intro K18 hK18
    intro x88 σ ls hl
    unfold f_law_J474
    refine q_aload_n C dL_law_474 rfl (lv_at hl 1 rfl) ?_
    refine q_aload_n C dL_law_475 rfl (lv_at hl 0 rfl) ?_
    refine q_iload_n C dL_law_476 rfl (lv_at hl 3 rfl) ?_
    refine q_iconst C dL_law_477 rfl (by decide) (fun v89 => ?_)
    refine q_iadd C dL_law_478 (fun v90 => ?_)
    refine q_xld C hX hbl hbA hxs dL_law_479 (fun v91 => ?_)
    refine q_aload_n C dL_law_480 rfl (lv_at hl 0 rfl) ?_
    refine q_iload_n C dL_law_481 rfl (lv_at hl 3 rfl) ?_
    refine q_iconst C dL_law_482 rfl (by decide) (fun v92 => ?_)
    refine q_iadd C dL_law_483 (fun v93 => ?_)
    refine q_xld C hX hbl hbA hxs dL_law_484 (fun v94 => ?_)
    refine q_c2i C (fun r h => cr_V (As := [.int v91, .int v94]) (rest := []) C (m_X6_value l G F 0 v91 v94 σ r h) cb_X6_value (rfl : kdX 0 = 6) (by decide) rfl (cf_6 (rfl : kdX 0 = 6) _) rfl kl_L_41 ⟨Nat.le_of_ble_eq_true rfl, Nat.le_of_ble_eq_true rfl⟩ hcs hl.1 rfl (Nat.le_of_ble_eq_true rfl) dL_law_485 rfl) (fun v95 σ9 => ?_)
    refine q_aload_n C dL_law_488 rfl (lv_at hl 2 rfl) ?_
    refine q_aload_n C dL_law_489 rfl (lv_at hl 0 rfl) ?_
    refine q_iload_n C dL_law_490 rfl (lv_at hl 3 rfl) ?_
    refine q_iconst C dL_law_491 rfl (by decide) (fun v96 => ?_)
    refine q_iadd C dL_law_492 (fun v97 => ?_)
    refine q_xld C hX hbl hbA hxs dL_law_493 (fun v98 => ?_)
    refine q_aload_n C dL_law_494 rfl (lv_at hl 0 rfl) ?_
    refine q_iload_n C dL_law_495 rfl (lv_at hl 3 rfl) ?_
    refine q_iconst C dL_law_496 rfl (by decide) (fun v99 => ?_)
    refine q_iadd C dL_law_497 (fun v100 => ?_)
    refine q_xld C hX hbl hbA hxs dL_law_498 (fun v101 => ?_)
    refine q_c2i C (fun r h => cr_V (As := [.int v98, .int v101]) (rest := [.int v95]) C (m_X7_value l G F 231 v98 v101 σ9 r h) cb_X7_value (rfl : kdX 231 = 7) (by decide) rfl (cf_7 (rfl : kdX 231 = 7) _) rfl kl_L_44 ⟨Nat.le_of_ble_eq_true rfl, Nat.le_of_ble_eq_true rfl⟩ hcs hl.1 rfl (Nat.le_of_ble_eq_true rfl) dL_law_499 rfl) (fun v102 σ10 => ?_)
    refine q_icmp_eq C 2094 dL_law_502 (by decide) ?_ ?_
    · exact B2094 K18 hK18 x88 σ10 ls (lv_sub hl [0, 1, 2, 3] rfl)
    · exact q_law0 rfl
  have B507 : ∀ (K18 : Int → St → Option (Int)) (hK18 : ∀ (y0 : Int32) (σ : St) (ls : Array Slot), lv_has ls 4 [(0, .ref b), (1, .ref (gad G 0)), (2, .ref (gad G 231)), (3, .int y0)] → Sim G A nc ns p l e room_1 s m #[Value.ref b] below meth c (fun (r : Int) (t : State) => r = 1 → lw_Z below #[Value.ref b] s t) σ (K18 y0.toInt σ) (F0 m 18 ls [])), ∀  (x103 : Int32) (σ : St) (ls : Array Slot), lv_has ls 4 [(0, .ref b), (1, .ref (gad G 0)), (2, .ref (gad G 231)), (3, .int x103)] → Sim G A nc ns p l e room_1 s m #[Value.ref b] below meth c (fun (r : Int) (t : State) => r = 1 → lw_Z below #[Value.ref b] s t) σ (f_law_J507 F L xs K18   x103.toInt σ) (F0 m 507 ls []) := by
    intro K18 hK18
    intro x103 σ ls hl
    unfold f_law_J507
    refine q_aload_n C dL_law_507 rfl (lv_at hl 1 rfl) ?_
    refine q_aload_n C dL_law_508 rfl (lv_at hl 0 rfl) ?_
    refine q_iload_n C dL_law_509 rfl (lv_at hl 3 rfl) ?_
    refine q_iconst C dL_law_510 rfl (by decide) (fun v104 => ?_)
    refine q_iadd C dL_law_511 (fun v105 => ?_)
    refine q_xld C hX hbl hbA hxs dL_law_512 (fun v106 => ?_)
    refine q_c2i C (fun r h => cr_V (As := [.int v106]) (rest := []) C (m_X6_sum l G F 0 v106 σ r h) cb_X6_sum (rfl : kdX 0 = 6) (by decide) rfl (cf_6 (rfl : kdX 0 = 6) _) rfl kl_L_45 ⟨Nat.le_of_ble_eq_true rfl, Nat.le_of_ble_eq_true rfl⟩ hcs hl.1 rfl (Nat.le_of_ble_eq_true rfl) dL_law_513 rfl) (fun v107 σ11 => ?_)
    refine q_aload_n C dL_law_516 rfl (lv_at hl 2 rfl) ?_
    refine q_aload_n C dL_law_517 rfl (lv_at hl 0 rfl) ?_
    refine q_iload_n C dL_law_518 rfl (lv_at hl 3 rfl) ?_
    refine q_iconst C dL_law_519 rfl (by decide) (fun v108 => ?_)
    refine q_iadd C dL_law_520 (fun v109 => ?_)
    refine q_xld C hX hbl hbA hxs dL_law_521 (fun v110 => ?_)
    refine q_c2i C (fun r h => cr_V (As := [.int v110]) (rest := [.int v107]) C (m_X7_sum l G F 231 v110 σ11 r h) cb_X7_sum (rfl : kdX 231 = 7) (by decide) rfl (cf_7 (rfl : kdX 231 = 7) _) rfl kl_L_48 ⟨Nat.le_of_ble_eq_true rfl, Nat.le_of_ble_eq_true rfl⟩ hcs hl.1 rfl (Nat.le_of_ble_eq_true rfl) dL_law_522 rfl) (fun v111 σ12 => ?_)
    refine q_icmp_eq C 2094 dL_law_525 (by decide) ?_ ?_
    · exact B2094 K18 hK18 x103 σ12 ls (lv_sub hl [0, 1, 2, 3] rfl)
    · exact q_law0 rfl
  have B530 : ∀ (K18 : Int → St → Option (Int)) (hK18 : ∀ (y0 : Int32) (σ : St) (ls : Array Slot), lv_has ls 4 [(0, .ref b), (1, .ref (gad G 0)), (2, .ref (gad G 231)), (3, .int y0)] → Sim G A nc ns p l e room_1 s m #[Value.ref b] below meth c (fun (r : Int) (t : State) => r = 1 → lw_Z below #[Value.ref b] s t) σ (K18 y0.toInt σ) (F0 m 18 ls [])), ∀  (x112 : Int32) (σ : St) (ls : Array Slot), lv_has ls 4 [(0, .ref b), (1, .ref (gad G 0)), (2, .ref (gad G 231)), (3, .int x112)] → Sim G A nc ns p l e room_1 s m #[Value.ref b] below meth c (fun (r : Int) (t : State) => r = 1 → lw_Z below #[Value.ref b] s t) σ (f_law_J530 F L xs K18   x112.toInt σ) (F0 m 530 ls []) := by
    intro K18 hK18
    intro x112 σ ls hl
    unfold f_law_J530
    refine q_aload_n C dL_law_530 rfl (lv_at hl 1 rfl) ?_
    refine q_aload_n C dL_law_531 rfl (lv_at hl 0 rfl) ?_
    refine q_iload_n C dL_law_532 rfl (lv_at hl 3 rfl) ?_
    refine q_iconst C dL_law_533 rfl (by decide) (fun v113 => ?_)
    refine q_iadd C dL_law_534 (fun v114 => ?_)
    refine q_xld C hX hbl hbA hxs dL_law_535 (fun v115 => ?_)
    refine q_c2i C (fun r h => cr_V (As := [.int v115]) (rest := []) C (m_X6_changes l G F 0 v115 σ r h) cb_X6_changes (rfl : kdX 0 = 6) (by decide) rfl (cf_6 (rfl : kdX 0 = 6) _) rfl kl_L_49 ⟨Nat.le_of_ble_eq_true rfl, Nat.le_of_ble_eq_true rfl⟩ hcs hl.1 rfl (Nat.le_of_ble_eq_true rfl) dL_law_536 rfl) (fun v116 σ13 => ?_)
    refine q_aload_n C dL_law_539 rfl (lv_at hl 2 rfl) ?_
    refine q_aload_n C dL_law_540 rfl (lv_at hl 0 rfl) ?_
    refine q_iload_n C dL_law_541 rfl (lv_at hl 3 rfl) ?_
    refine q_iconst C dL_law_542 rfl (by decide) (fun v117 => ?_)
    refine q_iadd C dL_law_543 (fun v118 => ?_)
    refine q_xld C hX hbl hbA hxs dL_law_544 (fun v119 => ?_)
    refine q_c2i C (fun r h => cr_V (As := [.int v119]) (rest := [.int v116]) C (m_X7_changes l G F 231 v119 σ13 r h) cb_X7_changes (rfl : kdX 231 = 7) (by decide) rfl (cf_7 (rfl : kdX 231 = 7) _) rfl kl_L_52 ⟨Nat.le_of_ble_eq_true rfl, Nat.le_of_ble_eq_true rfl⟩ hcs hl.1 rfl (Nat.le_of_ble_eq_true rfl) dL_law_545 rfl) (fun v120 σ14 => ?_)
    refine q_icmp_eq C 2094 dL_law_548 (by decide) ?_ ?_
    · exact B2094 K18 hK18 x112 σ14 ls (lv_sub hl [0, 1, 2, 3] rfl)
    · exact q_law0 rfl
  have B553 : ∀ (K18 : Int → St → Option (Int)) (hK18 : ∀ (y0 : Int32) (σ : St) (ls : Array Slot), lv_has ls 4 [(0, .ref b), (1, .ref (gad G 0)), (2, .ref (gad G 231)), (3, .int y0)] → Sim G A nc ns p l e room_1 s m #[Value.ref b] below meth c (fun (r : Int) (t : State) => r = 1 → lw_Z below #[Value.ref b] s t) σ (K18 y0.toInt σ) (F0 m 18 ls [])), ∀  (x121 : Int32) (σ : St) (ls : Array Slot), lv_has ls 4 [(0, .ref b), (1, .ref (gad G 0)), (2, .ref (gad G 231)), (3, .int x121)] → Sim G A nc ns p l e room_1 s m #[Value.ref b] below meth c (fun (r : Int) (t : State) => r = 1 → lw_Z below #[Value.ref b] s t) σ (f_law_J553 F L xs K18   x121.toInt σ) (F0 m 553 ls []) := by
    intro K18 hK18
    intro x121 σ ls hl
    unfold f_law_J553
    refine q_aload_n C dL_law_553 rfl (lv_at hl 1 rfl) ?_
    refine q_aload_n C dL_law_554 rfl (lv_at hl 0 rfl) ?_
    refine q_iload_n C dL_law_555 rfl (lv_at hl 3 rfl) ?_
    refine q_iconst C dL_law_556 rfl (by decide) (fun v122 => ?_)
    refine q_iadd C dL_law_557 (fun v123 => ?_)
    refine q_xld C hX hbl hbA hxs dL_law_558 (fun v124 => ?_)
    refine q_aload_n C dL_law_559 rfl (lv_at hl 0 rfl) ?_
    refine q_iload_n C dL_law_560 rfl (lv_at hl 3 rfl) ?_
    refine q_iconst C dL_law_561 rfl (by decide) (fun v125 => ?_)
    refine q_iadd C dL_law_562 (fun v126 => ?_)
    refine q_xld C hX hbl hbA hxs dL_law_563 (fun v127 => ?_)
    refine q_c2i C (fun r h => cr_V (As := [.int v124, .int v127]) (rest := []) C (m_X6_latest l G F 0 v124 v127 σ r h) cb_X6_latest (rfl : kdX 0 = 6) (by decide) rfl (cf_6 (rfl : kdX 0 = 6) _) rfl kl_L_53 ⟨Nat.le_of_ble_eq_true rfl, Nat.le_of_ble_eq_true rfl⟩ hcs hl.1 rfl (Nat.le_of_ble_eq_true rfl) dL_law_564 rfl) (fun v128 σ15 => ?_)
    refine q_aload_n C dL_law_567 rfl (lv_at hl 2 rfl) ?_
    refine q_aload_n C dL_law_568 rfl (lv_at hl 0 rfl) ?_
    refine q_iload_n C dL_law_569 rfl (lv_at hl 3 rfl) ?_
    refine q_iconst C dL_law_570 rfl (by decide) (fun v129 => ?_)
    refine q_iadd C dL_law_571 (fun v130 => ?_)
    refine q_xld C hX hbl hbA hxs dL_law_572 (fun v131 => ?_)
    refine q_aload_n C dL_law_573 rfl (lv_at hl 0 rfl) ?_
    refine q_iload_n C dL_law_574 rfl (lv_at hl 3 rfl) ?_
    refine q_iconst C dL_law_575 rfl (by decide) (fun v132 => ?_)
    refine q_iadd C dL_law_576 (fun v133 => ?_)
    refine q_xld C hX hbl hbA hxs dL_law_577 (fun v134 => ?_)
    refine q_c2i C (fun r h => cr_V (As := [.int v131, .int v134]) (rest := [.int v128]) C (m_X7_latest l G F 231 v131 v134 σ15 r h) cb_X7_latest (rfl : kdX 231 = 7) (by decide) rfl (cf_7 (rfl : kdX 231 = 7) _) rfl kl_L_56 ⟨Nat.le_of_ble_eq_true rfl, Nat.le_of_ble_eq_true rfl⟩ hcs hl.1 rfl (Nat.le_of_ble_eq_true rfl) dL_law_578 rfl) (fun v135 σ16 => ?_)
    refine q_icmp_eq C 2094 dL_law_581 (by decide) ?_ ?_
    · exact B2094 K18 hK18 x121 σ16 ls (lv_sub hl [0, 1, 2, 3] rfl)
    · exact q_law0 rfl
  have B586 : ∀ (K18 : Int → St → Option (Int)) (hK18 : ∀ (y0 : Int32) (σ : St) (ls : Array Slot), lv_has ls 4 [(0, .ref b), (1, .ref (gad G 0)), (2, .ref (gad G 231)), (3, .int y0)] → Sim G A nc ns p l e room_1 s m #[Value.ref b] below meth c (fun (r : Int) (t : State) => r = 1 → lw_Z below #[Value.ref b] s t) σ (K18 y0.toInt σ) (F0 m 18 ls [])), ∀  (x136 : Int32) (σ : St) (ls : Array Slot), lv_has ls 4 [(0, .ref b), (1, .ref (gad G 0)), (2, .ref (gad G 231)), (3, .int x136)] → Sim G A nc ns p l e room_1 s m #[Value.ref b] below meth c (fun (r : Int) (t : State) => r = 1 → lw_Z below #[Value.ref b] s t) σ (f_law_J586 F L xs K18   x136.toInt σ) (F0 m 586 ls []) := by
    intro K18 hK18
    intro x136 σ ls hl
    unfold f_law_J586
    refine q_aload_n C dL_law_586 rfl (lv_at hl 1 rfl) ?_
    refine q_aload_n C dL_law_587 rfl (lv_at hl 0 rfl) ?_
    refine q_iload_n C dL_law_588 rfl (lv_at hl 3 rfl) ?_
    refine q_iconst C dL_law_589 rfl (by decide) (fun v137 => ?_)
    refine q_iadd C dL_law_590 (fun v138 => ?_)
    refine q_xld C hX hbl hbA hxs dL_law_591 (fun v139 => ?_)
    refine q_aload_n C dL_law_592 rfl (lv_at hl 0 rfl) ?_
    refine q_iload_n C dL_law_593 rfl (lv_at hl 3 rfl) ?_
    refine q_iconst C dL_law_594 rfl (by decide) (fun v140 => ?_)
    refine q_iadd C dL_law_595 (fun v141 => ?_)
    refine q_xld C hX hbl hbA hxs dL_law_596 (fun v142 => ?_)
    refine q_c2i C (fun r h => cr_V (As := [.int v139, .int v142]) (rest := []) C (m_X6_dirty l G F 0 v139 v142 σ r h) cb_X6_dirty (rfl : kdX 0 = 6) (by decide) rfl (cf_6 (rfl : kdX 0 = 6) _) rfl kl_L_57 ⟨Nat.le_of_ble_eq_true rfl, Nat.le_of_ble_eq_true rfl⟩ hcs hl.1 rfl (Nat.le_of_ble_eq_true rfl) dL_law_597 rfl) (fun v143 σ17 => ?_)
    refine q_aload_n C dL_law_600 rfl (lv_at hl 2 rfl) ?_
    refine q_aload_n C dL_law_601 rfl (lv_at hl 0 rfl) ?_
    refine q_iload_n C dL_law_602 rfl (lv_at hl 3 rfl) ?_
    refine q_iconst C dL_law_603 rfl (by decide) (fun v144 => ?_)
    refine q_iadd C dL_law_604 (fun v145 => ?_)
    refine q_xld C hX hbl hbA hxs dL_law_605 (fun v146 => ?_)
    refine q_aload_n C dL_law_606 rfl (lv_at hl 0 rfl) ?_
    refine q_iload_n C dL_law_607 rfl (lv_at hl 3 rfl) ?_
    refine q_iconst C dL_law_608 rfl (by decide) (fun v147 => ?_)
    refine q_iadd C dL_law_609 (fun v148 => ?_)
    refine q_xld C hX hbl hbA hxs dL_law_610 (fun v149 => ?_)
    refine q_c2i C (fun r h => cr_V (As := [.int v146, .int v149]) (rest := [.int v143]) C (m_X7_dirty l G F 231 v146 v149 σ17 r h) cb_X7_dirty (rfl : kdX 231 = 7) (by decide) rfl (cf_7 (rfl : kdX 231 = 7) _) rfl kl_L_60 ⟨Nat.le_of_ble_eq_true rfl, Nat.le_of_ble_eq_true rfl⟩ hcs hl.1 rfl (Nat.le_of_ble_eq_true rfl) dL_law_611 rfl) (fun v150 σ18 => ?_)
    refine q_icmp_eq C 2094 dL_law_614 (by decide) ?_ ?_
    · exact B2094 K18 hK18 x136 σ18 ls (lv_sub hl [0, 1, 2, 3] rfl)
    · exact q_law0 rfl
  have B619 : ∀ (K18 : Int → St → Option (Int)) (hK18 : ∀ (y0 : Int32) (σ : St) (ls : Array Slot), lv_has ls 4 [(0, .ref b), (1, .ref (gad G 0)), (2, .ref (gad G 231)), (3, .int y0)] → Sim G A nc ns p l e room_1 s m #[Value.ref b] below meth c (fun (r : Int) (t : State) => r = 1 → lw_Z below #[Value.ref b] s t) σ (K18 y0.toInt σ) (F0 m 18 ls [])), ∀  (x151 : Int32) (σ : St) (ls : Array Slot), lv_has ls 4 [(0, .ref b), (1, .ref (gad G 0)), (2, .ref (gad G 231)), (3, .int x151)] → Sim G A nc ns p l e room_1 s m #[Value.ref b] below meth c (fun (r : Int) (t : State) => r = 1 → lw_Z below #[Value.ref b] s t) σ (f_law_J619 F L xs K18   x151.toInt σ) (F0 m 619 ls []) := by
    intro K18 hK18
    intro x151 σ ls hl
    unfold f_law_J619
    refine q_aload_n C dL_law_619 rfl (lv_at hl 1 rfl) ?_
    refine q_aload_n C dL_law_620 rfl (lv_at hl 0 rfl) ?_
    refine q_iload_n C dL_law_621 rfl (lv_at hl 3 rfl) ?_
    refine q_iconst C dL_law_622 rfl (by decide) (fun v152 => ?_)
    refine q_iadd C dL_law_623 (fun v153 => ?_)
    refine q_xld C hX hbl hbA hxs dL_law_624 (fun v154 => ?_)
    refine q_c2i C (fun r h => cr_V (As := [.int v154]) (rest := []) C (m_X6_dirties l G F 0 v154 σ r h) cb_X6_dirties (rfl : kdX 0 = 6) (by decide) rfl (cf_6 (rfl : kdX 0 = 6) _) rfl kl_L_61 ⟨Nat.le_of_ble_eq_true rfl, Nat.le_of_ble_eq_true rfl⟩ hcs hl.1 rfl (Nat.le_of_ble_eq_true rfl) dL_law_625 rfl) (fun v155 σ19 => ?_)
    refine q_aload_n C dL_law_628 rfl (lv_at hl 2 rfl) ?_
    refine q_aload_n C dL_law_629 rfl (lv_at hl 0 rfl) ?_
    refine q_iload_n C dL_law_630 rfl (lv_at hl 3 rfl) ?_
    refine q_iconst C dL_law_631 rfl (by decide) (fun v156 => ?_)
    refine q_iadd C dL_law_632 (fun v157 => ?_)
    refine q_xld C hX hbl hbA hxs dL_law_633 (fun v158 => ?_)
    refine q_c2i C (fun r h => cr_V (As := [.int v158]) (rest := [.int v155]) C (m_X7_dirties l G F 231 v158 σ19 r h) cb_X7_dirties (rfl : kdX 231 = 7) (by decide) rfl (cf_7 (rfl : kdX 231 = 7) _) rfl kl_L_64 ⟨Nat.le_of_ble_eq_true rfl, Nat.le_of_ble_eq_true rfl⟩ hcs hl.1 rfl (Nat.le_of_ble_eq_true rfl) dL_law_634 rfl) (fun v159 σ20 => ?_)
    refine q_icmp_eq C 2094 dL_law_637 (by decide) ?_ ?_
    · exact B2094 K18 hK18 x151 σ20 ls (lv_sub hl [0, 1, 2, 3] rfl)
    · exact q_law0 rfl
  have B642 : ∀ (K18 : Int → St → Option (Int)) (hK18 : ∀ (y0 : Int32) (σ : St) (ls : Array Slot), lv_has ls 4 [(0, .ref b), (1, .ref (gad G 0)), (2, .ref (gad G 231)), (3, .int y0)] → Sim G A nc ns p l e room_1 s m #[Value.ref b] below meth c (fun (r : Int) (t : State) => r = 1 → lw_Z below #[Value.ref b] s t) σ (K18 y0.toInt σ) (F0 m 18 ls [])), ∀  (x160 : Int32) (σ : St) (ls : Array Slot), lv_has ls 4 [(0, .ref b), (1, .ref (gad G 0)), (2, .ref (gad G 231)), (3, .int x160)] → Sim G A nc ns p l e room_1 s m #[Value.ref b] below meth c (fun (r : Int) (t : State) => r = 1 → lw_Z below #[Value.ref b] s t) σ (f_law_J642 F L xs K18   x160.toInt σ) (F0 m 642 ls []) := by
    intro K18 hK18
    intro x160 σ ls hl
    unfold f_law_J642
    refine q_aload_n C dL_law_642 rfl (lv_at hl 1 rfl) ?_
    refine q_aload_n C dL_law_643 rfl (lv_at hl 0 rfl) ?_
    refine q_iload_n C dL_law_644 rfl (lv_at hl 3 rfl) ?_
    refine q_iconst C dL_law_645 rfl (by decide) (fun v161 => ?_)
    refine q_iadd C dL_law_646 (fun v162 => ?_)
    refine q_xld C hX hbl hbA hxs dL_law_647 (fun v163 => ?_)
    refine q_aload_n C dL_law_648 rfl (lv_at hl 0 rfl) ?_
    refine q_iload_n C dL_law_649 rfl (lv_at hl 3 rfl) ?_
    refine q_iconst C dL_law_650 rfl (by decide) (fun v164 => ?_)
    refine q_iadd C dL_law_651 (fun v165 => ?_)
    refine q_xld C hX hbl hbA hxs dL_law_652 (fun v166 => ?_)
    refine q_aload_n C dL_law_653 rfl (lv_at hl 0 rfl) ?_
    refine q_iload_n C dL_law_654 rfl (lv_at hl 3 rfl) ?_
    refine q_iconst C dL_law_655 rfl (by decide) (fun v167 => ?_)
    refine q_iadd C dL_law_656 (fun v168 => ?_)
    refine q_xld C hX hbl hbA hxs dL_law_657 (fun v169 => ?_)
    refine q_c2i C (fun r h => cr_V (As := [.int v163, .int v166, .int v169]) (rest := []) C (m_X6_region l G F 0 v163 v166 v169 σ r h) cb_X6_region (rfl : kdX 0 = 6) (by decide) rfl (cf_6 (rfl : kdX 0 = 6) _) rfl kl_L_65 ⟨Nat.le_of_ble_eq_true rfl, Nat.le_of_ble_eq_true rfl⟩ hcs hl.1 rfl (Nat.le_of_ble_eq_true rfl) dL_law_658 rfl) (fun v170 σ21 => ?_)
    refine q_aload_n C dL_law_661 rfl (lv_at hl 2 rfl) ?_
    refine q_aload_n C dL_law_662 rfl (lv_at hl 0 rfl) ?_
    refine q_iload_n C dL_law_663 rfl (lv_at hl 3 rfl) ?_
    refine q_iconst C dL_law_664 rfl (by decide) (fun v171 => ?_)
    refine q_iadd C dL_law_665 (fun v172 => ?_)
    refine q_xld C hX hbl hbA hxs dL_law_666 (fun v173 => ?_)
    refine q_aload_n C dL_law_667 rfl (lv_at hl 0 rfl) ?_
    refine q_iload_n C dL_law_668 rfl (lv_at hl 3 rfl) ?_
    refine q_iconst C dL_law_669 rfl (by decide) (fun v174 => ?_)
    refine q_iadd C dL_law_670 (fun v175 => ?_)
    refine q_xld C hX hbl hbA hxs dL_law_671 (fun v176 => ?_)
    refine q_aload_n C dL_law_672 rfl (lv_at hl 0 rfl) ?_
    refine q_iload_n C dL_law_673 rfl (lv_at hl 3 rfl) ?_
    refine q_iconst C dL_law_674 rfl (by decide) (fun v177 => ?_)
    refine q_iadd C dL_law_675 (fun v178 => ?_)
    refine q_xld C hX hbl hbA hxs dL_law_676 (fun v179 => ?_)
    refine q_c2i C (fun r h => cr_V (As := [.int v173, .int v176, .int v179]) (rest := [.int v170]) C (m_X7_region l G F 231 v173 v176 v179 σ21 r h) cb_X7_region (rfl : kdX 231 = 7) (by decide) rfl (cf_7 (rfl : kdX 231 = 7) _) rfl kl_L_69 ⟨Nat.le_of_ble_eq_true rfl, Nat.le_of_ble_eq_true rfl⟩ hcs hl.1 rfl (Nat.le_of_ble_eq_true rfl) dL_law_677 rfl) (fun v180 σ22 => ?_)
    refine q_icmp_eq C 2094 dL_law_680 (by decide) ?_ ?_
    · exact B2094 K18 hK18 x160 σ22 ls (lv_sub hl [0, 1, 2, 3] rfl)
    · exact q_law0 rfl
  have B685 : ∀ (K18 : Int → St → Option (Int)) (hK18 : ∀ (y0 : Int32) (σ : St) (ls : Array Slot), lv_has ls 4 [(0, .ref b), (1, .ref (gad G 0)), (2, .ref (gad G 231)), (3, .int y0)] → Sim G A nc ns p l e room_1 s m #[Value.ref b] below meth c (fun (r : Int) (t : State) => r = 1 → lw_Z below #[Value.ref b] s t) σ (K18 y0.toInt σ) (F0 m 18 ls [])), ∀  (x181 : Int32) (σ : St) (ls : Array Slot), lv_has ls 4 [(0, .ref b), (1, .ref (gad G 0)), (2, .ref (gad G 231)), (3, .int x181)] → Sim G A nc ns p l e room_1 s m #[Value.ref b] below meth c (fun (r : Int) (t : State) => r = 1 → lw_Z below #[Value.ref b] s t) σ (f_law_J685 F L xs K18   x181.toInt σ) (F0 m 685 ls []) := by
    intro K18 hK18
    intro x181 σ ls hl
    unfold f_law_J685
    refine q_aload_n C dL_law_685 rfl (lv_at hl 1 rfl) ?_
    refine q_aload_n C dL_law_686 rfl (lv_at hl 0 rfl) ?_
    refine q_iload_n C dL_law_687 rfl (lv_at hl 3 rfl) ?_
    refine q_iconst C dL_law_688 rfl (by decide) (fun v182 => ?_)
    refine q_iadd C dL_law_689 (fun v183 => ?_)
    refine q_xld C hX hbl hbA hxs dL_law_690 (fun v184 => ?_)
    refine q_aload_n C dL_law_691 rfl (lv_at hl 0 rfl) ?_
    refine q_iload_n C dL_law_692 rfl (lv_at hl 3 rfl) ?_
    refine q_iconst C dL_law_693 rfl (by decide) (fun v185 => ?_)
    refine q_iadd C dL_law_694 (fun v186 => ?_)
    refine q_xld C hX hbl hbA hxs dL_law_695 (fun v187 => ?_)
    refine q_c2i C (fun r h => cr_V (As := [.int v184, .int v187]) (rest := []) C (m_X6_regions l G F 0 v184 v187 σ r h) cb_X6_regions (rfl : kdX 0 = 6) (by decide) rfl (cf_6 (rfl : kdX 0 = 6) _) rfl kl_L_70 ⟨Nat.le_of_ble_eq_true rfl, Nat.le_of_ble_eq_true rfl⟩ hcs hl.1 rfl (Nat.le_of_ble_eq_true rfl) dL_law_696 rfl) (fun v188 σ23 => ?_)
    refine q_aload_n C dL_law_699 rfl (lv_at hl 2 rfl) ?_
    refine q_aload_n C dL_law_700 rfl (lv_at hl 0 rfl) ?_
    refine q_iload_n C dL_law_701 rfl (lv_at hl 3 rfl) ?_
    refine q_iconst C dL_law_702 rfl (by decide) (fun v189 => ?_)
    refine q_iadd C dL_law_703 (fun v190 => ?_)
    refine q_xld C hX hbl hbA hxs dL_law_704 (fun v191 => ?_)
    refine q_aload_n C dL_law_705 rfl (lv_at hl 0 rfl) ?_
    refine q_iload_n C dL_law_706 rfl (lv_at hl 3 rfl) ?_
    refine q_iconst C dL_law_707 rfl (by decide) (fun v192 => ?_)
    refine q_iadd C dL_law_708 (fun v193 => ?_)
    refine q_xld C hX hbl hbA hxs dL_law_709 (fun v194 => ?_)
    refine q_c2i C (fun r h => cr_V (As := [.int v191, .int v194]) (rest := [.int v188]) C (m_X7_regions l G F 231 v191 v194 σ23 r h) cb_X7_regions (rfl : kdX 231 = 7) (by decide) rfl (cf_7 (rfl : kdX 231 = 7) _) rfl kl_L_73 ⟨Nat.le_of_ble_eq_true rfl, Nat.le_of_ble_eq_true rfl⟩ hcs hl.1 rfl (Nat.le_of_ble_eq_true rfl) dL_law_710 rfl) (fun v195 σ24 => ?_)
    refine q_icmp_eq C 2094 dL_law_713 (by decide) ?_ ?_
    · exact B2094 K18 hK18 x181 σ24 ls (lv_sub hl [0, 1, 2, 3] rfl)
    · exact q_law0 rfl
  have B718 : ∀ (K18 : Int → St → Option (Int)) (hK18 : ∀ (y0 : Int32) (σ : St) (ls : Array Slot), lv_has ls 4 [(0, .ref b), (1, .ref (gad G 0)), (2, .ref (gad G 231)), (3, .int y0)] → Sim G A nc ns p l e room_1 s m #[Value.ref b] below meth c (fun (r : Int) (t : State) => r = 1 → lw_Z below #[Value.ref b] s t) σ (K18 y0.toInt σ) (F0 m 18 ls [])), ∀  (x196 : Int32) (σ : St) (ls : Array Slot), lv_has ls 4 [(0, .ref b), (1, .ref (gad G 0)), (2, .ref (gad G 231)), (3, .int x196)] → Sim G A nc ns p l e room_1 s m #[Value.ref b] below meth c (fun (r : Int) (t : State) => r = 1 → lw_Z below #[Value.ref b] s t) σ (f_law_J718 F L xs K18   x196.toInt σ) (F0 m 718 ls []) := by
    intro K18 hK18
    intro x196 σ ls hl
    unfold f_law_J718
    refine q_aload_n C dL_law_718 rfl (lv_at hl 1 rfl) ?_
    refine q_aload_n C dL_law_719 rfl (lv_at hl 0 rfl) ?_
    refine q_iload_n C dL_law_720 rfl (lv_at hl 3 rfl) ?_
    refine q_iconst C dL_law_721 rfl (by decide) (fun v197 => ?_)
    refine q_iadd C dL_law_722 (fun v198 => ?_)
    refine q_xld C hX hbl hbA hxs dL_law_723 (fun v199 => ?_)
    refine q_c2i C (fun r h => cr_V (As := [.int v199]) (rest := []) C (m_X6_looks l G F 0 v199 σ r h) cb_X6_looks (rfl : kdX 0 = 6) (by decide) rfl (cf_6 (rfl : kdX 0 = 6) _) rfl kl_L_74 ⟨Nat.le_of_ble_eq_true rfl, Nat.le_of_ble_eq_true rfl⟩ hcs hl.1 rfl (Nat.le_of_ble_eq_true rfl) dL_law_724 rfl) (fun v200 σ25 => ?_)
    refine q_aload_n C dL_law_727 rfl (lv_at hl 2 rfl) ?_
    refine q_aload_n C dL_law_728 rfl (lv_at hl 0 rfl) ?_
    refine q_iload_n C dL_law_729 rfl (lv_at hl 3 rfl) ?_
    refine q_iconst C dL_law_730 rfl (by decide) (fun v201 => ?_)
    refine q_iadd C dL_law_731 (fun v202 => ?_)
    refine q_xld C hX hbl hbA hxs dL_law_732 (fun v203 => ?_)
    refine q_c2i C (fun r h => cr_V (As := [.int v203]) (rest := [.int v200]) C (m_X7_looks l G F 231 v203 σ25 r h) cb_X7_looks (rfl : kdX 231 = 7) (by decide) rfl (cf_7 (rfl : kdX 231 = 7) _) rfl kl_L_77 ⟨Nat.le_of_ble_eq_true rfl, Nat.le_of_ble_eq_true rfl⟩ hcs hl.1 rfl (Nat.le_of_ble_eq_true rfl) dL_law_733 rfl) (fun v204 σ26 => ?_)
    refine q_icmp_eq C 2094 dL_law_736 (by decide) ?_ ?_
    · exact B2094 K18 hK18 x196 σ26 ls (lv_sub hl [0, 1, 2, 3] rfl)
    · exact q_law0 rfl
  have B741 : ∀ (K18 : Int → St → Option (Int)) (hK18 : ∀ (y0 : Int32) (σ : St) (ls : Array Slot), lv_has ls 4 [(0, .ref b), (1, .ref (gad G 0)), (2, .ref (gad G 231)), (3, .int y0)] → Sim G A nc ns p l e room_1 s m #[Value.ref b] below meth c (fun (r : Int) (t : State) => r = 1 → lw_Z below #[Value.ref b] s t) σ (K18 y0.toInt σ) (F0 m 18 ls [])), ∀  (x205 : Int32) (σ : St) (ls : Array Slot), lv_has ls 4 [(0, .ref b), (1, .ref (gad G 0)), (2, .ref (gad G 231)), (3, .int x205)] → Sim G A nc ns p l e room_1 s m #[Value.ref b] below meth c (fun (r : Int) (t : State) => r = 1 → lw_Z below #[Value.ref b] s t) σ (f_law_J741 F L xs K18   x205.toInt σ) (F0 m 741 ls []) := by
    intro K18 hK18
    intro x205 σ ls hl
    unfold f_law_J741
    refine q_aload_n C dL_law_741 rfl (lv_at hl 1 rfl) ?_
    refine q_aload_n C dL_law_742 rfl (lv_at hl 0 rfl) ?_
    refine q_iload_n C dL_law_743 rfl (lv_at hl 3 rfl) ?_
    refine q_iconst C dL_law_744 rfl (by decide) (fun v206 => ?_)
    refine q_iadd C dL_law_745 (fun v207 => ?_)
    refine q_xld C hX hbl hbA hxs dL_law_746 (fun v208 => ?_)
    refine q_c2i C (fun r h => cr_V (As := [.int v208]) (rest := []) C (m_X6_copies l G F 0 v208 σ r h) cb_X6_copies (rfl : kdX 0 = 6) (by decide) rfl (cf_6 (rfl : kdX 0 = 6) _) rfl kl_L_78 ⟨Nat.le_of_ble_eq_true rfl, Nat.le_of_ble_eq_true rfl⟩ hcs hl.1 rfl (Nat.le_of_ble_eq_true rfl) dL_law_747 rfl) (fun v209 σ27 => ?_)
    refine q_aload_n C dL_law_750 rfl (lv_at hl 2 rfl) ?_
    refine q_aload_n C dL_law_751 rfl (lv_at hl 0 rfl) ?_
    refine q_iload_n C dL_law_752 rfl (lv_at hl 3 rfl) ?_
    refine q_iconst C dL_law_753 rfl (by decide) (fun v210 => ?_)
    refine q_iadd C dL_law_754 (fun v211 => ?_)
    refine q_xld C hX hbl hbA hxs dL_law_755 (fun v212 => ?_)
    refine q_c2i C (fun r h => cr_V (As := [.int v212]) (rest := [.int v209]) C (m_X7_copies l G F 231 v212 σ27 r h) cb_X7_copies (rfl : kdX 231 = 7) (by decide) rfl (cf_7 (rfl : kdX 231 = 7) _) rfl kl_L_81 ⟨Nat.le_of_ble_eq_true rfl, Nat.le_of_ble_eq_true rfl⟩ hcs hl.1 rfl (Nat.le_of_ble_eq_true rfl) dL_law_756 rfl) (fun v213 σ28 => ?_)
    refine q_icmp_eq C 2094 dL_law_759 (by decide) ?_ ?_
    · exact B2094 K18 hK18 x205 σ28 ls (lv_sub hl [0, 1, 2, 3] rfl)
    · exact q_law0 rfl
  have B764 : ∀ (K18 : Int → St → Option (Int)) (hK18 : ∀ (y0 : Int32) (σ : St) (ls : Array Slot), lv_has ls 4 [(0, .ref b), (1, .ref (gad G 0)), (2, .ref (gad G 231)), (3, .int y0)] → Sim G A nc ns p l e room_1 s m #[Value.ref b] below meth c (fun (r : Int) (t : State) => r = 1 → lw_Z below #[Value.ref b] s t) σ (K18 y0.toInt σ) (F0 m 18 ls [])), ∀  (x214 : Int32) (σ : St) (ls : Array Slot), lv_has ls 4 [(0, .ref b), (1, .ref (gad G 0)), (2, .ref (gad G 231)), (3, .int x214)] → Sim G A nc ns p l e room_1 s m #[Value.ref b] below meth c (fun (r : Int) (t : State) => r = 1 → lw_Z below #[Value.ref b] s t) σ (f_law_J764 F L xs K18   x214.toInt σ) (F0 m 764 ls []) := by
    intro K18 hK18
    intro x214 σ ls hl
    unfold f_law_J764
    refine q_aload_n C dL_law_764 rfl (lv_at hl 1 rfl) ?_
    refine q_aload_n C dL_law_765 rfl (lv_at hl 0 rfl) ?_
    refine q_iload_n C dL_law_766 rfl (lv_at hl 3 rfl) ?_
    refine q_iconst C dL_law_767 rfl (by decide) (fun v215 => ?_)
    refine q_iadd C dL_law_768 (fun v216 => ?_)
    refine q_xld C hX hbl hbA hxs dL_law_769 (fun v217 => ?_)
    refine q_c2i C (fun r h => cr_V (As := [.int v217]) (rest := []) C (m_X6_open l G F 0 v217 σ r h) cb_X6_open (rfl : kdX 0 = 6) (by decide) rfl (cf_6 (rfl : kdX 0 = 6) _) rfl kl_L_82 ⟨Nat.le_of_ble_eq_true rfl, Nat.le_of_ble_eq_true rfl⟩ hcs hl.1 rfl (Nat.le_of_ble_eq_true rfl) dL_law_770 rfl) (fun v218 σ29 => ?_)
    refine q_aload_n C dL_law_773 rfl (lv_at hl 2 rfl) ?_
    refine q_aload_n C dL_law_774 rfl (lv_at hl 0 rfl) ?_
    refine q_iload_n C dL_law_775 rfl (lv_at hl 3 rfl) ?_
    refine q_iconst C dL_law_776 rfl (by decide) (fun v219 => ?_)
    refine q_iadd C dL_law_777 (fun v220 => ?_)
    refine q_xld C hX hbl hbA hxs dL_law_778 (fun v221 => ?_)
    refine q_c2i C (fun r h => cr_V (As := [.int v221]) (rest := [.int v218]) C (m_X7_open l G F 231 v221 σ29 r h) cb_X7_open (rfl : kdX 231 = 7) (by decide) rfl (cf_7 (rfl : kdX 231 = 7) _) rfl kl_L_85 ⟨Nat.le_of_ble_eq_true rfl, Nat.le_of_ble_eq_true rfl⟩ hcs hl.1 rfl (Nat.le_of_ble_eq_true rfl) dL_law_779 rfl) (fun v222 σ30 => ?_)
    refine q_icmp_eq C 2094 dL_law_782 (by decide) ?_ ?_
    · exact B2094 K18 hK18 x214 σ30 ls (lv_sub hl [0, 1, 2, 3] rfl)
    · exact q_law0 rfl
  have B787 : ∀ (K18 : Int → St → Option (Int)) (hK18 : ∀ (y0 : Int32) (σ : St) (ls : Array Slot), lv_has ls 4 [(0, .ref b), (1, .ref (gad G 0)), (2, .ref (gad G 231)), (3, .int y0)] → Sim G A nc ns p l e room_1 s m #[Value.ref b] below meth c (fun (r : Int) (t : State) => r = 1 → lw_Z below #[Value.ref b] s t) σ (K18 y0.toInt σ) (F0 m 18 ls [])), ∀  (x223 : Int32) (σ : St) (ls : Array Slot), lv_has ls 4 [(0, .ref b), (1, .ref (gad G 0)), (2, .ref (gad G 231)), (3, .int x223)] → Sim G A nc ns p l e room_1 s m #[Value.ref b] below meth c (fun (r : Int) (t : State) => r = 1 → lw_Z below #[Value.ref b] s t) σ (f_law_J787 F L xs K18   x223.toInt σ) (F0 m 787 ls []) := by
    intro K18 hK18
    intro x223 σ ls hl
    unfold f_law_J787
    refine q_aload_n C dL_law_787 rfl (lv_at hl 1 rfl) ?_
    refine q_aload_n C dL_law_788 rfl (lv_at hl 0 rfl) ?_
    refine q_iload_n C dL_law_789 rfl (lv_at hl 3 rfl) ?_
    refine q_iconst C dL_law_790 rfl (by decide) (fun v224 => ?_)
    refine q_iadd C dL_law_791 (fun v225 => ?_)
    refine q_xld C hX hbl hbA hxs dL_law_792 (fun v226 => ?_)
    refine q_aload_n C dL_law_793 rfl (lv_at hl 0 rfl) ?_
    refine q_iload_n C dL_law_794 rfl (lv_at hl 3 rfl) ?_
    refine q_iconst C dL_law_795 rfl (by decide) (fun v227 => ?_)
    refine q_iadd C dL_law_796 (fun v228 => ?_)
    refine q_xld C hX hbl hbA hxs dL_law_797 (fun v229 => ?_)
    refine q_c2i C (fun r h => cr_V (As := [.int v226, .int v229]) (rest := []) C (m_X6_copy l G F 0 v226 v229 σ r h) cb_X6_copy (rfl : kdX 0 = 6) (by decide) rfl (cf_6 (rfl : kdX 0 = 6) _) rfl kl_L_86 ⟨Nat.le_of_ble_eq_true rfl, Nat.le_of_ble_eq_true rfl⟩ hcs hl.1 rfl (Nat.le_of_ble_eq_true rfl) dL_law_798 rfl) (fun v230 σ31 => ?_)
    refine q_aload_n C dL_law_801 rfl (lv_at hl 2 rfl) ?_
    refine q_aload_n C dL_law_802 rfl (lv_at hl 0 rfl) ?_
    refine q_iload_n C dL_law_803 rfl (lv_at hl 3 rfl) ?_
    refine q_iconst C dL_law_804 rfl (by decide) (fun v231 => ?_)
    refine q_iadd C dL_law_805 (fun v232 => ?_)
    refine q_xld C hX hbl hbA hxs dL_law_806 (fun v233 => ?_)
    refine q_aload_n C dL_law_807 rfl (lv_at hl 0 rfl) ?_
    refine q_iload_n C dL_law_808 rfl (lv_at hl 3 rfl) ?_
    refine q_iconst C dL_law_809 rfl (by decide) (fun v234 => ?_)
    refine q_iadd C dL_law_810 (fun v235 => ?_)
    refine q_xld C hX hbl hbA hxs dL_law_811 (fun v236 => ?_)
    refine q_c2i C (fun r h => cr_V (As := [.int v233, .int v236]) (rest := [.int v230]) C (m_X7_copy l G F 231 v233 v236 σ31 r h) cb_X7_copy (rfl : kdX 231 = 7) (by decide) rfl (cf_7 (rfl : kdX 231 = 7) _) rfl kl_L_89 ⟨Nat.le_of_ble_eq_true rfl, Nat.le_of_ble_eq_true rfl⟩ hcs hl.1 rfl (Nat.le_of_ble_eq_true rfl) dL_law_812 rfl) (fun v237 σ32 => ?_)
    refine q_icmp_eq C 2094 dL_law_815 (by decide) ?_ ?_
    · exact B2094 K18 hK18 x223 σ32 ls (lv_sub hl [0, 1, 2, 3] rfl)
    · exact q_law0 rfl
  have B820 : ∀ (K18 : Int → St → Option (Int)) (hK18 : ∀ (y0 : Int32) (σ : St) (ls : Array Slot), lv_has ls 4 [(0, .ref b), (1, .ref (gad G 0)), (2, .ref (gad G 231)), (3, .int y0)] → Sim G A nc ns p l e room_1 s m #[Value.ref b] below meth c (fun (r : Int) (t : State) => r = 1 → lw_Z below #[Value.ref b] s t) σ (K18 y0.toInt σ) (F0 m 18 ls [])), ∀  (x238 : Int32) (σ : St) (ls : Array Slot), lv_has ls 4 [(0, .ref b), (1, .ref (gad G 0)), (2, .ref (gad G 231)), (3, .int x238)] → Sim G A nc ns p l e room_1 s m #[Value.ref b] below meth c (fun (r : Int) (t : State) => r = 1 → lw_Z below #[Value.ref b] s t) σ (f_law_J820 F L xs K18   x238.toInt σ) (F0 m 820 ls []) := by
    intro K18 hK18
    intro x238 σ ls hl
    unfold f_law_J820
    refine q_aload_n C dL_law_820 rfl (lv_at hl 1 rfl) ?_
    refine q_aload_n C dL_law_821 rfl (lv_at hl 0 rfl) ?_
    refine q_iload_n C dL_law_822 rfl (lv_at hl 3 rfl) ?_
    refine q_iconst C dL_law_823 rfl (by decide) (fun v239 => ?_)
    refine q_iadd C dL_law_824 (fun v240 => ?_)
    refine q_xld C hX hbl hbA hxs dL_law_825 (fun v241 => ?_)
    refine q_aload_n C dL_law_826 rfl (lv_at hl 0 rfl) ?_
    refine q_iload_n C dL_law_827 rfl (lv_at hl 3 rfl) ?_
    refine q_iconst C dL_law_828 rfl (by decide) (fun v242 => ?_)
    refine q_iadd C dL_law_829 (fun v243 => ?_)
    refine q_xld C hX hbl hbA hxs dL_law_830 (fun v244 => ?_)
    refine q_c2i C (fun r h => cr_V (As := [.int v241, .int v244]) (rest := []) C (m_X6_kept l G F 0 v241 v244 σ r h) cb_X6_kept (rfl : kdX 0 = 6) (by decide) rfl (cf_6 (rfl : kdX 0 = 6) _) rfl kl_L_90 ⟨Nat.le_of_ble_eq_true rfl, Nat.le_of_ble_eq_true rfl⟩ hcs hl.1 rfl (Nat.le_of_ble_eq_true rfl) dL_law_831 rfl) (fun v245 σ33 => ?_)
    refine q_aload_n C dL_law_834 rfl (lv_at hl 2 rfl) ?_
    refine q_aload_n C dL_law_835 rfl (lv_at hl 0 rfl) ?_
    refine q_iload_n C dL_law_836 rfl (lv_at hl 3 rfl) ?_
    refine q_iconst C dL_law_837 rfl (by decide) (fun v246 => ?_)
    refine q_iadd C dL_law_838 (fun v247 => ?_)
    refine q_xld C hX hbl hbA hxs dL_law_839 (fun v248 => ?_)
    refine q_aload_n C dL_law_840 rfl (lv_at hl 0 rfl) ?_
    refine q_iload_n C dL_law_841 rfl (lv_at hl 3 rfl) ?_
    refine q_iconst C dL_law_842 rfl (by decide) (fun v249 => ?_)
    refine q_iadd C dL_law_843 (fun v250 => ?_)
    refine q_xld C hX hbl hbA hxs dL_law_844 (fun v251 => ?_)
    refine q_c2i C (fun r h => cr_V (As := [.int v248, .int v251]) (rest := [.int v245]) C (m_X7_kept l G F 231 v248 v251 σ33 r h) cb_X7_kept (rfl : kdX 231 = 7) (by decide) rfl (cf_7 (rfl : kdX 231 = 7) _) rfl kl_L_93 ⟨Nat.le_of_ble_eq_true rfl, Nat.le_of_ble_eq_true rfl⟩ hcs hl.1 rfl (Nat.le_of_ble_eq_true rfl) dL_law_845 rfl) (fun v252 σ34 => ?_)
    refine q_icmp_eq C 2094 dL_law_848 (by decide) ?_ ?_
    · exact B2094 K18 hK18 x238 σ34 ls (lv_sub hl [0, 1, 2, 3] rfl)
    · exact q_law0 rfl
  have B853 : ∀ (K18 : Int → St → Option (Int)) (hK18 : ∀ (y0 : Int32) (σ : St) (ls : Array Slot), lv_has ls 4 [(0, .ref b), (1, .ref (gad G 0)), (2, .ref (gad G 231)), (3, .int y0)] → Sim G A nc ns p l e room_1 s m #[Value.ref b] below meth c (fun (r : Int) (t : State) => r = 1 → lw_Z below #[Value.ref b] s t) σ (K18 y0.toInt σ) (F0 m 18 ls [])), ∀  (x253 : Int32) (σ : St) (ls : Array Slot), lv_has ls 4 [(0, .ref b), (1, .ref (gad G 0)), (2, .ref (gad G 231)), (3, .int x253)] → Sim G A nc ns p l e room_1 s m #[Value.ref b] below meth c (fun (r : Int) (t : State) => r = 1 → lw_Z below #[Value.ref b] s t) σ (f_law_J853 F L xs K18   x253.toInt σ) (F0 m 853 ls []) := by
    intro K18 hK18
    intro x253 σ ls hl
    unfold f_law_J853
    refine q_aload_n C dL_law_853 rfl (lv_at hl 1 rfl) ?_
    refine q_aload_n C dL_law_854 rfl (lv_at hl 0 rfl) ?_
    refine q_iload_n C dL_law_855 rfl (lv_at hl 3 rfl) ?_
    refine q_iconst C dL_law_856 rfl (by decide) (fun v254 => ?_)
    refine q_iadd C dL_law_857 (fun v255 => ?_)
    refine q_xld C hX hbl hbA hxs dL_law_858 (fun v256 => ?_)
    refine q_aload_n C dL_law_859 rfl (lv_at hl 0 rfl) ?_
    refine q_iload_n C dL_law_860 rfl (lv_at hl 3 rfl) ?_
    refine q_iconst C dL_law_861 rfl (by decide) (fun v257 => ?_)
    refine q_iadd C dL_law_862 (fun v258 => ?_)
    refine q_xld C hX hbl hbA hxs dL_law_863 (fun v259 => ?_)
    refine q_c2i C (fun r h => cr_V (As := [.int v256, .int v259]) (rest := []) C (m_X6_saved l G F 0 v256 v259 σ r h) cb_X6_saved (rfl : kdX 0 = 6) (by decide) rfl (cf_6 (rfl : kdX 0 = 6) _) rfl kl_L_94 ⟨Nat.le_of_ble_eq_true rfl, Nat.le_of_ble_eq_true rfl⟩ hcs hl.1 rfl (Nat.le_of_ble_eq_true rfl) dL_law_864 rfl) (fun v260 σ35 => ?_)
    refine q_aload_n C dL_law_867 rfl (lv_at hl 2 rfl) ?_
    refine q_aload_n C dL_law_868 rfl (lv_at hl 0 rfl) ?_
    refine q_iload_n C dL_law_869 rfl (lv_at hl 3 rfl) ?_
    refine q_iconst C dL_law_870 rfl (by decide) (fun v261 => ?_)
    refine q_iadd C dL_law_871 (fun v262 => ?_)
    refine q_xld C hX hbl hbA hxs dL_law_872 (fun v263 => ?_)
    refine q_aload_n C dL_law_873 rfl (lv_at hl 0 rfl) ?_
    refine q_iload_n C dL_law_874 rfl (lv_at hl 3 rfl) ?_
    refine q_iconst C dL_law_875 rfl (by decide) (fun v264 => ?_)
    refine q_iadd C dL_law_876 (fun v265 => ?_)
    refine q_xld C hX hbl hbA hxs dL_law_877 (fun v266 => ?_)
    refine q_c2i C (fun r h => cr_V (As := [.int v263, .int v266]) (rest := [.int v260]) C (m_X7_saved l G F 231 v263 v266 σ35 r h) cb_X7_saved (rfl : kdX 231 = 7) (by decide) rfl (cf_7 (rfl : kdX 231 = 7) _) rfl kl_L_97 ⟨Nat.le_of_ble_eq_true rfl, Nat.le_of_ble_eq_true rfl⟩ hcs hl.1 rfl (Nat.le_of_ble_eq_true rfl) dL_law_878 rfl) (fun v267 σ36 => ?_)
    refine q_icmp_eq C 2094 dL_law_881 (by decide) ?_ ?_
    · exact B2094 K18 hK18 x253 σ36 ls (lv_sub hl [0, 1, 2, 3] rfl)
    · exact q_law0 rfl
  have B886 : ∀ (K18 : Int → St → Option (Int)) (hK18 : ∀ (y0 : Int32) (σ : St) (ls : Array Slot), lv_has ls 4 [(0, .ref b), (1, .ref (gad G 0)), (2, .ref (gad G 231)), (3, .int y0)] → Sim G A nc ns p l e room_1 s m #[Value.ref b] below meth c (fun (r : Int) (t : State) => r = 1 → lw_Z below #[Value.ref b] s t) σ (K18 y0.toInt σ) (F0 m 18 ls [])), ∀  (x268 : Int32) (σ : St) (ls : Array Slot), lv_has ls 4 [(0, .ref b), (1, .ref (gad G 0)), (2, .ref (gad G 231)), (3, .int x268)] → Sim G A nc ns p l e room_1 s m #[Value.ref b] below meth c (fun (r : Int) (t : State) => r = 1 → lw_Z below #[Value.ref b] s t) σ (f_law_J886 F L xs K18   x268.toInt σ) (F0 m 886 ls []) := by
    intro K18 hK18
    intro x268 σ ls hl
    unfold f_law_J886
    refine q_aload_n C dL_law_886 rfl (lv_at hl 1 rfl) ?_
    refine q_aload_n C dL_law_887 rfl (lv_at hl 0 rfl) ?_
    refine q_iload_n C dL_law_888 rfl (lv_at hl 3 rfl) ?_
    refine q_iconst C dL_law_889 rfl (by decide) (fun v269 => ?_)
    refine q_iadd C dL_law_890 (fun v270 => ?_)
    refine q_xld C hX hbl hbA hxs dL_law_891 (fun v271 => ?_)
    refine q_aload_n C dL_law_892 rfl (lv_at hl 0 rfl) ?_
    refine q_iload_n C dL_law_893 rfl (lv_at hl 3 rfl) ?_
    refine q_iconst C dL_law_894 rfl (by decide) (fun v272 => ?_)
    refine q_iadd C dL_law_895 (fun v273 => ?_)
    refine q_xld C hX hbl hbA hxs dL_law_896 (fun v274 => ?_)
    refine q_c2i C (fun r h => cr_V (As := [.int v271, .int v274]) (rest := []) C (m_X6_order l G F 0 v271 v274 σ r h) cb_X6_order (rfl : kdX 0 = 6) (by decide) rfl (cf_6 (rfl : kdX 0 = 6) _) rfl kl_L_98 ⟨Nat.le_of_ble_eq_true rfl, Nat.le_of_ble_eq_true rfl⟩ hcs hl.1 rfl (Nat.le_of_ble_eq_true rfl) dL_law_897 rfl) (fun v275 σ37 => ?_)
    refine q_aload_n C dL_law_900 rfl (lv_at hl 2 rfl) ?_
    refine q_aload_n C dL_law_901 rfl (lv_at hl 0 rfl) ?_
    refine q_iload_n C dL_law_902 rfl (lv_at hl 3 rfl) ?_
    refine q_iconst C dL_law_903 rfl (by decide) (fun v276 => ?_)
    refine q_iadd C dL_law_904 (fun v277 => ?_)
    refine q_xld C hX hbl hbA hxs dL_law_905 (fun v278 => ?_)
    refine q_aload_n C dL_law_906 rfl (lv_at hl 0 rfl) ?_
    refine q_iload_n C dL_law_907 rfl (lv_at hl 3 rfl) ?_
    refine q_iconst C dL_law_908 rfl (by decide) (fun v279 => ?_)
    refine q_iadd C dL_law_909 (fun v280 => ?_)
    refine q_xld C hX hbl hbA hxs dL_law_910 (fun v281 => ?_)
    refine q_c2i C (fun r h => cr_V (As := [.int v278, .int v281]) (rest := [.int v275]) C (m_X7_order l G F 231 v278 v281 σ37 r h) cb_X7_order (rfl : kdX 231 = 7) (by decide) rfl (cf_7 (rfl : kdX 231 = 7) _) rfl kl_L_101 ⟨Nat.le_of_ble_eq_true rfl, Nat.le_of_ble_eq_true rfl⟩ hcs hl.1 rfl (Nat.le_of_ble_eq_true rfl) dL_law_911 rfl) (fun v282 σ38 => ?_)
    refine q_icmp_eq C 2094 dL_law_914 (by decide) ?_ ?_
    · exact B2094 K18 hK18 x268 σ38 ls (lv_sub hl [0, 1, 2, 3] rfl)
    · exact q_law0 rfl
  have B919 : ∀ (K18 : Int → St → Option (Int)) (hK18 : ∀ (y0 : Int32) (σ : St) (ls : Array Slot), lv_has ls 4 [(0, .ref b), (1, .ref (gad G 0)), (2, .ref (gad G 231)), (3, .int y0)] → Sim G A nc ns p l e room_1 s m #[Value.ref b] below meth c (fun (r : Int) (t : State) => r = 1 → lw_Z below #[Value.ref b] s t) σ (K18 y0.toInt σ) (F0 m 18 ls [])), ∀  (x283 : Int32) (σ : St) (ls : Array Slot), lv_has ls 4 [(0, .ref b), (1, .ref (gad G 0)), (2, .ref (gad G 231)), (3, .int x283)] → Sim G A nc ns p l e room_1 s m #[Value.ref b] below meth c (fun (r : Int) (t : State) => r = 1 → lw_Z below #[Value.ref b] s t) σ (f_law_J919 F L xs K18   x283.toInt σ) (F0 m 919 ls []) := by
    intro K18 hK18
    intro x283 σ ls hl
    unfold f_law_J919
    refine q_aload_n C dL_law_919 rfl (lv_at hl 1 rfl) ?_
    refine q_aload_n C dL_law_920 rfl (lv_at hl 0 rfl) ?_
    refine q_iload_n C dL_law_921 rfl (lv_at hl 3 rfl) ?_
    refine q_iconst C dL_law_922 rfl (by decide) (fun v284 => ?_)
    refine q_iadd C dL_law_923 (fun v285 => ?_)
    refine q_xld C hX hbl hbA hxs dL_law_924 (fun v286 => ?_)
    refine q_c2i C (fun r h => cr_V (As := [.int v286]) (rest := []) C (m_X6_waiting l G F 0 v286 σ r h) cb_X6_waiting (rfl : kdX 0 = 6) (by decide) rfl (cf_6 (rfl : kdX 0 = 6) _) rfl kl_L_102 ⟨Nat.le_of_ble_eq_true rfl, Nat.le_of_ble_eq_true rfl⟩ hcs hl.1 rfl (Nat.le_of_ble_eq_true rfl) dL_law_925 rfl) (fun v287 σ39 => ?_)
    refine q_aload_n C dL_law_928 rfl (lv_at hl 2 rfl) ?_
    refine q_aload_n C dL_law_929 rfl (lv_at hl 0 rfl) ?_
    refine q_iload_n C dL_law_930 rfl (lv_at hl 3 rfl) ?_
    refine q_iconst C dL_law_931 rfl (by decide) (fun v288 => ?_)
    refine q_iadd C dL_law_932 (fun v289 => ?_)
    refine q_xld C hX hbl hbA hxs dL_law_933 (fun v290 => ?_)
    refine q_c2i C (fun r h => cr_V (As := [.int v290]) (rest := [.int v287]) C (m_X7_waiting l G F 231 v290 σ39 r h) cb_X7_waiting (rfl : kdX 231 = 7) (by decide) rfl (cf_7 (rfl : kdX 231 = 7) _) rfl kl_L_105 ⟨Nat.le_of_ble_eq_true rfl, Nat.le_of_ble_eq_true rfl⟩ hcs hl.1 rfl (Nat.le_of_ble_eq_true rfl) dL_law_934 rfl) (fun v291 σ40 => ?_)
    refine q_icmp_eq C 2094 dL_law_937 (by decide) ?_ ?_
    · exact B2094 K18 hK18 x283 σ40 ls (lv_sub hl [0, 1, 2, 3] rfl)
    · exact q_law0 rfl
  have B942 : ∀ (K18 : Int → St → Option (Int)) (hK18 : ∀ (y0 : Int32) (σ : St) (ls : Array Slot), lv_has ls 4 [(0, .ref b), (1, .ref (gad G 0)), (2, .ref (gad G 231)), (3, .int y0)] → Sim G A nc ns p l e room_1 s m #[Value.ref b] below meth c (fun (r : Int) (t : State) => r = 1 → lw_Z below #[Value.ref b] s t) σ (K18 y0.toInt σ) (F0 m 18 ls [])), ∀  (x292 : Int32) (σ : St) (ls : Array Slot), lv_has ls 4 [(0, .ref b), (1, .ref (gad G 0)), (2, .ref (gad G 231)), (3, .int x292)] → Sim G A nc ns p l e room_1 s m #[Value.ref b] below meth c (fun (r : Int) (t : State) => r = 1 → lw_Z below #[Value.ref b] s t) σ (f_law_J942 F L xs K18   x292.toInt σ) (F0 m 942 ls []) := by
    intro K18 hK18
    intro x292 σ ls hl
    unfold f_law_J942
    refine q_aload_n C dL_law_942 rfl (lv_at hl 1 rfl) ?_
    refine q_aload_n C dL_law_943 rfl (lv_at hl 0 rfl) ?_
    refine q_iload_n C dL_law_944 rfl (lv_at hl 3 rfl) ?_
    refine q_iconst C dL_law_945 rfl (by decide) (fun v293 => ?_)
    refine q_iadd C dL_law_946 (fun v294 => ?_)
    refine q_xld C hX hbl hbA hxs dL_law_947 (fun v295 => ?_)
    refine q_c2i C (fun r h => cr_V (As := [.int v295]) (rest := []) C (m_X6_saves l G F 0 v295 σ r h) cb_X6_saves (rfl : kdX 0 = 6) (by decide) rfl (cf_6 (rfl : kdX 0 = 6) _) rfl kl_L_106 ⟨Nat.le_of_ble_eq_true rfl, Nat.le_of_ble_eq_true rfl⟩ hcs hl.1 rfl (Nat.le_of_ble_eq_true rfl) dL_law_948 rfl) (fun v296 σ41 => ?_)
    refine q_aload_n C dL_law_951 rfl (lv_at hl 2 rfl) ?_
    refine q_aload_n C dL_law_952 rfl (lv_at hl 0 rfl) ?_
    refine q_iload_n C dL_law_953 rfl (lv_at hl 3 rfl) ?_
    refine q_iconst C dL_law_954 rfl (by decide) (fun v297 => ?_)
    refine q_iadd C dL_law_955 (fun v298 => ?_)
    refine q_xld C hX hbl hbA hxs dL_law_956 (fun v299 => ?_)
    refine q_c2i C (fun r h => cr_V (As := [.int v299]) (rest := [.int v296]) C (m_X7_saves l G F 231 v299 σ41 r h) cb_X7_saves (rfl : kdX 231 = 7) (by decide) rfl (cf_7 (rfl : kdX 231 = 7) _) rfl kl_L_109 ⟨Nat.le_of_ble_eq_true rfl, Nat.le_of_ble_eq_true rfl⟩ hcs hl.1 rfl (Nat.le_of_ble_eq_true rfl) dL_law_957 rfl) (fun v300 σ42 => ?_)
    refine q_icmp_eq C 2094 dL_law_960 (by decide) ?_ ?_
    · exact B2094 K18 hK18 x292 σ42 ls (lv_sub hl [0, 1, 2, 3] rfl)
    · exact q_law0 rfl
  have B965 : ∀ (K18 : Int → St → Option (Int)) (hK18 : ∀ (y0 : Int32) (σ : St) (ls : Array Slot), lv_has ls 4 [(0, .ref b), (1, .ref (gad G 0)), (2, .ref (gad G 231)), (3, .int y0)] → Sim G A nc ns p l e room_1 s m #[Value.ref b] below meth c (fun (r : Int) (t : State) => r = 1 → lw_Z below #[Value.ref b] s t) σ (K18 y0.toInt σ) (F0 m 18 ls [])), ∀  (x301 : Int32) (σ : St) (ls : Array Slot), lv_has ls 4 [(0, .ref b), (1, .ref (gad G 0)), (2, .ref (gad G 231)), (3, .int x301)] → Sim G A nc ns p l e room_1 s m #[Value.ref b] below meth c (fun (r : Int) (t : State) => r = 1 → lw_Z below #[Value.ref b] s t) σ (f_law_J965 F L xs K18   x301.toInt σ) (F0 m 965 ls []) := by
    intro K18 hK18
    intro x301 σ ls hl
    unfold f_law_J965
    refine q_aload_n C dL_law_965 rfl (lv_at hl 1 rfl) ?_
    refine q_aload_n C dL_law_966 rfl (lv_at hl 0 rfl) ?_
    refine q_iload_n C dL_law_967 rfl (lv_at hl 3 rfl) ?_
    refine q_iconst C dL_law_968 rfl (by decide) (fun v302 => ?_)
    refine q_iadd C dL_law_969 (fun v303 => ?_)
    refine q_xld C hX hbl hbA hxs dL_law_970 (fun v304 => ?_)
    refine q_c2i C (fun r h => cr_V (As := [.int v304]) (rest := []) C (m_X6_work l G F 0 v304 σ r h) cb_X6_work (rfl : kdX 0 = 6) (by decide) rfl (cf_6 (rfl : kdX 0 = 6) _) rfl kl_L_110 ⟨Nat.le_of_ble_eq_true rfl, Nat.le_of_ble_eq_true rfl⟩ hcs hl.1 rfl (Nat.le_of_ble_eq_true rfl) dL_law_971 rfl) (fun v305 σ43 => ?_)
    refine q_aload_n C dL_law_974 rfl (lv_at hl 2 rfl) ?_
    refine q_aload_n C dL_law_975 rfl (lv_at hl 0 rfl) ?_
    refine q_iload_n C dL_law_976 rfl (lv_at hl 3 rfl) ?_
    refine q_iconst C dL_law_977 rfl (by decide) (fun v306 => ?_)
    refine q_iadd C dL_law_978 (fun v307 => ?_)
    refine q_xld C hX hbl hbA hxs dL_law_979 (fun v308 => ?_)
    refine q_c2i C (fun r h => cr_V (As := [.int v308]) (rest := [.int v305]) C (m_X7_work l G F 231 v308 σ43 r h) cb_X7_work (rfl : kdX 231 = 7) (by decide) rfl (cf_7 (rfl : kdX 231 = 7) _) rfl kl_L_113 ⟨Nat.le_of_ble_eq_true rfl, Nat.le_of_ble_eq_true rfl⟩ hcs hl.1 rfl (Nat.le_of_ble_eq_true rfl) dL_law_980 rfl) (fun v309 σ44 => ?_)
    refine q_icmp_eq C 2094 dL_law_983 (by decide) ?_ ?_
    · exact B2094 K18 hK18 x301 σ44 ls (lv_sub hl [0, 1, 2, 3] rfl)
    · exact q_law0 rfl
  have B988 : ∀ (K18 : Int → St → Option (Int)) (hK18 : ∀ (y0 : Int32) (σ : St) (ls : Array Slot), lv_has ls 4 [(0, .ref b), (1, .ref (gad G 0)), (2, .ref (gad G 231)), (3, .int y0)] → Sim G A nc ns p l e room_1 s m #[Value.ref b] below meth c (fun (r : Int) (t : State) => r = 1 → lw_Z below #[Value.ref b] s t) σ (K18 y0.toInt σ) (F0 m 18 ls [])), ∀  (x310 : Int32) (σ : St) (ls : Array Slot), lv_has ls 4 [(0, .ref b), (1, .ref (gad G 0)), (2, .ref (gad G 231)), (3, .int x310)] → Sim G A nc ns p l e room_1 s m #[Value.ref b] below meth c (fun (r : Int) (t : State) => r = 1 → lw_Z below #[Value.ref b] s t) σ (f_law_J988 F L xs K18   x310.toInt σ) (F0 m 988 ls []) := by
    intro K18 hK18
    intro x310 σ ls hl
    unfold f_law_J988
    refine q_aload_n C dL_law_988 rfl (lv_at hl 1 rfl) ?_
    refine q_aload_n C dL_law_989 rfl (lv_at hl 0 rfl) ?_
    refine q_iload_n C dL_law_990 rfl (lv_at hl 3 rfl) ?_
    refine q_iconst C dL_law_991 rfl (by decide) (fun v311 => ?_)
    refine q_iadd C dL_law_992 (fun v312 => ?_)
    refine q_xld C hX hbl hbA hxs dL_law_993 (fun v313 => ?_)
    refine q_c2i C (fun r h => cr_V (As := [.int v313]) (rest := []) C (m_X6_wasted l G F 0 v313 σ r h) cb_X6_wasted (rfl : kdX 0 = 6) (by decide) rfl (cf_6 (rfl : kdX 0 = 6) _) rfl kl_L_114 ⟨Nat.le_of_ble_eq_true rfl, Nat.le_of_ble_eq_true rfl⟩ hcs hl.1 rfl (Nat.le_of_ble_eq_true rfl) dL_law_994 rfl) (fun v314 σ45 => ?_)
    refine q_aload_n C dL_law_997 rfl (lv_at hl 2 rfl) ?_
    refine q_aload_n C dL_law_998 rfl (lv_at hl 0 rfl) ?_
    refine q_iload_n C dL_law_999 rfl (lv_at hl 3 rfl) ?_
    refine q_iconst C dL_law_1000 rfl (by decide) (fun v315 => ?_)
    refine q_iadd C dL_law_1001 (fun v316 => ?_)
    refine q_xld C hX hbl hbA hxs dL_law_1002 (fun v317 => ?_)
    refine q_c2i C (fun r h => cr_V (As := [.int v317]) (rest := [.int v314]) C (m_X7_wasted l G F 231 v317 σ45 r h) cb_X7_wasted (rfl : kdX 231 = 7) (by decide) rfl (cf_7 (rfl : kdX 231 = 7) _) rfl kl_L_117 ⟨Nat.le_of_ble_eq_true rfl, Nat.le_of_ble_eq_true rfl⟩ hcs hl.1 rfl (Nat.le_of_ble_eq_true rfl) dL_law_1003 rfl) (fun v318 σ46 => ?_)
    refine q_icmp_eq C 2094 dL_law_1006 (by decide) ?_ ?_
    · exact B2094 K18 hK18 x310 σ46 ls (lv_sub hl [0, 1, 2, 3] rfl)
    · exact q_law0 rfl
  have B1011 : ∀ (K18 : Int → St → Option (Int)) (hK18 : ∀ (y0 : Int32) (σ : St) (ls : Array Slot), lv_has ls 4 [(0, .ref b), (1, .ref (gad G 0)), (2, .ref (gad G 231)), (3, .int y0)] → Sim G A nc ns p l e room_1 s m #[Value.ref b] below meth c (fun (r : Int) (t : State) => r = 1 → lw_Z below #[Value.ref b] s t) σ (K18 y0.toInt σ) (F0 m 18 ls [])), ∀  (x319 : Int32) (σ : St) (ls : Array Slot), lv_has ls 4 [(0, .ref b), (1, .ref (gad G 0)), (2, .ref (gad G 231)), (3, .int x319)] → Sim G A nc ns p l e room_1 s m #[Value.ref b] below meth c (fun (r : Int) (t : State) => r = 1 → lw_Z below #[Value.ref b] s t) σ (f_law_J1011 F L xs K18   x319.toInt σ) (F0 m 1011 ls []) := by
    intro K18 hK18
    intro x319 σ ls hl
    unfold f_law_J1011
    refine q_aload_n C dL_law_1011 rfl (lv_at hl 1 rfl) ?_
    refine q_aload_n C dL_law_1012 rfl (lv_at hl 0 rfl) ?_
    refine q_iload_n C dL_law_1013 rfl (lv_at hl 3 rfl) ?_
    refine q_iconst C dL_law_1014 rfl (by decide) (fun v320 => ?_)
    refine q_iadd C dL_law_1015 (fun v321 => ?_)
    refine q_xld C hX hbl hbA hxs dL_law_1016 (fun v322 => ?_)
    refine q_c2i C (fun r h => cr_V (As := [.int v322]) (rest := []) C (m_X6_chain l G F 0 v322 σ r h) cb_X6_chain (rfl : kdX 0 = 6) (by decide) rfl (cf_6 (rfl : kdX 0 = 6) _) rfl kl_L_118 ⟨Nat.le_of_ble_eq_true rfl, Nat.le_of_ble_eq_true rfl⟩ hcs hl.1 rfl (Nat.le_of_ble_eq_true rfl) dL_law_1017 rfl) (fun v323 σ47 => ?_)
    refine q_aload_n C dL_law_1020 rfl (lv_at hl 2 rfl) ?_
    refine q_aload_n C dL_law_1021 rfl (lv_at hl 0 rfl) ?_
    refine q_iload_n C dL_law_1022 rfl (lv_at hl 3 rfl) ?_
    refine q_iconst C dL_law_1023 rfl (by decide) (fun v324 => ?_)
    refine q_iadd C dL_law_1024 (fun v325 => ?_)
    refine q_xld C hX hbl hbA hxs dL_law_1025 (fun v326 => ?_)
    refine q_c2i C (fun r h => cr_V (As := [.int v326]) (rest := [.int v323]) C (m_X7_chain l G F 231 v326 σ47 r h) cb_X7_chain (rfl : kdX 231 = 7) (by decide) rfl (cf_7 (rfl : kdX 231 = 7) _) rfl kl_L_121 ⟨Nat.le_of_ble_eq_true rfl, Nat.le_of_ble_eq_true rfl⟩ hcs hl.1 rfl (Nat.le_of_ble_eq_true rfl) dL_law_1026 rfl) (fun v327 σ48 => ?_)
    refine q_icmp_eq C 2094 dL_law_1029 (by decide) ?_ ?_
    · exact B2094 K18 hK18 x319 σ48 ls (lv_sub hl [0, 1, 2, 3] rfl)
    · exact q_law0 rfl
  have B1034 : ∀ (K18 : Int → St → Option (Int)) (hK18 : ∀ (y0 : Int32) (σ : St) (ls : Array Slot), lv_has ls 4 [(0, .ref b), (1, .ref (gad G 0)), (2, .ref (gad G 231)), (3, .int y0)] → Sim G A nc ns p l e room_1 s m #[Value.ref b] below meth c (fun (r : Int) (t : State) => r = 1 → lw_Z below #[Value.ref b] s t) σ (K18 y0.toInt σ) (F0 m 18 ls [])), ∀  (x328 : Int32) (σ : St) (ls : Array Slot), lv_has ls 4 [(0, .ref b), (1, .ref (gad G 0)), (2, .ref (gad G 231)), (3, .int x328)] → Sim G A nc ns p l e room_1 s m #[Value.ref b] below meth c (fun (r : Int) (t : State) => r = 1 → lw_Z below #[Value.ref b] s t) σ (f_law_J1034 F L xs K18   x328.toInt σ) (F0 m 1034 ls []) := by
    intro K18 hK18
    intro x328 σ ls hl
    unfold f_law_J1034
    refine q_aload_n C dL_law_1034 rfl (lv_at hl 1 rfl) ?_
    refine q_aload_n C dL_law_1035 rfl (lv_at hl 0 rfl) ?_
    refine q_iload_n C dL_law_1036 rfl (lv_at hl 3 rfl) ?_
    refine q_iconst C dL_law_1037 rfl (by decide) (fun v329 => ?_)
    refine q_iadd C dL_law_1038 (fun v330 => ?_)
    refine q_xld C hX hbl hbA hxs dL_law_1039 (fun v331 => ?_)
    refine q_aload_n C dL_law_1040 rfl (lv_at hl 0 rfl) ?_
    refine q_iload_n C dL_law_1041 rfl (lv_at hl 3 rfl) ?_
    refine q_iconst C dL_law_1042 rfl (by decide) (fun v332 => ?_)
    refine q_iadd C dL_law_1043 (fun v333 => ?_)
    refine q_xld C hX hbl hbA hxs dL_law_1044 (fun v334 => ?_)
    refine q_c2i C (fun r h => cr_V (As := [.int v331, .int v334]) (rest := []) C (m_X6_linked l G F 0 v331 v334 σ r h) cb_X6_linked (rfl : kdX 0 = 6) (by decide) rfl (cf_6 (rfl : kdX 0 = 6) _) rfl kl_L_122 ⟨Nat.le_of_ble_eq_true rfl, Nat.le_of_ble_eq_true rfl⟩ hcs hl.1 rfl (Nat.le_of_ble_eq_true rfl) dL_law_1045 rfl) (fun v335 σ49 => ?_)
    refine q_aload_n C dL_law_1048 rfl (lv_at hl 2 rfl) ?_
    refine q_aload_n C dL_law_1049 rfl (lv_at hl 0 rfl) ?_
    refine q_iload_n C dL_law_1050 rfl (lv_at hl 3 rfl) ?_
    refine q_iconst C dL_law_1051 rfl (by decide) (fun v336 => ?_)
    refine q_iadd C dL_law_1052 (fun v337 => ?_)
    refine q_xld C hX hbl hbA hxs dL_law_1053 (fun v338 => ?_)
    refine q_aload_n C dL_law_1054 rfl (lv_at hl 0 rfl) ?_
    refine q_iload_n C dL_law_1055 rfl (lv_at hl 3 rfl) ?_
    refine q_iconst C dL_law_1056 rfl (by decide) (fun v339 => ?_)
    refine q_iadd C dL_law_1057 (fun v340 => ?_)
    refine q_xld C hX hbl hbA hxs dL_law_1058 (fun v341 => ?_)
    refine q_c2i C (fun r h => cr_V (As := [.int v338, .int v341]) (rest := [.int v335]) C (m_X7_linked l G F 231 v338 v341 σ49 r h) cb_X7_linked (rfl : kdX 231 = 7) (by decide) rfl (cf_7 (rfl : kdX 231 = 7) _) rfl kl_L_125 ⟨Nat.le_of_ble_eq_true rfl, Nat.le_of_ble_eq_true rfl⟩ hcs hl.1 rfl (Nat.le_of_ble_eq_true rfl) dL_law_1059 rfl) (fun v342 σ50 => ?_)
    refine q_icmp_eq C 2094 dL_law_1062 (by decide) ?_ ?_
    · exact B2094 K18 hK18 x328 σ50 ls (lv_sub hl [0, 1, 2, 3] rfl)
    · exact q_law0 rfl
  have B1067 : ∀ (K18 : Int → St → Option (Int)) (hK18 : ∀ (y0 : Int32) (σ : St) (ls : Array Slot), lv_has ls 4 [(0, .ref b), (1, .ref (gad G 0)), (2, .ref (gad G 231)), (3, .int y0)] → Sim G A nc ns p l e room_1 s m #[Value.ref b] below meth c (fun (r : Int) (t : State) => r = 1 → lw_Z below #[Value.ref b] s t) σ (K18 y0.toInt σ) (F0 m 18 ls [])), ∀  (x343 : Int32) (σ : St) (ls : Array Slot), lv_has ls 4 [(0, .ref b), (1, .ref (gad G 0)), (2, .ref (gad G 231)), (3, .int x343)] → Sim G A nc ns p l e room_1 s m #[Value.ref b] below meth c (fun (r : Int) (t : State) => r = 1 → lw_Z below #[Value.ref b] s t) σ (f_law_J1067 F L xs K18   x343.toInt σ) (F0 m 1067 ls []) := by
    intro K18 hK18
    intro x343 σ ls hl
    unfold f_law_J1067
    refine q_aload_n C dL_law_1067 rfl (lv_at hl 1 rfl) ?_
    refine q_aload_n C dL_law_1068 rfl (lv_at hl 0 rfl) ?_
    refine q_iload_n C dL_law_1069 rfl (lv_at hl 3 rfl) ?_
    refine q_iconst C dL_law_1070 rfl (by decide) (fun v344 => ?_)
    refine q_iadd C dL_law_1071 (fun v345 => ?_)
    refine q_xld C hX hbl hbA hxs dL_law_1072 (fun v346 => ?_)
    refine q_c2i C (fun r h => cr_V (As := [.int v346]) (rest := []) C (m_X6_replays l G F 0 v346 σ r h) cb_X6_replays (rfl : kdX 0 = 6) (by decide) rfl (cf_6 (rfl : kdX 0 = 6) _) rfl kl_L_126 ⟨Nat.le_of_ble_eq_true rfl, Nat.le_of_ble_eq_true rfl⟩ hcs hl.1 rfl (Nat.le_of_ble_eq_true rfl) dL_law_1073 rfl) (fun v347 σ51 => ?_)
    refine q_aload_n C dL_law_1076 rfl (lv_at hl 2 rfl) ?_
    refine q_aload_n C dL_law_1077 rfl (lv_at hl 0 rfl) ?_
    refine q_iload_n C dL_law_1078 rfl (lv_at hl 3 rfl) ?_
    refine q_iconst C dL_law_1079 rfl (by decide) (fun v348 => ?_)
    refine q_iadd C dL_law_1080 (fun v349 => ?_)
    refine q_xld C hX hbl hbA hxs dL_law_1081 (fun v350 => ?_)
    refine q_c2i C (fun r h => cr_V (As := [.int v350]) (rest := [.int v347]) C (m_X7_replays l G F 231 v350 σ51 r h) cb_X7_replays (rfl : kdX 231 = 7) (by decide) rfl (cf_7 (rfl : kdX 231 = 7) _) rfl kl_L_129 ⟨Nat.le_of_ble_eq_true rfl, Nat.le_of_ble_eq_true rfl⟩ hcs hl.1 rfl (Nat.le_of_ble_eq_true rfl) dL_law_1082 rfl) (fun v351 σ52 => ?_)
    refine q_icmp_eq C 2094 dL_law_1085 (by decide) ?_ ?_
    · exact B2094 K18 hK18 x343 σ52 ls (lv_sub hl [0, 1, 2, 3] rfl)
    · exact q_law0 rfl
  have B1090 : ∀ (K18 : Int → St → Option (Int)) (hK18 : ∀ (y0 : Int32) (σ : St) (ls : Array Slot), lv_has ls 4 [(0, .ref b), (1, .ref (gad G 0)), (2, .ref (gad G 231)), (3, .int y0)] → Sim G A nc ns p l e room_1 s m #[Value.ref b] below meth c (fun (r : Int) (t : State) => r = 1 → lw_Z below #[Value.ref b] s t) σ (K18 y0.toInt σ) (F0 m 18 ls [])), ∀  (x352 : Int32) (σ : St) (ls : Array Slot), lv_has ls 4 [(0, .ref b), (1, .ref (gad G 0)), (2, .ref (gad G 231)), (3, .int x352)] → Sim G A nc ns p l e room_1 s m #[Value.ref b] below meth c (fun (r : Int) (t : State) => r = 1 → lw_Z below #[Value.ref b] s t) σ (f_law_J1090 F L xs K18   x352.toInt σ) (F0 m 1090 ls []) := by
    intro K18 hK18
    intro x352 σ ls hl
    unfold f_law_J1090
    refine q_aload_n C dL_law_1090 rfl (lv_at hl 1 rfl) ?_
    refine q_aload_n C dL_law_1091 rfl (lv_at hl 0 rfl) ?_
    refine q_iload_n C dL_law_1092 rfl (lv_at hl 3 rfl) ?_
    refine q_iconst C dL_law_1093 rfl (by decide) (fun v353 => ?_)
    refine q_iadd C dL_law_1094 (fun v354 => ?_)
    refine q_xld C hX hbl hbA hxs dL_law_1095 (fun v355 => ?_)
    refine q_aload_n C dL_law_1096 rfl (lv_at hl 0 rfl) ?_
    refine q_iload_n C dL_law_1097 rfl (lv_at hl 3 rfl) ?_
    refine q_iconst C dL_law_1098 rfl (by decide) (fun v356 => ?_)
    refine q_iadd C dL_law_1099 (fun v357 => ?_)
    refine q_xld C hX hbl hbA hxs dL_law_1100 (fun v358 => ?_)
    refine q_c2i C (fun r h => cr_V (As := [.int v355, .int v358]) (rest := []) C (m_X6_raised l G F 0 v355 v358 σ r h) cb_X6_raised (rfl : kdX 0 = 6) (by decide) rfl (cf_6 (rfl : kdX 0 = 6) _) rfl kl_L_130 ⟨Nat.le_of_ble_eq_true rfl, Nat.le_of_ble_eq_true rfl⟩ hcs hl.1 rfl (Nat.le_of_ble_eq_true rfl) dL_law_1101 rfl) (fun v359 σ53 => ?_)
    refine q_aload_n C dL_law_1104 rfl (lv_at hl 2 rfl) ?_
    refine q_aload_n C dL_law_1105 rfl (lv_at hl 0 rfl) ?_
    refine q_iload_n C dL_law_1106 rfl (lv_at hl 3 rfl) ?_
    refine q_iconst C dL_law_1107 rfl (by decide) (fun v360 => ?_)
    refine q_iadd C dL_law_1108 (fun v361 => ?_)
    refine q_xld C hX hbl hbA hxs dL_law_1109 (fun v362 => ?_)
    refine q_aload_n C dL_law_1110 rfl (lv_at hl 0 rfl) ?_
    refine q_iload_n C dL_law_1111 rfl (lv_at hl 3 rfl) ?_
    refine q_iconst C dL_law_1112 rfl (by decide) (fun v363 => ?_)
    refine q_iadd C dL_law_1113 (fun v364 => ?_)
    refine q_xld C hX hbl hbA hxs dL_law_1114 (fun v365 => ?_)
    refine q_c2i C (fun r h => cr_V (As := [.int v362, .int v365]) (rest := [.int v359]) C (m_X7_raised l G F 231 v362 v365 σ53 r h) cb_X7_raised (rfl : kdX 231 = 7) (by decide) rfl (cf_7 (rfl : kdX 231 = 7) _) rfl kl_L_133 ⟨Nat.le_of_ble_eq_true rfl, Nat.le_of_ble_eq_true rfl⟩ hcs hl.1 rfl (Nat.le_of_ble_eq_true rfl) dL_law_1115 rfl) (fun v366 σ54 => ?_)
    refine q_icmp_eq C 2094 dL_law_1118 (by decide) ?_ ?_
    · exact B2094 K18 hK18 x352 σ54 ls (lv_sub hl [0, 1, 2, 3] rfl)
    · exact q_law0 rfl
  have B1123 : ∀ (K18 : Int → St → Option (Int)) (hK18 : ∀ (y0 : Int32) (σ : St) (ls : Array Slot), lv_has ls 4 [(0, .ref b), (1, .ref (gad G 0)), (2, .ref (gad G 231)), (3, .int y0)] → Sim G A nc ns p l e room_1 s m #[Value.ref b] below meth c (fun (r : Int) (t : State) => r = 1 → lw_Z below #[Value.ref b] s t) σ (K18 y0.toInt σ) (F0 m 18 ls [])), ∀  (x367 : Int32) (σ : St) (ls : Array Slot), lv_has ls 4 [(0, .ref b), (1, .ref (gad G 0)), (2, .ref (gad G 231)), (3, .int x367)] → Sim G A nc ns p l e room_1 s m #[Value.ref b] below meth c (fun (r : Int) (t : State) => r = 1 → lw_Z below #[Value.ref b] s t) σ (f_law_J1123 F L xs K18   x367.toInt σ) (F0 m 1123 ls []) := by
    intro K18 hK18
    intro x367 σ ls hl
    unfold f_law_J1123
    refine q_aload_n C dL_law_1123 rfl (lv_at hl 1 rfl) ?_
    refine q_aload_n C dL_law_1124 rfl (lv_at hl 0 rfl) ?_
    refine q_iload_n C dL_law_1125 rfl (lv_at hl 3 rfl) ?_
    refine q_iconst C dL_law_1126 rfl (by decide) (fun v368 => ?_)
    refine q_iadd C dL_law_1127 (fun v369 => ?_)
    refine q_xld C hX hbl hbA hxs dL_law_1128 (fun v370 => ?_)
    refine q_aload_n C dL_law_1129 rfl (lv_at hl 0 rfl) ?_
    refine q_iload_n C dL_law_1130 rfl (lv_at hl 3 rfl) ?_
    refine q_iconst C dL_law_1131 rfl (by decide) (fun v371 => ?_)
    refine q_iadd C dL_law_1132 (fun v372 => ?_)
    refine q_xld C hX hbl hbA hxs dL_law_1133 (fun v373 => ?_)
    refine q_c2i C (fun r h => cr_V (As := [.int v370, .int v373]) (rest := []) C (m_X6_restored l G F 0 v370 v373 σ r h) cb_X6_restored (rfl : kdX 0 = 6) (by decide) rfl (cf_6 (rfl : kdX 0 = 6) _) rfl kl_L_134 ⟨Nat.le_of_ble_eq_true rfl, Nat.le_of_ble_eq_true rfl⟩ hcs hl.1 rfl (Nat.le_of_ble_eq_true rfl) dL_law_1134 rfl) (fun v374 σ55 => ?_)
    refine q_aload_n C dL_law_1137 rfl (lv_at hl 2 rfl) ?_
    refine q_aload_n C dL_law_1138 rfl (lv_at hl 0 rfl) ?_
    refine q_iload_n C dL_law_1139 rfl (lv_at hl 3 rfl) ?_
    refine q_iconst C dL_law_1140 rfl (by decide) (fun v375 => ?_)
    refine q_iadd C dL_law_1141 (fun v376 => ?_)
    refine q_xld C hX hbl hbA hxs dL_law_1142 (fun v377 => ?_)
    refine q_aload_n C dL_law_1143 rfl (lv_at hl 0 rfl) ?_
    refine q_iload_n C dL_law_1144 rfl (lv_at hl 3 rfl) ?_
    refine q_iconst C dL_law_1145 rfl (by decide) (fun v378 => ?_)
    refine q_iadd C dL_law_1146 (fun v379 => ?_)
    refine q_xld C hX hbl hbA hxs dL_law_1147 (fun v380 => ?_)
    refine q_c2i C (fun r h => cr_V (As := [.int v377, .int v380]) (rest := [.int v374]) C (m_X7_restored l G F 231 v377 v380 σ55 r h) cb_X7_restored (rfl : kdX 231 = 7) (by decide) rfl (cf_7 (rfl : kdX 231 = 7) _) rfl kl_L_137 ⟨Nat.le_of_ble_eq_true rfl, Nat.le_of_ble_eq_true rfl⟩ hcs hl.1 rfl (Nat.le_of_ble_eq_true rfl) dL_law_1148 rfl) (fun v381 σ56 => ?_)
    refine q_icmp_eq C 2094 dL_law_1151 (by decide) ?_ ?_
    · exact B2094 K18 hK18 x367 σ56 ls (lv_sub hl [0, 1, 2, 3] rfl)
    · exact q_law0 rfl
  have B1156 : ∀ (K18 : Int → St → Option (Int)) (hK18 : ∀ (y0 : Int32) (σ : St) (ls : Array Slot), lv_has ls 4 [(0, .ref b), (1, .ref (gad G 0)), (2, .ref (gad G 231)), (3, .int y0)] → Sim G A nc ns p l e room_1 s m #[Value.ref b] below meth c (fun (r : Int) (t : State) => r = 1 → lw_Z below #[Value.ref b] s t) σ (K18 y0.toInt σ) (F0 m 18 ls [])), ∀  (x382 : Int32) (σ : St) (ls : Array Slot), lv_has ls 4 [(0, .ref b), (1, .ref (gad G 0)), (2, .ref (gad G 231)), (3, .int x382)] → Sim G A nc ns p l e room_1 s m #[Value.ref b] below meth c (fun (r : Int) (t : State) => r = 1 → lw_Z below #[Value.ref b] s t) σ (f_law_J1156 F L xs K18   x382.toInt σ) (F0 m 1156 ls []) := by
    intro K18 hK18
    intro x382 σ ls hl
    unfold f_law_J1156
    refine q_aload_n C dL_law_1156 rfl (lv_at hl 1 rfl) ?_
    refine q_aload_n C dL_law_1157 rfl (lv_at hl 0 rfl) ?_
    refine q_iload_n C dL_law_1158 rfl (lv_at hl 3 rfl) ?_
    refine q_iconst C dL_law_1159 rfl (by decide) (fun v383 => ?_)
    refine q_iadd C dL_law_1160 (fun v384 => ?_)
    refine q_xld C hX hbl hbA hxs dL_law_1161 (fun v385 => ?_)
    refine q_c2i C (fun r h => cr_V (As := [.int v385]) (rest := []) C (m_X6_doubled l G F 0 v385 σ r h) cb_X6_doubled (rfl : kdX 0 = 6) (by decide) rfl (cf_6 (rfl : kdX 0 = 6) _) rfl kl_L_138 ⟨Nat.le_of_ble_eq_true rfl, Nat.le_of_ble_eq_true rfl⟩ hcs hl.1 rfl (Nat.le_of_ble_eq_true rfl) dL_law_1162 rfl) (fun v386 σ57 => ?_)
    refine q_aload_n C dL_law_1165 rfl (lv_at hl 2 rfl) ?_
    refine q_aload_n C dL_law_1166 rfl (lv_at hl 0 rfl) ?_
    refine q_iload_n C dL_law_1167 rfl (lv_at hl 3 rfl) ?_
    refine q_iconst C dL_law_1168 rfl (by decide) (fun v387 => ?_)
    refine q_iadd C dL_law_1169 (fun v388 => ?_)
    refine q_xld C hX hbl hbA hxs dL_law_1170 (fun v389 => ?_)
    refine q_c2i C (fun r h => cr_V (As := [.int v389]) (rest := [.int v386]) C (m_X7_doubled l G F 231 v389 σ57 r h) cb_X7_doubled (rfl : kdX 231 = 7) (by decide) rfl (cf_7 (rfl : kdX 231 = 7) _) rfl kl_L_141 ⟨Nat.le_of_ble_eq_true rfl, Nat.le_of_ble_eq_true rfl⟩ hcs hl.1 rfl (Nat.le_of_ble_eq_true rfl) dL_law_1171 rfl) (fun v390 σ58 => ?_)
    refine q_icmp_eq C 2094 dL_law_1174 (by decide) ?_ ?_
    · exact B2094 K18 hK18 x382 σ58 ls (lv_sub hl [0, 1, 2, 3] rfl)
    · exact q_law0 rfl
  have B1179 : ∀ (K18 : Int → St → Option (Int)) (hK18 : ∀ (y0 : Int32) (σ : St) (ls : Array Slot), lv_has ls 4 [(0, .ref b), (1, .ref (gad G 0)), (2, .ref (gad G 231)), (3, .int y0)] → Sim G A nc ns p l e room_1 s m #[Value.ref b] below meth c (fun (r : Int) (t : State) => r = 1 → lw_Z below #[Value.ref b] s t) σ (K18 y0.toInt σ) (F0 m 18 ls [])), ∀  (x391 : Int32) (σ : St) (ls : Array Slot), lv_has ls 4 [(0, .ref b), (1, .ref (gad G 0)), (2, .ref (gad G 231)), (3, .int x391)] → Sim G A nc ns p l e room_1 s m #[Value.ref b] below meth c (fun (r : Int) (t : State) => r = 1 → lw_Z below #[Value.ref b] s t) σ (f_law_J1179 F L xs K18   x391.toInt σ) (F0 m 1179 ls []) := by
    intro K18 hK18
    intro x391 σ ls hl
    unfold f_law_J1179
    refine q_aload_n C dL_law_1179 rfl (lv_at hl 1 rfl) ?_
    refine q_aload_n C dL_law_1180 rfl (lv_at hl 0 rfl) ?_
    refine q_iload_n C dL_law_1181 rfl (lv_at hl 3 rfl) ?_
    refine q_iconst C dL_law_1182 rfl (by decide) (fun v392 => ?_)
    refine q_iadd C dL_law_1183 (fun v393 => ?_)
    refine q_xld C hX hbl hbA hxs dL_law_1184 (fun v394 => ?_)
    refine q_aload_n C dL_law_1185 rfl (lv_at hl 0 rfl) ?_
    refine q_iload_n C dL_law_1186 rfl (lv_at hl 3 rfl) ?_
    refine q_iconst C dL_law_1187 rfl (by decide) (fun v395 => ?_)
    refine q_iadd C dL_law_1188 (fun v396 => ?_)
    refine q_xld C hX hbl hbA hxs dL_law_1189 (fun v397 => ?_)
    refine q_c2i C (fun r h => cr_V (As := [.int v394, .int v397]) (rest := []) C (m_X6_source l G F 0 v394 v397 σ r h) cb_X6_source (rfl : kdX 0 = 6) (by decide) rfl (cf_6 (rfl : kdX 0 = 6) _) rfl kl_L_142 ⟨Nat.le_of_ble_eq_true rfl, Nat.le_of_ble_eq_true rfl⟩ hcs hl.1 rfl (Nat.le_of_ble_eq_true rfl) dL_law_1190 rfl) (fun v398 σ59 => ?_)
    refine q_aload_n C dL_law_1193 rfl (lv_at hl 2 rfl) ?_
    refine q_aload_n C dL_law_1194 rfl (lv_at hl 0 rfl) ?_
    refine q_iload_n C dL_law_1195 rfl (lv_at hl 3 rfl) ?_
    refine q_iconst C dL_law_1196 rfl (by decide) (fun v399 => ?_)
    refine q_iadd C dL_law_1197 (fun v400 => ?_)
    refine q_xld C hX hbl hbA hxs dL_law_1198 (fun v401 => ?_)
    refine q_aload_n C dL_law_1199 rfl (lv_at hl 0 rfl) ?_
    refine q_iload_n C dL_law_1200 rfl (lv_at hl 3 rfl) ?_
    refine q_iconst C dL_law_1201 rfl (by decide) (fun v402 => ?_)
    refine q_iadd C dL_law_1202 (fun v403 => ?_)
    refine q_xld C hX hbl hbA hxs dL_law_1203 (fun v404 => ?_)
    refine q_c2i C (fun r h => cr_V (As := [.int v401, .int v404]) (rest := [.int v398]) C (m_X7_source l G F 231 v401 v404 σ59 r h) cb_X7_source (rfl : kdX 231 = 7) (by decide) rfl (cf_7 (rfl : kdX 231 = 7) _) rfl kl_L_145 ⟨Nat.le_of_ble_eq_true rfl, Nat.le_of_ble_eq_true rfl⟩ hcs hl.1 rfl (Nat.le_of_ble_eq_true rfl) dL_law_1204 rfl) (fun v405 σ60 => ?_)
    refine q_icmp_eq C 2094 dL_law_1207 (by decide) ?_ ?_
    · exact B2094 K18 hK18 x391 σ60 ls (lv_sub hl [0, 1, 2, 3] rfl)
    · exact q_law0 rfl
  have B1212 : ∀ (K18 : Int → St → Option (Int)) (hK18 : ∀ (y0 : Int32) (σ : St) (ls : Array Slot), lv_has ls 4 [(0, .ref b), (1, .ref (gad G 0)), (2, .ref (gad G 231)), (3, .int y0)] → Sim G A nc ns p l e room_1 s m #[Value.ref b] below meth c (fun (r : Int) (t : State) => r = 1 → lw_Z below #[Value.ref b] s t) σ (K18 y0.toInt σ) (F0 m 18 ls [])), ∀  (x406 : Int32) (σ : St) (ls : Array Slot), lv_has ls 4 [(0, .ref b), (1, .ref (gad G 0)), (2, .ref (gad G 231)), (3, .int x406)] → Sim G A nc ns p l e room_1 s m #[Value.ref b] below meth c (fun (r : Int) (t : State) => r = 1 → lw_Z below #[Value.ref b] s t) σ (f_law_J1212 F L xs K18   x406.toInt σ) (F0 m 1212 ls []) := by
    intro K18 hK18
    intro x406 σ ls hl
    unfold f_law_J1212
    refine q_aload_n C dL_law_1212 rfl (lv_at hl 1 rfl) ?_
    refine q_aload_n C dL_law_1213 rfl (lv_at hl 0 rfl) ?_
    refine q_iload_n C dL_law_1214 rfl (lv_at hl 3 rfl) ?_
    refine q_iconst C dL_law_1215 rfl (by decide) (fun v407 => ?_)
    refine q_iadd C dL_law_1216 (fun v408 => ?_)
    refine q_xld C hX hbl hbA hxs dL_law_1217 (fun v409 => ?_)
    refine q_c2i C (fun r h => cr_V (As := [.int v409]) (rest := []) C (m_X6_age l G F 0 v409 σ r h) cb_X6_age (rfl : kdX 0 = 6) (by decide) rfl (cf_6 (rfl : kdX 0 = 6) _) rfl kl_L_146 ⟨Nat.le_of_ble_eq_true rfl, Nat.le_of_ble_eq_true rfl⟩ hcs hl.1 rfl (Nat.le_of_ble_eq_true rfl) dL_law_1218 rfl) (fun v410 σ61 => ?_)
    refine q_aload_n C dL_law_1221 rfl (lv_at hl 2 rfl) ?_
    refine q_aload_n C dL_law_1222 rfl (lv_at hl 0 rfl) ?_
    refine q_iload_n C dL_law_1223 rfl (lv_at hl 3 rfl) ?_
    refine q_iconst C dL_law_1224 rfl (by decide) (fun v411 => ?_)
    refine q_iadd C dL_law_1225 (fun v412 => ?_)
    refine q_xld C hX hbl hbA hxs dL_law_1226 (fun v413 => ?_)
    refine q_c2i C (fun r h => cr_V (As := [.int v413]) (rest := [.int v410]) C (m_X7_age l G F 231 v413 σ61 r h) cb_X7_age (rfl : kdX 231 = 7) (by decide) rfl (cf_7 (rfl : kdX 231 = 7) _) rfl kl_L_149 ⟨Nat.le_of_ble_eq_true rfl, Nat.le_of_ble_eq_true rfl⟩ hcs hl.1 rfl (Nat.le_of_ble_eq_true rfl) dL_law_1227 rfl) (fun v414 σ62 => ?_)
    refine q_icmp_eq C 2094 dL_law_1230 (by decide) ?_ ?_
    · exact B2094 K18 hK18 x406 σ62 ls (lv_sub hl [0, 1, 2, 3] rfl)
    · exact q_law0 rfl
  have B1235 : ∀ (K18 : Int → St → Option (Int)) (hK18 : ∀ (y0 : Int32) (σ : St) (ls : Array Slot), lv_has ls 4 [(0, .ref b), (1, .ref (gad G 0)), (2, .ref (gad G 231)), (3, .int y0)] → Sim G A nc ns p l e room_1 s m #[Value.ref b] below meth c (fun (r : Int) (t : State) => r = 1 → lw_Z below #[Value.ref b] s t) σ (K18 y0.toInt σ) (F0 m 18 ls [])), ∀  (x415 : Int32) (σ : St) (ls : Array Slot), lv_has ls 4 [(0, .ref b), (1, .ref (gad G 0)), (2, .ref (gad G 231)), (3, .int x415)] → Sim G A nc ns p l e room_1 s m #[Value.ref b] below meth c (fun (r : Int) (t : State) => r = 1 → lw_Z below #[Value.ref b] s t) σ (f_law_J1235 F L xs K18   x415.toInt σ) (F0 m 1235 ls []) := by
    intro K18 hK18
    intro x415 σ ls hl
    unfold f_law_J1235
    refine q_aload_n C dL_law_1235 rfl (lv_at hl 1 rfl) ?_
    refine q_c2i C (fun r h => cr_V (As := []) (rest := []) C (m_X6_worst l G F 0 σ r h) cb_X6_worst (rfl : kdX 0 = 6) (by decide) rfl (cf_6 (rfl : kdX 0 = 6) _) rfl kl_L_150 ⟨Nat.le_of_ble_eq_true rfl, Nat.le_of_ble_eq_true rfl⟩ hcs hl.1 rfl (Nat.le_of_ble_eq_true rfl) dL_law_1236 rfl) (fun v416 σ63 => ?_)
    refine q_aload_n C dL_law_1239 rfl (lv_at hl 2 rfl) ?_
    refine q_c2i C (fun r h => cr_V (As := []) (rest := [.int v416]) C (m_X7_worst l G F 231 σ63 r h) cb_X7_worst (rfl : kdX 231 = 7) (by decide) rfl (cf_7 (rfl : kdX 231 = 7) _) rfl kl_L_153 ⟨Nat.le_of_ble_eq_true rfl, Nat.le_of_ble_eq_true rfl⟩ hcs hl.1 rfl (Nat.le_of_ble_eq_true rfl) dL_law_1240 rfl) (fun v417 σ64 => ?_)
    refine q_icmp_eq C 2094 dL_law_1243 (by decide) ?_ ?_
    · exact B2094 K18 hK18 x415 σ64 ls (lv_sub hl [0, 1, 2, 3] rfl)
    · exact q_law0 rfl
  have B1248 : ∀ (K18 : Int → St → Option (Int)) (hK18 : ∀ (y0 : Int32) (σ : St) (ls : Array Slot), lv_has ls 4 [(0, .ref b), (1, .ref (gad G 0)), (2, .ref (gad G 231)), (3, .int y0)] → Sim G A nc ns p l e room_1 s m #[Value.ref b] below meth c (fun (r : Int) (t : State) => r = 1 → lw_Z below #[Value.ref b] s t) σ (K18 y0.toInt σ) (F0 m 18 ls [])), ∀  (x418 : Int32) (σ : St) (ls : Array Slot), lv_has ls 4 [(0, .ref b), (1, .ref (gad G 0)), (2, .ref (gad G 231)), (3, .int x418)] → Sim G A nc ns p l e room_1 s m #[Value.ref b] below meth c (fun (r : Int) (t : State) => r = 1 → lw_Z below #[Value.ref b] s t) σ (f_law_J1248 F L xs K18   x418.toInt σ) (F0 m 1248 ls []) := by
    intro K18 hK18
    intro x418 σ ls hl
    unfold f_law_J1248
    refine q_aload_n C dL_law_1248 rfl (lv_at hl 1 rfl) ?_
    refine q_aload_n C dL_law_1249 rfl (lv_at hl 0 rfl) ?_
    refine q_iload_n C dL_law_1250 rfl (lv_at hl 3 rfl) ?_
    refine q_iconst C dL_law_1251 rfl (by decide) (fun v419 => ?_)
    refine q_iadd C dL_law_1252 (fun v420 => ?_)
    refine q_xld C hX hbl hbA hxs dL_law_1253 (fun v421 => ?_)
    refine q_aload_n C dL_law_1254 rfl (lv_at hl 0 rfl) ?_
    refine q_iload_n C dL_law_1255 rfl (lv_at hl 3 rfl) ?_
    refine q_iconst C dL_law_1256 rfl (by decide) (fun v422 => ?_)
    refine q_iadd C dL_law_1257 (fun v423 => ?_)
    refine q_xld C hX hbl hbA hxs dL_law_1258 (fun v424 => ?_)
    refine q_c2i C (fun r h => cr_V (As := [.int v421, .int v424]) (rest := []) C (m_X6_differ l G F 0 v421 v424 σ r h) cb_X6_differ (rfl : kdX 0 = 6) (by decide) rfl (cf_6 (rfl : kdX 0 = 6) _) rfl kl_L_154 ⟨Nat.le_of_ble_eq_true rfl, Nat.le_of_ble_eq_true rfl⟩ hcs hl.1 rfl (Nat.le_of_ble_eq_true rfl) dL_law_1259 rfl) (fun v425 σ65 => ?_)
    refine q_aload_n C dL_law_1262 rfl (lv_at hl 2 rfl) ?_
    refine q_aload_n C dL_law_1263 rfl (lv_at hl 0 rfl) ?_
    refine q_iload_n C dL_law_1264 rfl (lv_at hl 3 rfl) ?_
    refine q_iconst C dL_law_1265 rfl (by decide) (fun v426 => ?_)
    refine q_iadd C dL_law_1266 (fun v427 => ?_)
    refine q_xld C hX hbl hbA hxs dL_law_1267 (fun v428 => ?_)
    refine q_aload_n C dL_law_1268 rfl (lv_at hl 0 rfl) ?_
    refine q_iload_n C dL_law_1269 rfl (lv_at hl 3 rfl) ?_
    refine q_iconst C dL_law_1270 rfl (by decide) (fun v429 => ?_)
    refine q_iadd C dL_law_1271 (fun v430 => ?_)
    refine q_xld C hX hbl hbA hxs dL_law_1272 (fun v431 => ?_)
    refine q_c2i C (fun r h => cr_V (As := [.int v428, .int v431]) (rest := [.int v425]) C (m_X7_differ l G F 231 v428 v431 σ65 r h) cb_X7_differ (rfl : kdX 231 = 7) (by decide) rfl (cf_7 (rfl : kdX 231 = 7) _) rfl kl_L_157 ⟨Nat.le_of_ble_eq_true rfl, Nat.le_of_ble_eq_true rfl⟩ hcs hl.1 rfl (Nat.le_of_ble_eq_true rfl) dL_law_1273 rfl) (fun v432 σ66 => ?_)
    refine q_icmp_eq C 2094 dL_law_1276 (by decide) ?_ ?_
    · exact B2094 K18 hK18 x418 σ66 ls (lv_sub hl [0, 1, 2, 3] rfl)
    · exact q_law0 rfl
  have B1281 : ∀ (K18 : Int → St → Option (Int)) (hK18 : ∀ (y0 : Int32) (σ : St) (ls : Array Slot), lv_has ls 4 [(0, .ref b), (1, .ref (gad G 0)), (2, .ref (gad G 231)), (3, .int y0)] → Sim G A nc ns p l e room_1 s m #[Value.ref b] below meth c (fun (r : Int) (t : State) => r = 1 → lw_Z below #[Value.ref b] s t) σ (K18 y0.toInt σ) (F0 m 18 ls [])), ∀  (x433 : Int32) (σ : St) (ls : Array Slot), lv_has ls 4 [(0, .ref b), (1, .ref (gad G 0)), (2, .ref (gad G 231)), (3, .int x433)] → Sim G A nc ns p l e room_1 s m #[Value.ref b] below meth c (fun (r : Int) (t : State) => r = 1 → lw_Z below #[Value.ref b] s t) σ (f_law_J1281 F L xs K18   x433.toInt σ) (F0 m 1281 ls []) := by
    intro K18 hK18
    intro x433 σ ls hl
    unfold f_law_J1281
    refine q_aload_n C dL_law_1281 rfl (lv_at hl 1 rfl) ?_
    refine q_aload_n C dL_law_1282 rfl (lv_at hl 0 rfl) ?_
    refine q_iload_n C dL_law_1283 rfl (lv_at hl 3 rfl) ?_
    refine q_iconst C dL_law_1284 rfl (by decide) (fun v434 => ?_)
    refine q_iadd C dL_law_1285 (fun v435 => ?_)
    refine q_xld C hX hbl hbA hxs dL_law_1286 (fun v436 => ?_)
    refine q_c2i C (fun r h => cr_V (As := [.int v436]) (rest := []) C (m_X6_same l G F 0 v436 σ r h) cb_X6_same (rfl : kdX 0 = 6) (by decide) rfl (cf_6 (rfl : kdX 0 = 6) _) rfl kl_L_158 ⟨Nat.le_of_ble_eq_true rfl, Nat.le_of_ble_eq_true rfl⟩ hcs hl.1 rfl (Nat.le_of_ble_eq_true rfl) dL_law_1287 rfl) (fun v437 σ67 => ?_)
    refine q_aload_n C dL_law_1290 rfl (lv_at hl 2 rfl) ?_
    refine q_aload_n C dL_law_1291 rfl (lv_at hl 0 rfl) ?_
    refine q_iload_n C dL_law_1292 rfl (lv_at hl 3 rfl) ?_
    refine q_iconst C dL_law_1293 rfl (by decide) (fun v438 => ?_)
    refine q_iadd C dL_law_1294 (fun v439 => ?_)
    refine q_xld C hX hbl hbA hxs dL_law_1295 (fun v440 => ?_)
    refine q_c2i C (fun r h => cr_V (As := [.int v440]) (rest := [.int v437]) C (m_X7_same l G F 231 v440 σ67 r h) cb_X7_same (rfl : kdX 231 = 7) (by decide) rfl (cf_7 (rfl : kdX 231 = 7) _) rfl kl_L_161 ⟨Nat.le_of_ble_eq_true rfl, Nat.le_of_ble_eq_true rfl⟩ hcs hl.1 rfl (Nat.le_of_ble_eq_true rfl) dL_law_1296 rfl) (fun v441 σ68 => ?_)
    refine q_icmp_eq C 2094 dL_law_1299 (by decide) ?_ ?_
    · exact B2094 K18 hK18 x433 σ68 ls (lv_sub hl [0, 1, 2, 3] rfl)
    · exact q_law0 rfl
  have B1304 : ∀ (K18 : Int → St → Option (Int)) (hK18 : ∀ (y0 : Int32) (σ : St) (ls : Array Slot), lv_has ls 4 [(0, .ref b), (1, .ref (gad G 0)), (2, .ref (gad G 231)), (3, .int y0)] → Sim G A nc ns p l e room_1 s m #[Value.ref b] below meth c (fun (r : Int) (t : State) => r = 1 → lw_Z below #[Value.ref b] s t) σ (K18 y0.toInt σ) (F0 m 18 ls [])), ∀  (x442 : Int32) (σ : St) (ls : Array Slot), lv_has ls 4 [(0, .ref b), (1, .ref (gad G 0)), (2, .ref (gad G 231)), (3, .int x442)] → Sim G A nc ns p l e room_1 s m #[Value.ref b] below meth c (fun (r : Int) (t : State) => r = 1 → lw_Z below #[Value.ref b] s t) σ (f_law_J1304 F L xs K18   x442.toInt σ) (F0 m 1304 ls []) := by
    intro K18 hK18
    intro x442 σ ls hl
    unfold f_law_J1304
    refine q_aload_n C dL_law_1304 rfl (lv_at hl 1 rfl) ?_
    refine q_aload_n C dL_law_1305 rfl (lv_at hl 0 rfl) ?_
    refine q_iload_n C dL_law_1306 rfl (lv_at hl 3 rfl) ?_
    refine q_iconst C dL_law_1307 rfl (by decide) (fun v443 => ?_)
    refine q_iadd C dL_law_1308 (fun v444 => ?_)
    refine q_xld C hX hbl hbA hxs dL_law_1309 (fun v445 => ?_)
    refine q_c2i C (fun r h => cr_V (As := [.int v445]) (rest := []) C (m_X6_pace l G F 0 v445 σ r h) cb_X6_pace (rfl : kdX 0 = 6) (by decide) rfl (cf_6 (rfl : kdX 0 = 6) _) rfl kl_L_162 ⟨Nat.le_of_ble_eq_true rfl, Nat.le_of_ble_eq_true rfl⟩ hcs hl.1 rfl (Nat.le_of_ble_eq_true rfl) dL_law_1310 rfl) (fun v446 σ69 => ?_)
    refine q_aload_n C dL_law_1313 rfl (lv_at hl 2 rfl) ?_
    refine q_aload_n C dL_law_1314 rfl (lv_at hl 0 rfl) ?_
    refine q_iload_n C dL_law_1315 rfl (lv_at hl 3 rfl) ?_
    refine q_iconst C dL_law_1316 rfl (by decide) (fun v447 => ?_)
    refine q_iadd C dL_law_1317 (fun v448 => ?_)
    refine q_xld C hX hbl hbA hxs dL_law_1318 (fun v449 => ?_)
    refine q_c2i C (fun r h => cr_V (As := [.int v449]) (rest := [.int v446]) C (m_X7_pace l G F 231 v449 σ69 r h) cb_X7_pace (rfl : kdX 231 = 7) (by decide) rfl (cf_7 (rfl : kdX 231 = 7) _) rfl kl_L_165 ⟨Nat.le_of_ble_eq_true rfl, Nat.le_of_ble_eq_true rfl⟩ hcs hl.1 rfl (Nat.le_of_ble_eq_true rfl) dL_law_1319 rfl) (fun v450 σ70 => ?_)
    refine q_icmp_eq C 2094 dL_law_1322 (by decide) ?_ ?_
    · exact B2094 K18 hK18 x442 σ70 ls (lv_sub hl [0, 1, 2, 3] rfl)
    · exact q_law0 rfl
  have B1327 : ∀ (K18 : Int → St → Option (Int)) (hK18 : ∀ (y0 : Int32) (σ : St) (ls : Array Slot), lv_has ls 4 [(0, .ref b), (1, .ref (gad G 0)), (2, .ref (gad G 231)), (3, .int y0)] → Sim G A nc ns p l e room_1 s m #[Value.ref b] below meth c (fun (r : Int) (t : State) => r = 1 → lw_Z below #[Value.ref b] s t) σ (K18 y0.toInt σ) (F0 m 18 ls [])), ∀  (x451 : Int32) (σ : St) (ls : Array Slot), lv_has ls 4 [(0, .ref b), (1, .ref (gad G 0)), (2, .ref (gad G 231)), (3, .int x451)] → Sim G A nc ns p l e room_1 s m #[Value.ref b] below meth c (fun (r : Int) (t : State) => r = 1 → lw_Z below #[Value.ref b] s t) σ (f_law_J1327 F L xs K18   x451.toInt σ) (F0 m 1327 ls []) := by
    intro K18 hK18
    intro x451 σ ls hl
    unfold f_law_J1327
    refine q_aload_n C dL_law_1327 rfl (lv_at hl 1 rfl) ?_
    refine q_c2i C (fun r h => cr_V (As := []) (rest := []) C (m_X6_best l G F 0 σ r h) cb_X6_best (rfl : kdX 0 = 6) (by decide) rfl (cf_6 (rfl : kdX 0 = 6) _) rfl kl_L_166 ⟨Nat.le_of_ble_eq_true rfl, Nat.le_of_ble_eq_true rfl⟩ hcs hl.1 rfl (Nat.le_of_ble_eq_true rfl) dL_law_1328 rfl) (fun v452 σ71 => ?_)
    refine q_aload_n C dL_law_1331 rfl (lv_at hl 2 rfl) ?_
    refine q_c2i C (fun r h => cr_V (As := []) (rest := [.int v452]) C (m_X7_best l G F 231 σ71 r h) cb_X7_best (rfl : kdX 231 = 7) (by decide) rfl (cf_7 (rfl : kdX 231 = 7) _) rfl kl_L_169 ⟨Nat.le_of_ble_eq_true rfl, Nat.le_of_ble_eq_true rfl⟩ hcs hl.1 rfl (Nat.le_of_ble_eq_true rfl) dL_law_1332 rfl) (fun v453 σ72 => ?_)
    refine q_icmp_eq C 2094 dL_law_1335 (by decide) ?_ ?_
    · exact B2094 K18 hK18 x451 σ72 ls (lv_sub hl [0, 1, 2, 3] rfl)
    · exact q_law0 rfl
  have B1340 : ∀ (K18 : Int → St → Option (Int)) (hK18 : ∀ (y0 : Int32) (σ : St) (ls : Array Slot), lv_has ls 4 [(0, .ref b), (1, .ref (gad G 0)), (2, .ref (gad G 231)), (3, .int y0)] → Sim G A nc ns p l e room_1 s m #[Value.ref b] below meth c (fun (r : Int) (t : State) => r = 1 → lw_Z below #[Value.ref b] s t) σ (K18 y0.toInt σ) (F0 m 18 ls [])), ∀  (x454 : Int32) (σ : St) (ls : Array Slot), lv_has ls 4 [(0, .ref b), (1, .ref (gad G 0)), (2, .ref (gad G 231)), (3, .int x454)] → Sim G A nc ns p l e room_1 s m #[Value.ref b] below meth c (fun (r : Int) (t : State) => r = 1 → lw_Z below #[Value.ref b] s t) σ (f_law_J1340 F L xs K18   x454.toInt σ) (F0 m 1340 ls []) := by
    intro K18 hK18
    intro x454 σ ls hl
    unfold f_law_J1340
    refine q_aload_n C dL_law_1340 rfl (lv_at hl 1 rfl) ?_
    refine q_c2i C (fun r h => cr_V (As := []) (rest := []) C (m_X6_blame l G F 0 σ r h) cb_X6_blame (rfl : kdX 0 = 6) (by decide) rfl (cf_6 (rfl : kdX 0 = 6) _) rfl kl_L_170 ⟨Nat.le_of_ble_eq_true rfl, Nat.le_of_ble_eq_true rfl⟩ hcs hl.1 rfl (Nat.le_of_ble_eq_true rfl) dL_law_1341 rfl) (fun v455 σ73 => ?_)
    refine q_aload_n C dL_law_1344 rfl (lv_at hl 2 rfl) ?_
    refine q_c2i C (fun r h => cr_V (As := []) (rest := [.int v455]) C (m_X7_blame l G F 231 σ73 r h) cb_X7_blame (rfl : kdX 231 = 7) (by decide) rfl (cf_7 (rfl : kdX 231 = 7) _) rfl kl_L_173 ⟨Nat.le_of_ble_eq_true rfl, Nat.le_of_ble_eq_true rfl⟩ hcs hl.1 rfl (Nat.le_of_ble_eq_true rfl) dL_law_1345 rfl) (fun v456 σ74 => ?_)
    refine q_icmp_eq C 2094 dL_law_1348 (by decide) ?_ ?_
    · exact B2094 K18 hK18 x454 σ74 ls (lv_sub hl [0, 1, 2, 3] rfl)
    · exact q_law0 rfl
  have B1353 : ∀ (K18 : Int → St → Option (Int)) (hK18 : ∀ (y0 : Int32) (σ : St) (ls : Array Slot), lv_has ls 4 [(0, .ref b), (1, .ref (gad G 0)), (2, .ref (gad G 231)), (3, .int y0)] → Sim G A nc ns p l e room_1 s m #[Value.ref b] below meth c (fun (r : Int) (t : State) => r = 1 → lw_Z below #[Value.ref b] s t) σ (K18 y0.toInt σ) (F0 m 18 ls [])), ∀  (x457 : Int32) (σ : St) (ls : Array Slot), lv_has ls 4 [(0, .ref b), (1, .ref (gad G 0)), (2, .ref (gad G 231)), (3, .int x457)] → Sim G A nc ns p l e room_1 s m #[Value.ref b] below meth c (fun (r : Int) (t : State) => r = 1 → lw_Z below #[Value.ref b] s t) σ (f_law_J1353 F L xs K18   x457.toInt σ) (F0 m 1353 ls []) := by
    intro K18 hK18
    intro x457 σ ls hl
    unfold f_law_J1353
    refine q_aload_n C dL_law_1353 rfl (lv_at hl 1 rfl) ?_
    refine q_c2i C (fun r h => cr_V (As := []) (rest := []) C (m_X6_idle l G F 0 σ r h) cb_X6_idle (rfl : kdX 0 = 6) (by decide) rfl (cf_6 (rfl : kdX 0 = 6) _) rfl kl_L_174 ⟨Nat.le_of_ble_eq_true rfl, Nat.le_of_ble_eq_true rfl⟩ hcs hl.1 rfl (Nat.le_of_ble_eq_true rfl) dL_law_1354 rfl) (fun v458 σ75 => ?_)
    refine q_aload_n C dL_law_1357 rfl (lv_at hl 2 rfl) ?_
    refine q_c2i C (fun r h => cr_V (As := []) (rest := [.int v458]) C (m_X7_idle l G F 231 σ75 r h) cb_X7_idle (rfl : kdX 231 = 7) (by decide) rfl (cf_7 (rfl : kdX 231 = 7) _) rfl kl_L_177 ⟨Nat.le_of_ble_eq_true rfl, Nat.le_of_ble_eq_true rfl⟩ hcs hl.1 rfl (Nat.le_of_ble_eq_true rfl) dL_law_1358 rfl) (fun v459 σ76 => ?_)
    refine q_icmp_eq C 2094 dL_law_1361 (by decide) ?_ ?_
    · exact B2094 K18 hK18 x457 σ76 ls (lv_sub hl [0, 1, 2, 3] rfl)
    · exact q_law0 rfl
  have B1366 : ∀ (K18 : Int → St → Option (Int)) (hK18 : ∀ (y0 : Int32) (σ : St) (ls : Array Slot), lv_has ls 4 [(0, .ref b), (1, .ref (gad G 0)), (2, .ref (gad G 231)), (3, .int y0)] → Sim G A nc ns p l e room_1 s m #[Value.ref b] below meth c (fun (r : Int) (t : State) => r = 1 → lw_Z below #[Value.ref b] s t) σ (K18 y0.toInt σ) (F0 m 18 ls [])), ∀  (x460 : Int32) (σ : St) (ls : Array Slot), lv_has ls 4 [(0, .ref b), (1, .ref (gad G 0)), (2, .ref (gad G 231)), (3, .int x460)] → Sim G A nc ns p l e room_1 s m #[Value.ref b] below meth c (fun (r : Int) (t : State) => r = 1 → lw_Z below #[Value.ref b] s t) σ (f_law_J1366 F L xs K18   x460.toInt σ) (F0 m 1366 ls []) := by
    intro K18 hK18
    intro x460 σ ls hl
    unfold f_law_J1366
    refine q_aload_n C dL_law_1366 rfl (lv_at hl 1 rfl) ?_
    refine q_aload_n C dL_law_1367 rfl (lv_at hl 0 rfl) ?_
    refine q_iload_n C dL_law_1368 rfl (lv_at hl 3 rfl) ?_
    refine q_iconst C dL_law_1369 rfl (by decide) (fun v461 => ?_)
    refine q_iadd C dL_law_1370 (fun v462 => ?_)
    refine q_xld C hX hbl hbA hxs dL_law_1371 (fun v463 => ?_)
    refine q_c2i C (fun r h => cr_V (As := [.int v463]) (rest := []) C (m_X6_may l G F 0 v463 σ r h) cb_X6_may (rfl : kdX 0 = 6) (by decide) rfl (cf_6 (rfl : kdX 0 = 6) _) rfl kl_L_178 ⟨Nat.le_of_ble_eq_true rfl, Nat.le_of_ble_eq_true rfl⟩ hcs hl.1 rfl (Nat.le_of_ble_eq_true rfl) dL_law_1372 rfl) (fun v464 σ77 => ?_)
    refine q_aload_n C dL_law_1375 rfl (lv_at hl 2 rfl) ?_
    refine q_aload_n C dL_law_1376 rfl (lv_at hl 0 rfl) ?_
    refine q_iload_n C dL_law_1377 rfl (lv_at hl 3 rfl) ?_
    refine q_iconst C dL_law_1378 rfl (by decide) (fun v465 => ?_)
    refine q_iadd C dL_law_1379 (fun v466 => ?_)
    refine q_xld C hX hbl hbA hxs dL_law_1380 (fun v467 => ?_)
    refine q_c2i C (fun r h => cr_V (As := [.int v467]) (rest := [.int v464]) C (m_X7_may l G F 231 v467 σ77 r h) cb_X7_may (rfl : kdX 231 = 7) (by decide) rfl (cf_7 (rfl : kdX 231 = 7) _) rfl kl_L_181 ⟨Nat.le_of_ble_eq_true rfl, Nat.le_of_ble_eq_true rfl⟩ hcs hl.1 rfl (Nat.le_of_ble_eq_true rfl) dL_law_1381 rfl) (fun v468 σ78 => ?_)
    refine q_icmp_eq C 2094 dL_law_1384 (by decide) ?_ ?_
    · exact B2094 K18 hK18 x460 σ78 ls (lv_sub hl [0, 1, 2, 3] rfl)
    · exact q_law0 rfl
  have B1389 : ∀ (K18 : Int → St → Option (Int)) (hK18 : ∀ (y0 : Int32) (σ : St) (ls : Array Slot), lv_has ls 4 [(0, .ref b), (1, .ref (gad G 0)), (2, .ref (gad G 231)), (3, .int y0)] → Sim G A nc ns p l e room_1 s m #[Value.ref b] below meth c (fun (r : Int) (t : State) => r = 1 → lw_Z below #[Value.ref b] s t) σ (K18 y0.toInt σ) (F0 m 18 ls [])), ∀  (x469 : Int32) (σ : St) (ls : Array Slot), lv_has ls 4 [(0, .ref b), (1, .ref (gad G 0)), (2, .ref (gad G 231)), (3, .int x469)] → Sim G A nc ns p l e room_1 s m #[Value.ref b] below meth c (fun (r : Int) (t : State) => r = 1 → lw_Z below #[Value.ref b] s t) σ (f_law_J1389 F L xs K18   x469.toInt σ) (F0 m 1389 ls []) := by
    intro K18 hK18
    intro x469 σ ls hl
    unfold f_law_J1389
    refine q_aload_n C dL_law_1389 rfl (lv_at hl 1 rfl) ?_
    refine q_aload_n C dL_law_1390 rfl (lv_at hl 0 rfl) ?_
    refine q_iload_n C dL_law_1391 rfl (lv_at hl 3 rfl) ?_
    refine q_iconst C dL_law_1392 rfl (by decide) (fun v470 => ?_)
    refine q_iadd C dL_law_1393 (fun v471 => ?_)
    refine q_xld C hX hbl hbA hxs dL_law_1394 (fun v472 => ?_)
    refine q_c2i C (fun r h => cr_V (As := [.int v472]) (rest := []) C (m_X6_which l G F 0 v472 σ r h) cb_X6_which (rfl : kdX 0 = 6) (by decide) rfl (cf_6 (rfl : kdX 0 = 6) _) rfl kl_L_182 ⟨Nat.le_of_ble_eq_true rfl, Nat.le_of_ble_eq_true rfl⟩ hcs hl.1 rfl (Nat.le_of_ble_eq_true rfl) dL_law_1395 rfl) (fun v473 σ79 => ?_)
    refine q_aload_n C dL_law_1398 rfl (lv_at hl 2 rfl) ?_
    refine q_aload_n C dL_law_1399 rfl (lv_at hl 0 rfl) ?_
    refine q_iload_n C dL_law_1400 rfl (lv_at hl 3 rfl) ?_
    refine q_iconst C dL_law_1401 rfl (by decide) (fun v474 => ?_)
    refine q_iadd C dL_law_1402 (fun v475 => ?_)
    refine q_xld C hX hbl hbA hxs dL_law_1403 (fun v476 => ?_)
    refine q_c2i C (fun r h => cr_V (As := [.int v476]) (rest := [.int v473]) C (m_X7_which l G F 231 v476 σ79 r h) cb_X7_which (rfl : kdX 231 = 7) (by decide) rfl (cf_7 (rfl : kdX 231 = 7) _) rfl kl_L_185 ⟨Nat.le_of_ble_eq_true rfl, Nat.le_of_ble_eq_true rfl⟩ hcs hl.1 rfl (Nat.le_of_ble_eq_true rfl) dL_law_1404 rfl) (fun v477 σ80 => ?_)
    refine q_icmp_eq C 2094 dL_law_1407 (by decide) ?_ ?_
    · exact B2094 K18 hK18 x469 σ80 ls (lv_sub hl [0, 1, 2, 3] rfl)
    · exact q_law0 rfl
  have B1412 : ∀ (K18 : Int → St → Option (Int)) (hK18 : ∀ (y0 : Int32) (σ : St) (ls : Array Slot), lv_has ls 4 [(0, .ref b), (1, .ref (gad G 0)), (2, .ref (gad G 231)), (3, .int y0)] → Sim G A nc ns p l e room_1 s m #[Value.ref b] below meth c (fun (r : Int) (t : State) => r = 1 → lw_Z below #[Value.ref b] s t) σ (K18 y0.toInt σ) (F0 m 18 ls [])), ∀  (x478 : Int32) (σ : St) (ls : Array Slot), lv_has ls 4 [(0, .ref b), (1, .ref (gad G 0)), (2, .ref (gad G 231)), (3, .int x478)] → Sim G A nc ns p l e room_1 s m #[Value.ref b] below meth c (fun (r : Int) (t : State) => r = 1 → lw_Z below #[Value.ref b] s t) σ (f_law_J1412 F L xs K18   x478.toInt σ) (F0 m 1412 ls []) := by
    intro K18 hK18
    intro x478 σ ls hl
    unfold f_law_J1412
    refine q_aload_n C dL_law_1412 rfl (lv_at hl 1 rfl) ?_
    refine q_aload_n C dL_law_1413 rfl (lv_at hl 0 rfl) ?_
    refine q_iload_n C dL_law_1414 rfl (lv_at hl 3 rfl) ?_
    refine q_iconst C dL_law_1415 rfl (by decide) (fun v479 => ?_)
    refine q_iadd C dL_law_1416 (fun v480 => ?_)
    refine q_xld C hX hbl hbA hxs dL_law_1417 (fun v481 => ?_)
    refine q_c2i C (fun r h => cr_V (As := [.int v481]) (rest := []) C (m_X6_plain l G F 0 v481 σ r h) cb_X6_plain (rfl : kdX 0 = 6) (by decide) rfl (cf_6 (rfl : kdX 0 = 6) _) rfl kl_L_186 ⟨Nat.le_of_ble_eq_true rfl, Nat.le_of_ble_eq_true rfl⟩ hcs hl.1 rfl (Nat.le_of_ble_eq_true rfl) dL_law_1418 rfl) (fun v482 σ81 => ?_)
    refine q_aload_n C dL_law_1421 rfl (lv_at hl 2 rfl) ?_
    refine q_aload_n C dL_law_1422 rfl (lv_at hl 0 rfl) ?_
    refine q_iload_n C dL_law_1423 rfl (lv_at hl 3 rfl) ?_
    refine q_iconst C dL_law_1424 rfl (by decide) (fun v483 => ?_)
    refine q_iadd C dL_law_1425 (fun v484 => ?_)
    refine q_xld C hX hbl hbA hxs dL_law_1426 (fun v485 => ?_)
    refine q_c2i C (fun r h => cr_V (As := [.int v485]) (rest := [.int v482]) C (m_X7_plain l G F 231 v485 σ81 r h) cb_X7_plain (rfl : kdX 231 = 7) (by decide) rfl (cf_7 (rfl : kdX 231 = 7) _) rfl kl_L_189 ⟨Nat.le_of_ble_eq_true rfl, Nat.le_of_ble_eq_true rfl⟩ hcs hl.1 rfl (Nat.le_of_ble_eq_true rfl) dL_law_1427 rfl) (fun v486 σ82 => ?_)
    refine q_icmp_eq C 2094 dL_law_1430 (by decide) ?_ ?_
    · exact B2094 K18 hK18 x478 σ82 ls (lv_sub hl [0, 1, 2, 3] rfl)
    · exact q_law0 rfl
  have B1435 : ∀ (K18 : Int → St → Option (Int)) (hK18 : ∀ (y0 : Int32) (σ : St) (ls : Array Slot), lv_has ls 4 [(0, .ref b), (1, .ref (gad G 0)), (2, .ref (gad G 231)), (3, .int y0)] → Sim G A nc ns p l e room_1 s m #[Value.ref b] below meth c (fun (r : Int) (t : State) => r = 1 → lw_Z below #[Value.ref b] s t) σ (K18 y0.toInt σ) (F0 m 18 ls [])), ∀  (x487 : Int32) (σ : St) (ls : Array Slot), lv_has ls 4 [(0, .ref b), (1, .ref (gad G 0)), (2, .ref (gad G 231)), (3, .int x487)] → Sim G A nc ns p l e room_1 s m #[Value.ref b] below meth c (fun (r : Int) (t : State) => r = 1 → lw_Z below #[Value.ref b] s t) σ (f_law_J1435 F L xs K18   x487.toInt σ) (F0 m 1435 ls []) := by
    intro K18 hK18
    intro x487 σ ls hl
    unfold f_law_J1435
    refine q_aload_n C dL_law_1435 rfl (lv_at hl 1 rfl) ?_
    refine q_aload_n C dL_law_1436 rfl (lv_at hl 0 rfl) ?_
    refine q_iload_n C dL_law_1437 rfl (lv_at hl 3 rfl) ?_
    refine q_iconst C dL_law_1438 rfl (by decide) (fun v488 => ?_)
    refine q_iadd C dL_law_1439 (fun v489 => ?_)
    refine q_xld C hX hbl hbA hxs dL_law_1440 (fun v490 => ?_)
    refine q_c2i C (fun r h => cr_V (As := [.int v490]) (rest := []) C (m_X6_by l G F 0 v490 σ r h) cb_X6_by (rfl : kdX 0 = 6) (by decide) rfl (cf_6 (rfl : kdX 0 = 6) _) rfl kl_L_190 ⟨Nat.le_of_ble_eq_true rfl, Nat.le_of_ble_eq_true rfl⟩ hcs hl.1 rfl (Nat.le_of_ble_eq_true rfl) dL_law_1441 rfl) (fun v491 σ83 => ?_)
    refine q_aload_n C dL_law_1444 rfl (lv_at hl 2 rfl) ?_
    refine q_aload_n C dL_law_1445 rfl (lv_at hl 0 rfl) ?_
    refine q_iload_n C dL_law_1446 rfl (lv_at hl 3 rfl) ?_
    refine q_iconst C dL_law_1447 rfl (by decide) (fun v492 => ?_)
    refine q_iadd C dL_law_1448 (fun v493 => ?_)
    refine q_xld C hX hbl hbA hxs dL_law_1449 (fun v494 => ?_)
    refine q_c2i C (fun r h => cr_V (As := [.int v494]) (rest := [.int v491]) C (m_X7_by l G F 231 v494 σ83 r h) cb_X7_by (rfl : kdX 231 = 7) (by decide) rfl (cf_7 (rfl : kdX 231 = 7) _) rfl kl_L_193 ⟨Nat.le_of_ble_eq_true rfl, Nat.le_of_ble_eq_true rfl⟩ hcs hl.1 rfl (Nat.le_of_ble_eq_true rfl) dL_law_1450 rfl) (fun v495 σ84 => ?_)
    refine q_icmp_eq C 2094 dL_law_1453 (by decide) ?_ ?_
    · exact B2094 K18 hK18 x487 σ84 ls (lv_sub hl [0, 1, 2, 3] rfl)
    · exact q_law0 rfl
  have B1458 : ∀ (K18 : Int → St → Option (Int)) (hK18 : ∀ (y0 : Int32) (σ : St) (ls : Array Slot), lv_has ls 4 [(0, .ref b), (1, .ref (gad G 0)), (2, .ref (gad G 231)), (3, .int y0)] → Sim G A nc ns p l e room_1 s m #[Value.ref b] below meth c (fun (r : Int) (t : State) => r = 1 → lw_Z below #[Value.ref b] s t) σ (K18 y0.toInt σ) (F0 m 18 ls [])), ∀  (x496 : Int32) (σ : St) (ls : Array Slot), lv_has ls 4 [(0, .ref b), (1, .ref (gad G 0)), (2, .ref (gad G 231)), (3, .int x496)] → Sim G A nc ns p l e room_1 s m #[Value.ref b] below meth c (fun (r : Int) (t : State) => r = 1 → lw_Z below #[Value.ref b] s t) σ (f_law_J1458 F L xs K18   x496.toInt σ) (F0 m 1458 ls []) := by
    intro K18 hK18
    intro x496 σ ls hl
    unfold f_law_J1458
    refine q_aload_n C dL_law_1458 rfl (lv_at hl 1 rfl) ?_
    refine q_c2i C (fun r h => cr_V (As := []) (rest := []) C (m_X6_law l G F 0 σ r h) cb_X6_law (rfl : kdX 0 = 6) (by decide) rfl (cf_6 (rfl : kdX 0 = 6) _) rfl kl_L_194 ⟨Nat.le_of_ble_eq_true rfl, Nat.le_of_ble_eq_true rfl⟩ hcs hl.1 rfl (Nat.le_of_ble_eq_true rfl) dL_law_1459 rfl) (fun v497 σ85 => ?_)
    refine q_aload_n C dL_law_1462 rfl (lv_at hl 2 rfl) ?_
    refine q_c2i C (fun r h => cr_V (As := []) (rest := [.int v497]) C (m_X7_law l G F 231 σ85 r h) cb_X7_law (rfl : kdX 231 = 7) (by decide) rfl (cf_7 (rfl : kdX 231 = 7) _) rfl kl_L_197 ⟨Nat.le_of_ble_eq_true rfl, Nat.le_of_ble_eq_true rfl⟩ hcs hl.1 rfl (Nat.le_of_ble_eq_true rfl) dL_law_1463 rfl) (fun v498 σ86 => ?_)
    refine q_icmp_eq C 2094 dL_law_1466 (by decide) ?_ ?_
    · exact B2094 K18 hK18 x496 σ86 ls (lv_sub hl [0, 1, 2, 3] rfl)
    · exact q_law0 rfl
  have B1471 : ∀ (K18 : Int → St → Option (Int)) (hK18 : ∀ (y0 : Int32) (σ : St) (ls : Array Slot), lv_has ls 4 [(0, .ref b), (1, .ref (gad G 0)), (2, .ref (gad G 231)), (3, .int y0)] → Sim G A nc ns p l e room_1 s m #[Value.ref b] below meth c (fun (r : Int) (t : State) => r = 1 → lw_Z below #[Value.ref b] s t) σ (K18 y0.toInt σ) (F0 m 18 ls [])), ∀  (x499 : Int32) (σ : St) (ls : Array Slot), lv_has ls 4 [(0, .ref b), (1, .ref (gad G 0)), (2, .ref (gad G 231)), (3, .int x499)] → Sim G A nc ns p l e room_1 s m #[Value.ref b] below meth c (fun (r : Int) (t : State) => r = 1 → lw_Z below #[Value.ref b] s t) σ (f_law_J1471 F L xs K18   x499.toInt σ) (F0 m 1471 ls []) := by
    intro K18 hK18
    intro x499 σ ls hl
    unfold f_law_J1471
    refine q_aload_n C dL_law_1471 rfl (lv_at hl 1 rfl) ?_
    refine q_aload_n C dL_law_1472 rfl (lv_at hl 0 rfl) ?_
    refine q_iload_n C dL_law_1473 rfl (lv_at hl 3 rfl) ?_
    refine q_iconst C dL_law_1474 rfl (by decide) (fun v500 => ?_)
    refine q_iadd C dL_law_1475 (fun v501 => ?_)
    refine q_xld C hX hbl hbA hxs dL_law_1476 (fun v502 => ?_)
    refine q_c2i C (fun r h => cr_V (As := [.int v502]) (rest := []) C (m_X6_worth l G F 0 v502 σ r h) cb_X6_worth (rfl : kdX 0 = 6) (by decide) rfl (cf_6 (rfl : kdX 0 = 6) _) rfl kl_L_198 ⟨Nat.le_of_ble_eq_true rfl, Nat.le_of_ble_eq_true rfl⟩ hcs hl.1 rfl (Nat.le_of_ble_eq_true rfl) dL_law_1477 rfl) (fun v503 σ87 => ?_)
    refine q_aload_n C dL_law_1480 rfl (lv_at hl 2 rfl) ?_
    refine q_aload_n C dL_law_1481 rfl (lv_at hl 0 rfl) ?_
    refine q_iload_n C dL_law_1482 rfl (lv_at hl 3 rfl) ?_
    refine q_iconst C dL_law_1483 rfl (by decide) (fun v504 => ?_)
    refine q_iadd C dL_law_1484 (fun v505 => ?_)
    refine q_xld C hX hbl hbA hxs dL_law_1485 (fun v506 => ?_)
    refine q_c2i C (fun r h => cr_V (As := [.int v506]) (rest := [.int v503]) C (m_X7_worth l G F 231 v506 σ87 r h) cb_X7_worth (rfl : kdX 231 = 7) (by decide) rfl (cf_7 (rfl : kdX 231 = 7) _) rfl kl_L_201 ⟨Nat.le_of_ble_eq_true rfl, Nat.le_of_ble_eq_true rfl⟩ hcs hl.1 rfl (Nat.le_of_ble_eq_true rfl) dL_law_1486 rfl) (fun v507 σ88 => ?_)
    refine q_icmp_eq C 2094 dL_law_1489 (by decide) ?_ ?_
    · exact B2094 K18 hK18 x499 σ88 ls (lv_sub hl [0, 1, 2, 3] rfl)
    · exact q_law0 rfl
  have B1494 : ∀ (K18 : Int → St → Option (Int)) (hK18 : ∀ (y0 : Int32) (σ : St) (ls : Array Slot), lv_has ls 4 [(0, .ref b), (1, .ref (gad G 0)), (2, .ref (gad G 231)), (3, .int y0)] → Sim G A nc ns p l e room_1 s m #[Value.ref b] below meth c (fun (r : Int) (t : State) => r = 1 → lw_Z below #[Value.ref b] s t) σ (K18 y0.toInt σ) (F0 m 18 ls [])), ∀  (x508 : Int32) (σ : St) (ls : Array Slot), lv_has ls 4 [(0, .ref b), (1, .ref (gad G 0)), (2, .ref (gad G 231)), (3, .int x508)] → Sim G A nc ns p l e room_1 s m #[Value.ref b] below meth c (fun (r : Int) (t : State) => r = 1 → lw_Z below #[Value.ref b] s t) σ (f_law_J1494 F L xs K18   x508.toInt σ) (F0 m 1494 ls []) := by
    intro K18 hK18
    intro x508 σ ls hl
    unfold f_law_J1494
    refine q_aload_n C dL_law_1494 rfl (lv_at hl 1 rfl) ?_
    refine q_aload_n C dL_law_1495 rfl (lv_at hl 0 rfl) ?_
    refine q_iload_n C dL_law_1496 rfl (lv_at hl 3 rfl) ?_
    refine q_iconst C dL_law_1497 rfl (by decide) (fun v509 => ?_)
    refine q_iadd C dL_law_1498 (fun v510 => ?_)
    refine q_xld C hX hbl hbA hxs dL_law_1499 (fun v511 => ?_)
    refine q_aload_n C dL_law_1500 rfl (lv_at hl 0 rfl) ?_
    refine q_iload_n C dL_law_1501 rfl (lv_at hl 3 rfl) ?_
    refine q_iconst C dL_law_1502 rfl (by decide) (fun v512 => ?_)
    refine q_iadd C dL_law_1503 (fun v513 => ?_)
    refine q_xld C hX hbl hbA hxs dL_law_1504 (fun v514 => ?_)
    refine q_c2i C (fun r h => cr_V (As := [.int v511, .int v514]) (rest := []) C (m_X6_share l G F 0 v511 v514 σ r h) cb_X6_share (rfl : kdX 0 = 6) (by decide) rfl (cf_6 (rfl : kdX 0 = 6) _) rfl kl_L_202 ⟨Nat.le_of_ble_eq_true rfl, Nat.le_of_ble_eq_true rfl⟩ hcs hl.1 rfl (Nat.le_of_ble_eq_true rfl) dL_law_1505 rfl) (fun v515 σ89 => ?_)
    refine q_aload_n C dL_law_1508 rfl (lv_at hl 2 rfl) ?_
    refine q_aload_n C dL_law_1509 rfl (lv_at hl 0 rfl) ?_
    refine q_iload_n C dL_law_1510 rfl (lv_at hl 3 rfl) ?_
    refine q_iconst C dL_law_1511 rfl (by decide) (fun v516 => ?_)
    refine q_iadd C dL_law_1512 (fun v517 => ?_)
    refine q_xld C hX hbl hbA hxs dL_law_1513 (fun v518 => ?_)
    refine q_aload_n C dL_law_1514 rfl (lv_at hl 0 rfl) ?_
    refine q_iload_n C dL_law_1515 rfl (lv_at hl 3 rfl) ?_
    refine q_iconst C dL_law_1516 rfl (by decide) (fun v519 => ?_)
    refine q_iadd C dL_law_1517 (fun v520 => ?_)
    refine q_xld C hX hbl hbA hxs dL_law_1518 (fun v521 => ?_)
    refine q_c2i C (fun r h => cr_V (As := [.int v518, .int v521]) (rest := [.int v515]) C (m_X7_share l G F 231 v518 v521 σ89 r h) cb_X7_share (rfl : kdX 231 = 7) (by decide) rfl (cf_7 (rfl : kdX 231 = 7) _) rfl kl_L_205 ⟨Nat.le_of_ble_eq_true rfl, Nat.le_of_ble_eq_true rfl⟩ hcs hl.1 rfl (Nat.le_of_ble_eq_true rfl) dL_law_1519 rfl) (fun v522 σ90 => ?_)
    refine q_icmp_eq C 2094 dL_law_1522 (by decide) ?_ ?_
    · exact B2094 K18 hK18 x508 σ90 ls (lv_sub hl [0, 1, 2, 3] rfl)
    · exact q_law0 rfl
  have B1527 : ∀ (K18 : Int → St → Option (Int)) (hK18 : ∀ (y0 : Int32) (σ : St) (ls : Array Slot), lv_has ls 4 [(0, .ref b), (1, .ref (gad G 0)), (2, .ref (gad G 231)), (3, .int y0)] → Sim G A nc ns p l e room_1 s m #[Value.ref b] below meth c (fun (r : Int) (t : State) => r = 1 → lw_Z below #[Value.ref b] s t) σ (K18 y0.toInt σ) (F0 m 18 ls [])), ∀  (x523 : Int32) (σ : St) (ls : Array Slot), lv_has ls 4 [(0, .ref b), (1, .ref (gad G 0)), (2, .ref (gad G 231)), (3, .int x523)] → Sim G A nc ns p l e room_1 s m #[Value.ref b] below meth c (fun (r : Int) (t : State) => r = 1 → lw_Z below #[Value.ref b] s t) σ (f_law_J1527 F L xs K18   x523.toInt σ) (F0 m 1527 ls []) := by
    intro K18 hK18
    intro x523 σ ls hl
    unfold f_law_J1527
    refine q_aload_n C dL_law_1527 rfl (lv_at hl 1 rfl) ?_
    refine q_aload_n C dL_law_1528 rfl (lv_at hl 0 rfl) ?_
    refine q_iload_n C dL_law_1529 rfl (lv_at hl 3 rfl) ?_
    refine q_iconst C dL_law_1530 rfl (by decide) (fun v524 => ?_)
    refine q_iadd C dL_law_1531 (fun v525 => ?_)
    refine q_xld C hX hbl hbA hxs dL_law_1532 (fun v526 => ?_)
    refine q_aload_n C dL_law_1533 rfl (lv_at hl 0 rfl) ?_
    refine q_iload_n C dL_law_1534 rfl (lv_at hl 3 rfl) ?_
    refine q_iconst C dL_law_1535 rfl (by decide) (fun v527 => ?_)
    refine q_iadd C dL_law_1536 (fun v528 => ?_)
    refine q_xld C hX hbl hbA hxs dL_law_1537 (fun v529 => ?_)
    refine q_c2i C (fun r h => cr_V (As := [.int v526, .int v529]) (rest := []) C (m_X6_rests l G F 0 v526 v529 σ r h) cb_X6_rests (rfl : kdX 0 = 6) (by decide) rfl (cf_6 (rfl : kdX 0 = 6) _) rfl kl_L_206 ⟨Nat.le_of_ble_eq_true rfl, Nat.le_of_ble_eq_true rfl⟩ hcs hl.1 rfl (Nat.le_of_ble_eq_true rfl) dL_law_1538 rfl) (fun v530 σ91 => ?_)
    refine q_aload_n C dL_law_1541 rfl (lv_at hl 2 rfl) ?_
    refine q_aload_n C dL_law_1542 rfl (lv_at hl 0 rfl) ?_
    refine q_iload_n C dL_law_1543 rfl (lv_at hl 3 rfl) ?_
    refine q_iconst C dL_law_1544 rfl (by decide) (fun v531 => ?_)
    refine q_iadd C dL_law_1545 (fun v532 => ?_)
    refine q_xld C hX hbl hbA hxs dL_law_1546 (fun v533 => ?_)
    refine q_aload_n C dL_law_1547 rfl (lv_at hl 0 rfl) ?_
    refine q_iload_n C dL_law_1548 rfl (lv_at hl 3 rfl) ?_
    refine q_iconst C dL_law_1549 rfl (by decide) (fun v534 => ?_)
    refine q_iadd C dL_law_1550 (fun v535 => ?_)
    refine q_xld C hX hbl hbA hxs dL_law_1551 (fun v536 => ?_)
    refine q_c2i C (fun r h => cr_V (As := [.int v533, .int v536]) (rest := [.int v530]) C (m_X7_rests l G F 231 v533 v536 σ91 r h) cb_X7_rests (rfl : kdX 231 = 7) (by decide) rfl (cf_7 (rfl : kdX 231 = 7) _) rfl kl_L_209 ⟨Nat.le_of_ble_eq_true rfl, Nat.le_of_ble_eq_true rfl⟩ hcs hl.1 rfl (Nat.le_of_ble_eq_true rfl) dL_law_1552 rfl) (fun v537 σ92 => ?_)
    refine q_icmp_eq C 2094 dL_law_1555 (by decide) ?_ ?_
    · exact B2094 K18 hK18 x523 σ92 ls (lv_sub hl [0, 1, 2, 3] rfl)
    · exact q_law0 rfl
  have B1560 : ∀ (K18 : Int → St → Option (Int)) (hK18 : ∀ (y0 : Int32) (σ : St) (ls : Array Slot), lv_has ls 4 [(0, .ref b), (1, .ref (gad G 0)), (2, .ref (gad G 231)), (3, .int y0)] → Sim G A nc ns p l e room_1 s m #[Value.ref b] below meth c (fun (r : Int) (t : State) => r = 1 → lw_Z below #[Value.ref b] s t) σ (K18 y0.toInt σ) (F0 m 18 ls [])), ∀  (x538 : Int32) (σ : St) (ls : Array Slot), lv_has ls 4 [(0, .ref b), (1, .ref (gad G 0)), (2, .ref (gad G 231)), (3, .int x538)] → Sim G A nc ns p l e room_1 s m #[Value.ref b] below meth c (fun (r : Int) (t : State) => r = 1 → lw_Z below #[Value.ref b] s t) σ (f_law_J1560 F L xs K18   x538.toInt σ) (F0 m 1560 ls []) := by
    intro K18 hK18
    intro x538 σ ls hl
    unfold f_law_J1560
    refine q_aload_n C dL_law_1560 rfl (lv_at hl 1 rfl) ?_
    refine q_aload_n C dL_law_1561 rfl (lv_at hl 0 rfl) ?_
    refine q_iload_n C dL_law_1562 rfl (lv_at hl 3 rfl) ?_
    refine q_iconst C dL_law_1563 rfl (by decide) (fun v539 => ?_)
    refine q_iadd C dL_law_1564 (fun v540 => ?_)
    refine q_xld C hX hbl hbA hxs dL_law_1565 (fun v541 => ?_)
    refine q_aload_n C dL_law_1566 rfl (lv_at hl 0 rfl) ?_
    refine q_iload_n C dL_law_1567 rfl (lv_at hl 3 rfl) ?_
    refine q_iconst C dL_law_1568 rfl (by decide) (fun v542 => ?_)
    refine q_iadd C dL_law_1569 (fun v543 => ?_)
    refine q_xld C hX hbl hbA hxs dL_law_1570 (fun v544 => ?_)
    refine q_aload_n C dL_law_1571 rfl (lv_at hl 0 rfl) ?_
    refine q_iload_n C dL_law_1572 rfl (lv_at hl 3 rfl) ?_
    refine q_iconst C dL_law_1573 rfl (by decide) (fun v545 => ?_)
    refine q_iadd C dL_law_1574 (fun v546 => ?_)
    refine q_xld C hX hbl hbA hxs dL_law_1575 (fun v547 => ?_)
    refine q_aload_n C dL_law_1576 rfl (lv_at hl 0 rfl) ?_
    refine q_iload_n C dL_law_1577 rfl (lv_at hl 3 rfl) ?_
    refine q_iconst C dL_law_1578 rfl (by decide) (fun v548 => ?_)
    refine q_iadd C dL_law_1579 (fun v549 => ?_)
    refine q_xld C hX hbl hbA hxs dL_law_1580 (fun v550 => ?_)
    refine q_c2i C (fun r h => cr_V (As := [.int v541, .int v544, .int v547, .int v550]) (rest := []) C (m_X6_gets l G F 0 v541 v544 v547 v550 σ r h) cb_X6_gets (rfl : kdX 0 = 6) (by decide) rfl (cf_6 (rfl : kdX 0 = 6) _) rfl kl_L_210 ⟨Nat.le_of_ble_eq_true rfl, Nat.le_of_ble_eq_true rfl⟩ hcs hl.1 rfl (Nat.le_of_ble_eq_true rfl) dL_law_1581 rfl) (fun v551 σ93 => ?_)
    refine q_aload_n C dL_law_1584 rfl (lv_at hl 2 rfl) ?_
    refine q_aload_n C dL_law_1585 rfl (lv_at hl 0 rfl) ?_
    refine q_iload_n C dL_law_1586 rfl (lv_at hl 3 rfl) ?_
    refine q_iconst C dL_law_1587 rfl (by decide) (fun v552 => ?_)
    refine q_iadd C dL_law_1588 (fun v553 => ?_)
    refine q_xld C hX hbl hbA hxs dL_law_1589 (fun v554 => ?_)
    refine q_aload_n C dL_law_1590 rfl (lv_at hl 0 rfl) ?_
    refine q_iload_n C dL_law_1591 rfl (lv_at hl 3 rfl) ?_
    refine q_iconst C dL_law_1592 rfl (by decide) (fun v555 => ?_)
    refine q_iadd C dL_law_1593 (fun v556 => ?_)
    refine q_xld C hX hbl hbA hxs dL_law_1594 (fun v557 => ?_)
    refine q_aload_n C dL_law_1595 rfl (lv_at hl 0 rfl) ?_
    refine q_iload_n C dL_law_1596 rfl (lv_at hl 3 rfl) ?_
    refine q_iconst C dL_law_1597 rfl (by decide) (fun v558 => ?_)
    refine q_iadd C dL_law_1598 (fun v559 => ?_)
    refine q_xld C hX hbl hbA hxs dL_law_1599 (fun v560 => ?_)
    refine q_aload_n C dL_law_1600 rfl (lv_at hl 0 rfl) ?_
    refine q_iload_n C dL_law_1601 rfl (lv_at hl 3 rfl) ?_
    refine q_iconst C dL_law_1602 rfl (by decide) (fun v561 => ?_)
    refine q_iadd C dL_law_1603 (fun v562 => ?_)
    refine q_xld C hX hbl hbA hxs dL_law_1604 (fun v563 => ?_)
    refine q_c2i C (fun r h => cr_V (As := [.int v554, .int v557, .int v560, .int v563]) (rest := [.int v551]) C (m_X7_gets l G F 231 v554 v557 v560 v563 σ93 r h) cb_X7_gets (rfl : kdX 231 = 7) (by decide) rfl (cf_7 (rfl : kdX 231 = 7) _) rfl kl_L_214 ⟨Nat.le_of_ble_eq_true rfl, Nat.le_of_ble_eq_true rfl⟩ hcs hl.1 rfl (Nat.le_of_ble_eq_true rfl) dL_law_1605 rfl) (fun v564 σ94 => ?_)
    refine q_icmp_eq C 2094 dL_law_1608 (by decide) ?_ ?_
    · exact B2094 K18 hK18 x538 σ94 ls (lv_sub hl [0, 1, 2, 3] rfl)
    · exact q_law0 rfl
  have B1613 : ∀ (K18 : Int → St → Option (Int)) (hK18 : ∀ (y0 : Int32) (σ : St) (ls : Array Slot), lv_has ls 4 [(0, .ref b), (1, .ref (gad G 0)), (2, .ref (gad G 231)), (3, .int y0)] → Sim G A nc ns p l e room_1 s m #[Value.ref b] below meth c (fun (r : Int) (t : State) => r = 1 → lw_Z below #[Value.ref b] s t) σ (K18 y0.toInt σ) (F0 m 18 ls [])), ∀  (x565 : Int32) (σ : St) (ls : Array Slot), lv_has ls 4 [(0, .ref b), (1, .ref (gad G 0)), (2, .ref (gad G 231)), (3, .int x565)] → Sim G A nc ns p l e room_1 s m #[Value.ref b] below meth c (fun (r : Int) (t : State) => r = 1 → lw_Z below #[Value.ref b] s t) σ (f_law_J1613 F L xs K18   x565.toInt σ) (F0 m 1613 ls []) := by
    intro K18 hK18
    intro x565 σ ls hl
    unfold f_law_J1613
    refine q_aload_n C dL_law_1613 rfl (lv_at hl 1 rfl) ?_
    refine q_aload_n C dL_law_1614 rfl (lv_at hl 0 rfl) ?_
    refine q_iload_n C dL_law_1615 rfl (lv_at hl 3 rfl) ?_
    refine q_iconst C dL_law_1616 rfl (by decide) (fun v566 => ?_)
    refine q_iadd C dL_law_1617 (fun v567 => ?_)
    refine q_xld C hX hbl hbA hxs dL_law_1618 (fun v568 => ?_)
    refine q_aload_n C dL_law_1619 rfl (lv_at hl 0 rfl) ?_
    refine q_iload_n C dL_law_1620 rfl (lv_at hl 3 rfl) ?_
    refine q_iconst C dL_law_1621 rfl (by decide) (fun v569 => ?_)
    refine q_iadd C dL_law_1622 (fun v570 => ?_)
    refine q_xld C hX hbl hbA hxs dL_law_1623 (fun v571 => ?_)
    refine q_aload_n C dL_law_1624 rfl (lv_at hl 0 rfl) ?_
    refine q_iload_n C dL_law_1625 rfl (lv_at hl 3 rfl) ?_
    refine q_iconst C dL_law_1626 rfl (by decide) (fun v572 => ?_)
    refine q_iadd C dL_law_1627 (fun v573 => ?_)
    refine q_xld C hX hbl hbA hxs dL_law_1628 (fun v574 => ?_)
    refine q_c2l C (fun r h => cr_V (As := [.int v568, .int v571, .int v574]) (rest := []) C (m_X6_chance l G F 0 v568 v571 v574 σ r h) cb_X6_chance (rfl : kdX 0 = 6) (by decide) rfl (cf_6 (rfl : kdX 0 = 6) _) rfl kl_L_215 ⟨Nat.le_of_ble_eq_true rfl, Nat.le_of_ble_eq_true rfl⟩ hcs hl.1 rfl (Nat.le_of_ble_eq_true rfl) dL_law_1629 rfl) (fun v575 σ95 => ?_)
    refine q_aload_n C dL_law_1632 rfl (lv_at hl 2 rfl) ?_
    refine q_aload_n C dL_law_1633 rfl (lv_at hl 0 rfl) ?_
    refine q_iload_n C dL_law_1634 rfl (lv_at hl 3 rfl) ?_
    refine q_iconst C dL_law_1635 rfl (by decide) (fun v576 => ?_)
    refine q_iadd C dL_law_1636 (fun v577 => ?_)
    refine q_xld C hX hbl hbA hxs dL_law_1637 (fun v578 => ?_)
    refine q_aload_n C dL_law_1638 rfl (lv_at hl 0 rfl) ?_
    refine q_iload_n C dL_law_1639 rfl (lv_at hl 3 rfl) ?_
    refine q_iconst C dL_law_1640 rfl (by decide) (fun v579 => ?_)
    refine q_iadd C dL_law_1641 (fun v580 => ?_)
    refine q_xld C hX hbl hbA hxs dL_law_1642 (fun v581 => ?_)
    refine q_aload_n C dL_law_1643 rfl (lv_at hl 0 rfl) ?_
    refine q_iload_n C dL_law_1644 rfl (lv_at hl 3 rfl) ?_
    refine q_iconst C dL_law_1645 rfl (by decide) (fun v582 => ?_)
    refine q_iadd C dL_law_1646 (fun v583 => ?_)
    refine q_xld C hX hbl hbA hxs dL_law_1647 (fun v584 => ?_)
    refine q_c2l C (fun r h => cr_V (As := [.int v578, .int v581, .int v584]) (rest := [.long v575]) C (m_X7_chance l G F 231 v578 v581 v584 σ95 r h) cb_X7_chance (rfl : kdX 231 = 7) (by decide) rfl (cf_7 (rfl : kdX 231 = 7) _) rfl kl_L_219 ⟨Nat.le_of_ble_eq_true rfl, Nat.le_of_ble_eq_true rfl⟩ hcs hl.1 rfl (Nat.le_of_ble_eq_true rfl) dL_law_1648 rfl) (fun v585 σ96 => ?_)
    refine q_lcmp C dL_law_1651 (fun v586 => ?_)
    refine q_if_eq C 2094 dL_law_1652 (by decide) ?_ ?_
    · exact B2094 K18 hK18 x565 σ96 ls (lv_sub hl [0, 1, 2, 3] rfl)
    · exact q_law0 rfl
  have B1657 : ∀ (K18 : Int → St → Option (Int)) (hK18 : ∀ (y0 : Int32) (σ : St) (ls : Array Slot), lv_has ls 4 [(0, .ref b), (1, .ref (gad G 0)), (2, .ref (gad G 231)), (3, .int y0)] → Sim G A nc ns p l e room_1 s m #[Value.ref b] below meth c (fun (r : Int) (t : State) => r = 1 → lw_Z below #[Value.ref b] s t) σ (K18 y0.toInt σ) (F0 m 18 ls [])), ∀  (x587 : Int32) (σ : St) (ls : Array Slot), lv_has ls 4 [(0, .ref b), (1, .ref (gad G 0)), (2, .ref (gad G 231)), (3, .int x587)] → Sim G A nc ns p l e room_1 s m #[Value.ref b] below meth c (fun (r : Int) (t : State) => r = 1 → lw_Z below #[Value.ref b] s t) σ (f_law_J1657 F L xs K18   x587.toInt σ) (F0 m 1657 ls []) := by
    intro K18 hK18
    intro x587 σ ls hl
    unfold f_law_J1657
    refine q_aload_n C dL_law_1657 rfl (lv_at hl 1 rfl) ?_
    refine q_aload_n C dL_law_1658 rfl (lv_at hl 0 rfl) ?_
    refine q_iload_n C dL_law_1659 rfl (lv_at hl 3 rfl) ?_
    refine q_iconst C dL_law_1660 rfl (by decide) (fun v588 => ?_)
    refine q_iadd C dL_law_1661 (fun v589 => ?_)
    refine q_xld C hX hbl hbA hxs dL_law_1662 (fun v590 => ?_)
    refine q_aload_n C dL_law_1663 rfl (lv_at hl 0 rfl) ?_
    refine q_iload_n C dL_law_1664 rfl (lv_at hl 3 rfl) ?_
    refine q_iconst C dL_law_1665 rfl (by decide) (fun v591 => ?_)
    refine q_iadd C dL_law_1666 (fun v592 => ?_)
    refine q_xld C hX hbl hbA hxs dL_law_1667 (fun v593 => ?_)
    refine q_c2l C (fun r h => cr_V (As := [.int v590, .int v593]) (rest := []) C (m_X6_mean l G F 0 v590 v593 σ r h) cb_X6_mean (rfl : kdX 0 = 6) (by decide) rfl (cf_6 (rfl : kdX 0 = 6) _) rfl kl_L_220 ⟨Nat.le_of_ble_eq_true rfl, Nat.le_of_ble_eq_true rfl⟩ hcs hl.1 rfl (Nat.le_of_ble_eq_true rfl) dL_law_1668 rfl) (fun v594 σ97 => ?_)
    refine q_aload_n C dL_law_1671 rfl (lv_at hl 2 rfl) ?_
    refine q_aload_n C dL_law_1672 rfl (lv_at hl 0 rfl) ?_
    refine q_iload_n C dL_law_1673 rfl (lv_at hl 3 rfl) ?_
    refine q_iconst C dL_law_1674 rfl (by decide) (fun v595 => ?_)
    refine q_iadd C dL_law_1675 (fun v596 => ?_)
    refine q_xld C hX hbl hbA hxs dL_law_1676 (fun v597 => ?_)
    refine q_aload_n C dL_law_1677 rfl (lv_at hl 0 rfl) ?_
    refine q_iload_n C dL_law_1678 rfl (lv_at hl 3 rfl) ?_
    refine q_iconst C dL_law_1679 rfl (by decide) (fun v598 => ?_)
    refine q_iadd C dL_law_1680 (fun v599 => ?_)
    refine q_xld C hX hbl hbA hxs dL_law_1681 (fun v600 => ?_)
    refine q_c2l C (fun r h => cr_V (As := [.int v597, .int v600]) (rest := [.long v594]) C (m_X7_mean l G F 231 v597 v600 σ97 r h) cb_X7_mean (rfl : kdX 231 = 7) (by decide) rfl (cf_7 (rfl : kdX 231 = 7) _) rfl kl_L_224 ⟨Nat.le_of_ble_eq_true rfl, Nat.le_of_ble_eq_true rfl⟩ hcs hl.1 rfl (Nat.le_of_ble_eq_true rfl) dL_law_1682 rfl) (fun v601 σ98 => ?_)
    refine q_lcmp C dL_law_1685 (fun v602 => ?_)
    refine q_if_eq C 2094 dL_law_1686 (by decide) ?_ ?_
    · exact B2094 K18 hK18 x587 σ98 ls (lv_sub hl [0, 1, 2, 3] rfl)
    · exact q_law0 rfl
  have B1691 : ∀ (K18 : Int → St → Option (Int)) (hK18 : ∀ (y0 : Int32) (σ : St) (ls : Array Slot), lv_has ls 4 [(0, .ref b), (1, .ref (gad G 0)), (2, .ref (gad G 231)), (3, .int y0)] → Sim G A nc ns p l e room_1 s m #[Value.ref b] below meth c (fun (r : Int) (t : State) => r = 1 → lw_Z below #[Value.ref b] s t) σ (K18 y0.toInt σ) (F0 m 18 ls [])), ∀  (x603 : Int32) (σ : St) (ls : Array Slot), lv_has ls 4 [(0, .ref b), (1, .ref (gad G 0)), (2, .ref (gad G 231)), (3, .int x603)] → Sim G A nc ns p l e room_1 s m #[Value.ref b] below meth c (fun (r : Int) (t : State) => r = 1 → lw_Z below #[Value.ref b] s t) σ (f_law_J1691 F L xs K18   x603.toInt σ) (F0 m 1691 ls []) := by
    intro K18 hK18
    intro x603 σ ls hl
    unfold f_law_J1691
    refine q_aload_n C dL_law_1691 rfl (lv_at hl 1 rfl) ?_
    refine q_aload_n C dL_law_1692 rfl (lv_at hl 0 rfl) ?_
    refine q_iload_n C dL_law_1693 rfl (lv_at hl 3 rfl) ?_
    refine q_iconst C dL_law_1694 rfl (by decide) (fun v604 => ?_)
    refine q_iadd C dL_law_1695 (fun v605 => ?_)
    refine q_xld C hX hbl hbA hxs dL_law_1696 (fun v606 => ?_)
    refine q_aload_n C dL_law_1697 rfl (lv_at hl 0 rfl) ?_
    refine q_iload_n C dL_law_1698 rfl (lv_at hl 3 rfl) ?_
    refine q_iconst C dL_law_1699 rfl (by decide) (fun v607 => ?_)
    refine q_iadd C dL_law_1700 (fun v608 => ?_)
    refine q_xld C hX hbl hbA hxs dL_law_1701 (fun v609 => ?_)
    refine q_aload_n C dL_law_1702 rfl (lv_at hl 0 rfl) ?_
    refine q_iload_n C dL_law_1703 rfl (lv_at hl 3 rfl) ?_
    refine q_iconst C dL_law_1704 rfl (by decide) (fun v610 => ?_)
    refine q_iadd C dL_law_1705 (fun v611 => ?_)
    refine q_xld C hX hbl hbA hxs dL_law_1706 (fun v612 => ?_)
    refine q_aload_n C dL_law_1707 rfl (lv_at hl 0 rfl) ?_
    refine q_iload_n C dL_law_1708 rfl (lv_at hl 3 rfl) ?_
    refine q_iconst C dL_law_1709 rfl (by decide) (fun v613 => ?_)
    refine q_iadd C dL_law_1710 (fun v614 => ?_)
    refine q_xld C hX hbl hbA hxs dL_law_1711 (fun v615 => ?_)
    refine q_c2i C (fun r h => cr_V (As := [.int v606, .int v609, .int v612, .int v615]) (rest := []) C (m_X6_does l G F 0 v606 v609 v612 v615 σ r h) cb_X6_does (rfl : kdX 0 = 6) (by decide) rfl (cf_6 (rfl : kdX 0 = 6) _) rfl kl_L_225 ⟨Nat.le_of_ble_eq_true rfl, Nat.le_of_ble_eq_true rfl⟩ hcs hl.1 rfl (Nat.le_of_ble_eq_true rfl) dL_law_1712 rfl) (fun v616 σ99 => ?_)
    refine q_aload_n C dL_law_1715 rfl (lv_at hl 2 rfl) ?_
    refine q_aload_n C dL_law_1716 rfl (lv_at hl 0 rfl) ?_
    refine q_iload_n C dL_law_1717 rfl (lv_at hl 3 rfl) ?_
    refine q_iconst C dL_law_1718 rfl (by decide) (fun v617 => ?_)
    refine q_iadd C dL_law_1719 (fun v618 => ?_)
    refine q_xld C hX hbl hbA hxs dL_law_1720 (fun v619 => ?_)
    refine q_aload_n C dL_law_1721 rfl (lv_at hl 0 rfl) ?_
    refine q_iload_n C dL_law_1722 rfl (lv_at hl 3 rfl) ?_
    refine q_iconst C dL_law_1723 rfl (by decide) (fun v620 => ?_)
    refine q_iadd C dL_law_1724 (fun v621 => ?_)
    refine q_xld C hX hbl hbA hxs dL_law_1725 (fun v622 => ?_)
    refine q_aload_n C dL_law_1726 rfl (lv_at hl 0 rfl) ?_
    refine q_iload_n C dL_law_1727 rfl (lv_at hl 3 rfl) ?_
    refine q_iconst C dL_law_1728 rfl (by decide) (fun v623 => ?_)
    refine q_iadd C dL_law_1729 (fun v624 => ?_)
    refine q_xld C hX hbl hbA hxs dL_law_1730 (fun v625 => ?_)
    refine q_aload_n C dL_law_1731 rfl (lv_at hl 0 rfl) ?_
    refine q_iload_n C dL_law_1732 rfl (lv_at hl 3 rfl) ?_
    refine q_iconst C dL_law_1733 rfl (by decide) (fun v626 => ?_)
    refine q_iadd C dL_law_1734 (fun v627 => ?_)
    refine q_xld C hX hbl hbA hxs dL_law_1735 (fun v628 => ?_)
    refine q_c2i C (fun r h => cr_V (As := [.int v619, .int v622, .int v625, .int v628]) (rest := [.int v616]) C (m_X7_does l G F 231 v619 v622 v625 v628 σ99 r h) cb_X7_does (rfl : kdX 231 = 7) (by decide) rfl (cf_7 (rfl : kdX 231 = 7) _) rfl kl_L_228 ⟨Nat.le_of_ble_eq_true rfl, Nat.le_of_ble_eq_true rfl⟩ hcs hl.1 rfl (Nat.le_of_ble_eq_true rfl) dL_law_1736 rfl) (fun v629 σ100 => ?_)
    refine q_icmp_eq C 2094 dL_law_1739 (by decide) ?_ ?_
    · exact B2094 K18 hK18 x603 σ100 ls (lv_sub hl [0, 1, 2, 3] rfl)
    · exact q_law0 rfl
  have B1744 : ∀ (K18 : Int → St → Option (Int)) (hK18 : ∀ (y0 : Int32) (σ : St) (ls : Array Slot), lv_has ls 4 [(0, .ref b), (1, .ref (gad G 0)), (2, .ref (gad G 231)), (3, .int y0)] → Sim G A nc ns p l e room_1 s m #[Value.ref b] below meth c (fun (r : Int) (t : State) => r = 1 → lw_Z below #[Value.ref b] s t) σ (K18 y0.toInt σ) (F0 m 18 ls [])), ∀  (x630 : Int32) (σ : St) (ls : Array Slot), lv_has ls 4 [(0, .ref b), (1, .ref (gad G 0)), (2, .ref (gad G 231)), (3, .int x630)] → Sim G A nc ns p l e room_1 s m #[Value.ref b] below meth c (fun (r : Int) (t : State) => r = 1 → lw_Z below #[Value.ref b] s t) σ (f_law_J1744 F L xs K18   x630.toInt σ) (F0 m 1744 ls []) := by
    intro K18 hK18
    intro x630 σ ls hl
    unfold f_law_J1744
    refine q_aload_n C dL_law_1744 rfl (lv_at hl 1 rfl) ?_
    refine q_c2i C (fun r h => cr_V (As := []) (rest := []) C (m_X6_undo l G F 0 σ r h) cb_X6_undo (rfl : kdX 0 = 6) (by decide) rfl (cf_6 (rfl : kdX 0 = 6) _) rfl kl_L_229 ⟨Nat.le_of_ble_eq_true rfl, Nat.le_of_ble_eq_true rfl⟩ hcs hl.1 rfl (Nat.le_of_ble_eq_true rfl) dL_law_1745 rfl) (fun v631 σ101 => ?_)
    refine q_aload_n C dL_law_1748 rfl (lv_at hl 2 rfl) ?_
    refine q_c2i C (fun r h => cr_V (As := []) (rest := [.int v631]) C (m_X7_undo l G F 231 σ101 r h) cb_X7_undo (rfl : kdX 231 = 7) (by decide) rfl (cf_7 (rfl : kdX 231 = 7) _) rfl kl_L_232 ⟨Nat.le_of_ble_eq_true rfl, Nat.le_of_ble_eq_true rfl⟩ hcs hl.1 rfl (Nat.le_of_ble_eq_true rfl) dL_law_1749 rfl) (fun v632 σ102 => ?_)
    refine q_icmp_eq C 2094 dL_law_1752 (by decide) ?_ ?_
    · exact B2094 K18 hK18 x630 σ102 ls (lv_sub hl [0, 1, 2, 3] rfl)
    · exact q_law0 rfl
  have B1757 : ∀ (K18 : Int → St → Option (Int)) (hK18 : ∀ (y0 : Int32) (σ : St) (ls : Array Slot), lv_has ls 4 [(0, .ref b), (1, .ref (gad G 0)), (2, .ref (gad G 231)), (3, .int y0)] → Sim G A nc ns p l e room_1 s m #[Value.ref b] below meth c (fun (r : Int) (t : State) => r = 1 → lw_Z below #[Value.ref b] s t) σ (K18 y0.toInt σ) (F0 m 18 ls [])), ∀  (x633 : Int32) (σ : St) (ls : Array Slot), lv_has ls 4 [(0, .ref b), (1, .ref (gad G 0)), (2, .ref (gad G 231)), (3, .int x633)] → Sim G A nc ns p l e room_1 s m #[Value.ref b] below meth c (fun (r : Int) (t : State) => r = 1 → lw_Z below #[Value.ref b] s t) σ (f_law_J1757 F L xs K18   x633.toInt σ) (F0 m 1757 ls []) := by
    intro K18 hK18
    intro x633 σ ls hl
    unfold f_law_J1757
    refine q_aload_n C dL_law_1757 rfl (lv_at hl 1 rfl) ?_
    refine q_c2i C (fun r h => cr_V (As := []) (rest := []) C (m_X6_anew l G F 0 σ r h) cb_X6_anew (rfl : kdX 0 = 6) (by decide) rfl (cf_6 (rfl : kdX 0 = 6) _) rfl kl_L_233 ⟨Nat.le_of_ble_eq_true rfl, Nat.le_of_ble_eq_true rfl⟩ hcs hl.1 rfl (Nat.le_of_ble_eq_true rfl) dL_law_1758 rfl) (fun v634 σ103 => ?_)
    refine q_aload_n C dL_law_1761 rfl (lv_at hl 2 rfl) ?_
    refine q_c2i C (fun r h => cr_V (As := []) (rest := [.int v634]) C (m_X7_anew l G F 231 σ103 r h) cb_X7_anew (rfl : kdX 231 = 7) (by decide) rfl (cf_7 (rfl : kdX 231 = 7) _) rfl kl_L_236 ⟨Nat.le_of_ble_eq_true rfl, Nat.le_of_ble_eq_true rfl⟩ hcs hl.1 rfl (Nat.le_of_ble_eq_true rfl) dL_law_1762 rfl) (fun v635 σ104 => ?_)
    refine q_icmp_eq C 2094 dL_law_1765 (by decide) ?_ ?_
    · exact B2094 K18 hK18 x633 σ104 ls (lv_sub hl [0, 1, 2, 3] rfl)
    · exact q_law0 rfl
  have B1770 : ∀ (K18 : Int → St → Option (Int)) (hK18 : ∀ (y0 : Int32) (σ : St) (ls : Array Slot), lv_has ls 4 [(0, .ref b), (1, .ref (gad G 0)), (2, .ref (gad G 231)), (3, .int y0)] → Sim G A nc ns p l e room_1 s m #[Value.ref b] below meth c (fun (r : Int) (t : State) => r = 1 → lw_Z below #[Value.ref b] s t) σ (K18 y0.toInt σ) (F0 m 18 ls [])), ∀  (x636 : Int32) (σ : St) (ls : Array Slot), lv_has ls 4 [(0, .ref b), (1, .ref (gad G 0)), (2, .ref (gad G 231)), (3, .int x636)] → Sim G A nc ns p l e room_1 s m #[Value.ref b] below meth c (fun (r : Int) (t : State) => r = 1 → lw_Z below #[Value.ref b] s t) σ (f_law_J1770 F L xs K18   x636.toInt σ) (F0 m 1770 ls []) := by
    intro K18 hK18
    intro x636 σ ls hl
    unfold f_law_J1770
    refine q_aload_n C dL_law_1770 rfl (lv_at hl 1 rfl) ?_
    refine q_aload_n C dL_law_1771 rfl (lv_at hl 0 rfl) ?_
    refine q_iload_n C dL_law_1772 rfl (lv_at hl 3 rfl) ?_
    refine q_iconst C dL_law_1773 rfl (by decide) (fun v637 => ?_)
    refine q_iadd C dL_law_1774 (fun v638 => ?_)
    refine q_xld C hX hbl hbA hxs dL_law_1775 (fun v639 => ?_)
    refine q_aload_n C dL_law_1776 rfl (lv_at hl 0 rfl) ?_
    refine q_iload_n C dL_law_1777 rfl (lv_at hl 3 rfl) ?_
    refine q_iconst C dL_law_1778 rfl (by decide) (fun v640 => ?_)
    refine q_iadd C dL_law_1779 (fun v641 => ?_)
    refine q_xld C hX hbl hbA hxs dL_law_1780 (fun v642 => ?_)
    refine q_c2i C (fun r h => cr_V (As := [.int v639, .int v642]) (rest := []) C (m_X6_drawn l G F 0 v639 v642 σ r h) cb_X6_drawn (rfl : kdX 0 = 6) (by decide) rfl (cf_6 (rfl : kdX 0 = 6) _) rfl kl_L_237 ⟨Nat.le_of_ble_eq_true rfl, Nat.le_of_ble_eq_true rfl⟩ hcs hl.1 rfl (Nat.le_of_ble_eq_true rfl) dL_law_1781 rfl) (fun v643 σ105 => ?_)
    refine q_aload_n C dL_law_1784 rfl (lv_at hl 2 rfl) ?_
    refine q_aload_n C dL_law_1785 rfl (lv_at hl 0 rfl) ?_
    refine q_iload_n C dL_law_1786 rfl (lv_at hl 3 rfl) ?_
    refine q_iconst C dL_law_1787 rfl (by decide) (fun v644 => ?_)
    refine q_iadd C dL_law_1788 (fun v645 => ?_)
    refine q_xld C hX hbl hbA hxs dL_law_1789 (fun v646 => ?_)
    refine q_aload_n C dL_law_1790 rfl (lv_at hl 0 rfl) ?_
    refine q_iload_n C dL_law_1791 rfl (lv_at hl 3 rfl) ?_
    refine q_iconst C dL_law_1792 rfl (by decide) (fun v647 => ?_)
    refine q_iadd C dL_law_1793 (fun v648 => ?_)
    refine q_xld C hX hbl hbA hxs dL_law_1794 (fun v649 => ?_)
    refine q_c2i C (fun r h => cr_V (As := [.int v646, .int v649]) (rest := [.int v643]) C (m_X7_drawn l G F 231 v646 v649 σ105 r h) cb_X7_drawn (rfl : kdX 231 = 7) (by decide) rfl (cf_7 (rfl : kdX 231 = 7) _) rfl kl_L_240 ⟨Nat.le_of_ble_eq_true rfl, Nat.le_of_ble_eq_true rfl⟩ hcs hl.1 rfl (Nat.le_of_ble_eq_true rfl) dL_law_1795 rfl) (fun v650 σ106 => ?_)
    refine q_icmp_eq C 2094 dL_law_1798 (by decide) ?_ ?_
    · exact B2094 K18 hK18 x636 σ106 ls (lv_sub hl [0, 1, 2, 3] rfl)
    · exact q_law0 rfl
  have B1803 : ∀ (K18 : Int → St → Option (Int)) (hK18 : ∀ (y0 : Int32) (σ : St) (ls : Array Slot), lv_has ls 4 [(0, .ref b), (1, .ref (gad G 0)), (2, .ref (gad G 231)), (3, .int y0)] → Sim G A nc ns p l e room_1 s m #[Value.ref b] below meth c (fun (r : Int) (t : State) => r = 1 → lw_Z below #[Value.ref b] s t) σ (K18 y0.toInt σ) (F0 m 18 ls [])), ∀  (x651 : Int32) (σ : St) (ls : Array Slot), lv_has ls 4 [(0, .ref b), (1, .ref (gad G 0)), (2, .ref (gad G 231)), (3, .int x651)] → Sim G A nc ns p l e room_1 s m #[Value.ref b] below meth c (fun (r : Int) (t : State) => r = 1 → lw_Z below #[Value.ref b] s t) σ (f_law_J1803 F L xs K18   x651.toInt σ) (F0 m 1803 ls []) := by
    intro K18 hK18
    intro x651 σ ls hl
    unfold f_law_J1803
    refine q_aload_n C dL_law_1803 rfl (lv_at hl 1 rfl) ?_
    refine q_aload_n C dL_law_1804 rfl (lv_at hl 0 rfl) ?_
    refine q_iload_n C dL_law_1805 rfl (lv_at hl 3 rfl) ?_
    refine q_iconst C dL_law_1806 rfl (by decide) (fun v652 => ?_)
    refine q_iadd C dL_law_1807 (fun v653 => ?_)
    refine q_xld C hX hbl hbA hxs dL_law_1808 (fun v654 => ?_)
    refine q_aload_n C dL_law_1809 rfl (lv_at hl 0 rfl) ?_
    refine q_iload_n C dL_law_1810 rfl (lv_at hl 3 rfl) ?_
    refine q_iconst C dL_law_1811 rfl (by decide) (fun v655 => ?_)
    refine q_iadd C dL_law_1812 (fun v656 => ?_)
    refine q_xld C hX hbl hbA hxs dL_law_1813 (fun v657 => ?_)
    refine q_aload_n C dL_law_1814 rfl (lv_at hl 0 rfl) ?_
    refine q_iload_n C dL_law_1815 rfl (lv_at hl 3 rfl) ?_
    refine q_iconst C dL_law_1816 rfl (by decide) (fun v658 => ?_)
    refine q_iadd C dL_law_1817 (fun v659 => ?_)
    refine q_xld C hX hbl hbA hxs dL_law_1818 (fun v660 => ?_)
    refine q_c2i C (fun r h => cr_V (As := [.int v654, .int v657, .int v660]) (rest := []) C (m_X6_luck l G F 0 v654 v657 v660 σ r h) cb_X6_luck (rfl : kdX 0 = 6) (by decide) rfl (cf_6 (rfl : kdX 0 = 6) _) rfl kl_L_241 ⟨Nat.le_of_ble_eq_true rfl, Nat.le_of_ble_eq_true rfl⟩ hcs hl.1 rfl (Nat.le_of_ble_eq_true rfl) dL_law_1819 rfl) (fun v661 σ107 => ?_)
    refine q_aload_n C dL_law_1822 rfl (lv_at hl 2 rfl) ?_
    refine q_aload_n C dL_law_1823 rfl (lv_at hl 0 rfl) ?_
    refine q_iload_n C dL_law_1824 rfl (lv_at hl 3 rfl) ?_
    refine q_iconst C dL_law_1825 rfl (by decide) (fun v662 => ?_)
    refine q_iadd C dL_law_1826 (fun v663 => ?_)
    refine q_xld C hX hbl hbA hxs dL_law_1827 (fun v664 => ?_)
    refine q_aload_n C dL_law_1828 rfl (lv_at hl 0 rfl) ?_
    refine q_iload_n C dL_law_1829 rfl (lv_at hl 3 rfl) ?_
    refine q_iconst C dL_law_1830 rfl (by decide) (fun v665 => ?_)
    refine q_iadd C dL_law_1831 (fun v666 => ?_)
    refine q_xld C hX hbl hbA hxs dL_law_1832 (fun v667 => ?_)
    refine q_aload_n C dL_law_1833 rfl (lv_at hl 0 rfl) ?_
    refine q_iload_n C dL_law_1834 rfl (lv_at hl 3 rfl) ?_
    refine q_iconst C dL_law_1835 rfl (by decide) (fun v668 => ?_)
    refine q_iadd C dL_law_1836 (fun v669 => ?_)
    refine q_xld C hX hbl hbA hxs dL_law_1837 (fun v670 => ?_)
    refine q_c2i C (fun r h => cr_V (As := [.int v664, .int v667, .int v670]) (rest := [.int v661]) C (m_X7_luck l G F 231 v664 v667 v670 σ107 r h) cb_X7_luck (rfl : kdX 231 = 7) (by decide) rfl (cf_7 (rfl : kdX 231 = 7) _) rfl kl_L_244 ⟨Nat.le_of_ble_eq_true rfl, Nat.le_of_ble_eq_true rfl⟩ hcs hl.1 rfl (Nat.le_of_ble_eq_true rfl) dL_law_1838 rfl) (fun v671 σ108 => ?_)
    refine q_icmp_eq C 2094 dL_law_1841 (by decide) ?_ ?_
    · exact B2094 K18 hK18 x651 σ108 ls (lv_sub hl [0, 1, 2, 3] rfl)
    · exact q_law0 rfl
  have B1846 : ∀ (K18 : Int → St → Option (Int)) (hK18 : ∀ (y0 : Int32) (σ : St) (ls : Array Slot), lv_has ls 4 [(0, .ref b), (1, .ref (gad G 0)), (2, .ref (gad G 231)), (3, .int y0)] → Sim G A nc ns p l e room_1 s m #[Value.ref b] below meth c (fun (r : Int) (t : State) => r = 1 → lw_Z below #[Value.ref b] s t) σ (K18 y0.toInt σ) (F0 m 18 ls [])), ∀  (x672 : Int32) (σ : St) (ls : Array Slot), lv_has ls 4 [(0, .ref b), (1, .ref (gad G 0)), (2, .ref (gad G 231)), (3, .int x672)] → Sim G A nc ns p l e room_1 s m #[Value.ref b] below meth c (fun (r : Int) (t : State) => r = 1 → lw_Z below #[Value.ref b] s t) σ (f_law_J1846 F L xs K18   x672.toInt σ) (F0 m 1846 ls []) := by
    intro K18 hK18
    intro x672 σ ls hl
    unfold f_law_J1846
    refine q_aload_n C dL_law_1846 rfl (lv_at hl 1 rfl) ?_
    refine q_aload_n C dL_law_1847 rfl (lv_at hl 0 rfl) ?_
    refine q_iload_n C dL_law_1848 rfl (lv_at hl 3 rfl) ?_
    refine q_iconst C dL_law_1849 rfl (by decide) (fun v673 => ?_)
    refine q_iadd C dL_law_1850 (fun v674 => ?_)
    refine q_xld C hX hbl hbA hxs dL_law_1851 (fun v675 => ?_)
    refine q_c1i C (fun r h => cr_V (As := [.int v675]) (rest := []) C (m_X6_count l G F 0 v675 σ r h) cb_X6_count (rfl : kdX 0 = 6) (by decide) rfl (cf_6 (rfl : kdX 0 = 6) _) rfl kl_L_245 ⟨Nat.le_of_ble_eq_true rfl, Nat.le_of_ble_eq_true rfl⟩ hcs hl.1 rfl (Nat.le_of_ble_eq_true rfl) dL_law_1852 rfl) (fun v676 => ?_)
    refine q_aload_n C dL_law_1855 rfl (lv_at hl 2 rfl) ?_
    refine q_aload_n C dL_law_1856 rfl (lv_at hl 0 rfl) ?_
    refine q_iload_n C dL_law_1857 rfl (lv_at hl 3 rfl) ?_
    refine q_iconst C dL_law_1858 rfl (by decide) (fun v677 => ?_)
    refine q_iadd C dL_law_1859 (fun v678 => ?_)
    refine q_xld C hX hbl hbA hxs dL_law_1860 (fun v679 => ?_)
    refine q_c1i C (fun r h => cr_V (As := [.int v679]) (rest := [.int v676]) C (m_X7_count l G F 231 v679 σ r h) cb_X7_count (rfl : kdX 231 = 7) (by decide) rfl (cf_7 (rfl : kdX 231 = 7) _) rfl kl_L_248 ⟨Nat.le_of_ble_eq_true rfl, Nat.le_of_ble_eq_true rfl⟩ hcs hl.1 rfl (Nat.le_of_ble_eq_true rfl) dL_law_1861 rfl) (fun v680 => ?_)
    refine q_icmp_eq C 2094 dL_law_1864 (by decide) ?_ ?_
    · exact B2094 K18 hK18 x672 σ ls (lv_sub hl [0, 1, 2, 3] rfl)
    · exact q_law0 rfl
  have B1869 : ∀ (K18 : Int → St → Option (Int)) (hK18 : ∀ (y0 : Int32) (σ : St) (ls : Array Slot), lv_has ls 4 [(0, .ref b), (1, .ref (gad G 0)), (2, .ref (gad G 231)), (3, .int y0)] → Sim G A nc ns p l e room_1 s m #[Value.ref b] below meth c (fun (r : Int) (t : State) => r = 1 → lw_Z below #[Value.ref b] s t) σ (K18 y0.toInt σ) (F0 m 18 ls [])), ∀  (x681 : Int32) (σ : St) (ls : Array Slot), lv_has ls 4 [(0, .ref b), (1, .ref (gad G 0)), (2, .ref (gad G 231)), (3, .int x681)] → Sim G A nc ns p l e room_1 s m #[Value.ref b] below meth c (fun (r : Int) (t : State) => r = 1 → lw_Z below #[Value.ref b] s t) σ (f_law_J1869 F L xs K18   x681.toInt σ) (F0 m 1869 ls []) := by
    intro K18 hK18
    intro x681 σ ls hl
    unfold f_law_J1869
    refine q_aload_n C dL_law_1869 rfl (lv_at hl 1 rfl) ?_
    refine q_aload_n C dL_law_1870 rfl (lv_at hl 0 rfl) ?_
    refine q_iload_n C dL_law_1871 rfl (lv_at hl 3 rfl) ?_
    refine q_iconst C dL_law_1872 rfl (by decide) (fun v682 => ?_)
    refine q_iadd C dL_law_1873 (fun v683 => ?_)
    refine q_xld C hX hbl hbA hxs dL_law_1874 (fun v684 => ?_)
    refine q_c2i C (fun r h => cr_V (As := [.int v684]) (rest := []) C (m_X6_image l G F 0 v684 σ r h) cb_X6_image (rfl : kdX 0 = 6) (by decide) rfl (cf_6 (rfl : kdX 0 = 6) _) rfl kl_L_249 ⟨Nat.le_of_ble_eq_true rfl, Nat.le_of_ble_eq_true rfl⟩ hcs hl.1 rfl (Nat.le_of_ble_eq_true rfl) dL_law_1875 rfl) (fun v685 σ109 => ?_)
    refine q_aload_n C dL_law_1878 rfl (lv_at hl 2 rfl) ?_
    refine q_aload_n C dL_law_1879 rfl (lv_at hl 0 rfl) ?_
    refine q_iload_n C dL_law_1880 rfl (lv_at hl 3 rfl) ?_
    refine q_iconst C dL_law_1881 rfl (by decide) (fun v686 => ?_)
    refine q_iadd C dL_law_1882 (fun v687 => ?_)
    refine q_xld C hX hbl hbA hxs dL_law_1883 (fun v688 => ?_)
    refine q_c2i C (fun r h => cr_V (As := [.int v688]) (rest := [.int v685]) C (m_X7_image l G F 231 v688 σ109 r h) cb_X7_image (rfl : kdX 231 = 7) (by decide) rfl (cf_7 (rfl : kdX 231 = 7) _) rfl kl_L_252 ⟨Nat.le_of_ble_eq_true rfl, Nat.le_of_ble_eq_true rfl⟩ hcs hl.1 rfl (Nat.le_of_ble_eq_true rfl) dL_law_1884 rfl) (fun v689 σ110 => ?_)
    refine q_icmp_eq C 2094 dL_law_1887 (by decide) ?_ ?_
    · exact B2094 K18 hK18 x681 σ110 ls (lv_sub hl [0, 1, 2, 3] rfl)
    · exact q_law0 rfl
  have B1892 : ∀ (K18 : Int → St → Option (Int)) (hK18 : ∀ (y0 : Int32) (σ : St) (ls : Array Slot), lv_has ls 4 [(0, .ref b), (1, .ref (gad G 0)), (2, .ref (gad G 231)), (3, .int y0)] → Sim G A nc ns p l e room_1 s m #[Value.ref b] below meth c (fun (r : Int) (t : State) => r = 1 → lw_Z below #[Value.ref b] s t) σ (K18 y0.toInt σ) (F0 m 18 ls [])), ∀  (x690 : Int32) (σ : St) (ls : Array Slot), lv_has ls 4 [(0, .ref b), (1, .ref (gad G 0)), (2, .ref (gad G 231)), (3, .int x690)] → Sim G A nc ns p l e room_1 s m #[Value.ref b] below meth c (fun (r : Int) (t : State) => r = 1 → lw_Z below #[Value.ref b] s t) σ (f_law_J1892 F L xs K18   x690.toInt σ) (F0 m 1892 ls []) := by
    intro K18 hK18
    intro x690 σ ls hl
    unfold f_law_J1892
    refine q_aload_n C dL_law_1892 rfl (lv_at hl 1 rfl) ?_
    refine q_aload_n C dL_law_1893 rfl (lv_at hl 0 rfl) ?_
    refine q_iload_n C dL_law_1894 rfl (lv_at hl 3 rfl) ?_
    refine q_iconst C dL_law_1895 rfl (by decide) (fun v691 => ?_)
    refine q_iadd C dL_law_1896 (fun v692 => ?_)
    refine q_xld C hX hbl hbA hxs dL_law_1897 (fun v693 => ?_)
    refine q_c2i C (fun r h => cr_V (As := [.int v693]) (rest := []) C (m_X6_back l G F 0 v693 σ r h) cb_X6_back (rfl : kdX 0 = 6) (by decide) rfl (cf_6 (rfl : kdX 0 = 6) _) rfl kl_L_253 ⟨Nat.le_of_ble_eq_true rfl, Nat.le_of_ble_eq_true rfl⟩ hcs hl.1 rfl (Nat.le_of_ble_eq_true rfl) dL_law_1898 rfl) (fun v694 σ111 => ?_)
    refine q_aload_n C dL_law_1901 rfl (lv_at hl 2 rfl) ?_
    refine q_aload_n C dL_law_1902 rfl (lv_at hl 0 rfl) ?_
    refine q_iload_n C dL_law_1903 rfl (lv_at hl 3 rfl) ?_
    refine q_iconst C dL_law_1904 rfl (by decide) (fun v695 => ?_)
    refine q_iadd C dL_law_1905 (fun v696 => ?_)
    refine q_xld C hX hbl hbA hxs dL_law_1906 (fun v697 => ?_)
    refine q_c2i C (fun r h => cr_V (As := [.int v697]) (rest := [.int v694]) C (m_X7_back l G F 231 v697 σ111 r h) cb_X7_back (rfl : kdX 231 = 7) (by decide) rfl (cf_7 (rfl : kdX 231 = 7) _) rfl kl_L_256 ⟨Nat.le_of_ble_eq_true rfl, Nat.le_of_ble_eq_true rfl⟩ hcs hl.1 rfl (Nat.le_of_ble_eq_true rfl) dL_law_1907 rfl) (fun v698 σ112 => ?_)
    refine q_icmp_eq C 2094 dL_law_1910 (by decide) ?_ ?_
    · exact B2094 K18 hK18 x690 σ112 ls (lv_sub hl [0, 1, 2, 3] rfl)
    · exact q_law0 rfl
  have B1915 : ∀ (K18 : Int → St → Option (Int)) (hK18 : ∀ (y0 : Int32) (σ : St) (ls : Array Slot), lv_has ls 4 [(0, .ref b), (1, .ref (gad G 0)), (2, .ref (gad G 231)), (3, .int y0)] → Sim G A nc ns p l e room_1 s m #[Value.ref b] below meth c (fun (r : Int) (t : State) => r = 1 → lw_Z below #[Value.ref b] s t) σ (K18 y0.toInt σ) (F0 m 18 ls [])), ∀  (x699 : Int32) (σ : St) (ls : Array Slot), lv_has ls 4 [(0, .ref b), (1, .ref (gad G 0)), (2, .ref (gad G 231)), (3, .int x699)] → Sim G A nc ns p l e room_1 s m #[Value.ref b] below meth c (fun (r : Int) (t : State) => r = 1 → lw_Z below #[Value.ref b] s t) σ (f_law_J1915 F L xs K18   x699.toInt σ) (F0 m 1915 ls []) := by
    intro K18 hK18
    intro x699 σ ls hl
    unfold f_law_J1915
    refine q_aload_n C dL_law_1915 rfl (lv_at hl 1 rfl) ?_
    refine q_aload_n C dL_law_1916 rfl (lv_at hl 0 rfl) ?_
    refine q_iload_n C dL_law_1917 rfl (lv_at hl 3 rfl) ?_
    refine q_iconst C dL_law_1918 rfl (by decide) (fun v700 => ?_)
    refine q_iadd C dL_law_1919 (fun v701 => ?_)
    refine q_xld C hX hbl hbA hxs dL_law_1920 (fun v702 => ?_)
    refine q_aload_n C dL_law_1921 rfl (lv_at hl 0 rfl) ?_
    refine q_iload_n C dL_law_1922 rfl (lv_at hl 3 rfl) ?_
    refine q_iconst C dL_law_1923 rfl (by decide) (fun v703 => ?_)
    refine q_iadd C dL_law_1924 (fun v704 => ?_)
    refine q_xld C hX hbl hbA hxs dL_law_1925 (fun v705 => ?_)
    refine q_aload_n C dL_law_1926 rfl (lv_at hl 0 rfl) ?_
    refine q_iload_n C dL_law_1927 rfl (lv_at hl 3 rfl) ?_
    refine q_iconst C dL_law_1928 rfl (by decide) (fun v706 => ?_)
    refine q_iadd C dL_law_1929 (fun v707 => ?_)
    refine q_xld C hX hbl hbA hxs dL_law_1930 (fun v708 => ?_)
    refine q_c2i C (fun r h => cr_V (As := [.int v702, .int v705, .int v708]) (rest := []) C (m_X6_row l G F 0 v702 v705 v708 σ r h) cb_X6_row (rfl : kdX 0 = 6) (by decide) rfl (cf_6 (rfl : kdX 0 = 6) _) rfl kl_L_257 ⟨Nat.le_of_ble_eq_true rfl, Nat.le_of_ble_eq_true rfl⟩ hcs hl.1 rfl (Nat.le_of_ble_eq_true rfl) dL_law_1931 rfl) (fun v709 σ113 => ?_)
    refine q_aload_n C dL_law_1934 rfl (lv_at hl 2 rfl) ?_
    refine q_aload_n C dL_law_1935 rfl (lv_at hl 0 rfl) ?_
    refine q_iload_n C dL_law_1936 rfl (lv_at hl 3 rfl) ?_
    refine q_iconst C dL_law_1937 rfl (by decide) (fun v710 => ?_)
    refine q_iadd C dL_law_1938 (fun v711 => ?_)
    refine q_xld C hX hbl hbA hxs dL_law_1939 (fun v712 => ?_)
    refine q_aload_n C dL_law_1940 rfl (lv_at hl 0 rfl) ?_
    refine q_iload_n C dL_law_1941 rfl (lv_at hl 3 rfl) ?_
    refine q_iconst C dL_law_1942 rfl (by decide) (fun v713 => ?_)
    refine q_iadd C dL_law_1943 (fun v714 => ?_)
    refine q_xld C hX hbl hbA hxs dL_law_1944 (fun v715 => ?_)
    refine q_aload_n C dL_law_1945 rfl (lv_at hl 0 rfl) ?_
    refine q_iload_n C dL_law_1946 rfl (lv_at hl 3 rfl) ?_
    refine q_iconst C dL_law_1947 rfl (by decide) (fun v716 => ?_)
    refine q_iadd C dL_law_1948 (fun v717 => ?_)
    refine q_xld C hX hbl hbA hxs dL_law_1949 (fun v718 => ?_)
    refine q_c2i C (fun r h => cr_V (As := [.int v712, .int v715, .int v718]) (rest := [.int v709]) C (m_X7_row l G F 231 v712 v715 v718 σ113 r h) cb_X7_row (rfl : kdX 231 = 7) (by decide) rfl (cf_7 (rfl : kdX 231 = 7) _) rfl kl_L_260 ⟨Nat.le_of_ble_eq_true rfl, Nat.le_of_ble_eq_true rfl⟩ hcs hl.1 rfl (Nat.le_of_ble_eq_true rfl) dL_law_1950 rfl) (fun v719 σ114 => ?_)
    refine q_icmp_eq C 2094 dL_law_1953 (by decide) ?_ ?_
    · exact B2094 K18 hK18 x699 σ114 ls (lv_sub hl [0, 1, 2, 3] rfl)
    · exact q_law0 rfl
  have B1958 : ∀ (K18 : Int → St → Option (Int)) (hK18 : ∀ (y0 : Int32) (σ : St) (ls : Array Slot), lv_has ls 4 [(0, .ref b), (1, .ref (gad G 0)), (2, .ref (gad G 231)), (3, .int y0)] → Sim G A nc ns p l e room_1 s m #[Value.ref b] below meth c (fun (r : Int) (t : State) => r = 1 → lw_Z below #[Value.ref b] s t) σ (K18 y0.toInt σ) (F0 m 18 ls [])), ∀  (x720 : Int32) (σ : St) (ls : Array Slot), lv_has ls 4 [(0, .ref b), (1, .ref (gad G 0)), (2, .ref (gad G 231)), (3, .int x720)] → Sim G A nc ns p l e room_1 s m #[Value.ref b] below meth c (fun (r : Int) (t : State) => r = 1 → lw_Z below #[Value.ref b] s t) σ (f_law_J1958 F L xs K18   x720.toInt σ) (F0 m 1958 ls []) := by
    intro K18 hK18
    intro x720 σ ls hl
    unfold f_law_J1958
    refine q_aload_n C dL_law_1958 rfl (lv_at hl 1 rfl) ?_
    refine q_aload_n C dL_law_1959 rfl (lv_at hl 0 rfl) ?_
    refine q_iload_n C dL_law_1960 rfl (lv_at hl 3 rfl) ?_
    refine q_iconst C dL_law_1961 rfl (by decide) (fun v721 => ?_)
    refine q_iadd C dL_law_1962 (fun v722 => ?_)
    refine q_xld C hX hbl hbA hxs dL_law_1963 (fun v723 => ?_)
    refine q_aload_n C dL_law_1964 rfl (lv_at hl 0 rfl) ?_
    refine q_iload_n C dL_law_1965 rfl (lv_at hl 3 rfl) ?_
    refine q_iconst C dL_law_1966 rfl (by decide) (fun v724 => ?_)
    refine q_iadd C dL_law_1967 (fun v725 => ?_)
    refine q_xld C hX hbl hbA hxs dL_law_1968 (fun v726 => ?_)
    refine q_aload_n C dL_law_1969 rfl (lv_at hl 0 rfl) ?_
    refine q_iload_n C dL_law_1970 rfl (lv_at hl 3 rfl) ?_
    refine q_iconst C dL_law_1971 rfl (by decide) (fun v727 => ?_)
    refine q_iadd C dL_law_1972 (fun v728 => ?_)
    refine q_xld C hX hbl hbA hxs dL_law_1973 (fun v729 => ?_)
    refine q_i2l C dL_law_1974 (fun v730 => ?_)
    refine q_bipush C dL_law_1975 rfl (by decide) (fun v731 => ?_)
    refine q_lshl C dL_law_1977 (fun v732 => ?_)
    refine q_aload_n C dL_law_1978 rfl (lv_at hl 0 rfl) ?_
    refine q_iload_n C dL_law_1979 rfl (lv_at hl 3 rfl) ?_
    refine q_iconst C dL_law_1980 rfl (by decide) (fun v733 => ?_)
    refine q_iadd C dL_law_1981 (fun v734 => ?_)
    refine q_xld C hX hbl hbA hxs dL_law_1982 (fun v735 => ?_)
    refine q_i2l C dL_law_1983 (fun v736 => ?_)
    refine q_ldc2 C kk_L_261 dL_law_1984 (by decide) (fun v737 => ?_)
    refine q_land C dL_law_1987 (fun v738 => ?_)
    refine q_lor C dL_law_1988 (fun v739 => ?_)
    refine q_c2i C (fun r h => cr_V (As := [.int v723, .int v726, .long v739]) (rest := []) C (m_X6_write l G F 0 v723 v726 v739 σ r h) cb_X6_write (rfl : kdX 0 = 6) (by decide) rfl (cf_6 (rfl : kdX 0 = 6) _) rfl kl_L_263 ⟨Nat.le_of_ble_eq_true rfl, Nat.le_of_ble_eq_true rfl⟩ hcs hl.1 rfl (Nat.le_of_ble_eq_true rfl) dL_law_1989 rfl) (fun v740 σ115 => ?_)
    refine q_aload_n C dL_law_1992 rfl (lv_at hl 2 rfl) ?_
    refine q_aload_n C dL_law_1993 rfl (lv_at hl 0 rfl) ?_
    refine q_iload_n C dL_law_1994 rfl (lv_at hl 3 rfl) ?_
    refine q_iconst C dL_law_1995 rfl (by decide) (fun v741 => ?_)
    refine q_iadd C dL_law_1996 (fun v742 => ?_)
    refine q_xld C hX hbl hbA hxs dL_law_1997 (fun v743 => ?_)
    refine q_aload_n C dL_law_1998 rfl (lv_at hl 0 rfl) ?_
    refine q_iload_n C dL_law_1999 rfl (lv_at hl 3 rfl) ?_
    refine q_iconst C dL_law_2000 rfl (by decide) (fun v744 => ?_)
    refine q_iadd C dL_law_2001 (fun v745 => ?_)
    refine q_xld C hX hbl hbA hxs dL_law_2002 (fun v746 => ?_)
    refine q_aload_n C dL_law_2003 rfl (lv_at hl 0 rfl) ?_
    refine q_iload_n C dL_law_2004 rfl (lv_at hl 3 rfl) ?_
    refine q_iconst C dL_law_2005 rfl (by decide) (fun v747 => ?_)
    refine q_iadd C dL_law_2006 (fun v748 => ?_)
    refine q_xld C hX hbl hbA hxs dL_law_2007 (fun v749 => ?_)
    refine q_i2l C dL_law_2008 (fun v750 => ?_)
    refine q_bipush C dL_law_2009 rfl (by decide) (fun v751 => ?_)
    refine q_lshl C dL_law_2011 (fun v752 => ?_)
    refine q_aload_n C dL_law_2012 rfl (lv_at hl 0 rfl) ?_
    refine q_iload_n C dL_law_2013 rfl (lv_at hl 3 rfl) ?_
    refine q_iconst C dL_law_2014 rfl (by decide) (fun v753 => ?_)
    refine q_iadd C dL_law_2015 (fun v754 => ?_)
    refine q_xld C hX hbl hbA hxs dL_law_2016 (fun v755 => ?_)
    refine q_i2l C dL_law_2017 (fun v756 => ?_)
    refine q_ldc2 C kk_L_261 dL_law_2018 (by decide) (fun v757 => ?_)
    refine q_land C dL_law_2021 (fun v758 => ?_)
    refine q_lor C dL_law_2022 (fun v759 => ?_)
    refine q_c2i C (fun r h => cr_V (As := [.int v743, .int v746, .long v759]) (rest := [.int v740]) C (m_X7_write l G F 231 v743 v746 v759 σ115 r h) cb_X7_write (rfl : kdX 231 = 7) (by decide) rfl (cf_7 (rfl : kdX 231 = 7) _) rfl kl_L_267 ⟨Nat.le_of_ble_eq_true rfl, Nat.le_of_ble_eq_true rfl⟩ hcs hl.1 rfl (Nat.le_of_ble_eq_true rfl) dL_law_2023 rfl) (fun v760 σ116 => ?_)
    refine q_icmp_eq C 2094 dL_law_2026 (by decide) ?_ ?_
    · exact B2094 K18 hK18 x720 σ116 ls (lv_sub hl [0, 1, 2, 3] rfl)
    · exact q_law0 rfl
  have B2031 : ∀ (K18 : Int → St → Option (Int)) (hK18 : ∀ (y0 : Int32) (σ : St) (ls : Array Slot), lv_has ls 4 [(0, .ref b), (1, .ref (gad G 0)), (2, .ref (gad G 231)), (3, .int y0)] → Sim G A nc ns p l e room_1 s m #[Value.ref b] below meth c (fun (r : Int) (t : State) => r = 1 → lw_Z below #[Value.ref b] s t) σ (K18 y0.toInt σ) (F0 m 18 ls [])), ∀  (x761 : Int32) (σ : St) (ls : Array Slot), lv_has ls 4 [(0, .ref b), (1, .ref (gad G 0)), (2, .ref (gad G 231)), (3, .int x761)] → Sim G A nc ns p l e room_1 s m #[Value.ref b] below meth c (fun (r : Int) (t : State) => r = 1 → lw_Z below #[Value.ref b] s t) σ (f_law_J2031 F L xs K18   x761.toInt σ) (F0 m 2031 ls []) := by
    intro K18 hK18
    intro x761 σ ls hl
    unfold f_law_J2031
    refine q_aload_n C dL_law_2031 rfl (lv_at hl 1 rfl) ?_
    refine q_aload_n C dL_law_2032 rfl (lv_at hl 0 rfl) ?_
    refine q_iload_n C dL_law_2033 rfl (lv_at hl 3 rfl) ?_
    refine q_iconst C dL_law_2034 rfl (by decide) (fun v762 => ?_)
    refine q_iadd C dL_law_2035 (fun v763 => ?_)
    refine q_xld C hX hbl hbA hxs dL_law_2036 (fun v764 => ?_)
    refine q_aload_n C dL_law_2037 rfl (lv_at hl 0 rfl) ?_
    refine q_iload_n C dL_law_2038 rfl (lv_at hl 3 rfl) ?_
    refine q_iconst C dL_law_2039 rfl (by decide) (fun v765 => ?_)
    refine q_iadd C dL_law_2040 (fun v766 => ?_)
    refine q_xld C hX hbl hbA hxs dL_law_2041 (fun v767 => ?_)
    refine q_aload_n C dL_law_2042 rfl (lv_at hl 0 rfl) ?_
    refine q_iload_n C dL_law_2043 rfl (lv_at hl 3 rfl) ?_
    refine q_iconst C dL_law_2044 rfl (by decide) (fun v768 => ?_)
    refine q_iadd C dL_law_2045 (fun v769 => ?_)
    refine q_xld C hX hbl hbA hxs dL_law_2046 (fun v770 => ?_)
    refine q_aload_n C dL_law_2047 rfl (lv_at hl 0 rfl) ?_
    refine q_iload_n C dL_law_2048 rfl (lv_at hl 3 rfl) ?_
    refine q_iconst C dL_law_2049 rfl (by decide) (fun v771 => ?_)
    refine q_iadd C dL_law_2050 (fun v772 => ?_)
    refine q_xld C hX hbl hbA hxs dL_law_2051 (fun v773 => ?_)
    refine q_aload_n C dL_law_2052 rfl (lv_at hl 0 rfl) ?_
    refine q_iload_n C dL_law_2053 rfl (lv_at hl 3 rfl) ?_
    refine q_iconst C dL_law_2054 rfl (by decide) (fun v774 => ?_)
    refine q_iadd C dL_law_2055 (fun v775 => ?_)
    refine q_xld C hX hbl hbA hxs dL_law_2056 (fun v776 => ?_)
    refine q_c2i C (fun r h => cr_V (As := [.int v764, .int v767, .int v770, .int v773, .int v776]) (rest := []) C (m_X6_paste l G F 0 v764 v767 v770 v773 v776 σ r h) cb_X6_paste (rfl : kdX 0 = 6) (by decide) rfl (cf_6 (rfl : kdX 0 = 6) _) rfl kl_L_268 ⟨Nat.le_of_ble_eq_true rfl, Nat.le_of_ble_eq_true rfl⟩ hcs hl.1 rfl (Nat.le_of_ble_eq_true rfl) dL_law_2057 rfl) (fun v777 σ117 => ?_)
    refine q_aload_n C dL_law_2060 rfl (lv_at hl 2 rfl) ?_
    refine q_aload_n C dL_law_2061 rfl (lv_at hl 0 rfl) ?_
    refine q_iload_n C dL_law_2062 rfl (lv_at hl 3 rfl) ?_
    refine q_iconst C dL_law_2063 rfl (by decide) (fun v778 => ?_)
    refine q_iadd C dL_law_2064 (fun v779 => ?_)
    refine q_xld C hX hbl hbA hxs dL_law_2065 (fun v780 => ?_)
    refine q_aload_n C dL_law_2066 rfl (lv_at hl 0 rfl) ?_
    refine q_iload_n C dL_law_2067 rfl (lv_at hl 3 rfl) ?_
    refine q_iconst C dL_law_2068 rfl (by decide) (fun v781 => ?_)
    refine q_iadd C dL_law_2069 (fun v782 => ?_)
    refine q_xld C hX hbl hbA hxs dL_law_2070 (fun v783 => ?_)
    refine q_aload_n C dL_law_2071 rfl (lv_at hl 0 rfl) ?_
    refine q_iload_n C dL_law_2072 rfl (lv_at hl 3 rfl) ?_
    refine q_iconst C dL_law_2073 rfl (by decide) (fun v784 => ?_)
    refine q_iadd C dL_law_2074 (fun v785 => ?_)
    refine q_xld C hX hbl hbA hxs dL_law_2075 (fun v786 => ?_)
    refine q_aload_n C dL_law_2076 rfl (lv_at hl 0 rfl) ?_
    refine q_iload_n C dL_law_2077 rfl (lv_at hl 3 rfl) ?_
    refine q_iconst C dL_law_2078 rfl (by decide) (fun v787 => ?_)
    refine q_iadd C dL_law_2079 (fun v788 => ?_)
    refine q_xld C hX hbl hbA hxs dL_law_2080 (fun v789 => ?_)
    refine q_aload_n C dL_law_2081 rfl (lv_at hl 0 rfl) ?_
    refine q_iload_n C dL_law_2082 rfl (lv_at hl 3 rfl) ?_
    refine q_iconst C dL_law_2083 rfl (by decide) (fun v790 => ?_)
    refine q_iadd C dL_law_2084 (fun v791 => ?_)
    refine q_xld C hX hbl hbA hxs dL_law_2085 (fun v792 => ?_)
    refine q_c2i C (fun r h => cr_V (As := [.int v780, .int v783, .int v786, .int v789, .int v792]) (rest := [.int v777]) C (m_X7_paste l G F 231 v780 v783 v786 v789 v792 σ117 r h) cb_X7_paste (rfl : kdX 231 = 7) (by decide) rfl (cf_7 (rfl : kdX 231 = 7) _) rfl kl_L_271 ⟨Nat.le_of_ble_eq_true rfl, Nat.le_of_ble_eq_true rfl⟩ hcs hl.1 rfl (Nat.le_of_ble_eq_true rfl) dL_law_2086 rfl) (fun v793 σ118 => ?_)
    refine q_icmp_eq C 2094 dL_law_2089 (by decide) ?_ ?_
    · exact B2094 K18 hK18 x761 σ118 ls (lv_sub hl [0, 1, 2, 3] rfl)
    · exact q_law0 rfl
  have B18 : ∀ (n : Nat) (x1 : Int32) (σ : St) (ls : Array Slot), lv_has ls 4 [(0, .ref b), (1, .ref (gad G 0)), (2, .ref (gad G 231)), (3, .int x1)] → Sim G A nc ns p l e room_1 s m #[Value.ref b] below meth c (fun (r : Int) (t : State) => r = 1 → lw_Z below #[Value.ref b] s t) σ (f_law_L18 F L xs   n x1.toInt σ) (F0 m 18 ls []) := by
    intro n
    induction n with
    | zero =>
      intro x1 σ ls hl
      exact sim_none
    | succ n ih =>
      intro x1 σ ls hl
      rw [f_law_L18]
      refine q_iload_n C dL_law_18 rfl (lv_at hl 3 rfl) ?_
      refine q_aload_n C dL_law_19 rfl (lv_at hl 0 rfl) ?_
      refine q_xlen C hL hX hbl hbA dL_law_20 (fun v2 => ?_)
      refine q_bipush C dL_law_21 rfl (by decide) (fun v3 => ?_)
      refine q_isub C dL_law_23 (fun v4 => ?_)
      refine q_icmp_gt C 2100 dL_law_24 (by decide) ?_ ?_
      · exact q_law1 C hAe hcs hr hlocks dL_law_2100 dL_law_2101
      · refine q_aload_n C dL_law_27 rfl (lv_at hl 0 rfl) ?_
        refine q_iload_n C dL_law_28 rfl (lv_at hl 3 rfl) ?_
        refine q_xld C hX hbl hbA hxs dL_law_29 (fun v5 => ?_)
        refine q_bipush C dL_law_30 rfl (by decide) (fun v6 => ?_)
        refine q_iand C dL_law_32 (fun v7 => ?_)
        refine q_ite (fun e0 => ?_) (fun e0 => ?_) _
        · refine q_tin C 296 e0 dL_law_33 (by decide) (by decide) rfl (by decide) ?_
          exact B296 (f_law_L18 F L xs n) ih x1 σ ls (lv_sub hl [0, 1, 2, 3] rfl)
        refine q_ite (fun e1 => ?_) (fun e1 => ?_) _
        · refine q_tin C 359 e1 dL_law_33 (by decide) (by decide) rfl (by decide) ?_
          exact B359 (f_law_L18 F L xs n) ih x1 σ ls (lv_sub hl [0, 1, 2, 3] rfl)
        refine q_ite (fun e2 => ?_) (fun e2 => ?_) _
        · refine q_tin C 382 e2 dL_law_33 (by decide) (by decide) rfl (by decide) ?_
          exact B382 (f_law_L18 F L xs n) ih x1 σ ls (lv_sub hl [0, 1, 2, 3] rfl)
        refine q_ite (fun e3 => ?_) (fun e3 => ?_) _
        · refine q_tin C 395 e3 dL_law_33 (by decide) (by decide) rfl (by decide) ?_
          exact B395 (f_law_L18 F L xs n) ih x1 σ ls (lv_sub hl [0, 1, 2, 3] rfl)
        refine q_ite (fun e4 => ?_) (fun e4 => ?_) _
        · refine q_tin C 418 e4 dL_law_33 (by decide) (by decide) rfl (by decide) ?_
          exact B418 (f_law_L18 F L xs n) ih x1 σ ls (lv_sub hl [0, 1, 2, 3] rfl)
        refine q_ite (fun e5 => ?_) (fun e5 => ?_) _
        · refine q_tin C 451 e5 dL_law_33 (by decide) (by decide) rfl (by decide) ?_
          exact B451 (f_law_L18 F L xs n) ih x1 σ ls (lv_sub hl [0, 1, 2, 3] rfl)
        refine q_ite (fun e6 => ?_) (fun e6 => ?_) _
        · refine q_tin C 474 e6 dL_law_33 (by decide) (by decide) rfl (by decide) ?_
          exact B474 (f_law_L18 F L xs n) ih x1 σ ls (lv_sub hl [0, 1, 2, 3] rfl)
        refine q_ite (fun e7 => ?_) (fun e7 => ?_) _
        · refine q_tin C 507 e7 dL_law_33 (by decide) (by decide) rfl (by decide) ?_
          exact B507 (f_law_L18 F L xs n) ih x1 σ ls (lv_sub hl [0, 1, 2, 3] rfl)
        refine q_ite (fun e8 => ?_) (fun e8 => ?_) _
        · refine q_tin C 530 e8 dL_law_33 (by decide) (by decide) rfl (by decide) ?_
          exact B530 (f_law_L18 F L xs n) ih x1 σ ls (lv_sub hl [0, 1, 2, 3] rfl)
        refine q_ite (fun e9 => ?_) (fun e9 => ?_) _
        · refine q_tin C 553 e9 dL_law_33 (by decide) (by decide) rfl (by decide) ?_
          exact B553 (f_law_L18 F L xs n) ih x1 σ ls (lv_sub hl [0, 1, 2, 3] rfl)
        refine q_ite (fun e10 => ?_) (fun e10 => ?_) _
        · refine q_tin C 586 e10 dL_law_33 (by decide) (by decide) rfl (by decide) ?_
          exact B586 (f_law_L18 F L xs n) ih x1 σ ls (lv_sub hl [0, 1, 2, 3] rfl)
        refine q_ite (fun e11 => ?_) (fun e11 => ?_) _
        · refine q_tin C 619 e11 dL_law_33 (by decide) (by decide) rfl (by decide) ?_
          exact B619 (f_law_L18 F L xs n) ih x1 σ ls (lv_sub hl [0, 1, 2, 3] rfl)
        refine q_ite (fun e12 => ?_) (fun e12 => ?_) _
        · refine q_tin C 642 e12 dL_law_33 (by decide) (by decide) rfl (by decide) ?_
          exact B642 (f_law_L18 F L xs n) ih x1 σ ls (lv_sub hl [0, 1, 2, 3] rfl)
        refine q_ite (fun e13 => ?_) (fun e13 => ?_) _
        · refine q_tin C 685 e13 dL_law_33 (by decide) (by decide) rfl (by decide) ?_
          exact B685 (f_law_L18 F L xs n) ih x1 σ ls (lv_sub hl [0, 1, 2, 3] rfl)
        refine q_ite (fun e14 => ?_) (fun e14 => ?_) _
        · refine q_tin C 718 e14 dL_law_33 (by decide) (by decide) rfl (by decide) ?_
          exact B718 (f_law_L18 F L xs n) ih x1 σ ls (lv_sub hl [0, 1, 2, 3] rfl)
        refine q_ite (fun e15 => ?_) (fun e15 => ?_) _
        · refine q_tin C 741 e15 dL_law_33 (by decide) (by decide) rfl (by decide) ?_
          exact B741 (f_law_L18 F L xs n) ih x1 σ ls (lv_sub hl [0, 1, 2, 3] rfl)
        refine q_ite (fun e16 => ?_) (fun e16 => ?_) _
        · refine q_tin C 764 e16 dL_law_33 (by decide) (by decide) rfl (by decide) ?_
          exact B764 (f_law_L18 F L xs n) ih x1 σ ls (lv_sub hl [0, 1, 2, 3] rfl)
        refine q_ite (fun e17 => ?_) (fun e17 => ?_) _
        · refine q_tin C 787 e17 dL_law_33 (by decide) (by decide) rfl (by decide) ?_
          exact B787 (f_law_L18 F L xs n) ih x1 σ ls (lv_sub hl [0, 1, 2, 3] rfl)
        refine q_ite (fun e18 => ?_) (fun e18 => ?_) _
        · refine q_tin C 820 e18 dL_law_33 (by decide) (by decide) rfl (by decide) ?_
          exact B820 (f_law_L18 F L xs n) ih x1 σ ls (lv_sub hl [0, 1, 2, 3] rfl)
        refine q_ite (fun e19 => ?_) (fun e19 => ?_) _
        · refine q_tin C 853 e19 dL_law_33 (by decide) (by decide) rfl (by decide) ?_
          exact B853 (f_law_L18 F L xs n) ih x1 σ ls (lv_sub hl [0, 1, 2, 3] rfl)
        refine q_ite (fun e20 => ?_) (fun e20 => ?_) _
        · refine q_tin C 886 e20 dL_law_33 (by decide) (by decide) rfl (by decide) ?_
          exact B886 (f_law_L18 F L xs n) ih x1 σ ls (lv_sub hl [0, 1, 2, 3] rfl)
        refine q_ite (fun e21 => ?_) (fun e21 => ?_) _
        · refine q_tin C 919 e21 dL_law_33 (by decide) (by decide) rfl (by decide) ?_
          exact B919 (f_law_L18 F L xs n) ih x1 σ ls (lv_sub hl [0, 1, 2, 3] rfl)
        refine q_ite (fun e22 => ?_) (fun e22 => ?_) _
        · refine q_tin C 942 e22 dL_law_33 (by decide) (by decide) rfl (by decide) ?_
          exact B942 (f_law_L18 F L xs n) ih x1 σ ls (lv_sub hl [0, 1, 2, 3] rfl)
        refine q_ite (fun e23 => ?_) (fun e23 => ?_) _
        · refine q_tin C 965 e23 dL_law_33 (by decide) (by decide) rfl (by decide) ?_
          exact B965 (f_law_L18 F L xs n) ih x1 σ ls (lv_sub hl [0, 1, 2, 3] rfl)
        refine q_ite (fun e24 => ?_) (fun e24 => ?_) _
        · refine q_tin C 988 e24 dL_law_33 (by decide) (by decide) rfl (by decide) ?_
          exact B988 (f_law_L18 F L xs n) ih x1 σ ls (lv_sub hl [0, 1, 2, 3] rfl)
        refine q_ite (fun e25 => ?_) (fun e25 => ?_) _
        · refine q_tin C 1011 e25 dL_law_33 (by decide) (by decide) rfl (by decide) ?_
          exact B1011 (f_law_L18 F L xs n) ih x1 σ ls (lv_sub hl [0, 1, 2, 3] rfl)
        refine q_ite (fun e26 => ?_) (fun e26 => ?_) _
        · refine q_tin C 1034 e26 dL_law_33 (by decide) (by decide) rfl (by decide) ?_
          exact B1034 (f_law_L18 F L xs n) ih x1 σ ls (lv_sub hl [0, 1, 2, 3] rfl)
        refine q_ite (fun e27 => ?_) (fun e27 => ?_) _
        · refine q_tin C 1067 e27 dL_law_33 (by decide) (by decide) rfl (by decide) ?_
          exact B1067 (f_law_L18 F L xs n) ih x1 σ ls (lv_sub hl [0, 1, 2, 3] rfl)
        refine q_ite (fun e28 => ?_) (fun e28 => ?_) _
        · refine q_tin C 1090 e28 dL_law_33 (by decide) (by decide) rfl (by decide) ?_
          exact B1090 (f_law_L18 F L xs n) ih x1 σ ls (lv_sub hl [0, 1, 2, 3] rfl)
        refine q_ite (fun e29 => ?_) (fun e29 => ?_) _
        · refine q_tin C 1123 e29 dL_law_33 (by decide) (by decide) rfl (by decide) ?_
          exact B1123 (f_law_L18 F L xs n) ih x1 σ ls (lv_sub hl [0, 1, 2, 3] rfl)
        refine q_ite (fun e30 => ?_) (fun e30 => ?_) _
        · refine q_tin C 1156 e30 dL_law_33 (by decide) (by decide) rfl (by decide) ?_
          exact B1156 (f_law_L18 F L xs n) ih x1 σ ls (lv_sub hl [0, 1, 2, 3] rfl)
        refine q_ite (fun e31 => ?_) (fun e31 => ?_) _
        · refine q_tin C 1179 e31 dL_law_33 (by decide) (by decide) rfl (by decide) ?_
          exact B1179 (f_law_L18 F L xs n) ih x1 σ ls (lv_sub hl [0, 1, 2, 3] rfl)
        refine q_ite (fun e32 => ?_) (fun e32 => ?_) _
        · refine q_tin C 1212 e32 dL_law_33 (by decide) (by decide) rfl (by decide) ?_
          exact B1212 (f_law_L18 F L xs n) ih x1 σ ls (lv_sub hl [0, 1, 2, 3] rfl)
        refine q_ite (fun e33 => ?_) (fun e33 => ?_) _
        · refine q_tin C 1235 e33 dL_law_33 (by decide) (by decide) rfl (by decide) ?_
          exact B1235 (f_law_L18 F L xs n) ih x1 σ ls (lv_sub hl [0, 1, 2, 3] rfl)
        refine q_ite (fun e34 => ?_) (fun e34 => ?_) _
        · refine q_tin C 1248 e34 dL_law_33 (by decide) (by decide) rfl (by decide) ?_
          exact B1248 (f_law_L18 F L xs n) ih x1 σ ls (lv_sub hl [0, 1, 2, 3] rfl)
        refine q_ite (fun e35 => ?_) (fun e35 => ?_) _
        · refine q_tin C 1281 e35 dL_law_33 (by decide) (by decide) rfl (by decide) ?_
          exact B1281 (f_law_L18 F L xs n) ih x1 σ ls (lv_sub hl [0, 1, 2, 3] rfl)
        refine q_ite (fun e36 => ?_) (fun e36 => ?_) _
        · refine q_tin C 1304 e36 dL_law_33 (by decide) (by decide) rfl (by decide) ?_
          exact B1304 (f_law_L18 F L xs n) ih x1 σ ls (lv_sub hl [0, 1, 2, 3] rfl)
        refine q_ite (fun e37 => ?_) (fun e37 => ?_) _
        · refine q_tin C 1327 e37 dL_law_33 (by decide) (by decide) rfl (by decide) ?_
          exact B1327 (f_law_L18 F L xs n) ih x1 σ ls (lv_sub hl [0, 1, 2, 3] rfl)
        refine q_ite (fun e38 => ?_) (fun e38 => ?_) _
        · refine q_tin C 1340 e38 dL_law_33 (by decide) (by decide) rfl (by decide) ?_
          exact B1340 (f_law_L18 F L xs n) ih x1 σ ls (lv_sub hl [0, 1, 2, 3] rfl)
        refine q_ite (fun e39 => ?_) (fun e39 => ?_) _
        · refine q_tin C 1353 e39 dL_law_33 (by decide) (by decide) rfl (by decide) ?_
          exact B1353 (f_law_L18 F L xs n) ih x1 σ ls (lv_sub hl [0, 1, 2, 3] rfl)
        refine q_ite (fun e40 => ?_) (fun e40 => ?_) _
        · refine q_tin C 1366 e40 dL_law_33 (by decide) (by decide) rfl (by decide) ?_
          exact B1366 (f_law_L18 F L xs n) ih x1 σ ls (lv_sub hl [0, 1, 2, 3] rfl)
        refine q_ite (fun e41 => ?_) (fun e41 => ?_) _
        · refine q_tin C 1389 e41 dL_law_33 (by decide) (by decide) rfl (by decide) ?_
          exact B1389 (f_law_L18 F L xs n) ih x1 σ ls (lv_sub hl [0, 1, 2, 3] rfl)
        refine q_ite (fun e42 => ?_) (fun e42 => ?_) _
        · refine q_tin C 1412 e42 dL_law_33 (by decide) (by decide) rfl (by decide) ?_
          exact B1412 (f_law_L18 F L xs n) ih x1 σ ls (lv_sub hl [0, 1, 2, 3] rfl)
        refine q_ite (fun e43 => ?_) (fun e43 => ?_) _
        · refine q_tin C 1435 e43 dL_law_33 (by decide) (by decide) rfl (by decide) ?_
          exact B1435 (f_law_L18 F L xs n) ih x1 σ ls (lv_sub hl [0, 1, 2, 3] rfl)
        refine q_ite (fun e44 => ?_) (fun e44 => ?_) _
        · refine q_tin C 1458 e44 dL_law_33 (by decide) (by decide) rfl (by decide) ?_
          exact B1458 (f_law_L18 F L xs n) ih x1 σ ls (lv_sub hl [0, 1, 2, 3] rfl)
        refine q_ite (fun e45 => ?_) (fun e45 => ?_) _
        · refine q_tin C 1471 e45 dL_law_33 (by decide) (by decide) rfl (by decide) ?_
          exact B1471 (f_law_L18 F L xs n) ih x1 σ ls (lv_sub hl [0, 1, 2, 3] rfl)
        refine q_ite (fun e46 => ?_) (fun e46 => ?_) _
        · refine q_tin C 1494 e46 dL_law_33 (by decide) (by decide) rfl (by decide) ?_
          exact B1494 (f_law_L18 F L xs n) ih x1 σ ls (lv_sub hl [0, 1, 2, 3] rfl)
        refine q_ite (fun e47 => ?_) (fun e47 => ?_) _
        · refine q_tin C 1527 e47 dL_law_33 (by decide) (by decide) rfl (by decide) ?_
          exact B1527 (f_law_L18 F L xs n) ih x1 σ ls (lv_sub hl [0, 1, 2, 3] rfl)
        refine q_ite (fun e48 => ?_) (fun e48 => ?_) _
        · refine q_tin C 1560 e48 dL_law_33 (by decide) (by decide) rfl (by decide) ?_
          exact B1560 (f_law_L18 F L xs n) ih x1 σ ls (lv_sub hl [0, 1, 2, 3] rfl)
        refine q_ite (fun e49 => ?_) (fun e49 => ?_) _
        · refine q_tin C 1613 e49 dL_law_33 (by decide) (by decide) rfl (by decide) ?_
          exact B1613 (f_law_L18 F L xs n) ih x1 σ ls (lv_sub hl [0, 1, 2, 3] rfl)
        refine q_ite (fun e50 => ?_) (fun e50 => ?_) _
        · refine q_tin C 1657 e50 dL_law_33 (by decide) (by decide) rfl (by decide) ?_
          exact B1657 (f_law_L18 F L xs n) ih x1 σ ls (lv_sub hl [0, 1, 2, 3] rfl)
        refine q_ite (fun e51 => ?_) (fun e51 => ?_) _
        · refine q_tin C 1691 e51 dL_law_33 (by decide) (by decide) rfl (by decide) ?_
          exact B1691 (f_law_L18 F L xs n) ih x1 σ ls (lv_sub hl [0, 1, 2, 3] rfl)
        refine q_ite (fun e52 => ?_) (fun e52 => ?_) _
        · refine q_tin C 1744 e52 dL_law_33 (by decide) (by decide) rfl (by decide) ?_
          exact B1744 (f_law_L18 F L xs n) ih x1 σ ls (lv_sub hl [0, 1, 2, 3] rfl)
        refine q_ite (fun e53 => ?_) (fun e53 => ?_) _
        · refine q_tin C 1757 e53 dL_law_33 (by decide) (by decide) rfl (by decide) ?_
          exact B1757 (f_law_L18 F L xs n) ih x1 σ ls (lv_sub hl [0, 1, 2, 3] rfl)
        refine q_ite (fun e54 => ?_) (fun e54 => ?_) _
        · refine q_tin C 1770 e54 dL_law_33 (by decide) (by decide) rfl (by decide) ?_
          exact B1770 (f_law_L18 F L xs n) ih x1 σ ls (lv_sub hl [0, 1, 2, 3] rfl)
        refine q_ite (fun e55 => ?_) (fun e55 => ?_) _
        · refine q_tin C 1803 e55 dL_law_33 (by decide) (by decide) rfl (by decide) ?_
          exact B1803 (f_law_L18 F L xs n) ih x1 σ ls (lv_sub hl [0, 1, 2, 3] rfl)
        refine q_ite (fun e56 => ?_) (fun e56 => ?_) _
        · refine q_tin C 1846 e56 dL_law_33 (by decide) (by decide) rfl (by decide) ?_
          exact B1846 (f_law_L18 F L xs n) ih x1 σ ls (lv_sub hl [0, 1, 2, 3] rfl)
        refine q_ite (fun e57 => ?_) (fun e57 => ?_) _
        · refine q_tin C 1869 e57 dL_law_33 (by decide) (by decide) rfl (by decide) ?_
          exact B1869 (f_law_L18 F L xs n) ih x1 σ ls (lv_sub hl [0, 1, 2, 3] rfl)
        refine q_ite (fun e58 => ?_) (fun e58 => ?_) _
        · refine q_tin C 1892 e58 dL_law_33 (by decide) (by decide) rfl (by decide) ?_
          exact B1892 (f_law_L18 F L xs n) ih x1 σ ls (lv_sub hl [0, 1, 2, 3] rfl)
        refine q_ite (fun e59 => ?_) (fun e59 => ?_) _
        · refine q_tin C 1915 e59 dL_law_33 (by decide) (by decide) rfl (by decide) ?_
          exact B1915 (f_law_L18 F L xs n) ih x1 σ ls (lv_sub hl [0, 1, 2, 3] rfl)
        refine q_ite (fun e60 => ?_) (fun e60 => ?_) _
        · refine q_tin C 1958 e60 dL_law_33 (by decide) (by decide) rfl (by decide) ?_
          exact B1958 (f_law_L18 F L xs n) ih x1 σ ls (lv_sub hl [0, 1, 2, 3] rfl)
        refine q_ite (fun e61 => ?_) (fun e61 => ?_) _
        · refine q_tin C 2031 e61 dL_law_33 (by decide) (by decide) rfl (by decide) ?_
          exact B2031 (f_law_L18 F L xs n) ih x1 σ ls (lv_sub hl [0, 1, 2, 3] rfl)
        refine q_tout C 2094 dL_law_33 (by omega) (by decide) ?_
        exact B2094 (f_law_L18 F L xs n) ih x1 σ ls (lv_sub hl [0, 1, 2, 3] rfl)
  exact B18 n x3 σ ls hl
