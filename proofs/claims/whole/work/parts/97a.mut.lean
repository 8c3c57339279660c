theorem GI.w_fr {F : Nat} {σ σ' : St} (h : GI F σ) (hF : 100 ≤ F) (e : ∀ x, (4 ≤ x ∧ x ≤ 6) ∨ (12 ≤ x ∧ x ≤ 109) ∨ x = 232 → σ' x = σ x) : WF (σ' 232) ∧ SR 4 σ' (σ' 232) ∧ RI F (σ' 232) σ' := by
  rw [e 232 (by omega)]
  exact ⟨h.wf, h.sc.mv (e 4 (by omega)) (e 5 (by omega)) (e 6 (by omega)), h.rn.fr hF h.wf (fun x x1 x2 => e x (by omega))⟩
def imP (σ : St) : Prop := (∀ k : Nat, k < 3 → SR (214 + 3 * k) σ (fun j => σ 233 (246 * k + j)) ∧ WF (fun j => σ 233 (246 * k + j))) ∧ ∀ k : Nat, k < 3 → σ (214 + 3 * k) 5 = σ 234 k
theorem GI.i_fr {F : Nat} {σ σ' : St} (h : GI F σ) (e : ∀ x, (214 ≤ x ∧ x ≤ 222) ∨ x = 233 ∨ x = 234 → σ' x = σ x) : imP σ' := by
  refine ⟨fun k hk => ?_, fun k hk => ?_⟩
  · rw [e 233 (by omega)]
    exact ⟨(h.im k hk).1.mv (e _ (by omega)) (e _ (by omega)) (e _ (by omega)), (h.im k hk).2⟩
  · rw [e _ (by omega), e 234 (by omega)]
    exact h.it k hk
theorem GI.s_fr {F : Nat} {σ σ' : St} (h : GI F σ) (e : ∀ x, (223 ≤ x ∧ x ≤ 230) ∨ x = 255 ∨ x = 256 ∨ x = 257 → σ' x = σ x) : ∀ s : Nat, s < 4 → SlP σ' (223 + 2 * s) s := fun s hs => (h.sl s hs).mv (e _ (by omega)) (e _ (by omega)) (e 255 (by omega)) (e 256 (by omega)) (e 257 (by omega))
def tpP (σ : St) : Prop := (0 ≤ σ 231 5 ∧ σ 231 5 ≤ 700) ∧ σ 1 0 = σ 231 5 ∧ ∀ i, 0 ≤ i → i < σ 231 5 → σ 2 i = σ 235 i ∧ -128 ≤ σ 2 i ∧ σ 2 i < 128
theorem GI.t_fr {F : Nat} {σ σ' : St} (h : GI F σ) (e1 : σ' 1 0 = σ 1 0) (e2 : σ' 2 = σ 2) (e3 : σ' 235 = σ 235) (e4 : σ' 231 5 = σ 231 5) : tpP σ' := by
  unfold tpP
  rw [e1, e2, e3, e4]
  exact ⟨h.tl, h.t0, h.tp⟩
theorem gi_mk {F : Nat} {σ : St} (w : WF (σ 232) ∧ SR 4 σ (σ 232) ∧ RI F (σ 232) σ) (sp : ∀ e, 0 ≤ e → e < 60 → 0 ≤ σ 8 e ∧ σ 8 e ≤ 8) (i : imP σ) (t : tpP σ) (fk : σ 1 1 = σ 231 12) (fp : σ 1 2 = σ 231 13) (s : ∀ s : Nat, s < 4 → SlP σ (223 + 2 * s) s) (ag : B255 (σ 251)) : GI F σ := ⟨w.1, w.2.1, w.2.2, sp, i.1, i.2, t.1, t.2.1, t.2.2, fk, fp, s, ag⟩
def P1 (F : Nat) (fc fm : Option Int) : Prop := TT fc (fun v => TT fm (fun v' => v = v'))
theorem q_fault {F : Nat} {σ : St} {a : Int} (h : GI F σ) : P1 F (f_X6_fault F 0 a σ) (f_X7_fault F 231 a σ) := by
  unfold P1 f_X6_fault f_X7_fault
  simp only [tt_gt, tt_sg, tt_ite, tt_ck, tt_lk, tt_ix, tt_bo, tt_by, tt_nz, tt_ob, tt_st, tt_cpk, tt_c1, tt_c2, tt_ca, tt_cb, tt_some, kd_231, kd_0, Nat.reduceAdd, true_and, and_true, true_implies, not_true_eq_false, false_implies, not_false_eq_true, true_or, or_true, Nat.zero_add]
  exact ⟨fun z => ⟨fun z2 => ⟨fun _ => ⟨fun _ => trivial, fun y => absurd z2 y⟩, fun y => absurd z y⟩, fun z2 => ⟨fun _ => ⟨fun y => absurd y z2, fun _ => h.fp⟩, fun y => absurd z y⟩⟩, fun z => ⟨fun y => absurd y z, fun _ => h.fk⟩⟩
theorem q_event {F : Nat} {σ : St} {e a : Int} (h : GI F σ) : P1 F (f_X6_event F 0 e a σ) (f_X7_event F 231 e a σ) := by
  have h60 := h.wf.ev60
  have he := e6_hasEvent (F := F) (t := e) h.sc h.wf
  have hm := e_isEvent (F := F) (σ := σ) h.wf.1 e
  unfold P1 f_X6_event f_X7_event
  simp only [tt_gt, tt_sg, tt_ite, tt_ck, tt_lk, tt_ix, tt_bo, tt_by, tt_nz, tt_ob, tt_st, tt_cpk, tt_c1, tt_c2, tt_ca, tt_cb, tt_some, kd_231, kd_0, Nat.reduceAdd, true_and, and_true, true_implies, not_true_eq_false, false_implies, not_false_eq_true, true_or, or_true, Nat.zero_add, he, hm, e_in]
  by_cases q : 0 ≤ e ∧ e < evN (σ 232)
  · rw [if_pos q]
    refine ⟨fun y => absurd y (by decide), fun _ => ⟨fun z => ⟨fun y => absurd y (by decide), fun _ => ?_⟩, fun z => ⟨fun z2 => ⟨fun z3 => And.intro (by omega) ?_, fun z3 => ?_⟩, fun z2 => ⟨fun y => absurd y (by decide), fun _ => ?_⟩⟩⟩⟩
    · rw [if_neg (by omega)]
      exact ⟨fun y => absurd rfl y, fun _ => trivial⟩
    · rw [e4_numberOf (F := F) (s := 4) (j := a - 1) rfl h.sc h.wf q (by omega), tt_some, if_pos (by omega)]
      refine ⟨fun y => absurd y (by decide), fun _ => ⟨fun _ => ⟨fun _ => And.intro (by omega) ?_, fun y => absurd z3 y⟩, fun y => absurd (by decide) y⟩⟩
      rw [e_numberOf (F := F) (σ := σ) ⟨q.1, by omega⟩ (by omega), tt_some]
    · rw [e4_kindOf (F := F) (s := 4) rfl h.sc h.wf q, tt_some, if_pos (by omega)]
      refine ⟨fun y => absurd y (by decide), fun _ => ⟨fun _ => ⟨fun y => absurd y z3, fun _ => ?_⟩, fun y => absurd (by decide) y⟩⟩
      rw [e_kindOf (F := F) (σ := σ) ⟨q.1, by omega⟩, tt_some]
    · rw [if_neg (by omega)]
      exact ⟨fun y => absurd rfl y, fun _ => trivial⟩
  · rw [if_neg q]
    exact ⟨fun _ => ⟨fun _ => trivial, fun y => absurd rfl y⟩, fun y => absurd rfl y⟩
theorem q_count {F : Nat} {σ : St} {a : Int} (hF : 100 ≤ F) (h : GI F σ) : P1 F (f_X6_count F 0 a σ) (f_X7_count F 231 a σ) := by
  have es := h.sc.1
  have hl := e4_lines (F := F) (s := 4) rfl h.sc h.wf
  have st6 : f_X6_slotsThere F 0 σ = some (sm (fun s => if σ 255 s = -1 then 0 else 1) 4) := by
    apply TT.eq
    unfold f_X6_slotsThere
    simp only [tt_gt, tt_sg, tt_ite, tt_ck, tt_lk, tt_ix, tt_bo, tt_by, tt_nz, tt_ob, tt_st, tt_cpk, tt_c1, tt_c2, tt_ca, tt_cb, tt_some, kd_231, kd_0, Nat.reduceAdd, true_and, and_true, true_implies, not_true_eq_false, false_implies, not_false_eq_true, true_or, or_true]
    refine cnt (L := fun n x i => f_X6_slotsThere_L4 F 0 σ n x i) 4 (fun s => if σ 255 s = -1 then 0 else 1) (by omega) (fun n => ?_) (fun n i hi ht => ?_)
    · try dsimp only
      rw [f_X6_slotsThere_L4]
      simp only [tt_gt, tt_sg, tt_ite, tt_ck, tt_lk, tt_ix, tt_bo, tt_by, tt_nz, tt_ob, tt_st, tt_cpk, tt_c1, tt_c2, tt_ca, tt_cb, tt_some, kd_231, kd_0, Nat.reduceAdd, true_and, and_true, true_implies, not_true_eq_false, false_implies, not_false_eq_true, true_or, or_true]
      exact ⟨fun _ => trivial, fun z => absurd z (by decide)⟩
    · have hr := sm_rng (f := fun s => if σ 255 s = -1 then 0 else 1) (M := 1) i (fun i _ => by split <;> omega)
      try dsimp only at ht hr ⊢
      rw [f_X6_slotsThere_L4]
      simp only [tt_gt, tt_sg, tt_ite, tt_ck, tt_lk, tt_ix, tt_bo, tt_by, tt_nz, tt_ob, tt_st, tt_cpk, tt_c1, tt_c2, tt_ca, tt_cb, tt_some, kd_231, kd_0, Nat.reduceAdd, true_and, and_true, true_implies, not_true_eq_false, false_implies, not_false_eq_true, true_or, or_true, Nat.zero_add, Int.toNat_natCast]
      refine ⟨fun z => absurd z (by omega), fun _ => And.intro (by omega) ?_⟩
      rcases h.sl i hi with z | z
      · rw [if_neg (by omega)] at ht
        rw [z.1]
        exact ⟨fun y => absurd y (by decide), fun _ => And.intro (by omega) (And.intro (by omega) ht)⟩
      · rw [if_pos z.2, Int.add_zero] at ht
        rw [z.1]
        exact ⟨fun _ => And.intro (by omega) ht, fun y => absurd rfl y⟩
  have st7 : f_X7_count_L42 F 231 a σ F 0 0 = some (sm (fun s => if σ 255 s = -1 then 0 else 1) 4) := by
    apply TT.eq
    refine cnt (L := fun n x i => f_X7_count_L42 F 231 a σ n x i) 4 (fun s => if σ 255 s = -1 then 0 else 1) (by omega) (fun n => ?_) (fun n i hi ht => ?_)
    · try dsimp only
      rw [f_X7_count_L42]
      simp only [tt_gt, tt_sg, tt_ite, tt_ck, tt_lk, tt_ix, tt_bo, tt_by, tt_nz, tt_ob, tt_st, tt_cpk, tt_c1, tt_c2, tt_ca, tt_cb, tt_some, kd_231, kd_0, Nat.reduceAdd, true_and, and_true, true_implies, not_true_eq_false, false_implies, not_false_eq_true, true_or, or_true]
      exact ⟨fun _ => trivial, fun z => absurd z (by decide)⟩
    · have hr := sm_rng (f := fun s => if σ 255 s = -1 then 0 else 1) (M := 1) i (fun i _ => by split <;> omega)
      try dsimp only at ht hr ⊢
      rw [f_X7_count_L42]
      simp only [tt_gt, tt_sg, tt_ite, tt_ck, tt_lk, tt_ix, tt_bo, tt_by, tt_nz, tt_ob, tt_st, tt_cpk, tt_c1, tt_c2, tt_ca, tt_cb, tt_some, kd_231, kd_0, Nat.reduceAdd, true_and, and_true, true_implies, not_true_eq_false, false_implies, not_false_eq_true, true_or, or_true]
      refine ⟨fun z => absurd z (by omega), fun _ => And.intro (by omega) ⟨fun z => ?_, fun z => ?_⟩⟩
      · rw [if_neg z] at ht
        exact And.intro (by omega) (And.intro (by omega) ht)
      · rw [if_pos (Classical.byContradiction z)] at ht
        exact And.intro (by omega) (And.intro (by omega) ht)
  unfold P1 f_X6_count f_X7_count
  simp only [tt_gt, tt_sg, tt_ite, tt_ck, tt_lk, tt_ix, tt_bo, tt_by, tt_nz, tt_ob, tt_st, tt_cpk, tt_c1, tt_c2, tt_ca, tt_cb, tt_some, kd_231, kd_0, Nat.reduceAdd, true_and, and_true, true_implies, not_true_eq_false, false_implies, not_false_eq_true, true_or, or_true, Nat.zero_add, e_in, hl, st6, st7]
  by_cases q : 0 ≤ a ∧ a ≤ 5
  · rw [if_pos q]
    have mo : ∀ v : Int, v = σ 232 a → (1 = (0 : Int) → (¬ a = 6 → (a = 7 → v = sm (fun s => if σ 255 s = -1 then 0 else 1) 4) ∧ (¬ a = 7 → v = -1)) ∧ (¬¬ a = 6 → v = σ 231 5)) ∧ (¬ 1 = (0 : Int) → (0 ≤ a ∧ a < ((246 : Nat) : Int)) ∧ v = σ 232 a) := fun v hv => ⟨fun y => absurd y (by decide), fun _ => ⟨by omega, hv⟩⟩
    refine ⟨fun z => mo _ (by rw [es 0 (by decide) (by decide), z]), fun _ => ⟨fun z => mo _ (by rw [es 1 (by decide) (by decide), z]), fun _ => ⟨fun z => mo _ (by rw [es 2 (by decide) (by decide), z]), fun _ => ⟨fun z => mo _ (by rw [es 3 (by decide) (by decide), z]), fun _ => ⟨fun z => mo _ (by rw [es 4 (by decide) (by decide), z]), fun _ => ⟨fun z => mo _ (by rw [z]), fun _ => by omega⟩⟩⟩⟩⟩⟩
  · rw [if_neg q]
    refine ⟨fun z => absurd z (by omega), fun _ => ⟨fun z => absurd z (by omega), fun _ => ⟨fun z => absurd z (by omega), fun _ => ⟨fun z => absurd z (by omega), fun _ => ⟨fun z => absurd z (by omega), fun _ => ⟨fun z => absurd z (by omega), fun _ => ⟨fun z => ⟨fun _ => ⟨fun y => absurd z y, fun _ => h.t0⟩, fun y => absurd rfl y⟩, fun z6 => ⟨fun z => ⟨fun _ => ⟨fun _ => ⟨fun _ => trivial, fun y => absurd z y⟩, fun y => absurd z6 y⟩, fun y => absurd rfl y⟩, fun z7 => ⟨fun _ => ⟨fun _ => ⟨fun y => absurd y z7, fun _ => trivial⟩, fun y => absurd z6 y⟩, fun y => absurd rfl y⟩⟩⟩⟩⟩⟩⟩⟩⟩
theorem q_end {F : Nat} {σ : St} {n : Int} (hF : 100 ≤ F) (h : GI F σ) : PP F (f_X6_end F 0 n σ) (f_X7_end F 231 n) := by
  have neg : ¬ (0 ≤ n ∧ n ≤ σ 231 5) → TT (f_X7_end F 231 n σ) (fun r' => -1 = r'.1 ∧ GI F r'.2) := fun q => by
    unfold f_X7_end
    simp only [tt_gt, tt_sg, tt_ite, tt_ck, tt_lk, tt_ix, tt_bo, tt_by, tt_nz, tt_ob, tt_st, tt_cpk, tt_c1, tt_c2, tt_ca, tt_cb, tt_some, kd_231, kd_0, Nat.reduceAdd, true_and, and_true, true_implies, not_true_eq_false, false_implies, not_false_eq_true, true_or, or_true, e_in, if_neg q, eq_self]
    exact h
  unfold PP f_X6_end
  simp only [tt_gt, tt_sg, tt_ite, tt_ck, tt_lk, tt_ix, tt_bo, tt_by, tt_nz, tt_ob, tt_st, tt_cpk, tt_c1, tt_c2, tt_ca, tt_cb, tt_some, kd_231, kd_0, Nat.reduceAdd, true_and, and_true, true_implies, not_true_eq_false, false_implies, not_false_eq_true, true_or, or_true, Nat.zero_add, h.t0]
  refine ⟨fun z => neg (by omega), fun z => ⟨fun z2 => ?_, fun z2 => neg (by omega)⟩⟩
  have hl := h.tl
  have e31 : z_up σ 1 0 n 231 = σ 231 := up_ne (by decide)
  unfold f_X7_end
  simp only [tt_gt, tt_sg, tt_ite, tt_ck, tt_lk, tt_ix, tt_bo, tt_by, tt_nz, tt_ob, tt_st, tt_cpk, tt_c1, tt_c2, tt_ca, tt_cb, tt_some, kd_231, kd_0, Nat.reduceAdd, true_and, and_true, true_implies, not_true_eq_false, false_implies, not_false_eq_true, true_or, or_true, e_in, e31, if_pos (show 0 ≤ n ∧ n ≤ σ 231 5 by omega), one0]
  generalize hτ : z_up (z_up σ 1 0 n) 231 5 n = τ
  have o : ∀ x, x ≠ 1 → x ≠ 231 → τ x = σ x := fun x x1 x2 => by rw [← hτ, up_ne x2, up_ne x1]
  have t1 : ∀ j, τ 1 j = if j = 0 then n else σ 1 j := fun j => by rw [← hτ, up_ne (by decide), up_eq]
  have t31 : ∀ j, τ 231 j = if j = 5 then n else σ 231 j := fun j => by rw [← hτ, up_eq]; dsimp only; rw [e31]
  have fin : GI F τ := by
    refine gi_mk (h.w_fr hF (fun x hx => o x (by omega) (by omega))) (by rw [o 8 (by decide) (by decide)]; exact h.sp) (h.i_fr (fun x hx => o x (by omega) (by omega))) ⟨?_, ?_, fun i i1 i2 => ?_⟩ ?_ ?_ (h.s_fr (fun x hx => o x (by omega) (by omega))) (by rw [o 251 (by decide) (by decide)]; exact h.ag)
    · rw [t31, if_pos rfl]; omega
    · rw [t1, t31, if_pos rfl, if_pos rfl]
    · rw [t31, if_pos rfl] at i2
      rw [o 2 (by decide) (by decide), o 235 (by decide) (by decide)]
      exact h.tp i i1 (by omega)
    · rw [t1, t31, if_neg (by decide), if_neg (by decide)]; exact h.fk
    · rw [t1, t31, if_neg (by decide), if_neg (by decide)]; exact h.fp
  first
    | exact fin
    | exact ⟨rfl, fin⟩
theorem i2b_rng (a : Int) : -128 ≤ z_i2b a ∧ z_i2b a < 128 := by
  unfold z_i2b
  rw [Int8.toInt_toInt32]
  have h1 := Int8.le_toInt (iZ a).toInt8
  have h2 := Int8.toInt_lt (iZ a).toInt8
  omega
theorem take_ok {F : Nat} {σ : St} {v L : Int} (hF : 100 ≤ F) (hL : 0 ≤ L ∧ L + 4 ≤ 700) (h0 : σ 1 0 = L) : TT (f_X2_take F 1 v σ) (fun σ' => (∀ x, x ≠ 1 → x ≠ 2 → σ' x = σ x) ∧ (∀ j, σ' 1 j = if j = 0 then L + 4 else σ 1 j) ∧ ∀ i, σ' 2 i = if L ≤ i ∧ i < L + 4 then z_i2b (z_shr v (24 - 8 * (i - L))) else σ 2 i) := by
  unfold f_X2_take
  simp only [tt_gt, tt_sg, tt_ite, tt_ck, tt_lk, tt_ix, tt_bo, tt_by, tt_nz, tt_ob, tt_st, tt_cpk, tt_c1, tt_c2, tt_ca, tt_cb, tt_some, kd_231, kd_0, Nat.reduceAdd, true_and, and_true, true_implies, not_true_eq_false, false_implies, not_false_eq_true, true_or, or_true, show kdX 1 = 2 from rfl]
  have ini : ∀ i, σ 1 i = if i = 0 then L + ((0 : Nat) : Int) else σ 1 i := fun i => by
    by_cases z : i = 0
    · rw [if_pos z, z, h0]; omega
    · rw [if_neg z]
  refine lp_w (L := fun n (p : Int × St) => f_X2_take_L3 F 1 v n p.1 p.2) (fun m p => ∃ j : Nat, p.1 = 24 - 8 * (j : Int) ∧ j + m = 4 ∧ (∀ x, x ≠ 1 → x ≠ 2 → p.2 x = σ x) ∧ (∀ i, p.2 1 i = if i = 0 then L + j else σ 1 i) ∧ ∀ i, p.2 2 i = if L ≤ i ∧ i < L + j then z_i2b (z_shr v (24 - 8 * (i - L))) else σ 2 i) (fun m n p hI ih => ?_) 4 F (24, σ) (by omega) ⟨0, rfl, rfl, fun _ _ _ => rfl, fun i => ini i, fun i => by dsimp only; rw [if_neg (by omega)]⟩
  obtain ⟨k, τ⟩ := p
  dsimp only at hI ih ⊢
  obtain ⟨j, rfl, i2, i3, i4, i5⟩ := hI
  have e0 := i4 0
  rw [if_pos rfl] at e0
  rw [f_X2_take_L3]
  simp only [tt_gt, tt_sg, tt_ite, tt_ck, tt_lk, tt_ix, tt_bo, tt_by, tt_nz, tt_ob, tt_st, tt_cpk, tt_c1, tt_c2, tt_ca, tt_cb, tt_some, kd_231, kd_0, Nat.reduceAdd, true_and, and_true, true_implies, not_true_eq_false, false_implies, not_false_eq_true, true_or, or_true, e0]
  refine ⟨fun z => ?_, fun z => ⟨fun y => absurd y (by omega), fun _ => And.intro (by omega) (And.intro (i2b_rng _) ?_)⟩⟩
  · have : j = 4 := by omega
    subst this
    exact ⟨i3, i4, i5⟩
  · have e1 : z_up τ 2 (L + j) (z_i2b (z_shr v (24 - 8 * (j : Int)))) 1 0 = L + j := by rw [up_ne (by decide)]; exact e0
    rw [e1]
    refine And.intro (by omega) (And.intro (by omega) (ih (m - 1) (24 - 8 * (j : Int) + -8, z_up (z_up τ 2 (L + j) (z_i2b (z_shr v (24 - 8 * (j : Int))))) 1 0 (L + j + 1)) (by omega) ⟨j + 1, by dsimp only; omega, by omega, fun x x1 x2 => ?_, fun i => ?_, fun i => ?_⟩))
    · dsimp only
      rw [up_ne x1, up_ne x2, i3 x x1 x2]
    · dsimp only
      rw [up_eq]
      dsimp only
      by_cases z1 : i = 0
      · rw [if_pos z1, if_pos z1]; omega
      · rw [if_neg z1, if_neg z1, up_ne (by decide), i4, if_neg z1]
    · dsimp only
      rw [up_ne (by decide), up_eq]
      dsimp only
      by_cases z1 : i = L + j
      · rw [if_pos z1, if_pos (by omega), show 24 - 8 * (i - L) = 24 - 8 * (j : Int) by omega]
      · rw [if_neg z1, i5]
        by_cases z2 : L ≤ i ∧ i < L + j
        · rw [if_pos z2, if_pos (by omega)]
        · rw [if_neg z2, if_neg (by omega)]
def fdB (a b c d e : Int) (k : Int) : Int := z_i2b (z_shr (if k < 4 then a else if k < 8 then b else if k < 12 then c else if k < 16 then d else e) (24 - 8 * (k % 4)))
theorem q_feed {F : Nat} {σ : St} {a b c d e : Int} (hF : 100 ≤ F) (h : GI F σ) : PP F (f_X6_feed F 0 a b c d e σ) (f_X7_feed F 231 a b c d e) := by
  have hl := h.tl
  have hr : f_X2_hasRoom F 1 20 σ = some (if σ 231 5 + 20 ≤ 700 then 1 else 0) := by
    apply TT.eq
    unfold f_X2_hasRoom
    simp only [tt_gt, tt_sg, tt_ite, tt_ck, tt_lk, tt_ix, tt_bo, tt_by, tt_nz, tt_ob, tt_st, tt_cpk, tt_c1, tt_c2, tt_ca, tt_cb, tt_some, kd_231, kd_0, Nat.reduceAdd, true_and, and_true, true_implies, not_true_eq_false, false_implies, not_false_eq_true, true_or, or_true, show kdX 1 = 2 from rfl, h.t0]
    refine And.intro (by omega) ⟨fun z => by rw [if_neg (by omega)], fun z => by rw [if_pos (by omega)]⟩
  unfold PP f_X6_feed
  simp only [tt_gt, tt_sg, tt_ite, tt_ck, tt_lk, tt_ix, tt_bo, tt_by, tt_nz, tt_ob, tt_st, tt_cpk, tt_c1, tt_c2, tt_ca, tt_cb, tt_some, kd_231, kd_0, Nat.reduceAdd, true_and, and_true, true_implies, not_true_eq_false, false_implies, not_false_eq_true, true_or, or_true, Nat.zero_add, hr]
  by_cases q : σ 231 5 + 20 ≤ 700
  · rw [if_pos q]
    refine ⟨fun _ => ?_, fun y => absurd (by decide) y⟩
    generalize hL : σ 231 5 = L at q hl ⊢
    refine (take_ok (v := a) (L := L) hF (by omega) (by rw [h.t0, hL])).mono (fun σ1 h1 => ?_)
    refine (take_ok (v := b) (L := L + 4) hF (by omega) (by rw [h1.2.1, if_pos rfl])).mono (fun σ2 h2 => ?_)
    refine (take_ok (v := c) (L := L + 4 + 4) hF (by omega) (by rw [h2.2.1, if_pos rfl])).mono (fun σ3 h3 => ?_)
    refine (take_ok (v := d) (L := L + 4 + 4 + 4) hF (by omega) (by rw [h3.2.1, if_pos rfl])).mono (fun σ4 h4 => ?_)
    refine (take_ok (v := e) (L := L + 4 + 4 + 4 + 4) hF (by omega) (by rw [h4.2.1, if_pos rfl])).mono (fun σ5 h5 => ?_)
    have o5 : ∀ x, x ≠ 1 → x ≠ 2 → σ5 x = σ x := fun x x1 x2 => by rw [h5.1 x x1 x2, h4.1 x x1 x2, h3.1 x x1 x2, h2.1 x x1 x2, h1.1 x x1 x2]
    have s5 : ∀ j, σ5 1 j = if j = 0 then L + 20 else σ 1 j := fun j => by
      rw [h5.2.1, h4.2.1, h3.2.1, h2.2.1, h1.2.1]
      by_cases z : j = 0
      · rw [if_pos z, if_pos z]; omega
      · rw [if_neg z, if_neg z, if_neg z, if_neg z, if_neg z, if_neg z]
    have t5 : ∀ i, σ5 2 i = if L ≤ i ∧ i < L + 20 then fdB a b c d e (i - L) else σ 2 i := fun i => by
      rw [h5.2.2, h4.2.2, h3.2.2, h2.2.2, h1.2.2]
      unfold fdB
      by_cases y5 : L + 4 + 4 + 4 + 4 ≤ i ∧ i < L + 4 + 4 + 4 + 4 + 4
      · rw [if_pos y5, if_pos (by omega), if_neg (by omega), if_neg (by omega), if_neg (by omega), if_neg (by omega)]
        congr 2; omega
      · rw [if_neg y5]
        by_cases y4 : L + 4 + 4 + 4 ≤ i ∧ i < L + 4 + 4 + 4 + 4
        · rw [if_pos y4, if_pos (by omega), if_neg (by omega), if_neg (by omega), if_neg (by omega), if_pos (by omega)]
          congr 2; omega
        · rw [if_neg y4]
          by_cases y3 : L + 4 + 4 ≤ i ∧ i < L + 4 + 4 + 4
          · rw [if_pos y3, if_pos (by omega), if_neg (by omega), if_neg (by omega), if_pos (by omega)]
            congr 2; omega
          · rw [if_neg y3]
            by_cases y2 : L + 4 ≤ i ∧ i < L + 4 + 4
            · rw [if_pos y2, if_pos (by omega), if_neg (by omega), if_pos (by omega)]
              congr 2; omega
            · rw [if_neg y2]
              by_cases y1 : L ≤ i ∧ i < L + 4
              · rw [if_pos y1, if_pos (by omega), if_pos (by omega)]
                congr 2; omega
              · rw [if_neg y1, if_neg (by omega)]
    have e5 : σ5 231 5 = L := by rw [o5 231 (by decide) (by decide)]; exact hL
    rw [s5, if_pos rfl]
    unfold f_X7_feed
    simp only [tt_gt, tt_sg, tt_ite, tt_ck, tt_lk, tt_ix, tt_bo, tt_by, tt_nz, tt_ob, tt_st, tt_cpk, tt_c1, tt_c2, tt_ca, tt_cb, tt_some, kd_231, kd_0, Nat.reduceAdd, true_and, and_true, true_implies, not_true_eq_false, false_implies, not_false_eq_true, true_or, or_true, e5]
    refine And.intro (by omega) ⟨fun _ => ?_, fun y => absurd q y⟩
    refine And.intro (by decide) (And.intro (by decide) (And.intro (by decide) (And.intro (by decide) (And.intro (by decide) ?_))))
    generalize hτ : z_up (z_up (z_up (z_up (z_up σ5 236 0 a) 236 1 b) 236 2 c) 236 3 d) 236 4 e = τ0
    have o6 : ∀ x, x ≠ 236 → τ0 x = σ5 x := fun x hx => by rw [← hτ, up_ne hx, up_ne hx, up_ne hx, up_ne hx, up_ne hx]
    have s6 : ∀ j, τ0 236 j = if j = 4 then e else if j = 3 then d else if j = 2 then c else if j = 1 then b else if j = 0 then a else σ5 236 j := fun j => by rw [← hτ]; simp only [up_eq]
    refine lp_w (L := fun n (p : Int × St) => f_X7_feed_L55 F 231 a b c d e n p.1 p.2) (fun m p => ∃ j : Nat, p.1 = j ∧ j + m = 20 ∧ (∀ x, x ≠ 235 → p.2 x = τ0 x) ∧ ∀ i, p.2 235 i = if L ≤ i ∧ i < L + j then fdB a b c d e (i - L) else τ0 235 i) (fun m n p hI ih => ?_) 20 F (0, τ0) (by omega) ⟨0, rfl, rfl, fun _ _ => rfl, fun i => by dsimp only; rw [if_neg (by omega)]⟩
    obtain ⟨k, τ⟩ := p
    dsimp only at hI ih ⊢
    obtain ⟨j, rfl, i2, i3, i4⟩ := hI
    have e31 : τ 231 5 = L := by rw [i3 231 (by decide), o6 231 (by decide)]; exact e5
    have e36 : τ 236 = τ0 236 := i3 236 (by decide)
    rw [f_X7_feed_L55]
    simp only [tt_gt, tt_sg, tt_ite, tt_ck, tt_lk, tt_ix, tt_bo, tt_by, tt_nz, tt_ob, tt_st, tt_cpk, tt_c1, tt_c2, tt_ca, tt_cb, tt_some, kd_231, kd_0, Nat.reduceAdd, true_and, and_true, true_implies, not_true_eq_false, false_implies, not_false_eq_true, true_or, or_true, e31, e36]
    have td : ((j : Int)).tdiv 4 = ((j / 4 : Nat) : Int) := (Int.ofNat_tdiv j 4).symm
    have tm : ((j : Int)).tmod 4 = ((j % 4 : Nat) : Int) := (Int.ofNat_tmod j 4).symm
    rw [td, tm]
    refine ⟨fun z => And.intro (by omega) ?_, fun z => ?_⟩
    · have j20 : j = 20 := by omega
      subst j20
      rw [up_eq]
      dsimp only
      rw [if_pos rfl]
      generalize hω : z_up τ 231 5 (L + 20) = ω
      have oω : ∀ x, x ≠ 1 → x ≠ 2 → x ≠ 231 → x ≠ 235 → x ≠ 236 → ω x = σ x := fun x x1 x2 x3 x4 x5 => by rw [← hω, up_ne x3, i3 x x4, o6 x x5, o5 x x1 x2]
      have ω1 : ω 1 = σ5 1 := by rw [← hω, up_ne (by decide), i3 1 (by decide), o6 1 (by decide)]
      have ω2 : ω 2 = σ5 2 := by rw [← hω, up_ne (by decide), i3 2 (by decide), o6 2 (by decide)]
      have ω31 : ∀ j, ω 231 j = if j = 5 then L + 20 else σ 231 j := fun j => by rw [← hω, up_eq]; dsimp only; rw [i3 231 (by decide), o6 231 (by decide), o5 231 (by decide) (by decide)]
      have ω35 : ∀ i, ω 235 i = if L ≤ i ∧ i < L + 20 then fdB a b c d e (i - L) else σ 235 i := fun i => by
        rw [← hω, up_ne (by decide), i4, o6 235 (by decide), o5 235 (by decide) (by decide)]
        rfl
      refine ⟨rfl, gi_mk (h.w_fr hF (fun x hx => oω x (by omega) (by omega) (by omega) (by omega) (by omega))) (by rw [oω 8 (by decide) (by decide) (by decide) (by decide) (by decide)]; exact h.sp) (h.i_fr (fun x hx => oω x (by omega) (by omega) (by omega) (by omega) (by omega))) ⟨?_, ?_, fun i i1 i2' => ?_⟩ ?_ ?_ (h.s_fr (fun x hx => oω x (by omega) (by omega) (by omega) (by omega) (by omega))) (by rw [oω 251 (by decide) (by decide) (by decide) (by decide) (by decide)]; exact h.ag)⟩
      · rw [ω31, if_pos rfl]; omega
      · rw [ω1, s5, ω31, if_pos rfl, if_pos rfl]
      · rw [ω31, if_pos rfl] at i2'
        rw [ω2, t5, ω35]
        by_cases z1 : L ≤ i ∧ i < L + 20
        · rw [if_pos z1, if_pos z1]
          exact ⟨rfl, i2b_rng _⟩
        · rw [if_neg z1, if_neg z1]
          exact h.tp i i1 (by rw [hL]; omega)
      · rw [ω1, s5, ω31, if_neg (by decide), if_neg (by decide)]; exact h.fk
      · rw [ω1, s5, ω31, if_neg (by decide), if_neg (by decide)]; exact h.fp
    · refine And.intro (by omega) (And.intro (by decide) (And.intro (by omega) (And.intro (by omega) (And.intro (by decide) (And.intro (by omega) (And.intro (by omega) (And.intro (by omega) (And.intro (i2b_rng _) (And.intro (by omega) ?_)))))))))
      refine ih (m - 1) ((j : Int) + 1, z_up τ 235 (L + j) (z_i2b (z_shr (τ0 236 ((j / 4 : Nat) : Int)) (24 - 8 * ((j % 4 : Nat) : Int))))) (by omega) ⟨j + 1, by dsimp only; omega, by omega, fun x hx => (up_ne hx).trans (i3 x hx), fun i => ?_⟩
      dsimp only
      rw [up_eq]
      dsimp only
      by_cases z1 : i = L + j
      · rw [if_pos z1, if_pos (by omega), s6]
        unfold fdB
        have ek : i - L = j := by omega
        rw [ek]
        congr 2
        · have : j / 4 = 0 ∨ j / 4 = 1 ∨ j / 4 = 2 ∨ j / 4 = 3 ∨ j / 4 = 4 := by omega
          rcases this with y | y | y | y | y <;> rw [y]
          · rw [if_neg (by decide), if_neg (by decide), if_neg (by decide), if_neg (by decide), if_pos (by decide), if_pos (by omega)]
          · rw [if_neg (by decide), if_neg (by decide), if_neg (by decide), if_pos (by decide), if_neg (by omega), if_pos (by omega)]
          · rw [if_neg (by decide), if_neg (by decide), if_pos (by decide), if_neg (by omega), if_neg (by omega), if_pos (by omega)]
          · rw [if_neg (by decide), if_pos (by decide), if_neg (by omega), if_neg (by omega), if_neg (by omega), if_pos (by omega)]
          · rw [if_pos (by decide), if_neg (by omega), if_neg (by omega), if_neg (by omega), if_neg (by omega)]
      · rw [if_neg z1, i4]
        by_cases z2 : L ≤ i ∧ i < L + j
        · rw [if_pos z2, if_pos (by omega)]
        · rw [if_neg z2, if_neg (by omega)]
  · rw [if_neg q]
    refine ⟨fun y => absurd rfl y, fun _ => ?_⟩
    unfold f_X7_feed
    simp only [tt_gt, tt_sg, tt_ite, tt_ck, tt_lk, tt_ix, tt_bo, tt_by, tt_nz, tt_ob, tt_st, tt_cpk, tt_c1, tt_c2, tt_ca, tt_cb, tt_some, kd_231, kd_0, Nat.reduceAdd, true_and, and_true, true_implies, not_true_eq_false, false_implies, not_false_eq_true, true_or, or_true]
    exact And.intro (by omega) ⟨fun y => absurd y q, fun _ => h⟩
