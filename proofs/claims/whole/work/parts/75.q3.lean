theorem GI.last {F : Nat} {σ : St} (h : GI F σ) (hF : 100 ≤ F) (k : Int) : TT (f_X6_copyAtLast F 0 k σ) (fun r => ∃ ν, Pl F σ (evN (σ 232)).toNat r.2 ∧ Ctx F (σ 232) (evN (σ 232)).toNat ν ν r.2 ∧ ((r.1 = some (12 + 7 + 1 + 3 * k.toNat) ∧ (0 ≤ k ∧ k < ν 231 28) ∧ f_X7_asksCopy F 231 k r.2 = some (1, ν)) ∨ (r.1 = none ∧ ¬ (0 ≤ k ∧ k < ν 231 28) ∧ f_X7_asksCopy F 231 k r.2 = some (0, ν)))) := by
  have h60 := h.wf.ev60
  unfold f_X6_copyAtLast
  simp only [tt_ob, kd_0, true_and, tt_c1, Nat.zero_add, e4_size (F := F) (s := 4) rfl h.sc h.wf, tt_some]
  rw [show evN (σ 232) = (((evN (σ 232)).toNat : Nat) : Int) by omega, Int.toNat_natCast]
  refine (h.play hF (evN (σ 232)).toNat (by omega)).mono (fun σ1 P1 => ?_)
  obtain ⟨⟨v, ν⟩, ha, hv, μ, X⟩ := P1.asksCopy hF h k
  dsimp only at hv X
  have hm : μ = ν := by
    obtain ⟨α, -, e1, e2⟩ := X.al
    rw [e1, e2]
  subst hm
  have h30 := X.m2.n30 (by omega)
  have hcn := X.cr.cn
  by_cases q : 0 ≤ k ∧ k < μ 231 28
  · rw [if_pos q] at hv
    subst hv
    simp only [tt_ca, copyOf_ok (F := F) (b := 12) (σ := σ1) (k := k) rfl (by omega) (by omega), tt_some, tt_ob, kd_cpb (b := 12) (Or.inl rfl) (k := k) ⟨q.1, by omega⟩, true_and]
    refine ⟨μ, P1, X, Or.inl ?_⟩
    first
      | exact ⟨rfl, q, ha⟩
      | exact ⟨q, ha⟩
      | exact ⟨trivial, q, ha⟩
  · rw [if_neg q] at hv
    subst hv
    simp only [tt_ca, copyOf_no (F := F) (b := 12) (σ := σ1) (k := k) rfl (by omega), tt_some]
    refine ⟨μ, P1, X, Or.inr ?_⟩
    first
      | exact ⟨rfl, q, ha⟩
      | exact ⟨q, ha⟩
      | exact ⟨trivial, q, ha⟩
theorem wm_ok {F : Nat} {w0 : Int} {ν : St} {k : Int} (hF : 100 ≤ F) (h2 : ν 232 0 = w0) (hw : 0 ≤ w0 ∧ w0 ≤ 32) (hk : 0 ≤ k ∧ k < 60) : f_X7_wantsMany F 231 k ν = some (sm (fun c => if ν 246 (32 * k + c) = 0 then 0 else 1) w0.toNat) := by
  apply TT.eq
  unfold f_X7_wantsMany
  simp only [tt_gt, tt_sg, tt_ite, tt_ck, tt_lk, tt_ix, tt_bo, tt_by, tt_nz, tt_ob, tt_st, tt_cpk, tt_c1, tt_c2, tt_ca, tt_cb, tt_some, kd_231, kd_0, Nat.reduceAdd, true_and, and_true, true_implies, not_true_eq_false, false_implies, not_false_eq_true, true_or, or_true]
  refine cnt (L := fun n x i => f_X7_wantsMany_L4 F 231 k ν n x i) w0.toNat (fun c => if ν 246 (32 * k + c) = 0 then 0 else 1) (by omega) (fun n => ?_) (fun n i hi ht => ?_)
  · try dsimp only
    rw [f_X7_wantsMany_L4]
    simp only [tt_gt, tt_sg, tt_ite, tt_ck, tt_lk, tt_ix, tt_bo, tt_by, tt_nz, tt_ob, tt_st, tt_cpk, tt_c1, tt_c2, tt_ca, tt_cb, tt_some, kd_231, kd_0, Nat.reduceAdd, true_and, and_true, true_implies, not_true_eq_false, false_implies, not_false_eq_true, true_or, or_true, e_cells, h2]
    exact ⟨fun _ => trivial, fun z => absurd z (by omega)⟩
  · have hr := sm_rng (f := fun c => if ν 246 (32 * k + c) = 0 then 0 else 1) (M := 1) i (fun i _ => by split <;> omega)
    try dsimp only at ht hr ⊢
    rw [f_X7_wantsMany_L4]
    simp only [tt_gt, tt_sg, tt_ite, tt_ck, tt_lk, tt_ix, tt_bo, tt_by, tt_nz, tt_ob, tt_st, tt_cpk, tt_c1, tt_c2, tt_ca, tt_cb, tt_some, kd_231, kd_0, Nat.reduceAdd, true_and, and_true, true_implies, not_true_eq_false, false_implies, not_false_eq_true, true_or, or_true, e_cells, h2]
    refine ⟨fun z => absurd z (by omega), fun _ => And.intro (by omega) (And.intro (by omega) (And.intro (by omega) ⟨fun z => And.intro (by omega) (And.intro (by omega) ?_), fun z => And.intro (by omega) (And.intro (by omega) ?_)⟩))⟩
    · rw [if_pos z] at ht; exact ht
    · rw [if_neg z] at ht; exact ht
theorem sv_ok {F : Nat} {w0 : Int} {ν : St} {k : Int} (hF : 100 ≤ F) (h2 : ν 232 0 = w0) (hw : 0 ≤ w0 ∧ w0 ≤ 32) (hk : 0 ≤ k ∧ k < 60) : f_X7_savedMany F 231 k ν = some (sm (fun c => if ν 247 (32 * k + c) = 0 then 0 else 1) w0.toNat) := by
  apply TT.eq
  unfold f_X7_savedMany
  simp only [tt_gt, tt_sg, tt_ite, tt_ck, tt_lk, tt_ix, tt_bo, tt_by, tt_nz, tt_ob, tt_st, tt_cpk, tt_c1, tt_c2, tt_ca, tt_cb, tt_some, kd_231, kd_0, Nat.reduceAdd, true_and, and_true, true_implies, not_true_eq_false, false_implies, not_false_eq_true, true_or, or_true]
  refine cnt (L := fun n x i => f_X7_savedMany_L4 F 231 k ν n x i) w0.toNat (fun c => if ν 247 (32 * k + c) = 0 then 0 else 1) (by omega) (fun n => ?_) (fun n i hi ht => ?_)
  · try dsimp only
    rw [f_X7_savedMany_L4]
    simp only [tt_gt, tt_sg, tt_ite, tt_ck, tt_lk, tt_ix, tt_bo, tt_by, tt_nz, tt_ob, tt_st, tt_cpk, tt_c1, tt_c2, tt_ca, tt_cb, tt_some, kd_231, kd_0, Nat.reduceAdd, true_and, and_true, true_implies, not_true_eq_false, false_implies, not_false_eq_true, true_or, or_true, e_cells, h2]
    exact ⟨fun _ => trivial, fun z => absurd z (by omega)⟩
  · have hr := sm_rng (f := fun c => if ν 247 (32 * k + c) = 0 then 0 else 1) (M := 1) i (fun i _ => by split <;> omega)
    try dsimp only at ht hr ⊢
    rw [f_X7_savedMany_L4]
    simp only [tt_gt, tt_sg, tt_ite, tt_ck, tt_lk, tt_ix, tt_bo, tt_by, tt_nz, tt_ob, tt_st, tt_cpk, tt_c1, tt_c2, tt_ca, tt_cb, tt_some, kd_231, kd_0, Nat.reduceAdd, true_and, and_true, true_implies, not_true_eq_false, false_implies, not_false_eq_true, true_or, or_true, e_cells, h2]
    refine ⟨fun z => absurd z (by omega), fun _ => And.intro (by omega) (And.intro (by omega) (And.intro (by omega) ⟨fun z => And.intro (by omega) (And.intro (by omega) ?_), fun z => And.intro (by omega) (And.intro (by omega) ?_)⟩))⟩
    · rw [if_pos z] at ht; exact ht
    · rw [if_neg z] at ht; exact ht
theorem bc_wt {K : Nat} {w0 : Int} {t : Nat} {k : Int} {ν σ1 : St} (hw : 0 ≤ w0 ∧ w0 ≤ 32) (M : MC1 w0 t ν k) (C : CC K k ν σ1) : bc (σ1 K 4) 32 = sm (fun c => if ν 246 (32 * k + c) = 0 then 0 else 1) w0.toNat := by
  refine bc_eq (by omega) (fun c hc => ?_) (fun c c1 c2 z => ?_)
  · have h1 := C.wt c (by omega) (by omega)
    by_cases z : ν 246 (32 * k + c) = 0
    · rw [if_pos z, if_neg (fun y => (h1.mp y) z)]
    · rw [if_neg z, if_pos (h1.mpr z)]
  · have h1 := (C.wt c (by omega) (by omega)).mp z
    have := (M.wt c (by omega) (by omega)).2 h1
    omega
theorem bc_rs {K : Nat} {w0 : Int} {t : Nat} {k : Int} {ν σ1 : St} (hw : 0 ≤ w0 ∧ w0 ≤ 32) (M : MC1 w0 t ν k) (C : CD K k ν σ1) : bc (σ1 K 6) 32 = sm (fun c => if ν 247 (32 * k + c) = 0 then 0 else 1) w0.toNat := by
  refine bc_eq (by omega) (fun c hc => ?_) (fun c c1 c2 z => ?_)
  · have h1 := C.rs c (by omega) (by omega)
    by_cases z : ν 247 (32 * k + c) = 0
    · rw [if_pos z, if_neg (fun y => (h1.mp y) z)]
    · rw [if_neg z, if_pos (h1.mpr z)]
  · have h1 := (C.rs c (by omega) (by omega)).mp z
    rcases M.kb c (by omega) (by omega) with y | y
    · exact h1 y.2
    · have := (M.wt c (by omega) (by omega)).2 y.2.2.1
      omega
theorem q_copy {F : Nat} {σ : St} {k c : Int} (hF : 100 ≤ F) (h : GI F σ) : PP F (f_X6_copy F 0 k c σ) (f_X7_copy F 231 k c) := by
  have h60 := h.wf.ev60
  have hw0 : 0 ≤ σ 232 0 ∧ σ 232 0 ≤ 32 := ⟨h.wf.1.1, h.wf.1.2.1⟩
  unfold PP f_X6_copy
  simp only [tt_ob, kd_0, true_and, tt_cb]
  refine (h.last hF k).mono (fun r hr => ?_)
  obtain ⟨o, σ1⟩ := r
  obtain ⟨ν, P1, X, hr⟩ := hr
  dsimp only at P1 X hr ⊢
  rcases hr with ⟨rfl, hk, ha⟩ | ⟨rfl, hk, ha⟩
  · have hc := e6_hasCell (F := F) (c := c) X.sr
    have hK := kd_cpb (b := 12) (Or.inl rfl) (k := k) ⟨hk.1, by have := X.m2.n30 (by omega); omega⟩
    have CCk := X.cr.cc k hk.1 hk.2
    have CDk := X.cr.cd k hk.1 hk.2
    have M := X.m2.cp k hk.1 hk.2
    have h30 := X.m2.n30 (by omega)
    have ei := e_isCell (F := F) (σ := ν) (by rw [X.w2]; exact X.wf.1) c
    rw [X.w2] at ei
    have hwm := wm_ok (F := F) (ν := ν) (k := k) hF (by rw [X.w2]) hw0 ⟨hk.1, by omega⟩
    have hsv := sv_ok (F := F) (ν := ν) (k := k) hF (by rw [X.w2]) hw0 ⟨hk.1, by omega⟩
    have hbw := bc_wt hw0 M CCk
    have hbs := bc_rs hw0 M CDk
    generalize 12 + 7 + 1 + 3 * k.toNat = K at *
    have h8 : c < 0 ∨ 6 < c ∨ c = 0 ∨ c = 1 ∨ c = 2 ∨ c = 3 ∨ c = 4 ∨ c = 5 ∨ c = 6 := by omega
    rcases h8 with z | z | rfl | rfl | rfl | rfl | rfl | rfl | rfl
    · have e1 : ¬ c = 0 ∧ ¬ c = 1 ∧ ¬ c = 2 ∧ ¬ c = 3 ∧ ¬ c = 4 ∧ ¬ c = 5 ∧ ¬ c = 6 := by omega
      simp only [tt_gt, tt_sg, tt_ite, tt_ck, tt_lk, tt_ix, tt_bo, tt_by, tt_nz, tt_ob, tt_st, tt_cpk, tt_c1, tt_c2, tt_ca, tt_cb, tt_some, kd_231, kd_0, Nat.reduceAdd, true_and, and_true, true_implies, not_true_eq_false, false_implies, not_false_eq_true, true_or, or_true, hK, z, eq_self]
      unfold f_X7_copy
      simp only [tt_gt, tt_sg, tt_ite, tt_ck, tt_lk, tt_ix, tt_bo, tt_by, tt_nz, tt_ob, tt_st, tt_cpk, tt_c1, tt_c2, tt_ca, tt_cb, tt_some, kd_231, kd_0, Nat.reduceAdd, true_and, and_true, true_implies, not_true_eq_false, false_implies, not_false_eq_true, true_or, or_true, ha, one0, e1, eq_self]
      exact X.gi
    · have e1 : ¬ c = 0 ∧ ¬ c = 1 ∧ ¬ c = 2 ∧ ¬ c = 3 ∧ ¬ c = 4 ∧ ¬ c = 5 ∧ ¬ c = 6 := by omega
      have e2 : ¬ c < 0 ∧ ¬ c ≤ 6 := by omega
      simp only [tt_gt, tt_sg, tt_ite, tt_ck, tt_lk, tt_ix, tt_bo, tt_by, tt_nz, tt_ob, tt_st, tt_cpk, tt_c1, tt_c2, tt_ca, tt_cb, tt_some, kd_231, kd_0, Nat.reduceAdd, true_and, and_true, true_implies, not_true_eq_false, false_implies, not_false_eq_true, true_or, or_true, hK, e2, eq_self]
      unfold f_X7_copy
      simp only [tt_gt, tt_sg, tt_ite, tt_ck, tt_lk, tt_ix, tt_bo, tt_by, tt_nz, tt_ob, tt_st, tt_cpk, tt_c1, tt_c2, tt_ca, tt_cb, tt_some, kd_231, kd_0, Nat.reduceAdd, true_and, and_true, true_implies, not_true_eq_false, false_implies, not_false_eq_true, true_or, or_true, ha, one0, e1, eq_self]
      exact X.gi
    · unfold f_X7_copy
      simp only [tt_gt, tt_sg, tt_ite, tt_ck, tt_lk, tt_ix, tt_bo, tt_by, tt_nz, tt_ob, tt_st, tt_cpk, tt_c1, tt_c2, tt_ca, tt_cb, tt_some, kd_231, kd_0, Nat.reduceAdd, true_and, and_true, true_implies, not_true_eq_false, false_implies, not_false_eq_true, true_or, or_true, hK, ha, one0, eq_self, Int.reduceLT, Int.reduceLE, Int.reduceEq, CDk.fl]
      have hf := M.fl
      exact ⟨fun z => ⟨by omega, z.symm, X.gi⟩, fun z => ⟨by omega, by omega, X.gi⟩⟩
    · unfold f_X7_copy
      simp only [tt_gt, tt_sg, tt_ite, tt_ck, tt_lk, tt_ix, tt_bo, tt_by, tt_nz, tt_ob, tt_st, tt_cpk, tt_c1, tt_c2, tt_ca, tt_cb, tt_some, kd_231, kd_0, Nat.reduceAdd, true_and, and_true, true_implies, not_true_eq_false, false_implies, not_false_eq_true, true_or, or_true, hK, ha, one0, eq_self, Int.reduceLT, Int.reduceLE, Int.reduceEq, CDk.mk1]
      exact ⟨by omega, X.gi⟩
    · unfold f_X7_copy
      simp only [tt_gt, tt_sg, tt_ite, tt_ck, tt_lk, tt_ix, tt_bo, tt_by, tt_nz, tt_ob, tt_st, tt_cpk, tt_c1, tt_c2, tt_ca, tt_cb, tt_some, kd_231, kd_0, Nat.reduceAdd, true_and, and_true, true_implies, not_true_eq_false, false_implies, not_false_eq_true, true_or, or_true, hK, ha, one0, eq_self, Int.reduceLT, Int.reduceLE, Int.reduceEq, CDk.st]
      exact ⟨by omega, X.gi⟩
    · unfold f_X7_copy
      simp only [tt_gt, tt_sg, tt_ite, tt_ck, tt_lk, tt_ix, tt_bo, tt_by, tt_nz, tt_ob, tt_st, tt_cpk, tt_c1, tt_c2, tt_ca, tt_cb, tt_some, kd_231, kd_0, Nat.reduceAdd, true_and, and_true, true_implies, not_true_eq_false, false_implies, not_false_eq_true, true_or, or_true, hK, ha, one0, eq_self, Int.reduceLT, Int.reduceLE, Int.reduceEq, bitc_ok, hbw, hwm]
      exact X.gi
    · unfold f_X7_copy
      simp only [tt_gt, tt_sg, tt_ite, tt_ck, tt_lk, tt_ix, tt_bo, tt_by, tt_nz, tt_ob, tt_st, tt_cpk, tt_c1, tt_c2, tt_ca, tt_cb, tt_some, kd_231, kd_0, Nat.reduceAdd, true_and, and_true, true_implies, not_true_eq_false, false_implies, not_false_eq_true, true_or, or_true, hK, ha, one0, eq_self, Int.reduceLT, Int.reduceLE, Int.reduceEq, CCk.sz]
      exact ⟨by omega, X.gi⟩
    · unfold f_X7_copy
      simp only [tt_gt, tt_sg, tt_ite, tt_ck, tt_lk, tt_ix, tt_bo, tt_by, tt_nz, tt_ob, tt_st, tt_cpk, tt_c1, tt_c2, tt_ca, tt_cb, tt_some, kd_231, kd_0, Nat.reduceAdd, true_and, and_true, true_implies, not_true_eq_false, false_implies, not_false_eq_true, true_or, or_true, hK, ha, one0, eq_self, Int.reduceLT, Int.reduceLE, Int.reduceEq, bitc_ok, hbs, hsv]
      exact X.gi
    · unfold f_X7_copy
      simp only [tt_gt, tt_sg, tt_ite, tt_ck, tt_lk, tt_ix, tt_bo, tt_by, tt_nz, tt_ob, tt_st, tt_cpk, tt_c1, tt_c2, tt_ca, tt_cb, tt_some, kd_231, kd_0, Nat.reduceAdd, true_and, and_true, true_implies, not_true_eq_false, false_implies, not_false_eq_true, true_or, or_true, hK, ha, one0, eq_self, Int.reduceLT, Int.reduceLE, Int.reduceEq, CDk.en]
      exact ⟨by omega, X.gi⟩
  · simp only [tt_gt, tt_sg, tt_ite, tt_ck, tt_lk, tt_ix, tt_bo, tt_by, tt_nz, tt_ob, tt_st, tt_cpk, tt_c1, tt_c2, tt_ca, tt_cb, tt_some, kd_231, kd_0, Nat.reduceAdd, true_and, and_true, true_implies, not_true_eq_false, false_implies, not_false_eq_true, true_or, or_true]
    unfold f_X7_copy
    simp only [tt_gt, tt_sg, tt_ite, tt_ck, tt_lk, tt_ix, tt_bo, tt_by, tt_nz, tt_ob, tt_st, tt_cpk, tt_c1, tt_c2, tt_ca, tt_cb, tt_some, kd_231, kd_0, Nat.reduceAdd, true_and, and_true, true_implies, not_true_eq_false, false_implies, not_false_eq_true, true_or, or_true, ha, eq_self]
    exact X.gi
theorem q_kept {F : Nat} {σ : St} {k c : Int} (hF : 100 ≤ F) (h : GI F σ) : PP F (f_X6_kept F 0 k c σ) (f_X7_kept F 231 k c) := by
  have h60 := h.wf.ev60
  have hw0 : 0 ≤ σ 232 0 ∧ σ 232 0 ≤ 32 := ⟨h.wf.1.1, h.wf.1.2.1⟩
  unfold PP f_X6_kept
  simp only [tt_ob, kd_0, true_and, tt_cb]
  refine (h.last hF k).mono (fun r hr => ?_)
  obtain ⟨o, σ1⟩ := r
  obtain ⟨ν, P1, X, hr⟩ := hr
  dsimp only at P1 X hr ⊢
  rcases hr with ⟨rfl, hk, ha⟩ | ⟨rfl, hk, ha⟩
  · have hc := e6_hasCell (F := F) (c := c) X.sr
    have hK := kd_cpb (b := 12) (Or.inl rfl) (k := k) ⟨hk.1, by have := X.m2.n30 (by omega); omega⟩
    have CCk := X.cr.cc k hk.1 hk.2
    have CDk := X.cr.cd k hk.1 hk.2
    have M := X.m2.cp k hk.1 hk.2
    have h30 := X.m2.n30 (by omega)
    have ei := e_isCell (F := F) (σ := ν) (by rw [X.w2]; exact X.wf.1) c
    rw [X.w2] at ei
    by_cases qc : 0 ≤ c ∧ c < σ 232 0
    · rw [if_pos qc] at hc ei
      have hh := CCk.hd c qc.1 (by omega)
      have ht := CCk.ct c qc.1 (by omega)
      have mo : ∀ a : Int, a = (if ν 243 k = 2 then -1 else if ν 248 (32 * k + c) = -1 then -1 else ν 239 (32 * ν 242 k + c)) → TT (f_X7_kept F 231 k c σ1) (fun r' => a = r'.1 ∧ GI F r'.2) := by
        intro a hA
        unfold f_X7_kept
        simp only [tt_gt, tt_sg, tt_ite, tt_ck, tt_lk, tt_ix, tt_bo, tt_by, tt_nz, tt_ob, tt_st, tt_cpk, tt_c1, tt_c2, tt_ca, tt_cb, tt_some, kd_231, kd_0, Nat.reduceAdd, true_and, and_true, true_implies, not_true_eq_false, false_implies, not_false_eq_true, true_or, or_true, ha, one0, ei]
        refine And.intro (by omega) ⟨fun z => ?_, fun z => And.intro (by omega) (And.intro (by omega) (And.intro (by omega) ⟨fun z2 => And.intro (by omega) ?_, fun z2 => ?_⟩))⟩
        · rw [if_pos z] at hA; exact ⟨hA, X.gi⟩
        · rw [if_neg z, if_neg z2] at hA
          have hm := M.mrk
          rw [e_valueAt (F := F) (σ := ν) ⟨qc.1, by omega⟩ ⟨hm.1, by omega⟩, tt_some]
          exact ⟨hA, X.gi⟩
        · rw [if_neg z, if_pos (Classical.byContradiction z2)] at hA
          exact ⟨hA, X.gi⟩
      have hst := CDk.st
      generalize 12 + 7 + 1 + 3 * k.toNat = K at *
      simp only [tt_gt, tt_sg, tt_ite, tt_ck, tt_lk, tt_ix, tt_bo, tt_by, tt_nz, tt_ob, tt_st, tt_cpk, tt_c1, tt_c2, tt_ca, tt_cb, tt_some, kd_231, kd_0, Nat.reduceAdd, true_and, and_true, true_implies, not_true_eq_false, false_implies, not_false_eq_true, true_or, or_true, Nat.zero_add, hK, hc, one0, hst, e6_holds]
      refine ⟨fun z => mo _ (by rw [if_pos z]), fun z => ⟨fun z2 => ?_, fun z2 => ?_⟩⟩
      · have y : ¬ bt (σ1 K 5) c := fun y => by rw [if_pos y] at z2; exact absurd z2 (by decide)
        exact mo _ (by rw [if_neg z, if_pos (Classical.byContradiction fun x => y (hh.mpr x))])
      · have y : bt (σ1 K 5) c := Classical.byContradiction fun y => z2 (if_neg y)
        have y2 := hh.mp y
        have e1 : f_X1_contentOf F K c σ1 = some (σ1 (K + 1) c) := by
          apply TT.eq
          unfold f_X1_contentOf
          simp only [tt_gt, tt_sg, tt_ite, tt_ck, tt_lk, tt_ix, tt_bo, tt_by, tt_nz, tt_ob, tt_st, tt_cpk, tt_c1, tt_c2, tt_ca, tt_cb, tt_some, kd_231, kd_0, Nat.reduceAdd, true_and, and_true, true_implies, not_true_eq_false, false_implies, not_false_eq_true, true_or, or_true, hK]
          exact ⟨fun x => absurd x (by omega), fun _ => ⟨fun x => absurd x (by omega), fun _ => by omega⟩⟩
        rw [e1, tt_some]
        exact mo _ (by rw [if_neg z, if_neg y2, ht y2])
    · rw [if_neg qc] at hc ei
      simp only [tt_gt, tt_sg, tt_ite, tt_ck, tt_lk, tt_ix, tt_bo, tt_by, tt_nz, tt_ob, tt_st, tt_cpk, tt_c1, tt_c2, tt_ca, tt_cb, tt_some, kd_231, kd_0, Nat.reduceAdd, true_and, and_true, true_implies, not_true_eq_false, false_implies, not_false_eq_true, true_or, or_true, Nat.zero_add, hK, hc, eq_self]
      unfold f_X7_kept
      simp only [tt_gt, tt_sg, tt_ite, tt_ck, tt_lk, tt_ix, tt_bo, tt_by, tt_nz, tt_ob, tt_st, tt_cpk, tt_c1, tt_c2, tt_ca, tt_cb, tt_some, kd_231, kd_0, Nat.reduceAdd, true_and, and_true, true_implies, not_true_eq_false, false_implies, not_false_eq_true, true_or, or_true, ha, one0, ei]
      try simp only [eq_self, not_true_eq_false, false_implies, not_false_eq_true, true_implies, true_and, and_true]
      exact X.gi
  · simp only [tt_gt, tt_sg, tt_ite, tt_ck, tt_lk, tt_ix, tt_bo, tt_by, tt_nz, tt_ob, tt_st, tt_cpk, tt_c1, tt_c2, tt_ca, tt_cb, tt_some, kd_231, kd_0, Nat.reduceAdd, true_and, and_true, true_implies, not_true_eq_false, false_implies, not_false_eq_true, true_or, or_true]
    unfold f_X7_kept
    simp only [tt_gt, tt_sg, tt_ite, tt_ck, tt_lk, tt_ix, tt_bo, tt_by, tt_nz, tt_ob, tt_st, tt_cpk, tt_c1, tt_c2, tt_ca, tt_cb, tt_some, kd_231, kd_0, Nat.reduceAdd, true_and, and_true, true_implies, not_true_eq_false, false_implies, not_false_eq_true, true_or, or_true, ha, eq_self]
    exact X.gi
theorem q_saved {F : Nat} {σ : St} {k c : Int} (hF : 100 ≤ F) (h : GI F σ) : PP F (f_X6_saved F 0 k c σ) (f_X7_saved F 231 k c) := by
  have h60 := h.wf.ev60
  have hw0 : 0 ≤ σ 232 0 ∧ σ 232 0 ≤ 32 := ⟨h.wf.1.1, h.wf.1.2.1⟩
  unfold PP f_X6_saved
  simp only [tt_ob, kd_0, true_and, tt_cb]
  refine (h.last hF k).mono (fun r hr => ?_)
  obtain ⟨o, σ1⟩ := r
  obtain ⟨ν, P1, X, hr⟩ := hr
  dsimp only at P1 X hr ⊢
  rcases hr with ⟨rfl, hk, ha⟩ | ⟨rfl, hk, ha⟩
  · have hc := e6_hasCell (F := F) (c := c) X.sr
    have hK := kd_cpb (b := 12) (Or.inl rfl) (k := k) ⟨hk.1, by have := X.m2.n30 (by omega); omega⟩
    have CCk := X.cr.cc k hk.1 hk.2
    have CDk := X.cr.cd k hk.1 hk.2
    have M := X.m2.cp k hk.1 hk.2
    have h30 := X.m2.n30 (by omega)
    have ei := e_isCell (F := F) (σ := ν) (by rw [X.w2]; exact X.wf.1) c
    rw [X.w2] at ei
    by_cases qc : 0 ≤ c ∧ c < σ 232 0
    · rw [if_pos qc] at hc ei
      have hh := CDk.rs c qc.1 (by omega)
      have mo : ∀ a : Int, a = (if ν 247 (32 * k + c) = 0 then 0 else 1) → TT (f_X7_saved F 231 k c σ1) (fun r' => a = r'.1 ∧ GI F r'.2) := by
        intro a hA
        unfold f_X7_saved
        simp only [tt_gt, tt_sg, tt_ite, tt_ck, tt_lk, tt_ix, tt_bo, tt_by, tt_nz, tt_ob, tt_st, tt_cpk, tt_c1, tt_c2, tt_ca, tt_cb, tt_some, kd_231, kd_0, Nat.reduceAdd, true_and, and_true, true_implies, not_true_eq_false, false_implies, not_false_eq_true, true_or, or_true, ha, one0, ei]
        refine And.intro (by omega) (And.intro (by omega) (And.intro (by omega) ⟨fun z => ?_, fun z => ?_⟩))
        · rw [if_pos z] at hA; exact ⟨hA, X.gi⟩
        · rw [if_neg z] at hA; exact ⟨hA, X.gi⟩
      generalize 12 + 7 + 1 + 3 * k.toNat = K at *
      simp only [tt_gt, tt_sg, tt_ite, tt_ck, tt_lk, tt_ix, tt_bo, tt_by, tt_nz, tt_ob, tt_st, tt_cpk, tt_c1, tt_c2, tt_ca, tt_cb, tt_some, kd_231, kd_0, Nat.reduceAdd, true_and, and_true, true_implies, not_true_eq_false, false_implies, not_false_eq_true, true_or, or_true, Nat.zero_add, hK, hc, one0, e6_holds]
      refine ⟨fun z => ?_, fun z => ?_⟩
      · have y : ¬ bt (σ1 K 6) c := fun y => by rw [if_pos y] at z; exact absurd z (by decide)
        exact mo _ (by rw [if_pos (Classical.byContradiction fun x => y (hh.mpr x))])
      · have y : bt (σ1 K 6) c := Classical.byContradiction fun y => z (if_neg y)
        exact mo _ (by rw [if_neg (hh.mp y)])
    · rw [if_neg qc] at hc ei
      simp only [tt_gt, tt_sg, tt_ite, tt_ck, tt_lk, tt_ix, tt_bo, tt_by, tt_nz, tt_ob, tt_st, tt_cpk, tt_c1, tt_c2, tt_ca, tt_cb, tt_some, kd_231, kd_0, Nat.reduceAdd, true_and, and_true, true_implies, not_true_eq_false, false_implies, not_false_eq_true, true_or, or_true, Nat.zero_add, hK, hc, eq_self]
      unfold f_X7_saved
      simp only [tt_gt, tt_sg, tt_ite, tt_ck, tt_lk, tt_ix, tt_bo, tt_by, tt_nz, tt_ob, tt_st, tt_cpk, tt_c1, tt_c2, tt_ca, tt_cb, tt_some, kd_231, kd_0, Nat.reduceAdd, true_and, and_true, true_implies, not_true_eq_false, false_implies, not_false_eq_true, true_or, or_true, ha, one0, ei]
      try simp only [eq_self, not_true_eq_false, false_implies, not_false_eq_true, true_implies, true_and, and_true]
      exact X.gi
  · simp only [tt_gt, tt_sg, tt_ite, tt_ck, tt_lk, tt_ix, tt_bo, tt_by, tt_nz, tt_ob, tt_st, tt_cpk, tt_c1, tt_c2, tt_ca, tt_cb, tt_some, kd_231, kd_0, Nat.reduceAdd, true_and, and_true, true_implies, not_true_eq_false, false_implies, not_false_eq_true, true_or, or_true]
    unfold f_X7_saved
    simp only [tt_gt, tt_sg, tt_ite, tt_ck, tt_lk, tt_ix, tt_bo, tt_by, tt_nz, tt_ob, tt_st, tt_cpk, tt_c1, tt_c2, tt_ca, tt_cb, tt_some, kd_231, kd_0, Nat.reduceAdd, true_and, and_true, true_implies, not_true_eq_false, false_implies, not_false_eq_true, true_or, or_true, ha, eq_self]
    exact X.gi
theorem q_order {F : Nat} {σ : St} {k c : Int} (hF : 100 ≤ F) (h : GI F σ) : PP F (f_X6_order F 0 k c σ) (f_X7_order F 231 k c) := by
  have h60 := h.wf.ev60
  have hw0 : 0 ≤ σ 232 0 ∧ σ 232 0 ≤ 32 := ⟨h.wf.1.1, h.wf.1.2.1⟩
  unfold PP f_X6_order
  simp only [tt_ob, kd_0, true_and, tt_cb]
  refine (h.last hF k).mono (fun r hr => ?_)
  obtain ⟨o, σ1⟩ := r
  obtain ⟨ν, P1, X, hr⟩ := hr
  dsimp only at P1 X hr ⊢
  rcases hr with ⟨rfl, hk, ha⟩ | ⟨rfl, hk, ha⟩
  · have hc := e6_hasCell (F := F) (c := c) X.sr
    have hK := kd_cpb (b := 12) (Or.inl rfl) (k := k) ⟨hk.1, by have := X.m2.n30 (by omega); omega⟩
    have CCk := X.cr.cc k hk.1 hk.2
    have CDk := X.cr.cd k hk.1 hk.2
    have M := X.m2.cp k hk.1 hk.2
    have h30 := X.m2.n30 (by omega)
    have ei := e_isCell (F := F) (σ := ν) (by rw [X.w2]; exact X.wf.1) c
    rw [X.w2] at ei
    have hsz := CCk.sz
    have htn := CCk.tn
    have hkz := M.sz
    have hkr := kpN_rng ν k
    generalize 12 + 7 + 1 + 3 * k.toNat = K at *
    unfold f_X7_order
    by_cases q1 : 0 ≤ c
    · have e1 : f_X1_cellInTurn F K c σ1 = some (if ν 245 k ≤ c then -1 else ν 249 (32 * k + c)) := by
        apply TT.eq
        unfold f_X1_cellInTurn
        simp only [tt_gt, tt_sg, tt_ite, tt_ck, tt_lk, tt_ix, tt_bo, tt_by, tt_nz, tt_ob, tt_st, tt_cpk, tt_c1, tt_c2, tt_ca, tt_cb, tt_some, kd_231, kd_0, Nat.reduceAdd, true_and, and_true, true_implies, not_true_eq_false, false_implies, not_false_eq_true, true_or, or_true, hK, hsz]
        refine ⟨fun x => absurd x (by omega), fun _ => ⟨fun x => by rw [if_pos x], fun x => ⟨fun y => absurd y (by omega), fun y => And.intro (by omega) ?_⟩⟩⟩
        rw [if_neg x]
        exact htn c q1 (by omega)
      simp only [tt_gt, tt_sg, tt_ite, tt_ck, tt_lk, tt_ix, tt_bo, tt_by, tt_nz, tt_ob, tt_st, tt_cpk, tt_c1, tt_c2, tt_ca, tt_cb, tt_some, kd_231, kd_0, Nat.reduceAdd, true_and, and_true, true_implies, not_true_eq_false, false_implies, not_false_eq_true, true_or, or_true, hK, q1, e1, ha, one0]
      refine And.intro (by omega) ⟨fun z => ⟨by rw [if_pos z], X.gi⟩, fun z => And.intro (by omega) (And.intro (by omega) (And.intro (by omega) ⟨by rw [if_neg z], X.gi⟩))⟩
    · simp only [tt_gt, tt_sg, tt_ite, tt_ck, tt_lk, tt_ix, tt_bo, tt_by, tt_nz, tt_ob, tt_st, tt_cpk, tt_c1, tt_c2, tt_ca, tt_cb, tt_some, kd_231, kd_0, Nat.reduceAdd, true_and, and_true, true_implies, not_true_eq_false, false_implies, not_false_eq_true, true_or, or_true, hK, q1, ha, one0, eq_self]
      exact X.gi
  · simp only [tt_gt, tt_sg, tt_ite, tt_ck, tt_lk, tt_ix, tt_bo, tt_by, tt_nz, tt_ob, tt_st, tt_cpk, tt_c1, tt_c2, tt_ca, tt_cb, tt_some, kd_231, kd_0, Nat.reduceAdd, true_and, and_true, true_implies, not_true_eq_false, false_implies, not_false_eq_true, true_or, or_true]
    unfold f_X7_order
    simp only [tt_gt, tt_sg, tt_ite, tt_ck, tt_lk, tt_ix, tt_bo, tt_by, tt_nz, tt_ob, tt_st, tt_cpk, tt_c1, tt_c2, tt_ca, tt_cb, tt_some, kd_231, kd_0, Nat.reduceAdd, true_and, and_true, true_implies, not_true_eq_false, false_implies, not_false_eq_true, true_or, or_true, ha, eq_self]
    exact X.gi
theorem kt_ok {F : Nat} {w0 : Int} {ν : St} {k T : Int} (hF : 100 ≤ F) (h2 : ν 232 0 = w0) (hw : 0 ≤ w0 ∧ w0 ≤ 32) (hk : 0 ≤ k ∧ k < 60) : f_X7_keptTill F 231 k T ν = some (sm (fun c => if ν 248 (32 * k + c) = -1 then 0 else if T ≤ ν 248 (32 * k + c) then 0 else 1) w0.toNat) := by
  apply TT.eq
  unfold f_X7_keptTill
  simp only [tt_gt, tt_sg, tt_ite, tt_ck, tt_lk, tt_ix, tt_bo, tt_by, tt_nz, tt_ob, tt_st, tt_cpk, tt_c1, tt_c2, tt_ca, tt_cb, tt_some, kd_231, kd_0, Nat.reduceAdd, true_and, and_true, true_implies, not_true_eq_false, false_implies, not_false_eq_true, true_or, or_true]
  refine cnt (L := fun n x i => f_X7_keptTill_L5 F 231 k T ν n x i) w0.toNat (fun c => if ν 248 (32 * k + c) = -1 then 0 else if T ≤ ν 248 (32 * k + c) then 0 else 1) (by omega) (fun n => ?_) (fun n i hi ht => ?_)
  · try dsimp only
    rw [f_X7_keptTill_L5]
    simp only [tt_gt, tt_sg, tt_ite, tt_ck, tt_lk, tt_ix, tt_bo, tt_by, tt_nz, tt_ob, tt_st, tt_cpk, tt_c1, tt_c2, tt_ca, tt_cb, tt_some, kd_231, kd_0, Nat.reduceAdd, true_and, and_true, true_implies, not_true_eq_false, false_implies, not_false_eq_true, true_or, or_true, e_cells, h2]
    exact ⟨fun _ => trivial, fun z => absurd z (by omega)⟩
  · have hr := sm_rng (f := fun c => if ν 248 (32 * k + c) = -1 then 0 else if T ≤ ν 248 (32 * k + c) then 0 else 1) (M := 1) i (fun i _ => by split; omega; split <;> omega)
    try dsimp only at ht hr ⊢
    rw [f_X7_keptTill_L5]
    simp only [tt_gt, tt_sg, tt_ite, tt_ck, tt_lk, tt_ix, tt_bo, tt_by, tt_nz, tt_ob, tt_st, tt_cpk, tt_c1, tt_c2, tt_ca, tt_cb, tt_some, kd_231, kd_0, Nat.reduceAdd, true_and, and_true, true_implies, not_true_eq_false, false_implies, not_false_eq_true, true_or, or_true, e_cells, h2]
    refine ⟨fun z => absurd z (by omega), fun _ => And.intro (by omega) (And.intro (by omega) (And.intro (by omega) ⟨fun z => And.intro (by omega) (And.intro (by omega) ?_), fun z => And.intro (by omega) (And.intro (by omega) (And.intro (by omega) ⟨fun z2 => And.intro (by omega) (And.intro (by omega) ?_), fun z2 => And.intro (by omega) (And.intro (by omega) ?_)⟩))⟩))⟩
    · rw [if_pos z] at ht; exact ht
    · rw [if_neg z, if_pos z2] at ht; exact ht
    · rw [if_neg z, if_neg z2] at ht; exact ht
theorem kt_mu {F : Nat} {w : Int → Int} {T : Nat} {μ ν σ1 : St} (X : Ctx F w T μ ν σ1) {k : Int} (hk : 0 ≤ k ∧ k < μ 231 28) {c : Int} (hc : 0 ≤ c ∧ c < 32) : (if ν 248 (32 * k + c) = -1 then (0 : Int) else if (T : Int) ≤ ν 248 (32 * k + c) then 0 else 1) = if μ 248 (32 * k + c) = -1 then 0 else 1 := by
  have M := X.m1.cp k hk.1 hk.2
  rcases X.hs.kb k hk.1 hk.2 c hc.1 hc.2 with z | z
  · rw [z.1]
    rcases M.kb c hc.1 hc.2 with y | y
    · rw [if_pos y.1, if_pos y.1]
    · have hm := M.mrk
      rw [if_neg (by omega), if_neg (by omega), if_neg (by omega)]
  · rw [if_pos z.1]
    by_cases y : ν 248 (32 * k + c) = -1
    · rw [if_pos y]
    · rw [if_neg y, if_pos z.2.2]
theorem kt_sum {F : Nat} {w : Int → Int} {T : Nat} {μ ν σ1 : St} (X : Ctx F w T μ ν σ1) {k : Int} (hk : 0 ≤ k ∧ k < ν 231 28) : sm (fun c => if ν 248 (32 * k + c) = -1 then 0 else if (T : Int) ≤ ν 248 (32 * k + c) then 0 else 1) (w 0).toNat = if k < μ 231 28 then μ 245 k else 0 := by
  have hw0 : 0 ≤ w 0 ∧ w 0 ≤ 32 := ⟨X.wf.1.1, X.wf.1.2.1⟩
  by_cases q : k < μ 231 28
  · have M := X.m1.cp k hk.1 q
    rw [if_pos q, M.sz]
    unfold kpN
    rw [sm_ext (m := (w 0).toNat) 32 (by omega) (fun i i1 i2 => ?_)]
    · exact sm_congr _ (fun c hc => kt_mu X ⟨hk.1, q⟩ ⟨by omega, by omega⟩)
    · rcases M.kb i (by omega) (by omega) with y | y
      · rw [if_pos y.1]
      · have := (M.wt i (by omega) (by omega)).2 y.2.2.1
        omega
  · rw [if_neg q]
    refine sm_zero _ (fun c hc => ?_)
    have h1 := X.hs.nw k (by omega) hk.2
    rcases (X.m2.cp k hk.1 hk.2).kb c (by omega) (by omega) with y | y
    · rw [if_pos y.1]
    · by_cases z : ν 248 (32 * k + c) = -1
      · rw [if_pos z]
      · rw [if_neg z, if_pos (by omega)]
theorem q_waiting {F : Nat} {σ : St} {t : Int} (hF : 100 ≤ F) (h : GI F σ) : PP F (f_X6_waiting F 0 t σ) (f_X7_waiting F 231 t) := by
  have h60 := h.wf.ev60
  have hw0 : 0 ≤ σ 232 0 ∧ σ 232 0 ≤ 32 := ⟨h.wf.1.1, h.wf.1.2.1⟩
  have ht := e6_hasTick (F := F) (t := t) h.sc h.wf
  unfold PP f_X6_waiting
  by_cases q : 0 < σ 232 5 ∧ 0 ≤ t ∧ t ≤ evN (σ 232)
  · rw [if_pos q] at ht
    simp only [tt_gt, tt_sg, tt_ite, tt_ck, tt_lk, tt_ix, tt_bo, tt_by, tt_nz, tt_ob, tt_st, tt_cpk, tt_c1, tt_c2, tt_ca, tt_cb, tt_some, kd_231, kd_0, Nat.reduceAdd, true_and, and_true, true_implies, not_true_eq_false, false_implies, not_false_eq_true, true_or, or_true, Nat.zero_add, ht, one0]
    obtain ⟨T, rfl⟩ : ∃ T : Nat, t = T := ⟨t.toNat, by omega⟩
    refine (h.play hF T q.2.2).mono (fun σ1 P1 => ?_)
    obtain ⟨⟨v, ν⟩, ha, hv, μ, X⟩ := P1.asksAt hF h (T : Int)
    dsimp only at hv X
    rw [if_pos q] at hv
    subst hv
    have hop := X.cr.op
    have hcn := X.cr.cn
    have h30 := X.m2.n30 (by omega)
    have h31 := X.m1.n30 (by omega)
    have hh := X.hs.le
    have hO := openAt_ok hF X
    rw [hop]
    by_cases qo : μ 231 29 = -1
    · simp only [copyOf_no (F := F) (b := 12) (σ := σ1) (k := μ 231 29) rfl (by omega), tt_some]
      unfold f_X7_waiting
      simp only [tt_gt, tt_sg, tt_ite, tt_ck, tt_lk, tt_ix, tt_bo, tt_by, tt_nz, tt_ob, tt_st, tt_cpk, tt_c1, tt_c2, tt_ca, tt_cb, tt_some, kd_231, kd_0, Nat.reduceAdd, true_and, and_true, true_implies, not_true_eq_false, false_implies, not_false_eq_true, true_or, or_true, ha, one0, hO, qo, eq_self]
      exact X.gi
    · have ho := X.m1.op.resolve_left qo
      have hk : 0 ≤ μ 231 29 ∧ μ 231 29 < μ 231 28 := by omega
      have C := X.cr.cc (μ 231 29) hk.1 hk.2
      have M := X.m1.cp (μ 231 29) hk.1 hk.2
      have hK := kd_cpb (b := 12) (Or.inl rfl) (k := μ 231 29) ⟨hk.1, by omega⟩
      simp only [copyOf_ok (F := F) (b := 12) (σ := σ1) (k := μ 231 29) rfl (by omega) (by omega), tt_some, tt_ob, hK, true_and]
      refine (missing_ok hK C).mono (fun D hD => ?_)
      rw [bitc_ok, tt_some]
      have e1 : bc D 32 + sm (fun c => if μ 248 (32 * μ 231 29 + c) = -1 then 0 else 1) (σ 232 0).toNat = sm (fun c => if ν 246 (32 * μ 231 29 + c) = 0 then 0 else 1) (σ 232 0).toNat := by
        rw [bc_eq (n := (σ 232 0).toNat) (f := fun c => if bt D c then 1 else 0) (by omega) (fun c hc => rfl) (fun c c1 c2 z => ?_), ← sm_add]
        · refine sm_congr _ (fun c hc => ?_)
          have h1 := hD.2 c (by omega) (by omega)
          have h2 := (X.hs.fx (μ 231 29) hk.1 hk.2).2.2 c (by omega) (by omega)
          rw [h2]
          by_cases z : μ 246 (32 * μ 231 29 + c) = 0
          · rw [if_pos z, if_neg (fun y => (h1.mp y).1 z)]
            rcases M.kb c (by omega) (by omega) with y | y
            · rw [if_pos y.1]; rfl
            · exact absurd z y.2.2.1
          · rw [if_neg z]
            by_cases z2 : μ 248 (32 * μ 231 29 + c) = -1
            · rw [if_pos z2, if_pos (h1.mpr ⟨z, z2⟩)]; rfl
            · rw [if_neg z2, if_neg (fun y => z2 (h1.mp y).2)]; rfl
        · have h1 := ((hD.2 c (by omega) (by omega)).mp z).1
          have := (M.wt c (by omega) (by omega)).2 h1
          omega
      have e2 : sm (fun c => if ν 248 (32 * μ 231 29 + c) = -1 then 0 else if (T : Int) ≤ ν 248 (32 * μ 231 29 + c) then 0 else 1) (σ 232 0).toNat = sm (fun c => if μ 248 (32 * μ 231 29 + c) = -1 then 0 else 1) (σ 232 0).toNat := sm_congr _ (fun c hc => kt_mu X hk ⟨by omega, by omega⟩)
      have r1 := sm_rng (f := fun c => if μ 248 (32 * μ 231 29 + c) = -1 then 0 else 1) (M := 1) (σ 232 0).toNat (fun i _ => by split <;> omega)
      have r2 := bc_rng D 32
      unfold f_X7_waiting
      simp only [tt_gt, tt_sg, tt_ite, tt_ck, tt_lk, tt_ix, tt_bo, tt_by, tt_nz, tt_ob, tt_st, tt_cpk, tt_c1, tt_c2, tt_ca, tt_cb, tt_some, kd_231, kd_0, Nat.reduceAdd, true_and, and_true, true_implies, not_true_eq_false, false_implies, not_false_eq_true, true_or, or_true, ha, one0, hO, qo, wm_ok (F := F) (ν := ν) (k := μ 231 29) hF (by rw [X.w2]) hw0 ⟨hk.1, by omega⟩, kt_ok (F := F) (ν := ν) (k := μ 231 29) (T := (T : Int)) hF (by rw [X.w2]) hw0 ⟨hk.1, by omega⟩, e2]
      exact ⟨by omega, by omega, X.gi⟩
  · rw [if_neg q] at ht
    simp only [tt_gt, tt_sg, tt_ite, tt_ck, tt_lk, tt_ix, tt_bo, tt_by, tt_nz, tt_ob, tt_st, tt_cpk, tt_c1, tt_c2, tt_ca, tt_cb, tt_some, kd_231, kd_0, Nat.reduceAdd, true_and, and_true, true_implies, not_true_eq_false, false_implies, not_false_eq_true, true_or, or_true, Nat.zero_add, ht, eq_self]
    obtain ⟨T0, P0⟩ := h.self
    obtain ⟨⟨v, ν⟩, ha, hv, μ, X⟩ := P0.asksAt hF h t
    dsimp only at hv X
    rw [if_neg q] at hv
    subst hv
    unfold f_X7_waiting
    simp only [tt_gt, tt_sg, tt_ite, tt_ck, tt_lk, tt_ix, tt_bo, tt_by, tt_nz, tt_ob, tt_st, tt_cpk, tt_c1, tt_c2, tt_ca, tt_cb, tt_some, kd_231, kd_0, Nat.reduceAdd, true_and, and_true, true_implies, not_true_eq_false, false_implies, not_false_eq_true, true_or, or_true, ha, eq_self]
    exact X.gi
theorem sz_ok {F : Nat} {b : Nat} {w0 l : Int} {t : Nat} {μ σ1 : St} {s : Int} (hF : 100 ≤ F) (hb : b = 12 ∨ b = 110) (hC : RunR b w0 l t μ σ1) (hM : MI0 w0 t μ) (ht : t ≤ 60) : f_X3_sizes F b s σ1 = some (sm (fun k => if μ 243 k = s then μ 245 k else 0) (μ 231 28).toNat) := by
  have h30 := hM.n30 ht
  have hr0 : ∀ i : Nat, i < (μ 231 28).toNat → 0 ≤ μ 245 i ∧ μ 245 i ≤ 32 := fun i hi => by
    rw [(hM.cp i (by omega) (by omega)).sz]
    exact kpN_rng μ i
  apply TT.eq
  unfold f_X3_sizes
  simp only [tt_gt, tt_sg, tt_ite, tt_ck, tt_lk, tt_ix, tt_bo, tt_by, tt_nz, tt_ob, tt_st, tt_cpk, tt_c1, tt_c2, tt_ca, tt_cb, tt_some, kd_231, kd_0, Nat.reduceAdd, true_and, and_true, true_implies, not_true_eq_false, false_implies, not_false_eq_true, true_or, or_true, (kd_run hb).1]
  refine cnt (L := fun n x i => f_X3_sizes_L4 F b s σ1 n x i) (μ 231 28).toNat (fun k => if μ 243 k = s then μ 245 k else 0) (by omega) (fun n => ?_) (fun n i hi ht => ?_)
  · try dsimp only
    rw [f_X3_sizes_L4]
    simp only [tt_gt, tt_sg, tt_ite, tt_ck, tt_lk, tt_ix, tt_bo, tt_by, tt_nz, tt_ob, tt_st, tt_cpk, tt_c1, tt_c2, tt_ca, tt_cb, tt_some, kd_231, kd_0, Nat.reduceAdd, true_and, and_true, true_implies, not_true_eq_false, false_implies, not_false_eq_true, true_or, or_true, hC.cn]
    exact ⟨fun _ => trivial, fun z => absurd z (by omega)⟩
  · have hr := sm_rng (f := fun k => if μ 243 k = s then μ 245 k else 0) (M := 32) i (fun j hj => by have := hr0 j (by omega); split <;> omega)
    have hr1 := hr0 i hi
    have C1 := hC.cc i (by omega) (by omega)
    have C2 := hC.cd i (by omega) (by omega)
    have e1 := C2.st
    have e2 := C1.sz
    rw [Int.toNat_natCast] at e1 e2
    try dsimp only at ht hr ⊢
    rw [f_X3_sizes_L4]
    simp only [tt_gt, tt_sg, tt_ite, tt_ck, tt_lk, tt_ix, tt_bo, tt_by, tt_nz, tt_ob, tt_st, tt_cpk, tt_c1, tt_c2, tt_ca, tt_cb, tt_some, kd_231, kd_0, Nat.reduceAdd, true_and, and_true, true_implies, not_true_eq_false, false_implies, not_false_eq_true, true_or, or_true, hC.cn, Int.toNat_natCast, e1, e2]
    refine ⟨fun z => absurd z (by omega), fun _ => ⟨fun z => absurd z (by omega), fun _ => And.intro (by omega) ⟨fun z => And.intro (by omega) ?_, fun z => And.intro (by omega) (And.intro (by omega) (And.intro (by omega) ?_))⟩⟩⟩
    · rw [if_neg z, Int.add_zero] at ht; exact ht
    · rw [if_pos (Classical.byContradiction z)] at ht; exact ht
theorem q_work {F : Nat} {σ : St} {t : Int} (hF : 100 ≤ F) (h : GI F σ) : PP F (f_X6_work F 0 t σ) (f_X7_work F 231 t) := by
  have h60 := h.wf.ev60
  have hw0 : 0 ≤ σ 232 0 ∧ σ 232 0 ≤ 32 := ⟨h.wf.1.1, h.wf.1.2.1⟩
  have ht := e6_hasTick (F := F) (t := t) h.sc h.wf
  unfold PP f_X6_work
  by_cases q : 0 < σ 232 5 ∧ 0 ≤ t ∧ t ≤ evN (σ 232)
  · rw [if_pos q] at ht
    simp only [tt_gt, tt_sg, tt_ite, tt_ck, tt_lk, tt_ix, tt_bo, tt_by, tt_nz, tt_ob, tt_st, tt_cpk, tt_c1, tt_c2, tt_ca, tt_cb, tt_some, kd_231, kd_0, Nat.reduceAdd, true_and, and_true, true_implies, not_true_eq_false, false_implies, not_false_eq_true, true_or, or_true, Nat.zero_add, ht, one0]
    obtain ⟨T, rfl⟩ : ∃ T : Nat, t = T := ⟨t.toNat, by omega⟩
    refine (h.play hF T q.2.2).mono (fun σ1 P1 => ?_)
    obtain ⟨⟨v, ν⟩, ha, hv, μ, X⟩ := P1.asksAt hF h (T : Int)
    dsimp only at hv X
    rw [if_pos q] at hv
    subst hv
    have h30 := X.m2.n30 (by omega)
    have h31 := X.m1.n30 (by omega)
    have hh := X.hs.le
    have hsz := fun s : Int => sz_ok (F := F) (s := s) hF (Or.inl rfl) X.cr X.m1 (by omega)
    have hr0 : ∀ i : Nat, i < (μ 231 28).toNat → 0 ≤ μ 245 i ∧ μ 245 i ≤ 32 := fun i hi => by
      rw [(X.m1.cp i (by omega) (by omega)).sz]
      exact kpN_rng μ i
    have rr := fun s : Int => sm_rng (f := fun k => if μ 243 k = s then μ 245 k else 0) (M := 32) (μ 231 28).toNat (fun j hj => by have := hr0 j (by omega); split <;> omega)
    have r0 := rr 0
    have r1 := rr 1
    have r2 := rr 2
    have e1 : sm (fun k => if μ 243 k = 0 then μ 245 k else 0) (μ 231 28).toNat + sm (fun k => if μ 243 k = 1 then μ 245 k else 0) (μ 231 28).toNat + sm (fun k => if μ 243 k = 2 then μ 245 k else 0) (μ 231 28).toNat = sm (fun k => if (k : Int) < μ 231 28 then μ 245 k else 0) (ν 231 28).toNat := by
      rw [← sm_add, ← sm_add, sm_ext (m := (μ 231 28).toNat) (ν 231 28).toNat (by omega) (fun i i1 i2 => if_neg (by omega))]
      refine sm_congr _ (fun k hk => ?_)
      rw [if_pos (show (k : Int) < μ 231 28 by omega)]
      have h3 : μ 243 k = 0 ∨ μ 243 k = 1 ∨ μ 243 k = 2 := by rcases (X.m1.cp k (by omega) (by omega)).st with z | z <;> omega
      rcases h3 with z | z | z
      · rw [if_pos z, if_neg (by omega), if_neg (by omega)]; omega
      · rw [if_neg (by omega), if_pos z, if_neg (by omega)]; omega
      · rw [if_neg (by omega), if_neg (by omega), if_pos z]; omega
    simp only [hsz, tt_some]
    refine And.intro (by omega) (And.intro (by omega) ?_)
    rw [e1]
    unfold f_X7_work
    simp only [tt_gt, tt_sg, tt_ite, tt_ck, tt_lk, tt_ix, tt_bo, tt_by, tt_nz, tt_ob, tt_st, tt_cpk, tt_c1, tt_c2, tt_ca, tt_cb, tt_some, kd_231, kd_0, Nat.reduceAdd, true_and, and_true, true_implies, not_true_eq_false, false_implies, not_false_eq_true, true_or, or_true, ha, one0]
    refine cnt (L := fun n x i => f_X7_work_L15 F 231 (T : Int) n x i ν) (ν 231 28).toNat (fun k => if (k : Int) < μ 231 28 then μ 245 k else 0) (by omega) (fun n => ?_) (fun n i hi ht2 => ?_)
    · try dsimp only
      rw [f_X7_work_L15]
      simp only [tt_gt, tt_sg, tt_ite, tt_ck, tt_lk, tt_ix, tt_bo, tt_by, tt_nz, tt_ob, tt_st, tt_cpk, tt_c1, tt_c2, tt_ca, tt_cb, tt_some, kd_231, kd_0, Nat.reduceAdd, true_and, and_true, true_implies, not_true_eq_false, false_implies, not_false_eq_true, true_or, or_true]
      refine ⟨fun _ => ?_, fun z => absurd z (by omega)⟩
      first
        | exact X.gi
        | exact ⟨rfl, X.gi⟩
    · have hf : ∀ j : Nat, 0 ≤ (if (j : Int) < μ 231 28 then μ 245 j else 0) ∧ (if (j : Int) < μ 231 28 then μ 245 j else 0) ≤ 32 := fun j => by
        split
        · exact hr0 j (by omega)
        · omega
      have hr := sm_rng (f := fun k => if (k : Int) < μ 231 28 then μ 245 k else 0) (M := 32) i (fun j _ => hf j)
      have hr2 := hf i
      try dsimp only at ht2 hr ⊢
      rw [f_X7_work_L15]
      simp only [tt_gt, tt_sg, tt_ite, tt_ck, tt_lk, tt_ix, tt_bo, tt_by, tt_nz, tt_ob, tt_st, tt_cpk, tt_c1, tt_c2, tt_ca, tt_cb, tt_some, kd_231, kd_0, Nat.reduceAdd, true_and, and_true, true_implies, not_true_eq_false, false_implies, not_false_eq_true, true_or, or_true, kt_ok (F := F) (ν := ν) (k := (i : Int)) (T := (T : Int)) hF (by rw [X.w2]) hw0 ⟨by omega, by omega⟩, kt_sum X (k := (i : Int)) ⟨by omega, by omega⟩]
      exact ⟨fun z => absurd z (by omega), fun _ => And.intro (by omega) (And.intro (by omega) ht2)⟩
  · rw [if_neg q] at ht
    simp only [tt_gt, tt_sg, tt_ite, tt_ck, tt_lk, tt_ix, tt_bo, tt_by, tt_nz, tt_ob, tt_st, tt_cpk, tt_c1, tt_c2, tt_ca, tt_cb, tt_some, kd_231, kd_0, Nat.reduceAdd, true_and, and_true, true_implies, not_true_eq_false, false_implies, not_false_eq_true, true_or, or_true, Nat.zero_add, ht, eq_self]
    obtain ⟨T0, P0⟩ := h.self
    obtain ⟨⟨v, ν⟩, ha, hv, μ, X⟩ := P0.asksAt hF h t
    dsimp only at hv X
    rw [if_neg q] at hv
    subst hv
    unfold f_X7_work
    simp only [tt_gt, tt_sg, tt_ite, tt_ck, tt_lk, tt_ix, tt_bo, tt_by, tt_nz, tt_ob, tt_st, tt_cpk, tt_c1, tt_c2, tt_ca, tt_cb, tt_some, kd_231, kd_0, Nat.reduceAdd, true_and, and_true, true_implies, not_true_eq_false, false_implies, not_false_eq_true, true_or, or_true, ha, eq_self]
    exact X.gi
theorem q_wasted {F : Nat} {σ : St} {t : Int} (hF : 100 ≤ F) (h : GI F σ) : PP F (f_X6_wasted F 0 t σ) (f_X7_wasted F 231 t) := by
  have h60 := h.wf.ev60
  have hw0 : 0 ≤ σ 232 0 ∧ σ 232 0 ≤ 32 := ⟨h.wf.1.1, h.wf.1.2.1⟩
  have ht := e6_hasTick (F := F) (t := t) h.sc h.wf
  unfold PP f_X6_wasted
  by_cases q : 0 < σ 232 5 ∧ 0 ≤ t ∧ t ≤ evN (σ 232)
  · rw [if_pos q] at ht
    simp only [tt_gt, tt_sg, tt_ite, tt_ck, tt_lk, tt_ix, tt_bo, tt_by, tt_nz, tt_ob, tt_st, tt_cpk, tt_c1, tt_c2, tt_ca, tt_cb, tt_some, kd_231, kd_0, Nat.reduceAdd, true_and, and_true, true_implies, not_true_eq_false, false_implies, not_false_eq_true, true_or, or_true, Nat.zero_add, ht, one0]
    obtain ⟨T, rfl⟩ : ∃ T : Nat, t = T := ⟨t.toNat, by omega⟩
    refine (h.play hF T q.2.2).mono (fun σ1 P1 => ?_)
    obtain ⟨⟨v, ν⟩, ha, hv, μ, X⟩ := P1.asksAt hF h (T : Int)
    dsimp only at hv X
    rw [if_pos q] at hv
    subst hv
    have h30 := X.m2.n30 (by omega)
    have h31 := X.m1.n30 (by omega)
    have hh := X.hs.le
    have hr0 : ∀ i : Nat, (i : Int) < μ 231 28 → 0 ≤ μ 245 i ∧ μ 245 i ≤ 32 := fun i hi => by
      rw [(X.m1.cp i (by omega) (by omega)).sz]
      exact kpN_rng μ i
    have e1 : sm (fun k => if μ 243 k = 2 then μ 245 k else 0) (μ 231 28).toNat = sm (fun k => if (k : Int) < μ 231 28 ∧ μ 243 k = 2 then μ 245 k else 0) (ν 231 28).toNat := by
      rw [sm_ext (m := (μ 231 28).toNat) (ν 231 28).toNat (by omega) (fun i i1 i2 => if_neg (by omega))]
      refine sm_congr _ (fun k hk => ?_)
      by_cases z : μ 243 k = 2
      · rw [if_pos z, if_pos ⟨by omega, z⟩]
      · rw [if_neg z, if_neg (fun y => z y.2)]
    rw [sz_ok (F := F) (s := 2) hF (Or.inl rfl) X.cr X.m1 (by omega), tt_some, e1]
    unfold f_X7_wasted
    simp only [tt_gt, tt_sg, tt_ite, tt_ck, tt_lk, tt_ix, tt_bo, tt_by, tt_nz, tt_ob, tt_st, tt_cpk, tt_c1, tt_c2, tt_ca, tt_cb, tt_some, kd_231, kd_0, Nat.reduceAdd, true_and, and_true, true_implies, not_true_eq_false, false_implies, not_false_eq_true, true_or, or_true, ha, one0]
    refine cnt (L := fun n x i => f_X7_wasted_L15 F 231 (T : Int) n x i ν) (ν 231 28).toNat (fun k => if (k : Int) < μ 231 28 ∧ μ 243 k = 2 then μ 245 k else 0) (by omega) (fun n => ?_) (fun n i hi ht2 => ?_)
    · try dsimp only
      rw [f_X7_wasted_L15]
      simp only [tt_gt, tt_sg, tt_ite, tt_ck, tt_lk, tt_ix, tt_bo, tt_by, tt_nz, tt_ob, tt_st, tt_cpk, tt_c1, tt_c2, tt_ca, tt_cb, tt_some, kd_231, kd_0, Nat.reduceAdd, true_and, and_true, true_implies, not_true_eq_false, false_implies, not_false_eq_true, true_or, or_true]
      refine ⟨fun _ => ?_, fun z => absurd z (by omega)⟩
      first
        | exact X.gi
        | exact ⟨rfl, X.gi⟩
    · have hf : ∀ j : Nat, 0 ≤ (if (j : Int) < μ 231 28 ∧ μ 243 j = 2 then μ 245 j else 0) ∧ (if (j : Int) < μ 231 28 ∧ μ 243 j = 2 then μ 245 j else 0) ≤ 32 := fun j => by
        split
        · exact hr0 j (by omega)
        · omega
      have hr := sm_rng (f := fun k => if (k : Int) < μ 231 28 ∧ μ 243 k = 2 then μ 245 k else 0) (M := 32) i (fun j _ => hf j)
      have hr2 := hf i
      have hst := X.st (k := (i : Int)) ⟨by omega, by omega⟩ (Or.inr rfl)
      try dsimp only at ht2 hr ⊢
      rw [f_X7_wasted_L15]
      simp only [tt_gt, tt_sg, tt_ite, tt_ck, tt_lk, tt_ix, tt_bo, tt_by, tt_nz, tt_ob, tt_st, tt_cpk, tt_c1, tt_c2, tt_ca, tt_cb, tt_some, kd_231, kd_0, Nat.reduceAdd, true_and, and_true, true_implies, not_true_eq_false, false_implies, not_false_eq_true, true_or, or_true]
      refine ⟨fun z => absurd z (by omega), fun _ => And.intro (by omega) ⟨fun z => And.intro (by omega) (And.intro (by omega) ?_), fun z => And.intro (by omega) ⟨fun z2 => And.intro (by omega) (And.intro (by omega) ?_), fun z2 => And.intro (by omega) ?_⟩⟩⟩
      · rw [if_neg (fun y => z (hst.mpr y).1)] at ht2; exact ht2
      · rw [if_neg (fun y => by have := (hst.mpr y).2; omega)] at ht2; exact ht2
      · have y := hst.mp ⟨Classical.byContradiction z, by omega⟩
        have h9 : ν 245 i = μ 245 i := by
          refine (X.hs.cl i (by omega) y.1 (fun x => ?_)).2.2.1
          rcases (X.m1.cp i (by omega) y.1).st with u | u <;> omega
        rw [if_pos y] at ht2 hr2
        rw [h9]
        exact And.intro (by omega) (And.intro (by omega) ht2)
  · rw [if_neg q] at ht
    simp only [tt_gt, tt_sg, tt_ite, tt_ck, tt_lk, tt_ix, tt_bo, tt_by, tt_nz, tt_ob, tt_st, tt_cpk, tt_c1, tt_c2, tt_ca, tt_cb, tt_some, kd_231, kd_0, Nat.reduceAdd, true_and, and_true, true_implies, not_true_eq_false, false_implies, not_false_eq_true, true_or, or_true, Nat.zero_add, ht, eq_self]
    obtain ⟨T0, P0⟩ := h.self
    obtain ⟨⟨v, ν⟩, ha, hv, μ, X⟩ := P0.asksAt hF h t
    dsimp only at hv X
    rw [if_neg q] at hv
    subst hv
    unfold f_X7_wasted
    simp only [tt_gt, tt_sg, tt_ite, tt_ck, tt_lk, tt_ix, tt_bo, tt_by, tt_nz, tt_ob, tt_st, tt_cpk, tt_c1, tt_c2, tt_ca, tt_cb, tt_some, kd_231, kd_0, Nat.reduceAdd, true_and, and_true, true_implies, not_true_eq_false, false_implies, not_false_eq_true, true_or, or_true, ha, eq_self]
    exact X.gi
