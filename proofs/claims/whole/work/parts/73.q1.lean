theorem q_refused {F : Nat} {σ : St} {t : Int} (hF : 100 ≤ F) (h : GI F σ) : PP F (f_X6_refused F 0 t σ) (f_X7_refused F 231 t) := by
  have h60 := h.wf.ev60
  have hw0 : 0 ≤ σ 232 0 ∧ σ 232 0 ≤ 32 := ⟨h.wf.1.1, h.wf.1.2.1⟩
  have ht := e6_hasEvent (F := F) (t := t) h.sc h.wf
  unfold PP f_X6_refused
  by_cases q : 0 ≤ t ∧ t < evN (σ 232)
  · rw [if_pos q] at ht
    simp only [tt_gt, tt_sg, tt_ite, tt_ck, tt_lk, tt_ix, tt_bo, tt_by, tt_nz, tt_ob, tt_st, tt_cpk, tt_c1, tt_c2, tt_ca, tt_cb, tt_some, kd_231, kd_0, Nat.reduceAdd, true_and, and_true, true_implies, not_true_eq_false, false_implies, not_false_eq_true, true_or, or_true, Nat.zero_add, ht, one0]
    obtain ⟨e, rfl⟩ : ∃ e : Nat, t = e := ⟨t.toNat, by omega⟩
    refine And.intro (by omega) ?_
    rw [show (e : Int) + 1 = ((e + 1 : Nat) : Int) by omega]
    refine (h.play hF (e + 1) (by omega)).mono (fun σ1 P1 => ?_)
    obtain ⟨⟨v, ν⟩, ha, hv, μ, X⟩ := P1.asks hF h
    dsimp only at hv X
    have h5 : 0 < σ 232 5 := Classical.byContradiction fun z => by
      have := h.wf.noev z
      omega
    rw [if_pos h5] at hv
    subst hv
    have ei := e_isEvent (F := F) (σ := ν) (by rw [X.w2]; exact X.wf.1) (e : Int)
    rw [X.w2, if_pos q] at ei
    have LE := X.lv e rfl
    unfold f_X7_refused
    simp only [tt_gt, tt_sg, tt_ite, tt_ck, tt_lk, tt_ix, tt_bo, tt_by, tt_nz, tt_ob, tt_st, tt_cpk, tt_c1, tt_c2, tt_ca, tt_cb, tt_some, kd_231, kd_0, Nat.reduceAdd, true_and, and_true, true_implies, not_true_eq_false, false_implies, not_false_eq_true, true_or, or_true, ha, ei, one0]
    exact ⟨by omega, by rw [LE.s5, X.hs.rf _ (by omega)], X.gi⟩
  · rw [if_neg q] at ht
    simp only [tt_gt, tt_sg, tt_ite, tt_ck, tt_lk, tt_ix, tt_bo, tt_by, tt_nz, tt_ob, tt_st, tt_cpk, tt_c1, tt_c2, tt_ca, tt_cb, tt_some, kd_231, kd_0, Nat.reduceAdd, true_and, and_true, true_implies, not_true_eq_false, false_implies, not_false_eq_true, true_or, or_true, Nat.zero_add, ht, eq_self]
    obtain ⟨T0, P0⟩ := h.self
    obtain ⟨⟨v, ν⟩, ha, hv, μ, X⟩ := P0.asks hF h
    dsimp only at hv X
    have ei := e_isEvent (F := F) (σ := ν) (by rw [X.w2]; exact X.wf.1) t
    rw [X.w2, if_neg q] at ei
    unfold f_X7_refused
    simp only [tt_gt, tt_sg, tt_ite, tt_ck, tt_lk, tt_ix, tt_bo, tt_by, tt_nz, tt_ob, tt_st, tt_cpk, tt_c1, tt_c2, tt_ca, tt_cb, tt_some, kd_231, kd_0, Nat.reduceAdd, true_and, and_true, true_implies, not_true_eq_false, false_implies, not_false_eq_true, true_or, or_true, ha, ei, eq_self]
    first
      | exact X.gi
      | exact ⟨fun _ => X.gi, fun _ => X.gi⟩
theorem q_value {F : Nat} {σ : St} {c t : Int} (hF : 100 ≤ F) (h : GI F σ) : PP F (f_X6_value F 0 c t σ) (f_X7_value F 231 c t) := by
  have h60 := h.wf.ev60
  have hw0 : 0 ≤ σ 232 0 ∧ σ 232 0 ≤ 32 := ⟨h.wf.1.1, h.wf.1.2.1⟩
  have hc := e6_hasCell (F := F) (c := c) h.sc
  have ht := e6_hasTick (F := F) (t := t) h.sc h.wf
  unfold PP f_X6_value
  by_cases q : (0 ≤ c ∧ c < σ 232 0) ∧ 0 < σ 232 5 ∧ 0 ≤ t ∧ t ≤ evN (σ 232)
  · rw [if_pos q.1] at hc
    rw [if_pos q.2] at ht
    simp only [tt_gt, tt_sg, tt_ite, tt_ck, tt_lk, tt_ix, tt_bo, tt_by, tt_nz, tt_ob, tt_st, tt_cpk, tt_c1, tt_c2, tt_ca, tt_cb, tt_some, kd_231, kd_0, Nat.reduceAdd, true_and, and_true, true_implies, not_true_eq_false, false_implies, not_false_eq_true, true_or, or_true, Nat.zero_add, hc, ht, one0]
    obtain ⟨T, rfl⟩ : ∃ T : Nat, t = T := ⟨t.toNat, by omega⟩
    refine (h.play hF T q.2.2.2).mono (fun σ1 P1 => ?_)
    obtain ⟨⟨v, ν⟩, ha, hv, μ, X⟩ := P1.asksCell hF h c (T : Int)
    dsimp only at hv X
    rw [if_pos q] at hv
    subst hv
    have qc := q.1
    rw [e0_cellAt (F := F) (b := 13) (σ := σ1) (c := c) rfl (by rw [X.bd.1]; exact hw0.2), tt_some, X.bd.1, if_pos qc, X.bd.2 c qc.1 (by omega)]
    unfold f_X7_value
    simp only [tt_gt, tt_sg, tt_ite, tt_ck, tt_lk, tt_ix, tt_bo, tt_by, tt_nz, tt_ob, tt_st, tt_cpk, tt_c1, tt_c2, tt_ca, tt_cb, tt_some, kd_231, kd_0, Nat.reduceAdd, true_and, and_true, true_implies, not_true_eq_false, false_implies, not_false_eq_true, true_or, or_true, ha, one0]
    rw [e_valueAt (F := F) (σ := ν) ⟨qc.1, by omega⟩ ⟨by omega, by omega⟩, tt_some, X.kn.v9 T c q.2.2.2 qc.1 (by omega)]
    exact ⟨rfl, X.gi⟩
  · by_cases q1 : 0 ≤ c ∧ c < σ 232 0
    · rw [if_pos q1] at hc
      rw [if_neg (fun z => q ⟨q1, z⟩)] at ht
      simp only [tt_gt, tt_sg, tt_ite, tt_ck, tt_lk, tt_ix, tt_bo, tt_by, tt_nz, tt_ob, tt_st, tt_cpk, tt_c1, tt_c2, tt_ca, tt_cb, tt_some, kd_231, kd_0, Nat.reduceAdd, true_and, and_true, true_implies, not_true_eq_false, false_implies, not_false_eq_true, true_or, or_true, Nat.zero_add, hc, ht, one0, eq_self]
      obtain ⟨T0, P0⟩ := h.self
      obtain ⟨⟨v, ν⟩, ha, hv, μ, X⟩ := P0.asksCell hF h c t
      dsimp only at hv X
      rw [if_neg q] at hv
      subst hv
      unfold f_X7_value
      simp only [tt_gt, tt_sg, tt_ite, tt_ck, tt_lk, tt_ix, tt_bo, tt_by, tt_nz, tt_ob, tt_st, tt_cpk, tt_c1, tt_c2, tt_ca, tt_cb, tt_some, kd_231, kd_0, Nat.reduceAdd, true_and, and_true, true_implies, not_true_eq_false, false_implies, not_false_eq_true, true_or, or_true, ha, eq_self]
      exact X.gi
    · rw [if_neg q1] at hc
      simp only [tt_gt, tt_sg, tt_ite, tt_ck, tt_lk, tt_ix, tt_bo, tt_by, tt_nz, tt_ob, tt_st, tt_cpk, tt_c1, tt_c2, tt_ca, tt_cb, tt_some, kd_231, kd_0, Nat.reduceAdd, true_and, and_true, true_implies, not_true_eq_false, false_implies, not_false_eq_true, true_or, or_true, Nat.zero_add, hc, eq_self]
      obtain ⟨T0, P0⟩ := h.self
      obtain ⟨⟨v, ν⟩, ha, hv, μ, X⟩ := P0.asksCell hF h c t
      dsimp only at hv X
      rw [if_neg q] at hv
      subst hv
      unfold f_X7_value
      simp only [tt_gt, tt_sg, tt_ite, tt_ck, tt_lk, tt_ix, tt_bo, tt_by, tt_nz, tt_ob, tt_st, tt_cpk, tt_c1, tt_c2, tt_ca, tt_cb, tt_some, kd_231, kd_0, Nat.reduceAdd, true_and, and_true, true_implies, not_true_eq_false, false_implies, not_false_eq_true, true_or, or_true, ha, eq_self]
      exact X.gi
theorem q_sum {F : Nat} {σ : St} {t : Int} (hF : 100 ≤ F) (h : GI F σ) : PP F (f_X6_sum F 0 t σ) (f_X7_sum F 231 t) := by
  have h60 := h.wf.ev60
  have hw0 : 0 ≤ σ 232 0 ∧ σ 232 0 ≤ 32 := ⟨h.wf.1.1, h.wf.1.2.1⟩
  have ht := e6_hasTick (F := F) (t := t) h.sc h.wf
  unfold PP f_X6_sum
  by_cases q : 0 < σ 232 5 ∧ 0 ≤ t ∧ t ≤ evN (σ 232)
  · rw [if_pos q] at ht
    simp only [tt_gt, tt_sg, tt_ite, tt_ck, tt_lk, tt_ix, tt_bo, tt_by, tt_nz, tt_ob, tt_st, tt_cpk, tt_c1, tt_c2, tt_ca, tt_cb, tt_some, kd_231, kd_0, Nat.reduceAdd, true_and, and_true, true_implies, not_true_eq_false, false_implies, not_false_eq_true, true_or, or_true, Nat.zero_add, ht, one0]
    obtain ⟨T, rfl⟩ : ∃ T : Nat, t = T := ⟨t.toNat, by omega⟩
    refine (h.play hF T q.2.2).mono (fun σ1 P1 => ?_)
    obtain ⟨⟨v, ν⟩, ha, hv, μ, X⟩ := P1.asksAt hF h (T : Int)
    dsimp only at hv X
    rw [if_pos q] at hv
    subst hv
    have hB := val_255 (g := fun _ => 0) h.wf T X.le
    rw [total_ok (F := F) (b := 13) hF rfl hw0 X.bd hB, tt_some]
    unfold f_X7_sum
    simp only [tt_gt, tt_sg, tt_ite, tt_ck, tt_lk, tt_ix, tt_bo, tt_by, tt_nz, tt_ob, tt_st, tt_cpk, tt_c1, tt_c2, tt_ca, tt_cb, tt_some, kd_231, kd_0, Nat.reduceAdd, true_and, and_true, true_implies, not_true_eq_false, false_implies, not_false_eq_true, true_or, or_true, ha, one0]
    refine cnt (L := fun n x i => f_X7_sum_L15 F 231 (T : Int) n x i ν) (σ 232 0).toNat (fun c => Val (σ 232) (fun _ => 0) T c) (by omega) (fun n => ?_) (fun n i hi ht2 => ?_)
    · try dsimp only
      rw [f_X7_sum_L15]
      simp only [tt_gt, tt_sg, tt_ite, tt_ck, tt_lk, tt_ix, tt_bo, tt_by, tt_nz, tt_ob, tt_st, tt_cpk, tt_c1, tt_c2, tt_ca, tt_cb, tt_some, kd_231, kd_0, Nat.reduceAdd, true_and, and_true, true_implies, not_true_eq_false, false_implies, not_false_eq_true, true_or, or_true, e_cells, X.w2]
      refine ⟨fun _ => ?_, fun z => absurd z (by omega)⟩
      first
        | exact X.gi
        | exact ⟨rfl, X.gi⟩
    · have hr := sm_rng (f := fun c => Val (σ 232) (fun _ => 0) T c) (M := 255) i (fun i _ => hB i (by omega) (by omega))
      have hi2 := hB i (by omega) (by omega)
      try dsimp only at ht2 hr ⊢
      rw [f_X7_sum_L15]
      simp only [tt_gt, tt_sg, tt_ite, tt_ck, tt_lk, tt_ix, tt_bo, tt_by, tt_nz, tt_ob, tt_st, tt_cpk, tt_c1, tt_c2, tt_ca, tt_cb, tt_some, kd_231, kd_0, Nat.reduceAdd, true_and, and_true, true_implies, not_true_eq_false, false_implies, not_false_eq_true, true_or, or_true, e_cells, X.w2, e_valueAt (F := F) (σ := ν) (c := (i : Int)) (t := (T : Int)) ⟨by omega, by omega⟩ ⟨by omega, by omega⟩, X.kn.v9 T i q.2.2 (by omega) (by omega)]
      exact ⟨fun z => absurd z (by omega), fun _ => And.intro (by omega) (And.intro (by omega) ht2)⟩
  · rw [if_neg q] at ht
    simp only [tt_gt, tt_sg, tt_ite, tt_ck, tt_lk, tt_ix, tt_bo, tt_by, tt_nz, tt_ob, tt_st, tt_cpk, tt_c1, tt_c2, tt_ca, tt_cb, tt_some, kd_231, kd_0, Nat.reduceAdd, true_and, and_true, true_implies, not_true_eq_false, false_implies, not_false_eq_true, true_or, or_true, Nat.zero_add, ht, eq_self]
    obtain ⟨T0, P0⟩ := h.self
    obtain ⟨⟨v, ν⟩, ha, hv, μ, X⟩ := P0.asksAt hF h t
    dsimp only at hv X
    rw [if_neg q] at hv
    subst hv
    unfold f_X7_sum
    simp only [tt_gt, tt_sg, tt_ite, tt_ck, tt_lk, tt_ix, tt_bo, tt_by, tt_nz, tt_ob, tt_st, tt_cpk, tt_c1, tt_c2, tt_ca, tt_cb, tt_some, kd_231, kd_0, Nat.reduceAdd, true_and, and_true, true_implies, not_true_eq_false, false_implies, not_false_eq_true, true_or, or_true, ha, eq_self]
    exact X.gi
theorem q_changes {F : Nat} {σ : St} {t : Int} (hF : 100 ≤ F) (h : GI F σ) : PP F (f_X6_changes F 0 t σ) (f_X7_changes F 231 t) := by
  have h60 := h.wf.ev60
  have hw0 : 0 ≤ σ 232 0 ∧ σ 232 0 ≤ 32 := ⟨h.wf.1.1, h.wf.1.2.1⟩
  have ht := e6_hasEvent (F := F) (t := t) h.sc h.wf
  unfold PP f_X6_changes
  by_cases q : 0 ≤ t ∧ t < evN (σ 232)
  · rw [if_pos q] at ht
    simp only [tt_gt, tt_sg, tt_ite, tt_ck, tt_lk, tt_ix, tt_bo, tt_by, tt_nz, tt_ob, tt_st, tt_cpk, tt_c1, tt_c2, tt_ca, tt_cb, tt_some, kd_231, kd_0, Nat.reduceAdd, true_and, and_true, true_implies, not_true_eq_false, false_implies, not_false_eq_true, true_or, or_true, Nat.zero_add, ht, one0]
    obtain ⟨e, rfl⟩ : ∃ e : Nat, t = e := ⟨t.toNat, by omega⟩
    refine And.intro (by omega) ?_
    rw [show (e : Int) + 1 = ((e + 1 : Nat) : Int) by omega]
    refine (h.play hF (e + 1) (by omega)).mono (fun σ1 P1 => ?_)
    obtain ⟨⟨v, ν⟩, ha, hv, μ, X⟩ := P1.asks hF h
    dsimp only at hv X
    have h5 : 0 < σ 232 5 := Classical.byContradiction fun z => by
      have := h.wf.noev z
      omega
    rw [if_pos h5] at hv
    subst hv
    have ei := e_isEvent (F := F) (σ := ν) (by rw [X.w2]; exact X.wf.1) (e : Int)
    rw [X.w2, if_pos q] at ei
    have LE := X.lv e rfl
    rw [bitc_ok, tt_some]
    have hbc : bc (σ1 12 6) 32 = sm (fun c => if ν 240 (32 * (e : Int) + c) = 0 then 0 else 1) (σ 232 0).toNat := by
      refine bc_eq (by omega) (fun c hc => ?_) (fun c c1 c2 => ?_)
      · have h1 := LE.c6 c (by omega) (by omega)
        rw [← X.hs.v0] at h1
        by_cases z : ν 240 (32 * (e : Int) + c) = 0
        · rw [if_pos z, if_neg (fun y => (h1.mp y) z)]
        · rw [if_neg z, if_pos (h1.mpr z)]
      · rw [LE.c6 c (by omega) (by omega), ← X.hs.v0, X.kn.v0 e c q.2 (by omega) (by omega)]
        unfold chg
        rw [val_hi h.wf e c (by omega) (by omega), val_hi h.wf (e + 1) c (by omega) (by omega), if_pos rfl]
        exact fun z => z rfl
    rw [hbc]
    unfold f_X7_changes
    simp only [tt_gt, tt_sg, tt_ite, tt_ck, tt_lk, tt_ix, tt_bo, tt_by, tt_nz, tt_ob, tt_st, tt_cpk, tt_c1, tt_c2, tt_ca, tt_cb, tt_some, kd_231, kd_0, Nat.reduceAdd, true_and, and_true, true_implies, not_true_eq_false, false_implies, not_false_eq_true, true_or, or_true, ha, ei, one0]
    refine cnt (L := fun n x i => f_X7_changes_L23 F 231 (e : Int) n x i ν) (σ 232 0).toNat (fun c => if ν 240 (32 * (e : Int) + c) = 0 then 0 else 1) (by omega) (fun n => ?_) (fun n i hi ht2 => ?_)
    · try dsimp only
      rw [f_X7_changes_L23]
      simp only [tt_gt, tt_sg, tt_ite, tt_ck, tt_lk, tt_ix, tt_bo, tt_by, tt_nz, tt_ob, tt_st, tt_cpk, tt_c1, tt_c2, tt_ca, tt_cb, tt_some, kd_231, kd_0, Nat.reduceAdd, true_and, and_true, true_implies, not_true_eq_false, false_implies, not_false_eq_true, true_or, or_true, e_cells, X.w2]
      refine ⟨fun _ => ?_, fun z => absurd z (by omega)⟩
      first
        | exact X.gi
        | exact ⟨rfl, X.gi⟩
    · have hr := sm_rng (f := fun c => if ν 240 (32 * (e : Int) + c) = 0 then 0 else 1) (M := 1) i (fun i _ => by split <;> omega)
      try dsimp only at ht2 hr ⊢
      rw [f_X7_changes_L23]
      simp only [tt_gt, tt_sg, tt_ite, tt_ck, tt_lk, tt_ix, tt_bo, tt_by, tt_nz, tt_ob, tt_st, tt_cpk, tt_c1, tt_c2, tt_ca, tt_cb, tt_some, kd_231, kd_0, Nat.reduceAdd, true_and, and_true, true_implies, not_true_eq_false, false_implies, not_false_eq_true, true_or, or_true, e_cells, X.w2]
      refine ⟨fun z => absurd z (by omega), fun _ => And.intro (by omega) (And.intro (by omega) (And.intro (by omega) ⟨fun z => And.intro (by omega) (And.intro (by omega) ?_), fun z => And.intro (by omega) (And.intro (by omega) ?_)⟩))⟩
      · rw [if_pos z] at ht2; exact ht2
      · rw [if_neg z] at ht2; exact ht2
  · rw [if_neg q] at ht
    simp only [tt_gt, tt_sg, tt_ite, tt_ck, tt_lk, tt_ix, tt_bo, tt_by, tt_nz, tt_ob, tt_st, tt_cpk, tt_c1, tt_c2, tt_ca, tt_cb, tt_some, kd_231, kd_0, Nat.reduceAdd, true_and, and_true, true_implies, not_true_eq_false, false_implies, not_false_eq_true, true_or, or_true, Nat.zero_add, ht, eq_self]
    obtain ⟨T0, P0⟩ := h.self
    obtain ⟨⟨v, ν⟩, ha, hv, μ, X⟩ := P0.asks hF h
    dsimp only at hv X
    have ei := e_isEvent (F := F) (σ := ν) (by rw [X.w2]; exact X.wf.1) t
    rw [X.w2, if_neg q] at ei
    unfold f_X7_changes
    simp only [tt_gt, tt_sg, tt_ite, tt_ck, tt_lk, tt_ix, tt_bo, tt_by, tt_nz, tt_ob, tt_st, tt_cpk, tt_c1, tt_c2, tt_ca, tt_cb, tt_some, kd_231, kd_0, Nat.reduceAdd, true_and, and_true, true_implies, not_true_eq_false, false_implies, not_false_eq_true, true_or, or_true, ha, ei, eq_self]
    first
      | exact X.gi
      | exact ⟨fun _ => X.gi, fun _ => X.gi⟩
theorem q_latest {F : Nat} {σ : St} {c t : Int} (hF : 100 ≤ F) (h : GI F σ) : PP F (f_X6_latest F 0 c t σ) (f_X7_latest F 231 c t) := by
  have h60 := h.wf.ev60
  have hw0 : 0 ≤ σ 232 0 ∧ σ 232 0 ≤ 32 := ⟨h.wf.1.1, h.wf.1.2.1⟩
  have hc := e6_hasCell (F := F) (c := c) h.sc
  have ht := e6_hasTick (F := F) (t := t) h.sc h.wf
  unfold PP f_X6_latest
  by_cases q : (0 ≤ c ∧ c < σ 232 0) ∧ 0 < σ 232 5 ∧ 0 ≤ t ∧ t ≤ evN (σ 232)
  · rw [if_pos q.1] at hc
    rw [if_pos q.2] at ht
    simp only [tt_gt, tt_sg, tt_ite, tt_ck, tt_lk, tt_ix, tt_bo, tt_by, tt_nz, tt_ob, tt_st, tt_cpk, tt_c1, tt_c2, tt_ca, tt_cb, tt_some, kd_231, kd_0, Nat.reduceAdd, true_and, and_true, true_implies, not_true_eq_false, false_implies, not_false_eq_true, true_or, or_true, Nat.zero_add, hc, ht, one0]
    obtain ⟨T, rfl⟩ : ∃ T : Nat, t = T := ⟨t.toNat, by omega⟩
    refine (h.play hF T q.2.2.2).mono (fun σ1 P1 => ?_)
    obtain ⟨⟨v, ν⟩, ha, hv, μ, X⟩ := P1.asksCell hF h c (T : Int)
    dsimp only at hv X
    rw [if_pos q] at hv
    subst hv
    have qc := q.1
    have hl : f_X3_latestChange F 12 c σ1 = some (latR (ν 240) c T) := by
      apply TT.eq
      unfold f_X3_latestChange
      simp only [tt_gt, tt_sg, tt_ite, tt_ck, tt_lk, tt_ix, tt_bo, tt_by, tt_nz, tt_ob, tt_st, tt_cpk, tt_c1, tt_c2, tt_ca, tt_cb, tt_some, kd_231, kd_0, Nat.reduceAdd, true_and, and_true, true_implies, not_true_eq_false, false_implies, not_false_eq_true, true_or, or_true, show kdX 12 = 3 from rfl]
      refine ⟨fun z => absurd z (by omega), fun _ => ⟨fun z => absurd z (by omega), fun _ => And.intro (by omega) ?_⟩⟩
      rw [X.hs.v0]
      exact X.cr.la c qc.1 qc.2
    rw [hl, tt_some]
    unfold f_X7_latest
    simp only [tt_gt, tt_sg, tt_ite, tt_ck, tt_lk, tt_ix, tt_bo, tt_by, tt_nz, tt_ob, tt_st, tt_cpk, tt_c1, tt_c2, tt_ca, tt_cb, tt_some, kd_231, kd_0, Nat.reduceAdd, true_and, and_true, true_implies, not_true_eq_false, false_implies, not_false_eq_true, true_or, or_true, ha, one0]
    rw [e_latestAt (F := F) (σ := ν) ⟨qc.1, by omega⟩ T (by omega) hF, tt_some]
    exact ⟨rfl, X.gi⟩
  · by_cases q1 : 0 ≤ c ∧ c < σ 232 0
    · rw [if_pos q1] at hc
      rw [if_neg (fun z => q ⟨q1, z⟩)] at ht
      simp only [tt_gt, tt_sg, tt_ite, tt_ck, tt_lk, tt_ix, tt_bo, tt_by, tt_nz, tt_ob, tt_st, tt_cpk, tt_c1, tt_c2, tt_ca, tt_cb, tt_some, kd_231, kd_0, Nat.reduceAdd, true_and, and_true, true_implies, not_true_eq_false, false_implies, not_false_eq_true, true_or, or_true, Nat.zero_add, hc, ht, one0, eq_self]
      obtain ⟨T0, P0⟩ := h.self
      obtain ⟨⟨v, ν⟩, ha, hv, μ, X⟩ := P0.asksCell hF h c t
      dsimp only at hv X
      rw [if_neg q] at hv
      subst hv
      unfold f_X7_latest
      simp only [tt_gt, tt_sg, tt_ite, tt_ck, tt_lk, tt_ix, tt_bo, tt_by, tt_nz, tt_ob, tt_st, tt_cpk, tt_c1, tt_c2, tt_ca, tt_cb, tt_some, kd_231, kd_0, Nat.reduceAdd, true_and, and_true, true_implies, not_true_eq_false, false_implies, not_false_eq_true, true_or, or_true, ha, eq_self]
      exact X.gi
    · rw [if_neg q1] at hc
      simp only [tt_gt, tt_sg, tt_ite, tt_ck, tt_lk, tt_ix, tt_bo, tt_by, tt_nz, tt_ob, tt_st, tt_cpk, tt_c1, tt_c2, tt_ca, tt_cb, tt_some, kd_231, kd_0, Nat.reduceAdd, true_and, and_true, true_implies, not_true_eq_false, false_implies, not_false_eq_true, true_or, or_true, Nat.zero_add, hc, eq_self]
      obtain ⟨T0, P0⟩ := h.self
      obtain ⟨⟨v, ν⟩, ha, hv, μ, X⟩ := P0.asksCell hF h c t
      dsimp only at hv X
      rw [if_neg q] at hv
      subst hv
      unfold f_X7_latest
      simp only [tt_gt, tt_sg, tt_ite, tt_ck, tt_lk, tt_ix, tt_bo, tt_by, tt_nz, tt_ob, tt_st, tt_cpk, tt_c1, tt_c2, tt_ca, tt_cb, tt_some, kd_231, kd_0, Nat.reduceAdd, true_and, and_true, true_implies, not_true_eq_false, false_implies, not_false_eq_true, true_or, or_true, ha, eq_self]
      exact X.gi
theorem q_dirty {F : Nat} {σ : St} {c t : Int} (hF : 100 ≤ F) (h : GI F σ) : PP F (f_X6_dirty F 0 c t σ) (f_X7_dirty F 231 c t) := by
  have h60 := h.wf.ev60
  have hw0 : 0 ≤ σ 232 0 ∧ σ 232 0 ≤ 32 := ⟨h.wf.1.1, h.wf.1.2.1⟩
  have hc := e6_hasCell (F := F) (c := c) h.sc
  have ht := e6_hasTick (F := F) (t := t) h.sc h.wf
  unfold PP f_X6_dirty
  by_cases q : (0 ≤ c ∧ c < σ 232 0) ∧ 0 < σ 232 5 ∧ 0 ≤ t ∧ t ≤ evN (σ 232)
  · rw [if_pos q.1] at hc
    rw [if_pos q.2] at ht
    simp only [tt_gt, tt_sg, tt_ite, tt_ck, tt_lk, tt_ix, tt_bo, tt_by, tt_nz, tt_ob, tt_st, tt_cpk, tt_c1, tt_c2, tt_ca, tt_cb, tt_some, kd_231, kd_0, Nat.reduceAdd, true_and, and_true, true_implies, not_true_eq_false, false_implies, not_false_eq_true, true_or, or_true, Nat.zero_add, hc, ht, one0]
    obtain ⟨T, rfl⟩ : ∃ T : Nat, t = T := ⟨t.toNat, by omega⟩
    refine (h.play hF T q.2.2.2).mono (fun σ1 P1 => ?_)
    obtain ⟨⟨v, ν⟩, ha, hv, μ, X⟩ := P1.asksCell hF h c (T : Int)
    dsimp only at hv X
    rw [if_pos q] at hv
    subst hv
    have qc := q.1
    have hd := X.dt c qc.1 (by omega)
    have mo : ∀ a : Int, (a = 1 ∧ baseR ν T ≤ latR (ν 240) c T) ∨ (a = 0 ∧ ¬ baseR ν T ≤ latR (ν 240) c T) → TT (f_X7_dirty F 231 c T σ1) (fun r' => a = r'.1 ∧ GI F r'.2) := by
      intro a hA
      unfold f_X7_dirty
      simp only [tt_gt, tt_sg, tt_ite, tt_ck, tt_lk, tt_ix, tt_bo, tt_by, tt_nz, tt_ob, tt_st, tt_cpk, tt_c1, tt_c2, tt_ca, tt_cb, tt_some, kd_231, kd_0, Nat.reduceAdd, true_and, and_true, true_implies, not_true_eq_false, false_implies, not_false_eq_true, true_or, or_true, ha, one0]
      refine (e_isDirtyAt (F := F) (σ := ν) (c := c) hF ⟨qc.1, by omega⟩ T (by omega) (by have := X.m2.n30 (by omega); omega)).mono (fun r hr => ?_)
      rcases hr with ⟨rfl, hr⟩ | ⟨rfl, hr⟩
      · have : a = 1 := by rcases hA with z | z; exact z.1; exact absurd hr z.2
        exact ⟨fun z => absurd z (by decide), fun _ => ⟨this, X.gi⟩⟩
      · have : a = 0 := by rcases hA with z | z; exact absurd z.2 hr; exact z.1
        exact ⟨fun _ => ⟨this, X.gi⟩, fun z => absurd rfl z⟩
    simp only [e6_holds, tt_some]
    by_cases z : bt (σ1 12 2) c
    · rw [if_pos z]
      exact ⟨fun y => absurd y (by decide), fun _ => mo 1 (Or.inl ⟨rfl, (hd.mp z).2⟩)⟩
    · rw [if_neg z]
      exact ⟨fun _ => mo 0 (Or.inr ⟨rfl, fun y => z (hd.mpr ⟨qc.2, y⟩)⟩), fun y => absurd rfl y⟩
  · by_cases q1 : 0 ≤ c ∧ c < σ 232 0
    · rw [if_pos q1] at hc
      rw [if_neg (fun z => q ⟨q1, z⟩)] at ht
      simp only [tt_gt, tt_sg, tt_ite, tt_ck, tt_lk, tt_ix, tt_bo, tt_by, tt_nz, tt_ob, tt_st, tt_cpk, tt_c1, tt_c2, tt_ca, tt_cb, tt_some, kd_231, kd_0, Nat.reduceAdd, true_and, and_true, true_implies, not_true_eq_false, false_implies, not_false_eq_true, true_or, or_true, Nat.zero_add, hc, ht, one0, eq_self]
      obtain ⟨T0, P0⟩ := h.self
      obtain ⟨⟨v, ν⟩, ha, hv, μ, X⟩ := P0.asksCell hF h c t
      dsimp only at hv X
      rw [if_neg q] at hv
      subst hv
      unfold f_X7_dirty
      simp only [tt_gt, tt_sg, tt_ite, tt_ck, tt_lk, tt_ix, tt_bo, tt_by, tt_nz, tt_ob, tt_st, tt_cpk, tt_c1, tt_c2, tt_ca, tt_cb, tt_some, kd_231, kd_0, Nat.reduceAdd, true_and, and_true, true_implies, not_true_eq_false, false_implies, not_false_eq_true, true_or, or_true, ha, eq_self]
      exact X.gi
    · rw [if_neg q1] at hc
      simp only [tt_gt, tt_sg, tt_ite, tt_ck, tt_lk, tt_ix, tt_bo, tt_by, tt_nz, tt_ob, tt_st, tt_cpk, tt_c1, tt_c2, tt_ca, tt_cb, tt_some, kd_231, kd_0, Nat.reduceAdd, true_and, and_true, true_implies, not_true_eq_false, false_implies, not_false_eq_true, true_or, or_true, Nat.zero_add, hc, eq_self]
      obtain ⟨T0, P0⟩ := h.self
      obtain ⟨⟨v, ν⟩, ha, hv, μ, X⟩ := P0.asksCell hF h c t
      dsimp only at hv X
      rw [if_neg q] at hv
      subst hv
      unfold f_X7_dirty
      simp only [tt_gt, tt_sg, tt_ite, tt_ck, tt_lk, tt_ix, tt_bo, tt_by, tt_nz, tt_ob, tt_st, tt_cpk, tt_c1, tt_c2, tt_ca, tt_cb, tt_some, kd_231, kd_0, Nat.reduceAdd, true_and, and_true, true_implies, not_true_eq_false, false_implies, not_false_eq_true, true_or, or_true, ha, eq_self]
      exact X.gi
theorem dF_ok {F : Nat} {w : Int → Int} {ν : St} {lo hi : Int} {T : Nat} (hF : 100 ≤ F) (h2 : ν 232 = w) (hw : 0 ≤ w 0 ∧ w 0 ≤ 32) (hT : T ≤ 60) (h30 : 0 ≤ ν 231 28 ∧ ν 231 28 ≤ 30) (hl : 0 ≤ lo ∧ lo ≤ hi ∧ hi ≤ 32) : TT (f_X7_dirtyFrom F 231 lo hi T ν) (fun r => r = sm (fun i => if baseR ν T ≤ latR (ν 240) (lo + i) T then 1 else 0) ((if hi ≤ w 0 then hi else w 0) - lo).toNat) := by
  unfold f_X7_dirtyFrom
  simp only [tt_gt, tt_sg, tt_ite, tt_ck, tt_lk, tt_ix, tt_bo, tt_by, tt_nz, tt_ob, tt_st, tt_cpk, tt_c1, tt_c2, tt_ca, tt_cb, tt_some, kd_231, kd_0, Nat.reduceAdd, true_and, and_true, true_implies, not_true_eq_false, false_implies, not_false_eq_true, true_or, or_true]
  refine lp_w (L := fun n (p : Int × Int) => f_X7_dirtyFrom_L6 F 231 lo hi T ν n p.1 p.2) (fun m p => ∃ j : Nat, p.2 = lo + j ∧ p.2 + m = hi ∧ (j : Int) ≤ ((if hi ≤ w 0 then hi else w 0) - lo).toNat ∧ p.1 = sm (fun i => if baseR ν T ≤ latR (ν 240) (lo + i) T then 1 else 0) j) (fun m n p hI ih => ?_) (hi - lo).toNat F (0, lo) (by omega) ⟨0, by dsimp only; omega, by dsimp only; omega, by omega, rfl⟩
  obtain ⟨x, i⟩ := p
  dsimp only at hI ih ⊢
  obtain ⟨j, i1, i2, i3, i4⟩ := hI
  have hr := sm_rng (f := fun i => if baseR ν T ≤ latR (ν 240) (lo + (i : Int)) T then 1 else 0) (M := 1) j (fun i _ => by split <;> omega)
  rw [← i4] at hr
  rw [f_X7_dirtyFrom_L6]
  simp only [tt_gt, tt_sg, tt_ite, tt_ck, tt_lk, tt_ix, tt_bo, tt_by, tt_nz, tt_ob, tt_st, tt_cpk, tt_c1, tt_c2, tt_ca, tt_cb, tt_some, kd_231, kd_0, Nat.reduceAdd, true_and, and_true, true_implies, not_true_eq_false, false_implies, not_false_eq_true, true_or, or_true, e_cells, h2]
  have fin : (hi ≤ i ∨ w 0 ≤ i) → x = sm (fun i => if baseR ν T ≤ latR (ν 240) (lo + (i : Int)) T then 1 else 0) ((if hi ≤ w 0 then hi else w 0) - lo).toNat := by
    intro z
    rw [i4]
    congr 1
    split at i3 <;> split <;> omega
  refine ⟨fun z => fin (Or.inl z), fun z => ⟨fun z2 => fin (Or.inr z2), fun z2 => ?_⟩⟩
  have hj : ((j + 1 : Nat) : Int) ≤ ((if hi ≤ w 0 then hi else w 0) - lo).toNat := by split <;> omega
  refine (e_isDirtyAt (F := F) (σ := ν) (c := i) hF ⟨by omega, by omega⟩ T (by omega) ⟨h30.1, by omega⟩).mono (fun r hr2 => ?_)
  rcases hr2 with ⟨rfl, hr2⟩ | ⟨rfl, hr2⟩
  · refine ⟨fun y => absurd y (by decide), fun _ => And.intro (by omega) (And.intro (by omega) (ih (m - 1) (x + 1, i + 1) (by omega) ⟨j + 1, by dsimp only; omega, by dsimp only; omega, hj, ?_⟩))⟩
    dsimp only
    rw [sm, ← i4, if_pos (by rw [← i1]; exact hr2)]
  · refine ⟨fun _ => And.intro (by omega) (And.intro (by omega) (ih (m - 1) (x + 0, i + 1) (by omega) ⟨j + 1, by dsimp only; omega, by dsimp only; omega, hj, ?_⟩)), fun y => absurd rfl y⟩
    dsimp only
    rw [sm, ← i4, if_neg (by rw [← i1]; exact hr2)]
theorem q_dirties {F : Nat} {σ : St} {t : Int} (hF : 100 ≤ F) (h : GI F σ) : PP F (f_X6_dirties F 0 t σ) (f_X7_dirties F 231 t) := by
  have h60 := h.wf.ev60
  have hw0 : 0 ≤ σ 232 0 ∧ σ 232 0 ≤ 32 := ⟨h.wf.1.1, h.wf.1.2.1⟩
  have ht := e6_hasTick (F := F) (t := t) h.sc h.wf
  unfold PP f_X6_dirties
  by_cases q : 0 < σ 232 5 ∧ 0 ≤ t ∧ t ≤ evN (σ 232)
  · rw [if_pos q] at ht
    simp only [tt_gt, tt_sg, tt_ite, tt_ck, tt_lk, tt_ix, tt_bo, tt_by, tt_nz, tt_ob, tt_st, tt_cpk, tt_c1, tt_c2, tt_ca, tt_cb, tt_some, kd_231, kd_0, Nat.reduceAdd, true_and, and_true, true_implies, not_true_eq_false, false_implies, not_false_eq_true, true_or, or_true, Nat.zero_add, ht, one0]
    obtain ⟨T, rfl⟩ : ∃ T : Nat, t = T := ⟨t.toNat, by omega⟩
    refine (h.play hF T q.2.2).mono (fun σ1 P1 => ?_)
    obtain ⟨⟨v, ν⟩, ha, hv, μ, X⟩ := P1.asksAt hF h (T : Int)
    dsimp only at hv X
    rw [if_pos q] at hv
    subst hv
    rw [bitc_ok, tt_some]
    have h30 := X.m2.n30 (by omega)
    have hbc : bc (σ1 12 2) 32 = sm (fun i => if baseR ν T ≤ latR (ν 240) (0 + (i : Int)) T then 1 else 0) (σ 232 0).toNat := by
      refine bc_eq (by omega) (fun c hc => ?_) (fun c c1 c2 z => ?_)
      · have h1 := X.dt c (by omega) (by omega)
        rw [Int.zero_add]
        by_cases z : baseR ν T ≤ latR (ν 240) c T
        · rw [if_pos z, if_pos (h1.mpr ⟨by omega, z⟩)]
        · rw [if_neg z, if_neg (fun y => z (h1.mp y).2)]
      · have := ((X.dt c (by omega) (by omega)).mp z).1
        omega
    rw [hbc]
    unfold f_X7_dirties
    simp only [tt_gt, tt_sg, tt_ite, tt_ck, tt_lk, tt_ix, tt_bo, tt_by, tt_nz, tt_ob, tt_st, tt_cpk, tt_c1, tt_c2, tt_ca, tt_cb, tt_some, kd_231, kd_0, Nat.reduceAdd, true_and, and_true, true_implies, not_true_eq_false, false_implies, not_false_eq_true, true_or, or_true, ha, one0]
    refine (dF_ok (F := F) (ν := ν) (lo := 0) (hi := 32) (T := T) hF X.w2 hw0 (by omega) h30 (by omega)).mono (fun r hr => ⟨?_, X.gi⟩)
    rw [hr]
    congr 1
    split <;> omega
  · rw [if_neg q] at ht
    simp only [tt_gt, tt_sg, tt_ite, tt_ck, tt_lk, tt_ix, tt_bo, tt_by, tt_nz, tt_ob, tt_st, tt_cpk, tt_c1, tt_c2, tt_ca, tt_cb, tt_some, kd_231, kd_0, Nat.reduceAdd, true_and, and_true, true_implies, not_true_eq_false, false_implies, not_false_eq_true, true_or, or_true, Nat.zero_add, ht, eq_self]
    obtain ⟨T0, P0⟩ := h.self
    obtain ⟨⟨v, ν⟩, ha, hv, μ, X⟩ := P0.asksAt hF h t
    dsimp only at hv X
    rw [if_neg q] at hv
    subst hv
    unfold f_X7_dirties
    simp only [tt_gt, tt_sg, tt_ite, tt_ck, tt_lk, tt_ix, tt_bo, tt_by, tt_nz, tt_ob, tt_st, tt_cpk, tt_c1, tt_c2, tt_ca, tt_cb, tt_some, kd_231, kd_0, Nat.reduceAdd, true_and, and_true, true_implies, not_true_eq_false, false_implies, not_false_eq_true, true_or, or_true, ha, eq_self]
    exact X.gi
