theorem lw_feed {F L : Nat} {xs : Int → Int} {K : Int → St → Option Int} {i : Int} {σ : St} (hF : 2000000 ≤ F) (hx : ∀ j, iR (xs j)) (hL : L ≤ 3072) (hi : 0 ≤ i ∧ i + 6 ≤ L) (h : GI F σ) (k : ∀ σ', GI F σ' → TT (f_law_J2094 F L xs K i σ') (fun v => v = 1)) : TT (f_law_J296 F L xs K i σ) (fun v => v = 1) := by
  unfold f_law_J296
  simp only [tt_gt, tt_sg, tt_ite, tt_ck, tt_lk, tt_ix, tt_bo, tt_by, tt_nz, tt_ob, tt_st, tt_cpk, tt_c1, tt_c2, tt_ca, tt_cb, tt_some, kd_231, kd_0, Nat.reduceAdd, true_and, and_true, true_implies, not_true_eq_false, false_implies, not_false_eq_true, true_or, or_true]
  repeat refine And.intro (by omega) ?_
  refine TT.mono (q_feed (by omega) h) (fun r hr => ?_)
  repeat refine And.intro (by omega) ?_
  exact hr.mono (fun r' hr' => ⟨fun _ => k _ hr'.2, fun y => absurd hr'.1 y⟩)
theorem lw_end {F L : Nat} {xs : Int → Int} {K : Int → St → Option Int} {i : Int} {σ : St} (hF : 2000000 ≤ F) (hx : ∀ j, iR (xs j)) (hL : L ≤ 3072) (hi : 0 ≤ i ∧ i + 6 ≤ L) (h : GI F σ) (k : ∀ σ', GI F σ' → TT (f_law_J2094 F L xs K i σ') (fun v => v = 1)) : TT (f_law_J359 F L xs K i σ) (fun v => v = 1) := by
  unfold f_law_J359
  simp only [tt_gt, tt_sg, tt_ite, tt_ck, tt_lk, tt_ix, tt_bo, tt_by, tt_nz, tt_ob, tt_st, tt_cpk, tt_c1, tt_c2, tt_ca, tt_cb, tt_some, kd_231, kd_0, Nat.reduceAdd, true_and, and_true, true_implies, not_true_eq_false, false_implies, not_false_eq_true, true_or, or_true]
  repeat refine And.intro (by omega) ?_
  refine TT.mono (q_end (by omega) h) (fun r hr => ?_)
  repeat refine And.intro (by omega) ?_
  exact hr.mono (fun r' hr' => ⟨fun _ => k _ hr'.2, fun y => absurd hr'.1 y⟩)
theorem lw_store {F L : Nat} {xs : Int → Int} {K : Int → St → Option Int} {i : Int} {σ : St} (hF : 2000000 ≤ F) (hx : ∀ j, iR (xs j)) (hL : L ≤ 3072) (hi : 0 ≤ i ∧ i + 6 ≤ L) (h : GI F σ) (k : ∀ σ', GI F σ' → TT (f_law_J2094 F L xs K i σ') (fun v => v = 1)) : TT (f_law_J382 F L xs K i σ) (fun v => v = 1) := by
  unfold f_law_J382
  simp only [tt_gt, tt_sg, tt_ite, tt_ck, tt_lk, tt_ix, tt_bo, tt_by, tt_nz, tt_ob, tt_st, tt_cpk, tt_c1, tt_c2, tt_ca, tt_cb, tt_some, kd_231, kd_0, Nat.reduceAdd, true_and, and_true, true_implies, not_true_eq_false, false_implies, not_false_eq_true, true_or, or_true]
  repeat refine And.intro (by omega) ?_
  refine TT.mono (q_store (by omega) h) (fun r hr => ?_)
  repeat refine And.intro (by omega) ?_
  exact hr.mono (fun r' hr' => ⟨fun _ => k _ hr'.2, fun y => absurd hr'.1 y⟩)
theorem lw_fault {F L : Nat} {xs : Int → Int} {K : Int → St → Option Int} {i : Int} {σ : St} (hF : 2000000 ≤ F) (hx : ∀ j, iR (xs j)) (hL : L ≤ 3072) (hi : 0 ≤ i ∧ i + 6 ≤ L) (h : GI F σ) (k : ∀ σ', GI F σ' → TT (f_law_J2094 F L xs K i σ') (fun v => v = 1)) : TT (f_law_J395 F L xs K i σ) (fun v => v = 1) := by
  unfold f_law_J395
  simp only [tt_gt, tt_sg, tt_ite, tt_ck, tt_lk, tt_ix, tt_bo, tt_by, tt_nz, tt_ob, tt_st, tt_cpk, tt_c1, tt_c2, tt_ca, tt_cb, tt_some, kd_231, kd_0, Nat.reduceAdd, true_and, and_true, true_implies, not_true_eq_false, false_implies, not_false_eq_true, true_or, or_true]
  repeat refine And.intro (by omega) ?_
  refine TT.mono (q_fault (F := F) h) (fun r hr => ?_)
  repeat refine And.intro (by omega) ?_
  exact hr.mono (fun r' hr' => ⟨fun _ => k _ h, fun y => absurd hr' y⟩)
theorem lw_event {F L : Nat} {xs : Int → Int} {K : Int → St → Option Int} {i : Int} {σ : St} (hF : 2000000 ≤ F) (hx : ∀ j, iR (xs j)) (hL : L ≤ 3072) (hi : 0 ≤ i ∧ i + 6 ≤ L) (h : GI F σ) (k : ∀ σ', GI F σ' → TT (f_law_J2094 F L xs K i σ') (fun v => v = 1)) : TT (f_law_J418 F L xs K i σ) (fun v => v = 1) := by
  unfold f_law_J418
  simp only [tt_gt, tt_sg, tt_ite, tt_ck, tt_lk, tt_ix, tt_bo, tt_by, tt_nz, tt_ob, tt_st, tt_cpk, tt_c1, tt_c2, tt_ca, tt_cb, tt_some, kd_231, kd_0, Nat.reduceAdd, true_and, and_true, true_implies, not_true_eq_false, false_implies, not_false_eq_true, true_or, or_true]
  repeat refine And.intro (by omega) ?_
  refine TT.mono (q_event (F := F) h) (fun r hr => ?_)
  repeat refine And.intro (by omega) ?_
  exact hr.mono (fun r' hr' => ⟨fun _ => k _ h, fun y => absurd hr' y⟩)
theorem lw_refused {F L : Nat} {xs : Int → Int} {K : Int → St → Option Int} {i : Int} {σ : St} (hF : 2000000 ≤ F) (hx : ∀ j, iR (xs j)) (hL : L ≤ 3072) (hi : 0 ≤ i ∧ i + 6 ≤ L) (h : GI F σ) (k : ∀ σ', GI F σ' → TT (f_law_J2094 F L xs K i σ') (fun v => v = 1)) : TT (f_law_J451 F L xs K i σ) (fun v => v = 1) := by
  unfold f_law_J451
  simp only [tt_gt, tt_sg, tt_ite, tt_ck, tt_lk, tt_ix, tt_bo, tt_by, tt_nz, tt_ob, tt_st, tt_cpk, tt_c1, tt_c2, tt_ca, tt_cb, tt_some, kd_231, kd_0, Nat.reduceAdd, true_and, and_true, true_implies, not_true_eq_false, false_implies, not_false_eq_true, true_or, or_true]
  repeat refine And.intro (by omega) ?_
  refine TT.mono (q_refused (by omega) h) (fun r hr => ?_)
  repeat refine And.intro (by omega) ?_
  exact hr.mono (fun r' hr' => ⟨fun _ => k _ hr'.2, fun y => absurd hr'.1 y⟩)
theorem lw_value {F L : Nat} {xs : Int → Int} {K : Int → St → Option Int} {i : Int} {σ : St} (hF : 2000000 ≤ F) (hx : ∀ j, iR (xs j)) (hL : L ≤ 3072) (hi : 0 ≤ i ∧ i + 6 ≤ L) (h : GI F σ) (k : ∀ σ', GI F σ' → TT (f_law_J2094 F L xs K i σ') (fun v => v = 1)) : TT (f_law_J474 F L xs K i σ) (fun v => v = 1) := by
  unfold f_law_J474
  simp only [tt_gt, tt_sg, tt_ite, tt_ck, tt_lk, tt_ix, tt_bo, tt_by, tt_nz, tt_ob, tt_st, tt_cpk, tt_c1, tt_c2, tt_ca, tt_cb, tt_some, kd_231, kd_0, Nat.reduceAdd, true_and, and_true, true_implies, not_true_eq_false, false_implies, not_false_eq_true, true_or, or_true]
  repeat refine And.intro (by omega) ?_
  refine TT.mono (q_value (by omega) h) (fun r hr => ?_)
  repeat refine And.intro (by omega) ?_
  exact hr.mono (fun r' hr' => ⟨fun _ => k _ hr'.2, fun y => absurd hr'.1 y⟩)
theorem lw_sum {F L : Nat} {xs : Int → Int} {K : Int → St → Option Int} {i : Int} {σ : St} (hF : 2000000 ≤ F) (hx : ∀ j, iR (xs j)) (hL : L ≤ 3072) (hi : 0 ≤ i ∧ i + 6 ≤ L) (h : GI F σ) (k : ∀ σ', GI F σ' → TT (f_law_J2094 F L xs K i σ') (fun v => v = 1)) : TT (f_law_J507 F L xs K i σ) (fun v => v = 1) := by
  unfold f_law_J507
  simp only [tt_gt, tt_sg, tt_ite, tt_ck, tt_lk, tt_ix, tt_bo, tt_by, tt_nz, tt_ob, tt_st, tt_cpk, tt_c1, tt_c2, tt_ca, tt_cb, tt_some, kd_231, kd_0, Nat.reduceAdd, true_and, and_true, true_implies, not_true_eq_false, false_implies, not_false_eq_true, true_or, or_true]
  repeat refine And.intro (by omega) ?_
  refine TT.mono (q_sum (by omega) h) (fun r hr => ?_)
  repeat refine And.intro (by omega) ?_
  exact hr.mono (fun r' hr' => ⟨fun _ => k _ hr'.2, fun y => absurd hr'.1 y⟩)
theorem lw_changes {F L : Nat} {xs : Int → Int} {K : Int → St → Option Int} {i : Int} {σ : St} (hF : 2000000 ≤ F) (hx : ∀ j, iR (xs j)) (hL : L ≤ 3072) (hi : 0 ≤ i ∧ i + 6 ≤ L) (h : GI F σ) (k : ∀ σ', GI F σ' → TT (f_law_J2094 F L xs K i σ') (fun v => v = 1)) : TT (f_law_J530 F L xs K i σ) (fun v => v = 1) := by
  unfold f_law_J530
  simp only [tt_gt, tt_sg, tt_ite, tt_ck, tt_lk, tt_ix, tt_bo, tt_by, tt_nz, tt_ob, tt_st, tt_cpk, tt_c1, tt_c2, tt_ca, tt_cb, tt_some, kd_231, kd_0, Nat.reduceAdd, true_and, and_true, true_implies, not_true_eq_false, false_implies, not_false_eq_true, true_or, or_true]
  repeat refine And.intro (by omega) ?_
  refine TT.mono (q_changes (by omega) h) (fun r hr => ?_)
  repeat refine And.intro (by omega) ?_
  exact hr.mono (fun r' hr' => ⟨fun _ => k _ hr'.2, fun y => absurd hr'.1 y⟩)
theorem lw_latest {F L : Nat} {xs : Int → Int} {K : Int → St → Option Int} {i : Int} {σ : St} (hF : 2000000 ≤ F) (hx : ∀ j, iR (xs j)) (hL : L ≤ 3072) (hi : 0 ≤ i ∧ i + 6 ≤ L) (h : GI F σ) (k : ∀ σ', GI F σ' → TT (f_law_J2094 F L xs K i σ') (fun v => v = 1)) : TT (f_law_J553 F L xs K i σ) (fun v => v = 1) := by
  unfold f_law_J553
  simp only [tt_gt, tt_sg, tt_ite, tt_ck, tt_lk, tt_ix, tt_bo, tt_by, tt_nz, tt_ob, tt_st, tt_cpk, tt_c1, tt_c2, tt_ca, tt_cb, tt_some, kd_231, kd_0, Nat.reduceAdd, true_and, and_true, true_implies, not_true_eq_false, false_implies, not_false_eq_true, true_or, or_true]
  repeat refine And.intro (by omega) ?_
  refine TT.mono (q_latest (by omega) h) (fun r hr => ?_)
  repeat refine And.intro (by omega) ?_
  exact hr.mono (fun r' hr' => ⟨fun _ => k _ hr'.2, fun y => absurd hr'.1 y⟩)
theorem lw_dirty {F L : Nat} {xs : Int → Int} {K : Int → St → Option Int} {i : Int} {σ : St} (hF : 2000000 ≤ F) (hx : ∀ j, iR (xs j)) (hL : L ≤ 3072) (hi : 0 ≤ i ∧ i + 6 ≤ L) (h : GI F σ) (k : ∀ σ', GI F σ' → TT (f_law_J2094 F L xs K i σ') (fun v => v = 1)) : TT (f_law_J586 F L xs K i σ) (fun v => v = 1) := by
  unfold f_law_J586
  simp only [tt_gt, tt_sg, tt_ite, tt_ck, tt_lk, tt_ix, tt_bo, tt_by, tt_nz, tt_ob, tt_st, tt_cpk, tt_c1, tt_c2, tt_ca, tt_cb, tt_some, kd_231, kd_0, Nat.reduceAdd, true_and, and_true, true_implies, not_true_eq_false, false_implies, not_false_eq_true, true_or, or_true]
  repeat refine And.intro (by omega) ?_
  refine TT.mono (q_dirty (by omega) h) (fun r hr => ?_)
  repeat refine And.intro (by omega) ?_
  exact hr.mono (fun r' hr' => ⟨fun _ => k _ hr'.2, fun y => absurd hr'.1 y⟩)
theorem lw_dirties {F L : Nat} {xs : Int → Int} {K : Int → St → Option Int} {i : Int} {σ : St} (hF : 2000000 ≤ F) (hx : ∀ j, iR (xs j)) (hL : L ≤ 3072) (hi : 0 ≤ i ∧ i + 6 ≤ L) (h : GI F σ) (k : ∀ σ', GI F σ' → TT (f_law_J2094 F L xs K i σ') (fun v => v = 1)) : TT (f_law_J619 F L xs K i σ) (fun v => v = 1) := by
  unfold f_law_J619
  simp only [tt_gt, tt_sg, tt_ite, tt_ck, tt_lk, tt_ix, tt_bo, tt_by, tt_nz, tt_ob, tt_st, tt_cpk, tt_c1, tt_c2, tt_ca, tt_cb, tt_some, kd_231, kd_0, Nat.reduceAdd, true_and, and_true, true_implies, not_true_eq_false, false_implies, not_false_eq_true, true_or, or_true]
  repeat refine And.intro (by omega) ?_
  refine TT.mono (q_dirties (by omega) h) (fun r hr => ?_)
  repeat refine And.intro (by omega) ?_
  exact hr.mono (fun r' hr' => ⟨fun _ => k _ hr'.2, fun y => absurd hr'.1 y⟩)
theorem lw_region {F L : Nat} {xs : Int → Int} {K : Int → St → Option Int} {i : Int} {σ : St} (hF : 2000000 ≤ F) (hx : ∀ j, iR (xs j)) (hL : L ≤ 3072) (hi : 0 ≤ i ∧ i + 6 ≤ L) (h : GI F σ) (k : ∀ σ', GI F σ' → TT (f_law_J2094 F L xs K i σ') (fun v => v = 1)) : TT (f_law_J642 F L xs K i σ) (fun v => v = 1) := by
  unfold f_law_J642
  simp only [tt_gt, tt_sg, tt_ite, tt_ck, tt_lk, tt_ix, tt_bo, tt_by, tt_nz, tt_ob, tt_st, tt_cpk, tt_c1, tt_c2, tt_ca, tt_cb, tt_some, kd_231, kd_0, Nat.reduceAdd, true_and, and_true, true_implies, not_true_eq_false, false_implies, not_false_eq_true, true_or, or_true]
  repeat refine And.intro (by omega) ?_
  refine TT.mono (q_region (by omega) h) (fun r hr => ?_)
  repeat refine And.intro (by omega) ?_
  exact hr.mono (fun r' hr' => ⟨fun _ => k _ hr'.2, fun y => absurd hr'.1 y⟩)
theorem lw_regions {F L : Nat} {xs : Int → Int} {K : Int → St → Option Int} {i : Int} {σ : St} (hF : 2000000 ≤ F) (hx : ∀ j, iR (xs j)) (hL : L ≤ 3072) (hi : 0 ≤ i ∧ i + 6 ≤ L) (h : GI F σ) (k : ∀ σ', GI F σ' → TT (f_law_J2094 F L xs K i σ') (fun v => v = 1)) : TT (f_law_J685 F L xs K i σ) (fun v => v = 1) := by
  unfold f_law_J685
  simp only [tt_gt, tt_sg, tt_ite, tt_ck, tt_lk, tt_ix, tt_bo, tt_by, tt_nz, tt_ob, tt_st, tt_cpk, tt_c1, tt_c2, tt_ca, tt_cb, tt_some, kd_231, kd_0, Nat.reduceAdd, true_and, and_true, true_implies, not_true_eq_false, false_implies, not_false_eq_true, true_or, or_true]
  repeat refine And.intro (by omega) ?_
  refine TT.mono (q_regions (by omega) h) (fun r hr => ?_)
  repeat refine And.intro (by omega) ?_
  exact hr.mono (fun r' hr' => ⟨fun _ => k _ hr'.2, fun y => absurd hr'.1 y⟩)
theorem lw_looks {F L : Nat} {xs : Int → Int} {K : Int → St → Option Int} {i : Int} {σ : St} (hF : 2000000 ≤ F) (hx : ∀ j, iR (xs j)) (hL : L ≤ 3072) (hi : 0 ≤ i ∧ i + 6 ≤ L) (h : GI F σ) (k : ∀ σ', GI F σ' → TT (f_law_J2094 F L xs K i σ') (fun v => v = 1)) : TT (f_law_J718 F L xs K i σ) (fun v => v = 1) := by
  unfold f_law_J718
  simp only [tt_gt, tt_sg, tt_ite, tt_ck, tt_lk, tt_ix, tt_bo, tt_by, tt_nz, tt_ob, tt_st, tt_cpk, tt_c1, tt_c2, tt_ca, tt_cb, tt_some, kd_231, kd_0, Nat.reduceAdd, true_and, and_true, true_implies, not_true_eq_false, false_implies, not_false_eq_true, true_or, or_true]
  repeat refine And.intro (by omega) ?_
  refine TT.mono (q_looks (by omega) h) (fun r hr => ?_)
  repeat refine And.intro (by omega) ?_
  exact hr.mono (fun r' hr' => ⟨fun _ => k _ hr'.2, fun y => absurd hr'.1 y⟩)
theorem lw_copies {F L : Nat} {xs : Int → Int} {K : Int → St → Option Int} {i : Int} {σ : St} (hF : 2000000 ≤ F) (hx : ∀ j, iR (xs j)) (hL : L ≤ 3072) (hi : 0 ≤ i ∧ i + 6 ≤ L) (h : GI F σ) (k : ∀ σ', GI F σ' → TT (f_law_J2094 F L xs K i σ') (fun v => v = 1)) : TT (f_law_J741 F L xs K i σ) (fun v => v = 1) := by
  unfold f_law_J741
  simp only [tt_gt, tt_sg, tt_ite, tt_ck, tt_lk, tt_ix, tt_bo, tt_by, tt_nz, tt_ob, tt_st, tt_cpk, tt_c1, tt_c2, tt_ca, tt_cb, tt_some, kd_231, kd_0, Nat.reduceAdd, true_and, and_true, true_implies, not_true_eq_false, false_implies, not_false_eq_true, true_or, or_true]
  repeat refine And.intro (by omega) ?_
  refine TT.mono (q_copies (by omega) h) (fun r hr => ?_)
  repeat refine And.intro (by omega) ?_
  exact hr.mono (fun r' hr' => ⟨fun _ => k _ hr'.2, fun y => absurd hr'.1 y⟩)
theorem lw_open {F L : Nat} {xs : Int → Int} {K : Int → St → Option Int} {i : Int} {σ : St} (hF : 2000000 ≤ F) (hx : ∀ j, iR (xs j)) (hL : L ≤ 3072) (hi : 0 ≤ i ∧ i + 6 ≤ L) (h : GI F σ) (k : ∀ σ', GI F σ' → TT (f_law_J2094 F L xs K i σ') (fun v => v = 1)) : TT (f_law_J764 F L xs K i σ) (fun v => v = 1) := by
  unfold f_law_J764
  simp only [tt_gt, tt_sg, tt_ite, tt_ck, tt_lk, tt_ix, tt_bo, tt_by, tt_nz, tt_ob, tt_st, tt_cpk, tt_c1, tt_c2, tt_ca, tt_cb, tt_some, kd_231, kd_0, Nat.reduceAdd, true_and, and_true, true_implies, not_true_eq_false, false_implies, not_false_eq_true, true_or, or_true]
  repeat refine And.intro (by omega) ?_
  refine TT.mono (q_open (by omega) h) (fun r hr => ?_)
  repeat refine And.intro (by omega) ?_
  exact hr.mono (fun r' hr' => ⟨fun _ => k _ hr'.2, fun y => absurd hr'.1 y⟩)
theorem lw_copy {F L : Nat} {xs : Int → Int} {K : Int → St → Option Int} {i : Int} {σ : St} (hF : 2000000 ≤ F) (hx : ∀ j, iR (xs j)) (hL : L ≤ 3072) (hi : 0 ≤ i ∧ i + 6 ≤ L) (h : GI F σ) (k : ∀ σ', GI F σ' → TT (f_law_J2094 F L xs K i σ') (fun v => v = 1)) : TT (f_law_J787 F L xs K i σ) (fun v => v = 1) := by
  unfold f_law_J787
  simp only [tt_gt, tt_sg, tt_ite, tt_ck, tt_lk, tt_ix, tt_bo, tt_by, tt_nz, tt_ob, tt_st, tt_cpk, tt_c1, tt_c2, tt_ca, tt_cb, tt_some, kd_231, kd_0, Nat.reduceAdd, true_and, and_true, true_implies, not_true_eq_false, false_implies, not_false_eq_true, true_or, or_true]
  repeat refine And.intro (by omega) ?_
  refine TT.mono (q_copy (by omega) h) (fun r hr => ?_)
  repeat refine And.intro (by omega) ?_
  exact hr.mono (fun r' hr' => ⟨fun _ => k _ hr'.2, fun y => absurd hr'.1 y⟩)
theorem lw_kept {F L : Nat} {xs : Int → Int} {K : Int → St → Option Int} {i : Int} {σ : St} (hF : 2000000 ≤ F) (hx : ∀ j, iR (xs j)) (hL : L ≤ 3072) (hi : 0 ≤ i ∧ i + 6 ≤ L) (h : GI F σ) (k : ∀ σ', GI F σ' → TT (f_law_J2094 F L xs K i σ') (fun v => v = 1)) : TT (f_law_J820 F L xs K i σ) (fun v => v = 1) := by
  unfold f_law_J820
  simp only [tt_gt, tt_sg, tt_ite, tt_ck, tt_lk, tt_ix, tt_bo, tt_by, tt_nz, tt_ob, tt_st, tt_cpk, tt_c1, tt_c2, tt_ca, tt_cb, tt_some, kd_231, kd_0, Nat.reduceAdd, true_and, and_true, true_implies, not_true_eq_false, false_implies, not_false_eq_true, true_or, or_true]
  repeat refine And.intro (by omega) ?_
  refine TT.mono (q_kept (by omega) h) (fun r hr => ?_)
  repeat refine And.intro (by omega) ?_
  exact hr.mono (fun r' hr' => ⟨fun _ => k _ hr'.2, fun y => absurd hr'.1 y⟩)
theorem lw_saved {F L : Nat} {xs : Int → Int} {K : Int → St → Option Int} {i : Int} {σ : St} (hF : 2000000 ≤ F) (hx : ∀ j, iR (xs j)) (hL : L ≤ 3072) (hi : 0 ≤ i ∧ i + 6 ≤ L) (h : GI F σ) (k : ∀ σ', GI F σ' → TT (f_law_J2094 F L xs K i σ') (fun v => v = 1)) : TT (f_law_J853 F L xs K i σ) (fun v => v = 1) := by
  unfold f_law_J853
  simp only [tt_gt, tt_sg, tt_ite, tt_ck, tt_lk, tt_ix, tt_bo, tt_by, tt_nz, tt_ob, tt_st, tt_cpk, tt_c1, tt_c2, tt_ca, tt_cb, tt_some, kd_231, kd_0, Nat.reduceAdd, true_and, and_true, true_implies, not_true_eq_false, false_implies, not_false_eq_true, true_or, or_true]
  repeat refine And.intro (by omega) ?_
  refine TT.mono (q_saved (by omega) h) (fun r hr => ?_)
  repeat refine And.intro (by omega) ?_
  exact hr.mono (fun r' hr' => ⟨fun _ => k _ hr'.2, fun y => absurd hr'.1 y⟩)
theorem lw_order {F L : Nat} {xs : Int → Int} {K : Int → St → Option Int} {i : Int} {σ : St} (hF : 2000000 ≤ F) (hx : ∀ j, iR (xs j)) (hL : L ≤ 3072) (hi : 0 ≤ i ∧ i + 6 ≤ L) (h : GI F σ) (k : ∀ σ', GI F σ' → TT (f_law_J2094 F L xs K i σ') (fun v => v = 1)) : TT (f_law_J886 F L xs K i σ) (fun v => v = 1) := by
  unfold f_law_J886
  simp only [tt_gt, tt_sg, tt_ite, tt_ck, tt_lk, tt_ix, tt_bo, tt_by, tt_nz, tt_ob, tt_st, tt_cpk, tt_c1, tt_c2, tt_ca, tt_cb, tt_some, kd_231, kd_0, Nat.reduceAdd, true_and, and_true, true_implies, not_true_eq_false, false_implies, not_false_eq_true, true_or, or_true]
  repeat refine And.intro (by omega) ?_
  refine TT.mono (q_order (by omega) h) (fun r hr => ?_)
  repeat refine And.intro (by omega) ?_
  exact hr.mono (fun r' hr' => ⟨fun _ => k _ hr'.2, fun y => absurd hr'.1 y⟩)
theorem lw_waiting {F L : Nat} {xs : Int → Int} {K : Int → St → Option Int} {i : Int} {σ : St} (hF : 2000000 ≤ F) (hx : ∀ j, iR (xs j)) (hL : L ≤ 3072) (hi : 0 ≤ i ∧ i + 6 ≤ L) (h : GI F σ) (k : ∀ σ', GI F σ' → TT (f_law_J2094 F L xs K i σ') (fun v => v = 1)) : TT (f_law_J919 F L xs K i σ) (fun v => v = 1) := by
  unfold f_law_J919
  simp only [tt_gt, tt_sg, tt_ite, tt_ck, tt_lk, tt_ix, tt_bo, tt_by, tt_nz, tt_ob, tt_st, tt_cpk, tt_c1, tt_c2, tt_ca, tt_cb, tt_some, kd_231, kd_0, Nat.reduceAdd, true_and, and_true, true_implies, not_true_eq_false, false_implies, not_false_eq_true, true_or, or_true]
  repeat refine And.intro (by omega) ?_
  refine TT.mono (q_waiting (by omega) h) (fun r hr => ?_)
  repeat refine And.intro (by omega) ?_
  exact hr.mono (fun r' hr' => ⟨fun _ => k _ hr'.2, fun y => absurd hr'.1 y⟩)
theorem lw_saves {F L : Nat} {xs : Int → Int} {K : Int → St → Option Int} {i : Int} {σ : St} (hF : 2000000 ≤ F) (hx : ∀ j, iR (xs j)) (hL : L ≤ 3072) (hi : 0 ≤ i ∧ i + 6 ≤ L) (h : GI F σ) (k : ∀ σ', GI F σ' → TT (f_law_J2094 F L xs K i σ') (fun v => v = 1)) : TT (f_law_J942 F L xs K i σ) (fun v => v = 1) := by
  unfold f_law_J942
  simp only [tt_gt, tt_sg, tt_ite, tt_ck, tt_lk, tt_ix, tt_bo, tt_by, tt_nz, tt_ob, tt_st, tt_cpk, tt_c1, tt_c2, tt_ca, tt_cb, tt_some, kd_231, kd_0, Nat.reduceAdd, true_and, and_true, true_implies, not_true_eq_false, false_implies, not_false_eq_true, true_or, or_true]
  repeat refine And.intro (by omega) ?_
  refine TT.mono (q_saves (by omega) h) (fun r hr => ?_)
  repeat refine And.intro (by omega) ?_
  exact hr.mono (fun r' hr' => ⟨fun _ => k _ hr'.2, fun y => absurd hr'.1 y⟩)
theorem lw_work {F L : Nat} {xs : Int → Int} {K : Int → St → Option Int} {i : Int} {σ : St} (hF : 2000000 ≤ F) (hx : ∀ j, iR (xs j)) (hL : L ≤ 3072) (hi : 0 ≤ i ∧ i + 6 ≤ L) (h : GI F σ) (k : ∀ σ', GI F σ' → TT (f_law_J2094 F L xs K i σ') (fun v => v = 1)) : TT (f_law_J965 F L xs K i σ) (fun v => v = 1) := by
  unfold f_law_J965
  simp only [tt_gt, tt_sg, tt_ite, tt_ck, tt_lk, tt_ix, tt_bo, tt_by, tt_nz, tt_ob, tt_st, tt_cpk, tt_c1, tt_c2, tt_ca, tt_cb, tt_some, kd_231, kd_0, Nat.reduceAdd, true_and, and_true, true_implies, not_true_eq_false, false_implies, not_false_eq_true, true_or, or_true]
  repeat refine And.intro (by omega) ?_
  refine TT.mono (q_work (by omega) h) (fun r hr => ?_)
  repeat refine And.intro (by omega) ?_
  exact hr.mono (fun r' hr' => ⟨fun _ => k _ hr'.2, fun y => absurd hr'.1 y⟩)
theorem lw_wasted {F L : Nat} {xs : Int → Int} {K : Int → St → Option Int} {i : Int} {σ : St} (hF : 2000000 ≤ F) (hx : ∀ j, iR (xs j)) (hL : L ≤ 3072) (hi : 0 ≤ i ∧ i + 6 ≤ L) (h : GI F σ) (k : ∀ σ', GI F σ' → TT (f_law_J2094 F L xs K i σ') (fun v => v = 1)) : TT (f_law_J988 F L xs K i σ) (fun v => v = 1) := by
  unfold f_law_J988
  simp only [tt_gt, tt_sg, tt_ite, tt_ck, tt_lk, tt_ix, tt_bo, tt_by, tt_nz, tt_ob, tt_st, tt_cpk, tt_c1, tt_c2, tt_ca, tt_cb, tt_some, kd_231, kd_0, Nat.reduceAdd, true_and, and_true, true_implies, not_true_eq_false, false_implies, not_false_eq_true, true_or, or_true]
  repeat refine And.intro (by omega) ?_
  refine TT.mono (q_wasted (by omega) h) (fun r hr => ?_)
  repeat refine And.intro (by omega) ?_
  exact hr.mono (fun r' hr' => ⟨fun _ => k _ hr'.2, fun y => absurd hr'.1 y⟩)
theorem lw_chain {F L : Nat} {xs : Int → Int} {K : Int → St → Option Int} {i : Int} {σ : St} (hF : 2000000 ≤ F) (hx : ∀ j, iR (xs j)) (hL : L ≤ 3072) (hi : 0 ≤ i ∧ i + 6 ≤ L) (h : GI F σ) (k : ∀ σ', GI F σ' → TT (f_law_J2094 F L xs K i σ') (fun v => v = 1)) : TT (f_law_J1011 F L xs K i σ) (fun v => v = 1) := by
  unfold f_law_J1011
  simp only [tt_gt, tt_sg, tt_ite, tt_ck, tt_lk, tt_ix, tt_bo, tt_by, tt_nz, tt_ob, tt_st, tt_cpk, tt_c1, tt_c2, tt_ca, tt_cb, tt_some, kd_231, kd_0, Nat.reduceAdd, true_and, and_true, true_implies, not_true_eq_false, false_implies, not_false_eq_true, true_or, or_true]
  repeat refine And.intro (by omega) ?_
  refine TT.mono (q_chain (by omega) h) (fun r hr => ?_)
  repeat refine And.intro (by omega) ?_
  exact hr.mono (fun r' hr' => ⟨fun _ => k _ hr'.2, fun y => absurd hr'.1 y⟩)
theorem lw_linked {F L : Nat} {xs : Int → Int} {K : Int → St → Option Int} {i : Int} {σ : St} (hF : 2000000 ≤ F) (hx : ∀ j, iR (xs j)) (hL : L ≤ 3072) (hi : 0 ≤ i ∧ i + 6 ≤ L) (h : GI F σ) (k : ∀ σ', GI F σ' → TT (f_law_J2094 F L xs K i σ') (fun v => v = 1)) : TT (f_law_J1034 F L xs K i σ) (fun v => v = 1) := by
  unfold f_law_J1034
  simp only [tt_gt, tt_sg, tt_ite, tt_ck, tt_lk, tt_ix, tt_bo, tt_by, tt_nz, tt_ob, tt_st, tt_cpk, tt_c1, tt_c2, tt_ca, tt_cb, tt_some, kd_231, kd_0, Nat.reduceAdd, true_and, and_true, true_implies, not_true_eq_false, false_implies, not_false_eq_true, true_or, or_true]
  repeat refine And.intro (by omega) ?_
  refine TT.mono (q_linked (by omega) h (hx _)) (fun r hr => ?_)
  repeat refine And.intro (by omega) ?_
  exact hr.mono (fun r' hr' => ⟨fun _ => k _ hr'.2, fun y => absurd hr'.1 y⟩)
theorem lw_replays {F L : Nat} {xs : Int → Int} {K : Int → St → Option Int} {i : Int} {σ : St} (hF : 2000000 ≤ F) (hx : ∀ j, iR (xs j)) (hL : L ≤ 3072) (hi : 0 ≤ i ∧ i + 6 ≤ L) (h : GI F σ) (k : ∀ σ', GI F σ' → TT (f_law_J2094 F L xs K i σ') (fun v => v = 1)) : TT (f_law_J1067 F L xs K i σ) (fun v => v = 1) := by
  unfold f_law_J1067
  simp only [tt_gt, tt_sg, tt_ite, tt_ck, tt_lk, tt_ix, tt_bo, tt_by, tt_nz, tt_ob, tt_st, tt_cpk, tt_c1, tt_c2, tt_ca, tt_cb, tt_some, kd_231, kd_0, Nat.reduceAdd, true_and, and_true, true_implies, not_true_eq_false, false_implies, not_false_eq_true, true_or, or_true]
  repeat refine And.intro (by omega) ?_
  refine TT.mono (q_replays (by omega) h) (fun r hr => ?_)
  repeat refine And.intro (by omega) ?_
  exact hr.mono (fun r' hr' => ⟨fun _ => k _ hr'.2, fun y => absurd hr'.1 y⟩)
theorem lw_raised {F L : Nat} {xs : Int → Int} {K : Int → St → Option Int} {i : Int} {σ : St} (hF : 2000000 ≤ F) (hx : ∀ j, iR (xs j)) (hL : L ≤ 3072) (hi : 0 ≤ i ∧ i + 6 ≤ L) (h : GI F σ) (k : ∀ σ', GI F σ' → TT (f_law_J2094 F L xs K i σ') (fun v => v = 1)) : TT (f_law_J1090 F L xs K i σ) (fun v => v = 1) := by
  unfold f_law_J1090
  simp only [tt_gt, tt_sg, tt_ite, tt_ck, tt_lk, tt_ix, tt_bo, tt_by, tt_nz, tt_ob, tt_st, tt_cpk, tt_c1, tt_c2, tt_ca, tt_cb, tt_some, kd_231, kd_0, Nat.reduceAdd, true_and, and_true, true_implies, not_true_eq_false, false_implies, not_false_eq_true, true_or, or_true]
  repeat refine And.intro (by omega) ?_
  refine TT.mono (q_raised (by omega) h) (fun r hr => ?_)
  repeat refine And.intro (by omega) ?_
  exact hr.mono (fun r' hr' => ⟨fun _ => k _ hr'.2, fun y => absurd hr'.1 y⟩)
theorem lw_restored {F L : Nat} {xs : Int → Int} {K : Int → St → Option Int} {i : Int} {σ : St} (hF : 2000000 ≤ F) (hx : ∀ j, iR (xs j)) (hL : L ≤ 3072) (hi : 0 ≤ i ∧ i + 6 ≤ L) (h : GI F σ) (k : ∀ σ', GI F σ' → TT (f_law_J2094 F L xs K i σ') (fun v => v = 1)) : TT (f_law_J1123 F L xs K i σ) (fun v => v = 1) := by
  unfold f_law_J1123
  simp only [tt_gt, tt_sg, tt_ite, tt_ck, tt_lk, tt_ix, tt_bo, tt_by, tt_nz, tt_ob, tt_st, tt_cpk, tt_c1, tt_c2, tt_ca, tt_cb, tt_some, kd_231, kd_0, Nat.reduceAdd, true_and, and_true, true_implies, not_true_eq_false, false_implies, not_false_eq_true, true_or, or_true]
  repeat refine And.intro (by omega) ?_
  refine TT.mono (q_restored (by omega) h) (fun r hr => ?_)
  repeat refine And.intro (by omega) ?_
  exact hr.mono (fun r' hr' => ⟨fun _ => k _ hr'.2, fun y => absurd hr'.1 y⟩)
theorem lw_doubled {F L : Nat} {xs : Int → Int} {K : Int → St → Option Int} {i : Int} {σ : St} (hF : 2000000 ≤ F) (hx : ∀ j, iR (xs j)) (hL : L ≤ 3072) (hi : 0 ≤ i ∧ i + 6 ≤ L) (h : GI F σ) (k : ∀ σ', GI F σ' → TT (f_law_J2094 F L xs K i σ') (fun v => v = 1)) : TT (f_law_J1156 F L xs K i σ) (fun v => v = 1) := by
  unfold f_law_J1156
  simp only [tt_gt, tt_sg, tt_ite, tt_ck, tt_lk, tt_ix, tt_bo, tt_by, tt_nz, tt_ob, tt_st, tt_cpk, tt_c1, tt_c2, tt_ca, tt_cb, tt_some, kd_231, kd_0, Nat.reduceAdd, true_and, and_true, true_implies, not_true_eq_false, false_implies, not_false_eq_true, true_or, or_true]
  repeat refine And.intro (by omega) ?_
  refine TT.mono (q_doubled (by omega) h) (fun r hr => ?_)
  repeat refine And.intro (by omega) ?_
  exact hr.mono (fun r' hr' => ⟨fun _ => k _ hr'.2, fun y => absurd hr'.1 y⟩)
theorem lw_source {F L : Nat} {xs : Int → Int} {K : Int → St → Option Int} {i : Int} {σ : St} (hF : 2000000 ≤ F) (hx : ∀ j, iR (xs j)) (hL : L ≤ 3072) (hi : 0 ≤ i ∧ i + 6 ≤ L) (h : GI F σ) (k : ∀ σ', GI F σ' → TT (f_law_J2094 F L xs K i σ') (fun v => v = 1)) : TT (f_law_J1179 F L xs K i σ) (fun v => v = 1) := by
  unfold f_law_J1179
  simp only [tt_gt, tt_sg, tt_ite, tt_ck, tt_lk, tt_ix, tt_bo, tt_by, tt_nz, tt_ob, tt_st, tt_cpk, tt_c1, tt_c2, tt_ca, tt_cb, tt_some, kd_231, kd_0, Nat.reduceAdd, true_and, and_true, true_implies, not_true_eq_false, false_implies, not_false_eq_true, true_or, or_true]
  repeat refine And.intro (by omega) ?_
  refine TT.mono (q_source (by omega) h) (fun r hr => ?_)
  repeat refine And.intro (by omega) ?_
  exact hr.mono (fun r' hr' => ⟨fun _ => k _ hr'.2, fun y => absurd hr'.1 y⟩)
theorem lw_age {F L : Nat} {xs : Int → Int} {K : Int → St → Option Int} {i : Int} {σ : St} (hF : 2000000 ≤ F) (hx : ∀ j, iR (xs j)) (hL : L ≤ 3072) (hi : 0 ≤ i ∧ i + 6 ≤ L) (h : GI F σ) (k : ∀ σ', GI F σ' → TT (f_law_J2094 F L xs K i σ') (fun v => v = 1)) : TT (f_law_J1212 F L xs K i σ) (fun v => v = 1) := by
  unfold f_law_J1212
  simp only [tt_gt, tt_sg, tt_ite, tt_ck, tt_lk, tt_ix, tt_bo, tt_by, tt_nz, tt_ob, tt_st, tt_cpk, tt_c1, tt_c2, tt_ca, tt_cb, tt_some, kd_231, kd_0, Nat.reduceAdd, true_and, and_true, true_implies, not_true_eq_false, false_implies, not_false_eq_true, true_or, or_true]
  repeat refine And.intro (by omega) ?_
  refine TT.mono (q_age (by omega) h) (fun r hr => ?_)
  repeat refine And.intro (by omega) ?_
  exact hr.mono (fun r' hr' => ⟨fun _ => k _ hr'.2, fun y => absurd hr'.1 y⟩)
theorem lw_worst {F L : Nat} {xs : Int → Int} {K : Int → St → Option Int} {i : Int} {σ : St} (hF : 2000000 ≤ F) (hx : ∀ j, iR (xs j)) (hL : L ≤ 3072) (hi : 0 ≤ i ∧ i + 6 ≤ L) (h : GI F σ) (k : ∀ σ', GI F σ' → TT (f_law_J2094 F L xs K i σ') (fun v => v = 1)) : TT (f_law_J1235 F L xs K i σ) (fun v => v = 1) := by
  unfold f_law_J1235
  simp only [tt_gt, tt_sg, tt_ite, tt_ck, tt_lk, tt_ix, tt_bo, tt_by, tt_nz, tt_ob, tt_st, tt_cpk, tt_c1, tt_c2, tt_ca, tt_cb, tt_some, kd_231, kd_0, Nat.reduceAdd, true_and, and_true, true_implies, not_true_eq_false, false_implies, not_false_eq_true, true_or, or_true]
  repeat refine And.intro (by omega) ?_
  refine TT.mono (q_worst (by omega) h) (fun r hr => ?_)
  repeat refine And.intro (by omega) ?_
  exact hr.mono (fun r' hr' => ⟨fun _ => k _ hr'.2, fun y => absurd hr'.1 y⟩)
theorem lw_differ {F L : Nat} {xs : Int → Int} {K : Int → St → Option Int} {i : Int} {σ : St} (hF : 2000000 ≤ F) (hx : ∀ j, iR (xs j)) (hL : L ≤ 3072) (hi : 0 ≤ i ∧ i + 6 ≤ L) (h : GI F σ) (k : ∀ σ', GI F σ' → TT (f_law_J2094 F L xs K i σ') (fun v => v = 1)) : TT (f_law_J1248 F L xs K i σ) (fun v => v = 1) := by
  unfold f_law_J1248
  simp only [tt_gt, tt_sg, tt_ite, tt_ck, tt_lk, tt_ix, tt_bo, tt_by, tt_nz, tt_ob, tt_st, tt_cpk, tt_c1, tt_c2, tt_ca, tt_cb, tt_some, kd_231, kd_0, Nat.reduceAdd, true_and, and_true, true_implies, not_true_eq_false, false_implies, not_false_eq_true, true_or, or_true]
  repeat refine And.intro (by omega) ?_
  refine TT.mono (q_differ (by omega) h) (fun r hr => ?_)
  repeat refine And.intro (by omega) ?_
  exact hr.mono (fun r' hr' => ⟨fun _ => k _ hr'.2, fun y => absurd hr'.1 y⟩)
theorem lw_same {F L : Nat} {xs : Int → Int} {K : Int → St → Option Int} {i : Int} {σ : St} (hF : 2000000 ≤ F) (hx : ∀ j, iR (xs j)) (hL : L ≤ 3072) (hi : 0 ≤ i ∧ i + 6 ≤ L) (h : GI F σ) (k : ∀ σ', GI F σ' → TT (f_law_J2094 F L xs K i σ') (fun v => v = 1)) : TT (f_law_J1281 F L xs K i σ) (fun v => v = 1) := by
  unfold f_law_J1281
  simp only [tt_gt, tt_sg, tt_ite, tt_ck, tt_lk, tt_ix, tt_bo, tt_by, tt_nz, tt_ob, tt_st, tt_cpk, tt_c1, tt_c2, tt_ca, tt_cb, tt_some, kd_231, kd_0, Nat.reduceAdd, true_and, and_true, true_implies, not_true_eq_false, false_implies, not_false_eq_true, true_or, or_true]
  repeat refine And.intro (by omega) ?_
  refine TT.mono (q_same (by omega) h) (fun r hr => ?_)
  repeat refine And.intro (by omega) ?_
  exact hr.mono (fun r' hr' => ⟨fun _ => k _ hr'.2, fun y => absurd hr'.1 y⟩)
theorem lw_pace {F L : Nat} {xs : Int → Int} {K : Int → St → Option Int} {i : Int} {σ : St} (hF : 2000000 ≤ F) (hx : ∀ j, iR (xs j)) (hL : L ≤ 3072) (hi : 0 ≤ i ∧ i + 6 ≤ L) (h : GI F σ) (k : ∀ σ', GI F σ' → TT (f_law_J2094 F L xs K i σ') (fun v => v = 1)) : TT (f_law_J1304 F L xs K i σ) (fun v => v = 1) := by
  unfold f_law_J1304
  simp only [tt_gt, tt_sg, tt_ite, tt_ck, tt_lk, tt_ix, tt_bo, tt_by, tt_nz, tt_ob, tt_st, tt_cpk, tt_c1, tt_c2, tt_ca, tt_cb, tt_some, kd_231, kd_0, Nat.reduceAdd, true_and, and_true, true_implies, not_true_eq_false, false_implies, not_false_eq_true, true_or, or_true]
  repeat refine And.intro (by omega) ?_
  refine TT.mono (q_pace (by omega) h) (fun r hr => ?_)
  repeat refine And.intro (by omega) ?_
  exact hr.mono (fun r' hr' => ⟨fun _ => k _ hr'.2, fun y => absurd hr'.1 y⟩)
theorem lw_best {F L : Nat} {xs : Int → Int} {K : Int → St → Option Int} {i : Int} {σ : St} (hF : 2000000 ≤ F) (hx : ∀ j, iR (xs j)) (hL : L ≤ 3072) (hi : 0 ≤ i ∧ i + 6 ≤ L) (h : GI F σ) (k : ∀ σ', GI F σ' → TT (f_law_J2094 F L xs K i σ') (fun v => v = 1)) : TT (f_law_J1327 F L xs K i σ) (fun v => v = 1) := by
  unfold f_law_J1327
  simp only [tt_gt, tt_sg, tt_ite, tt_ck, tt_lk, tt_ix, tt_bo, tt_by, tt_nz, tt_ob, tt_st, tt_cpk, tt_c1, tt_c2, tt_ca, tt_cb, tt_some, kd_231, kd_0, Nat.reduceAdd, true_and, and_true, true_implies, not_true_eq_false, false_implies, not_false_eq_true, true_or, or_true]
  repeat refine And.intro (by omega) ?_
  refine TT.mono (q_best (by omega) h) (fun r hr => ?_)
  repeat refine And.intro (by omega) ?_
  exact hr.mono (fun r' hr' => ⟨fun _ => k _ hr'.2, fun y => absurd hr'.1 y⟩)
theorem lw_blame {F L : Nat} {xs : Int → Int} {K : Int → St → Option Int} {i : Int} {σ : St} (hF : 2000000 ≤ F) (hx : ∀ j, iR (xs j)) (hL : L ≤ 3072) (hi : 0 ≤ i ∧ i + 6 ≤ L) (h : GI F σ) (k : ∀ σ', GI F σ' → TT (f_law_J2094 F L xs K i σ') (fun v => v = 1)) : TT (f_law_J1340 F L xs K i σ) (fun v => v = 1) := by
  unfold f_law_J1340
  simp only [tt_gt, tt_sg, tt_ite, tt_ck, tt_lk, tt_ix, tt_bo, tt_by, tt_nz, tt_ob, tt_st, tt_cpk, tt_c1, tt_c2, tt_ca, tt_cb, tt_some, kd_231, kd_0, Nat.reduceAdd, true_and, and_true, true_implies, not_true_eq_false, false_implies, not_false_eq_true, true_or, or_true]
  repeat refine And.intro (by omega) ?_
  refine TT.mono (q_blame (by omega) h) (fun r hr => ?_)
  repeat refine And.intro (by omega) ?_
  exact hr.mono (fun r' hr' => ⟨fun _ => k _ hr'.2, fun y => absurd hr'.1 y⟩)
theorem lw_idle {F L : Nat} {xs : Int → Int} {K : Int → St → Option Int} {i : Int} {σ : St} (hF : 2000000 ≤ F) (hx : ∀ j, iR (xs j)) (hL : L ≤ 3072) (hi : 0 ≤ i ∧ i + 6 ≤ L) (h : GI F σ) (k : ∀ σ', GI F σ' → TT (f_law_J2094 F L xs K i σ') (fun v => v = 1)) : TT (f_law_J1353 F L xs K i σ) (fun v => v = 1) := by
  unfold f_law_J1353
  simp only [tt_gt, tt_sg, tt_ite, tt_ck, tt_lk, tt_ix, tt_bo, tt_by, tt_nz, tt_ob, tt_st, tt_cpk, tt_c1, tt_c2, tt_ca, tt_cb, tt_some, kd_231, kd_0, Nat.reduceAdd, true_and, and_true, true_implies, not_true_eq_false, false_implies, not_false_eq_true, true_or, or_true]
  repeat refine And.intro (by omega) ?_
  refine TT.mono (q_idle (by omega) h) (fun r hr => ?_)
  repeat refine And.intro (by omega) ?_
  exact hr.mono (fun r' hr' => ⟨fun _ => k _ hr'.2, fun y => absurd hr'.1 y⟩)
theorem lw_may {F L : Nat} {xs : Int → Int} {K : Int → St → Option Int} {i : Int} {σ : St} (hF : 2000000 ≤ F) (hx : ∀ j, iR (xs j)) (hL : L ≤ 3072) (hi : 0 ≤ i ∧ i + 6 ≤ L) (h : GI F σ) (k : ∀ σ', GI F σ' → TT (f_law_J2094 F L xs K i σ') (fun v => v = 1)) : TT (f_law_J1366 F L xs K i σ) (fun v => v = 1) := by
  unfold f_law_J1366
  simp only [tt_gt, tt_sg, tt_ite, tt_ck, tt_lk, tt_ix, tt_bo, tt_by, tt_nz, tt_ob, tt_st, tt_cpk, tt_c1, tt_c2, tt_ca, tt_cb, tt_some, kd_231, kd_0, Nat.reduceAdd, true_and, and_true, true_implies, not_true_eq_false, false_implies, not_false_eq_true, true_or, or_true]
  repeat refine And.intro (by omega) ?_
  refine TT.mono (q_may (by omega) h) (fun r hr => ?_)
  repeat refine And.intro (by omega) ?_
  exact hr.mono (fun r' hr' => ⟨fun _ => k _ hr'.2, fun y => absurd hr'.1 y⟩)
theorem lw_which {F L : Nat} {xs : Int → Int} {K : Int → St → Option Int} {i : Int} {σ : St} (hF : 2000000 ≤ F) (hx : ∀ j, iR (xs j)) (hL : L ≤ 3072) (hi : 0 ≤ i ∧ i + 6 ≤ L) (h : GI F σ) (k : ∀ σ', GI F σ' → TT (f_law_J2094 F L xs K i σ') (fun v => v = 1)) : TT (f_law_J1389 F L xs K i σ) (fun v => v = 1) := by
  unfold f_law_J1389
  simp only [tt_gt, tt_sg, tt_ite, tt_ck, tt_lk, tt_ix, tt_bo, tt_by, tt_nz, tt_ob, tt_st, tt_cpk, tt_c1, tt_c2, tt_ca, tt_cb, tt_some, kd_231, kd_0, Nat.reduceAdd, true_and, and_true, true_implies, not_true_eq_false, false_implies, not_false_eq_true, true_or, or_true]
  repeat refine And.intro (by omega) ?_
  refine TT.mono (q_which (by omega) h) (fun r hr => ?_)
  repeat refine And.intro (by omega) ?_
  exact hr.mono (fun r' hr' => ⟨fun _ => k _ hr'.2, fun y => absurd hr'.1 y⟩)
theorem lw_plain {F L : Nat} {xs : Int → Int} {K : Int → St → Option Int} {i : Int} {σ : St} (hF : 2000000 ≤ F) (hx : ∀ j, iR (xs j)) (hL : L ≤ 3072) (hi : 0 ≤ i ∧ i + 6 ≤ L) (h : GI F σ) (k : ∀ σ', GI F σ' → TT (f_law_J2094 F L xs K i σ') (fun v => v = 1)) : TT (f_law_J1412 F L xs K i σ) (fun v => v = 1) := by
  unfold f_law_J1412
  simp only [tt_gt, tt_sg, tt_ite, tt_ck, tt_lk, tt_ix, tt_bo, tt_by, tt_nz, tt_ob, tt_st, tt_cpk, tt_c1, tt_c2, tt_ca, tt_cb, tt_some, kd_231, kd_0, Nat.reduceAdd, true_and, and_true, true_implies, not_true_eq_false, false_implies, not_false_eq_true, true_or, or_true]
  repeat refine And.intro (by omega) ?_
  refine TT.mono (q_plain (by omega) h) (fun r hr => ?_)
  repeat refine And.intro (by omega) ?_
  exact hr.mono (fun r' hr' => ⟨fun _ => k _ hr'.2, fun y => absurd hr'.1 y⟩)
theorem lw_by {F L : Nat} {xs : Int → Int} {K : Int → St → Option Int} {i : Int} {σ : St} (hF : 2000000 ≤ F) (hx : ∀ j, iR (xs j)) (hL : L ≤ 3072) (hi : 0 ≤ i ∧ i + 6 ≤ L) (h : GI F σ) (k : ∀ σ', GI F σ' → TT (f_law_J2094 F L xs K i σ') (fun v => v = 1)) : TT (f_law_J1435 F L xs K i σ) (fun v => v = 1) := by
  unfold f_law_J1435
  simp only [tt_gt, tt_sg, tt_ite, tt_ck, tt_lk, tt_ix, tt_bo, tt_by, tt_nz, tt_ob, tt_st, tt_cpk, tt_c1, tt_c2, tt_ca, tt_cb, tt_some, kd_231, kd_0, Nat.reduceAdd, true_and, and_true, true_implies, not_true_eq_false, false_implies, not_false_eq_true, true_or, or_true]
  repeat refine And.intro (by omega) ?_
  refine TT.mono (q_by (by omega) h) (fun r hr => ?_)
  repeat refine And.intro (by omega) ?_
  exact hr.mono (fun r' hr' => ⟨fun _ => k _ hr'.2, fun y => absurd hr'.1 y⟩)
theorem lw_law {F L : Nat} {xs : Int → Int} {K : Int → St → Option Int} {i : Int} {σ : St} (hF : 2000000 ≤ F) (hx : ∀ j, iR (xs j)) (hL : L ≤ 3072) (hi : 0 ≤ i ∧ i + 6 ≤ L) (h : GI F σ) (k : ∀ σ', GI F σ' → TT (f_law_J2094 F L xs K i σ') (fun v => v = 1)) : TT (f_law_J1458 F L xs K i σ) (fun v => v = 1) := by
  unfold f_law_J1458
  simp only [tt_gt, tt_sg, tt_ite, tt_ck, tt_lk, tt_ix, tt_bo, tt_by, tt_nz, tt_ob, tt_st, tt_cpk, tt_c1, tt_c2, tt_ca, tt_cb, tt_some, kd_231, kd_0, Nat.reduceAdd, true_and, and_true, true_implies, not_true_eq_false, false_implies, not_false_eq_true, true_or, or_true]
  repeat refine And.intro (by omega) ?_
  refine TT.mono (q_law (by omega) h) (fun r hr => ?_)
  repeat refine And.intro (by omega) ?_
  exact hr.mono (fun r' hr' => ⟨fun _ => k _ hr'.2, fun y => absurd hr'.1 y⟩)
theorem lw_worth {F L : Nat} {xs : Int → Int} {K : Int → St → Option Int} {i : Int} {σ : St} (hF : 2000000 ≤ F) (hx : ∀ j, iR (xs j)) (hL : L ≤ 3072) (hi : 0 ≤ i ∧ i + 6 ≤ L) (h : GI F σ) (k : ∀ σ', GI F σ' → TT (f_law_J2094 F L xs K i σ') (fun v => v = 1)) : TT (f_law_J1471 F L xs K i σ) (fun v => v = 1) := by
  unfold f_law_J1471
  simp only [tt_gt, tt_sg, tt_ite, tt_ck, tt_lk, tt_ix, tt_bo, tt_by, tt_nz, tt_ob, tt_st, tt_cpk, tt_c1, tt_c2, tt_ca, tt_cb, tt_some, kd_231, kd_0, Nat.reduceAdd, true_and, and_true, true_implies, not_true_eq_false, false_implies, not_false_eq_true, true_or, or_true]
  repeat refine And.intro (by omega) ?_
  refine TT.mono (q_worth (by omega) h) (fun r hr => ?_)
  repeat refine And.intro (by omega) ?_
  exact hr.mono (fun r' hr' => ⟨fun _ => k _ hr'.2, fun y => absurd hr'.1 y⟩)
theorem lw_share {F L : Nat} {xs : Int → Int} {K : Int → St → Option Int} {i : Int} {σ : St} (hF : 2000000 ≤ F) (hx : ∀ j, iR (xs j)) (hL : L ≤ 3072) (hi : 0 ≤ i ∧ i + 6 ≤ L) (h : GI F σ) (k : ∀ σ', GI F σ' → TT (f_law_J2094 F L xs K i σ') (fun v => v = 1)) : TT (f_law_J1494 F L xs K i σ) (fun v => v = 1) := by
  unfold f_law_J1494
  simp only [tt_gt, tt_sg, tt_ite, tt_ck, tt_lk, tt_ix, tt_bo, tt_by, tt_nz, tt_ob, tt_st, tt_cpk, tt_c1, tt_c2, tt_ca, tt_cb, tt_some, kd_231, kd_0, Nat.reduceAdd, true_and, and_true, true_implies, not_true_eq_false, false_implies, not_false_eq_true, true_or, or_true]
  repeat refine And.intro (by omega) ?_
  refine TT.mono (q_share hF h) (fun r hr => ?_)
  repeat refine And.intro (by omega) ?_
  exact hr.mono (fun r' hr' => ⟨fun _ => k _ hr'.2, fun y => absurd hr'.1 y⟩)
theorem lw_rests {F L : Nat} {xs : Int → Int} {K : Int → St → Option Int} {i : Int} {σ : St} (hF : 2000000 ≤ F) (hx : ∀ j, iR (xs j)) (hL : L ≤ 3072) (hi : 0 ≤ i ∧ i + 6 ≤ L) (h : GI F σ) (k : ∀ σ', GI F σ' → TT (f_law_J2094 F L xs K i σ') (fun v => v = 1)) : TT (f_law_J1527 F L xs K i σ) (fun v => v = 1) := by
  unfold f_law_J1527
  simp only [tt_gt, tt_sg, tt_ite, tt_ck, tt_lk, tt_ix, tt_bo, tt_by, tt_nz, tt_ob, tt_st, tt_cpk, tt_c1, tt_c2, tt_ca, tt_cb, tt_some, kd_231, kd_0, Nat.reduceAdd, true_and, and_true, true_implies, not_true_eq_false, false_implies, not_false_eq_true, true_or, or_true]
  repeat refine And.intro (by omega) ?_
  refine TT.mono (q_rests (by omega) h) (fun r hr => ?_)
  repeat refine And.intro (by omega) ?_
  exact hr.mono (fun r' hr' => ⟨fun _ => k _ hr'.2, fun y => absurd hr'.1 y⟩)
theorem lw_gets {F L : Nat} {xs : Int → Int} {K : Int → St → Option Int} {i : Int} {σ : St} (hF : 2000000 ≤ F) (hx : ∀ j, iR (xs j)) (hL : L ≤ 3072) (hi : 0 ≤ i ∧ i + 6 ≤ L) (h : GI F σ) (k : ∀ σ', GI F σ' → TT (f_law_J2094 F L xs K i σ') (fun v => v = 1)) : TT (f_law_J1560 F L xs K i σ) (fun v => v = 1) := by
  unfold f_law_J1560
  simp only [tt_gt, tt_sg, tt_ite, tt_ck, tt_lk, tt_ix, tt_bo, tt_by, tt_nz, tt_ob, tt_st, tt_cpk, tt_c1, tt_c2, tt_ca, tt_cb, tt_some, kd_231, kd_0, Nat.reduceAdd, true_and, and_true, true_implies, not_true_eq_false, false_implies, not_false_eq_true, true_or, or_true]
  repeat refine And.intro (by omega) ?_
  refine TT.mono (q_gets (by omega) h) (fun r hr => ?_)
  repeat refine And.intro (by omega) ?_
  exact hr.mono (fun r' hr' => ⟨fun _ => k _ hr'.2, fun y => absurd hr'.1 y⟩)
theorem lw_chance {F L : Nat} {xs : Int → Int} {K : Int → St → Option Int} {i : Int} {σ : St} (hF : 2000000 ≤ F) (hx : ∀ j, iR (xs j)) (hL : L ≤ 3072) (hi : 0 ≤ i ∧ i + 6 ≤ L) (h : GI F σ) (k : ∀ σ', GI F σ' → TT (f_law_J2094 F L xs K i σ') (fun v => v = 1)) : TT (f_law_J1613 F L xs K i σ) (fun v => v = 1) := by
  unfold f_law_J1613
  simp only [tt_gt, tt_sg, tt_ite, tt_ck, tt_lk, tt_ix, tt_bo, tt_by, tt_nz, tt_ob, tt_st, tt_cpk, tt_c1, tt_c2, tt_ca, tt_cb, tt_some, kd_231, kd_0, Nat.reduceAdd, true_and, and_true, true_implies, not_true_eq_false, false_implies, not_false_eq_true, true_or, or_true]
  repeat refine And.intro (by omega) ?_
  refine TT.mono (q_chance hF h) (fun r hr => ?_)
  repeat refine And.intro (by omega) ?_
  refine hr.mono (fun r' hr' => ⟨fun _ => k _ hr'.2, fun y => ?_⟩)
  refine absurd ?_ y
  rw [hr'.1]
  unfold z_cmp
  rw [if_neg (by omega), if_pos rfl]
theorem lw_mean {F L : Nat} {xs : Int → Int} {K : Int → St → Option Int} {i : Int} {σ : St} (hF : 2000000 ≤ F) (hx : ∀ j, iR (xs j)) (hL : L ≤ 3072) (hi : 0 ≤ i ∧ i + 6 ≤ L) (h : GI F σ) (k : ∀ σ', GI F σ' → TT (f_law_J2094 F L xs K i σ') (fun v => v = 1)) : TT (f_law_J1657 F L xs K i σ) (fun v => v = 1) := by
  unfold f_law_J1657
  simp only [tt_gt, tt_sg, tt_ite, tt_ck, tt_lk, tt_ix, tt_bo, tt_by, tt_nz, tt_ob, tt_st, tt_cpk, tt_c1, tt_c2, tt_ca, tt_cb, tt_some, kd_231, kd_0, Nat.reduceAdd, true_and, and_true, true_implies, not_true_eq_false, false_implies, not_false_eq_true, true_or, or_true]
  repeat refine And.intro (by omega) ?_
  refine TT.mono (q_mean hF h) (fun r hr => ?_)
  repeat refine And.intro (by omega) ?_
  refine hr.mono (fun r' hr' => ⟨fun _ => k _ hr'.2, fun y => ?_⟩)
  refine absurd ?_ y
  rw [hr'.1]
  unfold z_cmp
  rw [if_neg (by omega), if_pos rfl]
theorem lw_does {F L : Nat} {xs : Int → Int} {K : Int → St → Option Int} {i : Int} {σ : St} (hF : 2000000 ≤ F) (hx : ∀ j, iR (xs j)) (hL : L ≤ 3072) (hi : 0 ≤ i ∧ i + 6 ≤ L) (h : GI F σ) (k : ∀ σ', GI F σ' → TT (f_law_J2094 F L xs K i σ') (fun v => v = 1)) : TT (f_law_J1691 F L xs K i σ) (fun v => v = 1) := by
  unfold f_law_J1691
  simp only [tt_gt, tt_sg, tt_ite, tt_ck, tt_lk, tt_ix, tt_bo, tt_by, tt_nz, tt_ob, tt_st, tt_cpk, tt_c1, tt_c2, tt_ca, tt_cb, tt_some, kd_231, kd_0, Nat.reduceAdd, true_and, and_true, true_implies, not_true_eq_false, false_implies, not_false_eq_true, true_or, or_true]
  repeat refine And.intro (by omega) ?_
  refine TT.mono (q_does (by omega) h) (fun r hr => ?_)
  repeat refine And.intro (by omega) ?_
  exact hr.mono (fun r' hr' => ⟨fun _ => k _ hr'.2, fun y => absurd hr'.1 y⟩)
theorem lw_undo {F L : Nat} {xs : Int → Int} {K : Int → St → Option Int} {i : Int} {σ : St} (hF : 2000000 ≤ F) (hx : ∀ j, iR (xs j)) (hL : L ≤ 3072) (hi : 0 ≤ i ∧ i + 6 ≤ L) (h : GI F σ) (k : ∀ σ', GI F σ' → TT (f_law_J2094 F L xs K i σ') (fun v => v = 1)) : TT (f_law_J1744 F L xs K i σ) (fun v => v = 1) := by
  unfold f_law_J1744
  simp only [tt_gt, tt_sg, tt_ite, tt_ck, tt_lk, tt_ix, tt_bo, tt_by, tt_nz, tt_ob, tt_st, tt_cpk, tt_c1, tt_c2, tt_ca, tt_cb, tt_some, kd_231, kd_0, Nat.reduceAdd, true_and, and_true, true_implies, not_true_eq_false, false_implies, not_false_eq_true, true_or, or_true]
  repeat refine And.intro (by omega) ?_
  refine TT.mono (q_undo (by omega) h) (fun r hr => ?_)
  repeat refine And.intro (by omega) ?_
  exact hr.mono (fun r' hr' => ⟨fun _ => k _ hr'.2, fun y => absurd hr'.1 y⟩)
theorem lw_anew {F L : Nat} {xs : Int → Int} {K : Int → St → Option Int} {i : Int} {σ : St} (hF : 2000000 ≤ F) (hx : ∀ j, iR (xs j)) (hL : L ≤ 3072) (hi : 0 ≤ i ∧ i + 6 ≤ L) (h : GI F σ) (k : ∀ σ', GI F σ' → TT (f_law_J2094 F L xs K i σ') (fun v => v = 1)) : TT (f_law_J1757 F L xs K i σ) (fun v => v = 1) := by
  unfold f_law_J1757
  simp only [tt_gt, tt_sg, tt_ite, tt_ck, tt_lk, tt_ix, tt_bo, tt_by, tt_nz, tt_ob, tt_st, tt_cpk, tt_c1, tt_c2, tt_ca, tt_cb, tt_some, kd_231, kd_0, Nat.reduceAdd, true_and, and_true, true_implies, not_true_eq_false, false_implies, not_false_eq_true, true_or, or_true]
  repeat refine And.intro (by omega) ?_
  refine TT.mono (q_anew (by omega) h) (fun r hr => ?_)
  repeat refine And.intro (by omega) ?_
  exact hr.mono (fun r' hr' => ⟨fun _ => k _ hr'.2, fun y => absurd hr'.1 y⟩)
theorem lw_drawn {F L : Nat} {xs : Int → Int} {K : Int → St → Option Int} {i : Int} {σ : St} (hF : 2000000 ≤ F) (hx : ∀ j, iR (xs j)) (hL : L ≤ 3072) (hi : 0 ≤ i ∧ i + 6 ≤ L) (h : GI F σ) (k : ∀ σ', GI F σ' → TT (f_law_J2094 F L xs K i σ') (fun v => v = 1)) : TT (f_law_J1770 F L xs K i σ) (fun v => v = 1) := by
  unfold f_law_J1770
  simp only [tt_gt, tt_sg, tt_ite, tt_ck, tt_lk, tt_ix, tt_bo, tt_by, tt_nz, tt_ob, tt_st, tt_cpk, tt_c1, tt_c2, tt_ca, tt_cb, tt_some, kd_231, kd_0, Nat.reduceAdd, true_and, and_true, true_implies, not_true_eq_false, false_implies, not_false_eq_true, true_or, or_true]
  repeat refine And.intro (by omega) ?_
  refine TT.mono (q_drawn (by omega) h) (fun r hr => ?_)
  repeat refine And.intro (by omega) ?_
  exact hr.mono (fun r' hr' => ⟨fun _ => k _ hr'.2, fun y => absurd hr'.1 y⟩)
theorem lw_luck {F L : Nat} {xs : Int → Int} {K : Int → St → Option Int} {i : Int} {σ : St} (hF : 2000000 ≤ F) (hx : ∀ j, iR (xs j)) (hL : L ≤ 3072) (hi : 0 ≤ i ∧ i + 6 ≤ L) (h : GI F σ) (k : ∀ σ', GI F σ' → TT (f_law_J2094 F L xs K i σ') (fun v => v = 1)) : TT (f_law_J1803 F L xs K i σ) (fun v => v = 1) := by
  unfold f_law_J1803
  simp only [tt_gt, tt_sg, tt_ite, tt_ck, tt_lk, tt_ix, tt_bo, tt_by, tt_nz, tt_ob, tt_st, tt_cpk, tt_c1, tt_c2, tt_ca, tt_cb, tt_some, kd_231, kd_0, Nat.reduceAdd, true_and, and_true, true_implies, not_true_eq_false, false_implies, not_false_eq_true, true_or, or_true]
  repeat refine And.intro (by omega) ?_
  refine TT.mono (q_luck (by omega) h) (fun r hr => ?_)
  repeat refine And.intro (by omega) ?_
  exact hr.mono (fun r' hr' => ⟨fun _ => k _ hr'.2, fun y => absurd hr'.1 y⟩)
theorem lw_count {F L : Nat} {xs : Int → Int} {K : Int → St → Option Int} {i : Int} {σ : St} (hF : 2000000 ≤ F) (hx : ∀ j, iR (xs j)) (hL : L ≤ 3072) (hi : 0 ≤ i ∧ i + 6 ≤ L) (h : GI F σ) (k : ∀ σ', GI F σ' → TT (f_law_J2094 F L xs K i σ') (fun v => v = 1)) : TT (f_law_J1846 F L xs K i σ) (fun v => v = 1) := by
  unfold f_law_J1846
  simp only [tt_gt, tt_sg, tt_ite, tt_ck, tt_lk, tt_ix, tt_bo, tt_by, tt_nz, tt_ob, tt_st, tt_cpk, tt_c1, tt_c2, tt_ca, tt_cb, tt_some, kd_231, kd_0, Nat.reduceAdd, true_and, and_true, true_implies, not_true_eq_false, false_implies, not_false_eq_true, true_or, or_true]
  repeat refine And.intro (by omega) ?_
  refine TT.mono (q_count (by omega) h) (fun r hr => ?_)
  repeat refine And.intro (by omega) ?_
  exact hr.mono (fun r' hr' => ⟨fun _ => k _ h, fun y => absurd hr' y⟩)
theorem lw_image {F L : Nat} {xs : Int → Int} {K : Int → St → Option Int} {i : Int} {σ : St} (hF : 2000000 ≤ F) (hx : ∀ j, iR (xs j)) (hL : L ≤ 3072) (hi : 0 ≤ i ∧ i + 6 ≤ L) (h : GI F σ) (k : ∀ σ', GI F σ' → TT (f_law_J2094 F L xs K i σ') (fun v => v = 1)) : TT (f_law_J1869 F L xs K i σ) (fun v => v = 1) := by
  unfold f_law_J1869
  simp only [tt_gt, tt_sg, tt_ite, tt_ck, tt_lk, tt_ix, tt_bo, tt_by, tt_nz, tt_ob, tt_st, tt_cpk, tt_c1, tt_c2, tt_ca, tt_cb, tt_some, kd_231, kd_0, Nat.reduceAdd, true_and, and_true, true_implies, not_true_eq_false, false_implies, not_false_eq_true, true_or, or_true]
  repeat refine And.intro (by omega) ?_
  refine TT.mono (q_image (by omega) h) (fun r hr => ?_)
  repeat refine And.intro (by omega) ?_
  exact hr.mono (fun r' hr' => ⟨fun _ => k _ hr'.2, fun y => absurd hr'.1 y⟩)
theorem lw_back {F L : Nat} {xs : Int → Int} {K : Int → St → Option Int} {i : Int} {σ : St} (hF : 2000000 ≤ F) (hx : ∀ j, iR (xs j)) (hL : L ≤ 3072) (hi : 0 ≤ i ∧ i + 6 ≤ L) (h : GI F σ) (k : ∀ σ', GI F σ' → TT (f_law_J2094 F L xs K i σ') (fun v => v = 1)) : TT (f_law_J1892 F L xs K i σ) (fun v => v = 1) := by
  unfold f_law_J1892
  simp only [tt_gt, tt_sg, tt_ite, tt_ck, tt_lk, tt_ix, tt_bo, tt_by, tt_nz, tt_ob, tt_st, tt_cpk, tt_c1, tt_c2, tt_ca, tt_cb, tt_some, kd_231, kd_0, Nat.reduceAdd, true_and, and_true, true_implies, not_true_eq_false, false_implies, not_false_eq_true, true_or, or_true]
  repeat refine And.intro (by omega) ?_
  refine TT.mono (q_back (by omega) h) (fun r hr => ?_)
  repeat refine And.intro (by omega) ?_
  exact hr.mono (fun r' hr' => ⟨fun _ => k _ hr'.2, fun y => absurd hr'.1 y⟩)
theorem lw_row {F L : Nat} {xs : Int → Int} {K : Int → St → Option Int} {i : Int} {σ : St} (hF : 2000000 ≤ F) (hx : ∀ j, iR (xs j)) (hL : L ≤ 3072) (hi : 0 ≤ i ∧ i + 6 ≤ L) (h : GI F σ) (k : ∀ σ', GI F σ' → TT (f_law_J2094 F L xs K i σ') (fun v => v = 1)) : TT (f_law_J1915 F L xs K i σ) (fun v => v = 1) := by
  unfold f_law_J1915
  simp only [tt_gt, tt_sg, tt_ite, tt_ck, tt_lk, tt_ix, tt_bo, tt_by, tt_nz, tt_ob, tt_st, tt_cpk, tt_c1, tt_c2, tt_ca, tt_cb, tt_some, kd_231, kd_0, Nat.reduceAdd, true_and, and_true, true_implies, not_true_eq_false, false_implies, not_false_eq_true, true_or, or_true]
  repeat refine And.intro (by omega) ?_
  refine TT.mono (q_row (by omega) h) (fun r hr => ?_)
  repeat refine And.intro (by omega) ?_
  exact hr.mono (fun r' hr' => ⟨fun _ => k _ hr'.2, fun y => absurd hr'.1 y⟩)
theorem lw_write {F L : Nat} {xs : Int → Int} {K : Int → St → Option Int} {i : Int} {σ : St} (hF : 2000000 ≤ F) (hx : ∀ j, iR (xs j)) (hL : L ≤ 3072) (hi : 0 ≤ i ∧ i + 6 ≤ L) (h : GI F σ) (k : ∀ σ', GI F σ' → TT (f_law_J2094 F L xs K i σ') (fun v => v = 1)) : TT (f_law_J1958 F L xs K i σ) (fun v => v = 1) := by
  unfold f_law_J1958
  simp only [tt_gt, tt_sg, tt_ite, tt_ck, tt_lk, tt_ix, tt_bo, tt_by, tt_nz, tt_ob, tt_st, tt_cpk, tt_c1, tt_c2, tt_ca, tt_cb, tt_some, kd_231, kd_0, Nat.reduceAdd, true_and, and_true, true_implies, not_true_eq_false, false_implies, not_false_eq_true, true_or, or_true]
  repeat refine And.intro (by omega) ?_
  refine TT.mono (q_write (by omega) h lR_or) (fun r hr => ?_)
  repeat refine And.intro (by omega) ?_
  exact hr.mono (fun r' hr' => ⟨fun _ => k _ hr'.2, fun y => absurd hr'.1 y⟩)
theorem lw_paste {F L : Nat} {xs : Int → Int} {K : Int → St → Option Int} {i : Int} {σ : St} (hF : 2000000 ≤ F) (hx : ∀ j, iR (xs j)) (hL : L ≤ 3072) (hi : 0 ≤ i ∧ i + 6 ≤ L) (h : GI F σ) (k : ∀ σ', GI F σ' → TT (f_law_J2094 F L xs K i σ') (fun v => v = 1)) : TT (f_law_J2031 F L xs K i σ) (fun v => v = 1) := by
  unfold f_law_J2031
  simp only [tt_gt, tt_sg, tt_ite, tt_ck, tt_lk, tt_ix, tt_bo, tt_by, tt_nz, tt_ob, tt_st, tt_cpk, tt_c1, tt_c2, tt_ca, tt_cb, tt_some, kd_231, kd_0, Nat.reduceAdd, true_and, and_true, true_implies, not_true_eq_false, false_implies, not_false_eq_true, true_or, or_true]
  repeat refine And.intro (by omega) ?_
  refine TT.mono (q_paste (by omega) h (hx _) (hx _) (hx _)) (fun r hr => ?_)
  repeat refine And.intro (by omega) ?_
  exact hr.mono (fun r' hr' => ⟨fun _ => k _ hr'.2, fun y => absurd hr'.1 y⟩)
