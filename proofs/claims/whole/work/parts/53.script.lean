def SR (s : Nat) (σ : St) (w : Int → Int) : Prop := (∀ j, 0 ≤ j → j < 5 → σ s j = w j) ∧ (∀ e, 0 ≤ e → e < 60 → 0 ≤ σ (s + 1) e ∧ σ (s + 1) e ≤ 8) ∧ ∀ e, 0 ≤ e → e < evN w → σ (s + 1) e = w (6 + 4 * e) ∧ ∀ j, 0 ≤ j → j < z_nk (w (6 + 4 * e)) → σ (s + 2) (e * 3 + j) = w (6 + 4 * e + 1 + j)
theorem SR.mv {s : Nat} {σ σ' : St} {w : Int → Int} (h : SR s σ w) (h0 : σ' s = σ s) (h1 : σ' (s + 1) = σ (s + 1)) (h2 : σ' (s + 2) = σ (s + 2)) : SR s σ' w := by
  unfold SR
  rw [h0, h1, h2]
  exact h
theorem nine {k : Int} (h : 0 ≤ k) (h2 : k ≤ 8) : k = 0 ∨ k = 1 ∨ k = 2 ∨ k = 3 ∨ k = 4 ∨ k = 5 ∨ k = 6 ∨ k = 7 ∨ k = 8 := by omega
theorem nk_v {k : Int} (h : 0 ≤ k) (h2 : k ≤ 8) : z_nk k = if k < 3 then 2 else if k = 3 then 3 else if k = 6 then 1 else 0 := by
  rcases nine h h2 with h | h | h | h | h | h | h | h | h <;> subst h <;> rfl
theorem e4_kindOf {F s : Nat} {σ : St} {w : Int → Int} {e : Int} (hk : kdX s = 4) (h : SR s σ w) (hw : WF w) (he : 0 ≤ e ∧ e < evN w) : f_X4_kindOf F s e σ = some (w (6 + 4 * e)) := by
  have h60 := hw.ev60
  apply TT.eq
  unfold f_X4_kindOf
  simp only [tt_gt, tt_sg, tt_ite, tt_ck, tt_lk, tt_ix, tt_bo, tt_by, tt_nz, tt_ob, tt_st, tt_cpk, tt_c1, tt_c2, tt_ca, tt_cb, tt_some, kd_231, kd_0, Nat.reduceAdd, true_and, and_true, true_implies, not_true_eq_false, false_implies, not_false_eq_true, true_or, or_true, hk]
  refine ⟨fun q => absurd q (by omega), fun q => ⟨fun q => absurd q (by omega), fun q => ⟨by omega, (h.2.2 e he.1 he.2).1⟩⟩⟩
theorem e4_numberOf {F s : Nat} {σ : St} {w : Int → Int} {e j : Int} (hk : kdX s = 4) (h : SR s σ w) (hw : WF w) (he : 0 ≤ e ∧ e < evN w) (hj : 0 ≤ j ∧ j < 3) : f_X4_numberOf F s e j σ = some (w (6 + 4 * e + 1 + j)) := by
  have h60 := hw.ev60
  have h1 := h.2.2 e he.1 he.2
  obtain ⟨g1, g2, g3, g4, g5, g6, g7, g8, g9, g10⟩ := hw.2.2 e he.1 he.2
  have hn := nk_v g1 g2
  apply TT.eq
  unfold f_X4_numberOf
  simp only [tt_gt, tt_sg, tt_ite, tt_ck, tt_lk, tt_ix, tt_bo, tt_by, tt_nz, tt_ob, tt_st, tt_cpk, tt_c1, tt_c2, tt_ca, tt_cb, tt_some, kd_231, kd_0, Nat.reduceAdd, true_and, and_true, true_implies, not_true_eq_false, false_implies, not_false_eq_true, true_or, or_true, hk, h1.1]
  refine ⟨fun q => absurd q (by omega), fun q => ⟨fun q => absurd q (by omega), fun q => ⟨fun q => absurd q (by omega), fun q => And.intro (by omega) (And.intro (by omega) ⟨fun q => ?_, fun q => ?_⟩)⟩⟩⟩
  · refine ⟨by omega, by omega, by omega, h1.2 j hj.1 q⟩
  · rw [hn] at q
    have h3 : j = 0 ∨ j = 1 ∨ j = 2 := by omega
    rcases h3 with rfl | rfl | rfl
    · refine (g8 ?_).symm
      split at q
      · omega
      · split at q
        · omega
        · split at q <;> omega
    · refine (g9 ?_).symm
      split at q
      · omega
      · split at q
        · omega
        · split at q <;> omega
    · refine (g10 ?_).symm
      split at q
      · omega
      · split at q
        · omega
        · split at q <;> omega
theorem e4_exists {F s : Nat} {σ : St} (hk : kdX s = 4) : f_X4_exists F s σ = some (if 0 < σ s 0 then 1 else 0) := by
  apply TT.eq
  unfold f_X4_exists
  simp only [tt_gt, tt_sg, tt_ite, tt_ck, tt_lk, tt_ix, tt_bo, tt_by, tt_nz, tt_ob, tt_st, tt_cpk, tt_c1, tt_c2, tt_ca, tt_cb, tt_some, kd_231, kd_0, Nat.reduceAdd, true_and, and_true, true_implies, not_true_eq_false, false_implies, not_false_eq_true, true_or, or_true, hk]
  refine ⟨fun q => ?_, fun q => ?_⟩
  · rw [if_neg (by omega)]
  · rw [if_pos (by omega)]
theorem e4_size {F s : Nat} {σ : St} {w : Int → Int} (hk : kdX s = 4) (h : SR s σ w) (hw : WF w) : f_X4_size F s σ = some (evN w) := by
  have h60 := hw.ev60
  have h3 := h.1 3 (by decide) (by decide)
  have h4 := h.1 4 (by decide) (by decide)
  apply TT.eq
  unfold f_X4_size
  unfold evN at h60 ⊢
  simp only [tt_gt, tt_sg, tt_ite, tt_ck, tt_lk, tt_ix, tt_bo, tt_by, tt_nz, tt_ob, tt_st, tt_cpk, tt_c1, tt_c2, tt_ca, tt_cb, tt_some, kd_231, kd_0, Nat.reduceAdd, true_and, and_true, true_implies, not_true_eq_false, false_implies, not_false_eq_true, true_or, or_true, hk, h3, h4]
  omega
theorem e4_lines {F s : Nat} {σ : St} {w : Int → Int} (hk : kdX s = 4) (h : SR s σ w) (hw : WF w) : f_X4_lines F s σ = some (w 5) := by
  have h0 := h.1 0 (by decide) (by decide)
  have h3 := h.1 3 (by decide) (by decide)
  have hd := hw.1
  unfold Hd at hd
  have h2 := hw.2.1
  apply TT.eq
  unfold f_X4_lines
  simp only [tt_gt, tt_sg, tt_ite, tt_ck, tt_lk, tt_ix, tt_bo, tt_by, tt_nz, tt_ob, tt_st, tt_cpk, tt_c1, tt_c2, tt_ca, tt_cb, tt_some, kd_231, kd_0, Nat.reduceAdd, true_and, and_true, true_implies, not_true_eq_false, false_implies, not_false_eq_true, true_or, or_true, hk, h3, h0]
  refine ⟨fun q => by omega, fun q => ⟨by omega, ?_⟩⟩
  rcases h2 with h2 | h2
  · have := h2.2 0 (by decide) (by decide)
    omega
  · omega
theorem e4_isCommand {F s : Nat} {σ : St} {w : Int → Int} {e : Int} (hk : kdX s = 4) (h : SR s σ w) (hw : WF w) (he : 0 ≤ e ∧ e < evN w) : f_X4_isCommand F s e σ = some (if w (6 + 4 * e) < 4 then 1 else 0) := by
  apply TT.eq
  unfold f_X4_isCommand
  simp only [tt_gt, tt_sg, tt_ite, tt_ck, tt_lk, tt_ix, tt_bo, tt_by, tt_nz, tt_ob, tt_st, tt_cpk, tt_c1, tt_c2, tt_ca, tt_cb, tt_some, kd_231, kd_0, Nat.reduceAdd, true_and, and_true, true_implies, not_true_eq_false, false_implies, not_false_eq_true, true_or, or_true, hk, e4_kindOf hk h hw he]
  refine ⟨fun q => ?_, fun q => ?_⟩
  · rw [if_neg (by omega)]
  · rw [if_pos (by omega)]
theorem WF.st {w : Int → Int} (h : WF w) : 0 < w 0 ↔ 0 < w 5 := by
  have h1 := h.1
  unfold Hd at h1
  rcases h.2.1 with h2 | h2
  · have := h2.2 0 (by decide) (by decide)
    omega
  · omega
theorem e4_commands {F s : Nat} {σ : St} {w : Int → Int} (hF : 100 ≤ F) (hk : kdX s = 4) (h : SR s σ w) (hw : WF w) : f_X4_commands F s σ = some (sm (fun e => if w (6 + 4 * e) < 4 then 1 else 0) (evN w).toNat) := by
  have h60 := hw.ev60
  apply TT.eq
  unfold f_X4_commands
  simp only [tt_gt, tt_sg, tt_ite, tt_ck, tt_lk, tt_ix, tt_bo, tt_by, tt_nz, tt_ob, tt_st, tt_cpk, tt_c1, tt_c2, tt_ca, tt_cb, tt_some, kd_231, kd_0, Nat.reduceAdd, true_and, and_true, true_implies, not_true_eq_false, false_implies, not_false_eq_true, true_or, or_true, hk]
  refine lp_c (evN w).toNat (sm (fun e => if w (6 + 4 * e) < 4 then 1 else 0)) (by omega) (fun n => ?_) (fun n i hi ht => ?_)
  · rw [f_X4_commands_L4]
    simp only [tt_gt, tt_sg, tt_ite, tt_ck, tt_lk, tt_ix, tt_bo, tt_by, tt_nz, tt_ob, tt_st, tt_cpk, tt_c1, tt_c2, tt_ca, tt_cb, tt_some, kd_231, kd_0, Nat.reduceAdd, true_and, and_true, true_implies, not_true_eq_false, false_implies, not_false_eq_true, true_or, or_true, e4_size hk h hw]
    exact ⟨fun _ => trivial, fun q => absurd q (by omega)⟩
  · have hr := sm_rng (f := fun e => if w (6 + 4 * e) < 4 then 1 else 0) (M := 1) i (fun i _ => by split <;> omega)
    rw [f_X4_commands_L4]
    simp only [tt_gt, tt_sg, tt_ite, tt_ck, tt_lk, tt_ix, tt_bo, tt_by, tt_nz, tt_ob, tt_st, tt_cpk, tt_c1, tt_c2, tt_ca, tt_cb, tt_some, kd_231, kd_0, Nat.reduceAdd, true_and, and_true, true_implies, not_true_eq_false, false_implies, not_false_eq_true, true_or, or_true, e4_size hk h hw, e4_isCommand (F := F) (e := (i : Int)) hk h hw ⟨by omega, by omega⟩]
    rw [sm] at ht
    refine ⟨fun q => absurd q (by omega), fun q => ⟨fun q2 => And.intro (by omega) ?_, fun q2 => And.intro (by omega) (And.intro (by omega) ?_)⟩⟩
    · rw [q2, Int.add_zero] at ht
      exact ht
    · have : (if w (6 + 4 * (i : Int)) < 4 then (1 : Int) else 0) = 1 := by split at q2 <;> simp_all
      rw [this] at ht
      exact ht
