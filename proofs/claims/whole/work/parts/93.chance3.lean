theorem lc_ok {F : Nat} {w : Int → Int} {k : Nat} {c : Int} {τ σ : St} (hF : 100 ≤ F) (hw : WF w) (hS : SR 4 σ w) (h2 : τ 232 = w) (hk : k ≤ 6) (hkN : (k : Int) ≤ evN w) (hc : 0 ≤ c ∧ c < w 0) : TT (f_X7_layChance F 231 k c τ) (fun τ' => LC F w k c τ τ' (2 ^ k)) := by
  obtain ⟨e2, h64⟩ := sh2 k hk
  unfold f_X7_layChance
  simp only [tt_gt, tt_sg, tt_ite, tt_ck, tt_lk, tt_ix, tt_bo, tt_by, tt_nz, tt_ob, tt_st, tt_cpk, tt_c1, tt_c2, tt_ca, tt_cb, tt_some, kd_231, kd_0, Nat.reduceAdd, true_and, and_true, true_implies, not_true_eq_false, false_implies, not_false_eq_true, true_or, or_true]
  refine And.intro (by decide) (And.intro (by decide) (And.intro (by decide) ?_))
  have L0 : LC F w k c τ (z_up (z_up (z_up τ 231 37 0) 231 38 0) 231 39 0) 0 := ⟨qm_up (qm_up (qm_up QM.rf (Or.inl rfl)) (Or.inr (Or.inl rfl))) (Or.inr (Or.inr rfl)), by simp only [up_eq]; rfl, by simp only [up_eq]; rfl, by simp only [up_eq]; rfl⟩
  refine lp_w (L := fun n (p : Int × St) => f_X7_layChance_L17 F 231 k c n p.1 p.2) (fun m p => ∃ s : Nat, p.1 = s ∧ s + m = 2 ^ k ∧ LC F w k c τ p.2 s) (fun m n p hI ih => ?_) (2 ^ k) F (0, z_up (z_up (z_up τ 231 37 0) 231 38 0) 231 39 0) (by omega) ⟨0, rfl, by omega, L0⟩
  obtain ⟨i, τ1⟩ := p
  dsimp only at hI ih ⊢
  obtain ⟨s, rfl, i2, i3⟩ := hI
  rw [f_X7_layChance_L17]
  simp only [tt_gt, tt_sg, tt_ite, tt_ck, tt_lk, tt_ix, tt_bo, tt_by, tt_nz, tt_ob, tt_st, tt_cpk, tt_c1, tt_c2, tt_ca, tt_cb, tt_some, kd_231, kd_0, Nat.reduceAdd, true_and, and_true, true_implies, not_true_eq_false, false_implies, not_false_eq_true, true_or, or_true, e2]
  refine ⟨fun z => by rw [show 2 ^ k = s by omega]; exact i3, fun z => (ng_ok hF).mono (fun τ2 h3 => ?_)⟩
  have L2 : LC F w k c τ τ2 s := by
    have q1 : QM τ1 τ2 := ⟨fun x hx => h3.1 x (by omega), fun x hx => h3.1 x (by omega), fun j hj => by rw [h3.1 231 (by decide)], fun hb => by rw [h3.1 251 (by decide)]; exact hb⟩
    exact ⟨i3.qm.tr q1, by rw [h3.1 231 (by decide)]; exact i3.a7, by rw [h3.1 231 (by decide)]; exact i3.a8, by rw [h3.1 231 (by decide)]; exact i3.a9⟩
  exact lc_in hF hw hS h2 hk hkN (by omega) hc L2 h3.2 (fun τ' h4 => ih (m - 1) ((s : Int) + 1, τ') (by omega) ⟨s + 1, by dsimp only; omega, by omega, h4⟩)
theorem ch_sum {F : Nat} {w : Int → Int} {k : Nat} (A : (Int → Int) → Int) : sm (fun t => wtR (w 2) (10 - w 2) t k * A (gC (evN w) k (rv k t))) (2 ^ k) = sm (fun s => wtR (w 2) (10 - w 2) s k * A (gC (evN w) k s)) (2 ^ k) := by
  rw [← rv_sum k (fun s => wtR (w 2) (10 - w 2) s k * A (gC (evN w) k s))]
  exact sm_congr _ (fun t _ => by rw [rv_wt])
theorem e6_hasChances {F : Nat} {σ : St} {w : Int → Int} {k : Int} (h : SR 4 σ w) (hw : WF w) : f_X6_hasChances F 0 k σ = some (if 0 < w 5 ∧ (0 ≤ k ∧ k ≤ 6) ∧ k ≤ evN w then 1 else 0) := by
  have h0 := h.1 0 (by decide) (by decide)
  have hs := hw.st
  apply TT.eq
  unfold f_X6_hasChances
  simp only [tt_gt, tt_sg, tt_ite, tt_ck, tt_lk, tt_ix, tt_bo, tt_by, tt_nz, tt_ob, tt_st, tt_cpk, tt_c1, tt_c2, tt_ca, tt_cb, tt_some, kd_231, kd_0, Nat.reduceAdd, true_and, and_true, true_implies, not_true_eq_false, false_implies, not_false_eq_true, true_or, or_true, Nat.zero_add, e4_exists (F := F) (s := 4) (σ := σ) rfl, e4_size (F := F) (s := 4) rfl h hw, h0]
  by_cases q : 0 < w 0
  · rw [if_pos q]
    refine ⟨fun z => absurd z (by decide), fun _ => ⟨fun z => ?_, fun z => ⟨fun z2 => ?_, fun z2 => ⟨fun z3 => ?_, fun z3 => ?_⟩⟩⟩⟩
    · rw [if_neg (by omega)]
    · rw [if_neg (by omega)]
    · rw [if_neg (by omega)]
    · rw [if_pos (by omega)]
  · rw [if_neg q, if_neg (by omega)]
    exact ⟨fun _ => rfl, fun z => absurd rfl z⟩
theorem ac_pos {F : Nat} {w : Int → Int} {k : Nat} {c what : Int} {τ σ : St} (hF : 100 ≤ F) (hw : WF w) (hS : SR 4 σ w) (h2 : τ 232 = w) (hk : k ≤ 6) (hkN : (k : Int) ≤ evN w) (hc : 0 ≤ c ∧ c < w 0) (hwh : 0 ≤ what ∧ what ≤ 1) : TT (f_X7_asksChance F 231 c k what τ) (fun r => r.1 = 1 ∧ LC F w k c τ r.2 (2 ^ k)) := by
  have ec := e_isCell (F := F) (σ := τ) (by rw [h2]; exact hw.1) c
  have ee := e_events (F := F) (σ := τ) (by rw [h2]; exact hw.1)
  rw [h2] at ec ee
  unfold f_X7_asksChance
  simp only [tt_gt, tt_sg, tt_ite, tt_ck, tt_lk, tt_ix, tt_bo, tt_by, tt_nz, tt_ob, tt_st, tt_cpk, tt_c1, tt_c2, tt_ca, tt_cb, tt_some, kd_231, kd_0, Nat.reduceAdd, true_and, and_true, true_implies, not_true_eq_false, false_implies, not_false_eq_true, true_or, or_true, ec, ee, e_in, if_pos hc, if_pos hwh, if_pos (show 0 ≤ (k : Int) ∧ (k : Int) ≤ 6 by omega), one0]
  refine ⟨fun z => absurd z (by omega), fun _ => (lc_ok hF hw hS h2 hk hkN hc).mono (fun τ' h => ?_)⟩
  first
    | exact h
    | exact ⟨rfl, h⟩
theorem ac_neg {F : Nat} {w : Int → Int} {k : Int} {c what : Int} {τ : St} (hw : WF w) (h2 : τ 232 = w) (hn : ¬ ((0 ≤ c ∧ c < w 0) ∧ (0 ≤ k ∧ k ≤ 6) ∧ k ≤ evN w ∧ (0 ≤ what ∧ what ≤ 1))) : f_X7_asksChance F 231 c k what τ = some (0, τ) := by
  have ec := e_isCell (F := F) (σ := τ) (by rw [h2]; exact hw.1) c
  have ee := e_events (F := F) (σ := τ) (by rw [h2]; exact hw.1)
  rw [h2] at ec ee
  apply TT.eq
  unfold f_X7_asksChance
  simp only [tt_gt, tt_sg, tt_ite, tt_ck, tt_lk, tt_ix, tt_bo, tt_by, tt_nz, tt_ob, tt_st, tt_cpk, tt_c1, tt_c2, tt_ca, tt_cb, tt_some, kd_231, kd_0, Nat.reduceAdd, true_and, and_true, true_implies, not_true_eq_false, false_implies, not_false_eq_true, true_or, or_true, ec, ee, e_in]
  by_cases q1 : 0 ≤ c ∧ c < w 0
  · rw [if_pos q1]
    refine ⟨fun z => absurd z (by decide), fun _ => ?_⟩
    by_cases q2 : 0 ≤ k ∧ k ≤ 6
    · rw [if_pos q2]
      refine ⟨fun z => absurd z (by decide), fun _ => ⟨fun _ => trivial, fun z => ?_⟩⟩
      rw [if_neg (fun y => hn ⟨q1, q2, by omega, y⟩)]
      exact ⟨fun y => absurd rfl y, fun _ => trivial⟩
    · rw [if_neg q2]
      exact ⟨fun _ => trivial, fun z => absurd rfl z⟩
  · rw [if_neg q1]
    exact ⟨fun _ => trivial, fun z => absurd rfl z⟩
theorem sumA_rng {w : Int → Int} {k : Nat} (hw : WF w) (hk : k ≤ 6) (A : (Int → Int) → Int) (hA : ∀ g, 0 ≤ A g ∧ A g ≤ 32) : 0 ≤ sm (fun s => wtR (w 2) (10 - w 2) s k * A (gC (evN w) k s)) (2 ^ k) ∧ sm (fun s => wtR (w 2) (10 - w 2) s k * A (gC (evN w) k s)) (2 ^ k) ≤ 4000000000 := by
  obtain ⟨hp, hq⟩ := hyp hw
  obtain ⟨-, h64⟩ := sh2 k hk
  have p10 := pw10 k hk
  have := sm_rng (f := fun s => wtR (w 2) (10 - w 2) s k * A (gC (evN w) k s)) (M := 1000000 * 32) (2 ^ k) (fun s _ => by
    have := wtR_rng hp hq s k
    exact mul_rng ⟨this.1, by omega⟩ (hA _))
  omega
theorem q_chance {F : Nat} {σ : St} {c k what : Int} (hF : 2000000 ≤ F) (h : GI F σ) : PP F (f_X6_chance F 0 c k what σ) (f_X7_chance F 231 c k what) := by
  have h60 := h.wf.ev60
  have hw0 : 0 ≤ σ 232 0 ∧ σ 232 0 ≤ 32 := ⟨h.wf.1.1, h.wf.1.2.1⟩
  have hst := h.wf.st
  have hc := e6_hasCell (F := F) (c := c) h.sc
  have hh := e6_hasChances (F := F) (k := k) h.sc h.wf
  have neg : ¬ ((0 ≤ c ∧ c < σ 232 0) ∧ (0 ≤ k ∧ k ≤ 6) ∧ k ≤ evN (σ 232) ∧ (0 ≤ what ∧ what ≤ 1)) → TT (f_X7_chance F 231 c k what σ) (fun r' => -2 = r'.1 ∧ GI F r'.2) := fun q => by
    unfold f_X7_chance
    simp only [tt_gt, tt_sg, tt_ite, tt_ck, tt_lk, tt_ix, tt_bo, tt_by, tt_nz, tt_ob, tt_st, tt_cpk, tt_c1, tt_c2, tt_ca, tt_cb, tt_some, kd_231, kd_0, Nat.reduceAdd, true_and, and_true, true_implies, not_true_eq_false, false_implies, not_false_eq_true, true_or, or_true, ac_neg (F := F) h.wf rfl q, eq_self]
    exact h
  unfold PP f_X6_chance
  simp only [tt_gt, tt_sg, tt_ite, tt_ck, tt_lk, tt_ix, tt_bo, tt_by, tt_nz, tt_ob, tt_st, tt_cpk, tt_c1, tt_c2, tt_ca, tt_cb, tt_some, kd_231, kd_0, Nat.reduceAdd, true_and, and_true, true_implies, not_true_eq_false, false_implies, not_false_eq_true, true_or, or_true, hc, hh]
  refine ⟨fun z => neg (fun y => ?_), fun z1 => ⟨fun z => neg (fun y => ?_), fun z2 => ⟨fun z => neg (fun y => by omega), fun z3 => ⟨fun z4 => ?_, fun z => neg (fun y => by omega)⟩⟩⟩⟩
  · rw [if_pos y.1] at z; exact absurd z (by decide)
  · rw [if_pos ⟨by omega, y.2.1, y.2.2.1⟩] at z; exact absurd z (by decide)
  · have q1 : 0 ≤ c ∧ c < σ 232 0 := Classical.byContradiction fun y => z1 (if_neg y)
    have q2 : 0 < σ 232 5 ∧ (0 ≤ k ∧ k ≤ 6) ∧ k ≤ evN (σ 232) := Classical.byContradiction fun y => z2 (if_neg y)
    obtain ⟨K, rfl⟩ : ∃ K : Nat, k = K := ⟨k.toNat, by omega⟩
    have hA2 : ∀ g, 0 ≤ dT F (σ 232) g c ∧ dT F (σ 232) g c ≤ 32 := fun g => by have := dT_01 F (σ 232) g c; omega
    have hsr := sumA_rng (k := K) h.wf (by omega) (fun g => dT F (σ 232) g c) hA2
    have p10 := pw10 K (by omega)
    refine (wd_ok (asked := z_shl 1 c) (A := fun g => dT F (σ 232) g c) (by omega) h.wf h.sc (by omega) q2.2.2 (fun g σ1 hC => ask_cell hw0 q1 hC) hA2).mono (fun r hr => ?_)
    rw [pow_ok (b := 10) (by omega) (by decide) (by omega), tt_some, hr.1, low_ok (by omega) ⟨by omega, hsr.2⟩ ⟨by omega, by omega⟩, tt_some]
    unfold f_X7_chance
    simp only [tt_ob, kd_231, true_and, tt_c2]
    refine (ac_pos (what := what) (by omega) h.wf h.sc (hr.2 232 (by omega)) (by omega) q2.2.2 q1 (by omega)).mono (fun r' hr' => ?_)
    simp only [tt_gt, tt_sg, tt_ite, tt_ck, tt_lk, tt_ix, tt_bo, tt_by, tt_nz, tt_ob, tt_st, tt_cpk, tt_c1, tt_c2, tt_ca, tt_cb, tt_some, kd_231, kd_0, Nat.reduceAdd, true_and, and_true, true_implies, not_true_eq_false, false_implies, not_false_eq_true, true_or, or_true]
    rw [hr'.1, hr'.2.a8, hr'.2.a7, ch_sum (F := F) (fun g => dT F (σ 232) g c), wt_all (by omega)]
    refine ⟨fun z => absurd z (by decide), fun _ => ?_⟩
    rw [frac_ok hF ⟨by omega, hsr.2⟩ ⟨by omega, by omega⟩, tt_some]
    exact ⟨rfl, h.q2 (by omega) hr.2 hr'.2.qm⟩
theorem q_mean {F : Nat} {σ : St} {k what : Int} (hF : 2000000 ≤ F) (h : GI F σ) : PP F (f_X6_mean F 0 k what σ) (f_X7_mean F 231 k what) := by
  have h60 := h.wf.ev60
  have hw0 : 0 ≤ σ 232 0 ∧ σ 232 0 ≤ 32 := ⟨h.wf.1.1, h.wf.1.2.1⟩
  have hst := h.wf.st
  have hh := e6_hasChances (F := F) (k := k) h.sc h.wf
  have neg : ¬ ((0 ≤ (0 : Int) ∧ 0 < σ 232 0) ∧ (0 ≤ k ∧ k ≤ 6) ∧ k ≤ evN (σ 232) ∧ (0 ≤ what ∧ what ≤ 1)) → TT (f_X7_mean F 231 k what σ) (fun r' => -2 = r'.1 ∧ GI F r'.2) := fun q => by
    unfold f_X7_mean
    simp only [tt_gt, tt_sg, tt_ite, tt_ck, tt_lk, tt_ix, tt_bo, tt_by, tt_nz, tt_ob, tt_st, tt_cpk, tt_c1, tt_c2, tt_ca, tt_cb, tt_some, kd_231, kd_0, Nat.reduceAdd, true_and, and_true, true_implies, not_true_eq_false, false_implies, not_false_eq_true, true_or, or_true, ac_neg (F := F) (c := 0) h.wf rfl q, eq_self]
    exact h
  unfold PP f_X6_mean
  simp only [tt_gt, tt_sg, tt_ite, tt_ck, tt_lk, tt_ix, tt_bo, tt_by, tt_nz, tt_ob, tt_st, tt_cpk, tt_c1, tt_c2, tt_ca, tt_cb, tt_some, kd_231, kd_0, Nat.reduceAdd, true_and, and_true, true_implies, not_true_eq_false, false_implies, not_false_eq_true, true_or, or_true, hh]
  refine ⟨fun z => neg (fun y => ?_), fun z2 => ⟨fun z => neg (fun y => by omega), fun z3 => ⟨fun z4 => ?_, fun z => neg (fun y => by omega)⟩⟩⟩
  · rw [if_pos ⟨by omega, y.2.1, y.2.2.1⟩] at z; exact absurd z (by decide)
  · have q2 : 0 < σ 232 5 ∧ (0 ≤ k ∧ k ≤ 6) ∧ k ≤ evN (σ 232) := Classical.byContradiction fun y => z2 (if_neg y)
    obtain ⟨K, rfl⟩ : ∃ K : Nat, k = K := ⟨k.toNat, by omega⟩
    have hA2 : ∀ g, 0 ≤ cT F (σ 232) g ∧ cT F (σ 232) g ≤ 32 := fun g => cT_rng F g hw0
    have hsr := sumA_rng (k := K) h.wf (by omega) (cT F (σ 232)) hA2
    have p10 := pw10 K (by omega)
    refine (wd_ok (asked := -1) (A := cT F (σ 232)) (by omega) h.wf h.sc (by omega) q2.2.2 (fun g σ1 hC => ask_all hw0 hC) hA2).mono (fun r hr => ?_)
    rw [pow_ok (b := 10) (by omega) (by decide) (by omega), tt_some, hr.1, low_ok (by omega) ⟨by omega, hsr.2⟩ ⟨by omega, by omega⟩, tt_some]
    unfold f_X7_mean
    simp only [tt_ob, kd_231, true_and, tt_c2, tt_gt]
    refine (ac_pos (c := 0) (what := what) (by omega) h.wf h.sc (hr.2 232 (by omega)) (by omega) q2.2.2 ⟨by omega, by omega⟩ (by omega)).mono (fun r' hr' => ?_)
    simp only [tt_gt, tt_sg, tt_ite, tt_ck, tt_lk, tt_ix, tt_bo, tt_by, tt_nz, tt_ob, tt_st, tt_cpk, tt_c1, tt_c2, tt_ca, tt_cb, tt_some, kd_231, kd_0, Nat.reduceAdd, true_and, and_true, true_implies, not_true_eq_false, false_implies, not_false_eq_true, true_or, or_true]
    rw [hr'.1, hr'.2.a9, hr'.2.a7, ch_sum (F := F) (cT F (σ 232)), wt_all (by omega)]
    refine ⟨fun z => absurd z (by decide), fun _ => ?_⟩
    rw [frac_ok hF ⟨by omega, hsr.2⟩ ⟨by omega, by omega⟩, tt_some]
    exact ⟨rfl, h.q2 (by omega) hr.2 hr'.2.qm⟩
