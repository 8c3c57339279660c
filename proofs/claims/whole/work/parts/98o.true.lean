theorem law_loop {F L : Nat} {xs : Int → Int} (hF : 2000000 ≤ F) (hx : ∀ j, iR (xs j)) (hL : L ≤ 3072) : TT (f_law_L18 F L xs 600 0 iniX) (fun v => v = 1) := by
  refine lp_w (L := fun n (p : Int × St) => f_law_L18 F L xs n p.1 p.2) (fun m p => 0 ≤ p.1 ∧ (L : Int) ≤ p.1 + 6 * m ∧ GI F p.2) (fun m n p hI ih => ?_) 520 600 (0, iniX) (by omega) ⟨by dsimp only; omega, by dsimp only; omega, gi_ini (by omega)⟩
  obtain ⟨i, σ⟩ := p
  dsimp only at hI ih ⊢
  obtain ⟨i1, i2, h⟩ := hI
  rw [f_law_L18]
  simp only [tt_gt, tt_sg, tt_ite, tt_ck, tt_lk, tt_ix, tt_bo, tt_by, tt_nz, tt_ob, tt_st, tt_cpk, tt_c1, tt_c2, tt_ca, tt_cb, tt_some, kd_231, kd_0, Nat.reduceAdd, true_and, and_true, true_implies, not_true_eq_false, false_implies, not_false_eq_true, true_or, or_true]
  refine And.intro (by omega) ⟨fun _ => trivial, fun z => And.intro (by omega) ?_⟩
  have hi : 0 ≤ i ∧ i + 6 ≤ (L : Int) := by omega
  have k : ∀ σ', GI F σ' → TT (f_law_J2094 F L xs (f_law_L18 F L xs n) i σ') (fun v => v = 1) := fun σ' g => by
    unfold f_law_J2094
    simp only [tt_gt, tt_sg, tt_ite, tt_ck, tt_lk, tt_ix, tt_bo, tt_by, tt_nz, tt_ob, tt_st, tt_cpk, tt_c1, tt_c2, tt_ca, tt_cb, tt_some, kd_231, kd_0, Nat.reduceAdd, true_and, and_true, true_implies, not_true_eq_false, false_implies, not_false_eq_true, true_or, or_true]
    exact And.intro (by omega) (ih (m - 1) (i + 6, σ') (by omega) ⟨by dsimp only; omega, by dsimp only; omega, g⟩)
  refine ⟨fun _ => lw_feed hF hx hL hi h k, fun _ => ?_⟩
  refine ⟨fun _ => lw_end hF hx hL hi h k, fun _ => ?_⟩
  refine ⟨fun _ => lw_store hF hx hL hi h k, fun _ => ?_⟩
  refine ⟨fun _ => lw_fault hF hx hL hi h k, fun _ => ?_⟩
  refine ⟨fun _ => lw_event hF hx hL hi h k, fun _ => ?_⟩
  refine ⟨fun _ => lw_refused hF hx hL hi h k, fun _ => ?_⟩
  refine ⟨fun _ => lw_value hF hx hL hi h k, fun _ => ?_⟩
  refine ⟨fun _ => lw_sum hF hx hL hi h k, fun _ => ?_⟩
  refine ⟨fun _ => lw_changes hF hx hL hi h k, fun _ => ?_⟩
  refine ⟨fun _ => lw_latest hF hx hL hi h k, fun _ => ?_⟩
  refine ⟨fun _ => lw_dirty hF hx hL hi h k, fun _ => ?_⟩
  refine ⟨fun _ => lw_dirties hF hx hL hi h k, fun _ => ?_⟩
  refine ⟨fun _ => lw_region hF hx hL hi h k, fun _ => ?_⟩
  refine ⟨fun _ => lw_regions hF hx hL hi h k, fun _ => ?_⟩
  refine ⟨fun _ => lw_looks hF hx hL hi h k, fun _ => ?_⟩
  refine ⟨fun _ => lw_copies hF hx hL hi h k, fun _ => ?_⟩
  refine ⟨fun _ => lw_open hF hx hL hi h k, fun _ => ?_⟩
  refine ⟨fun _ => lw_copy hF hx hL hi h k, fun _ => ?_⟩
  refine ⟨fun _ => lw_kept hF hx hL hi h k, fun _ => ?_⟩
  refine ⟨fun _ => lw_saved hF hx hL hi h k, fun _ => ?_⟩
  refine ⟨fun _ => lw_order hF hx hL hi h k, fun _ => ?_⟩
  refine ⟨fun _ => lw_waiting hF hx hL hi h k, fun _ => ?_⟩
  refine ⟨fun _ => lw_saves hF hx hL hi h k, fun _ => ?_⟩
  refine ⟨fun _ => lw_work hF hx hL hi h k, fun _ => ?_⟩
  refine ⟨fun _ => lw_wasted hF hx hL hi h k, fun _ => ?_⟩
  refine ⟨fun _ => lw_chain hF hx hL hi h k, fun _ => ?_⟩
  refine ⟨fun _ => lw_linked hF hx hL hi h k, fun _ => ?_⟩
  refine ⟨fun _ => lw_replays hF hx hL hi h k, fun _ => ?_⟩
  refine ⟨fun _ => lw_raised hF hx hL hi h k, fun _ => ?_⟩
  refine ⟨fun _ => lw_restored hF hx hL hi h k, fun _ => ?_⟩
  refine ⟨fun _ => lw_doubled hF hx hL hi h k, fun _ => ?_⟩
  refine ⟨fun _ => lw_source hF hx hL hi h k, fun _ => ?_⟩
  refine ⟨fun _ => lw_age hF hx hL hi h k, fun _ => ?_⟩
  refine ⟨fun _ => lw_worst hF hx hL hi h k, fun _ => ?_⟩
  refine ⟨fun _ => lw_differ hF hx hL hi h k, fun _ => ?_⟩
  refine ⟨fun _ => lw_same hF hx hL hi h k, fun _ => ?_⟩
  refine ⟨fun _ => lw_pace hF hx hL hi h k, fun _ => ?_⟩
  refine ⟨fun _ => lw_best hF hx hL hi h k, fun _ => ?_⟩
  refine ⟨fun _ => lw_blame hF hx hL hi h k, fun _ => ?_⟩
  refine ⟨fun _ => lw_idle hF hx hL hi h k, fun _ => ?_⟩
  refine ⟨fun _ => lw_may hF hx hL hi h k, fun _ => ?_⟩
  refine ⟨fun _ => lw_which hF hx hL hi h k, fun _ => ?_⟩
  refine ⟨fun _ => lw_plain hF hx hL hi h k, fun _ => ?_⟩
  refine ⟨fun _ => lw_by hF hx hL hi h k, fun _ => ?_⟩
  refine ⟨fun _ => lw_law hF hx hL hi h k, fun _ => ?_⟩
  refine ⟨fun _ => lw_worth hF hx hL hi h k, fun _ => ?_⟩
  refine ⟨fun _ => lw_share hF hx hL hi h k, fun _ => ?_⟩
  refine ⟨fun _ => lw_rests hF hx hL hi h k, fun _ => ?_⟩
  refine ⟨fun _ => lw_gets hF hx hL hi h k, fun _ => ?_⟩
  refine ⟨fun _ => lw_chance hF hx hL hi h k, fun _ => ?_⟩
  refine ⟨fun _ => lw_mean hF hx hL hi h k, fun _ => ?_⟩
  refine ⟨fun _ => lw_does hF hx hL hi h k, fun _ => ?_⟩
  refine ⟨fun _ => lw_undo hF hx hL hi h k, fun _ => ?_⟩
  refine ⟨fun _ => lw_anew hF hx hL hi h k, fun _ => ?_⟩
  refine ⟨fun _ => lw_drawn hF hx hL hi h k, fun _ => ?_⟩
  refine ⟨fun _ => lw_luck hF hx hL hi h k, fun _ => ?_⟩
  refine ⟨fun _ => lw_count hF hx hL hi h k, fun _ => ?_⟩
  refine ⟨fun _ => lw_image hF hx hL hi h k, fun _ => ?_⟩
  refine ⟨fun _ => lw_back hF hx hL hi h k, fun _ => ?_⟩
  refine ⟨fun _ => lw_row hF hx hL hi h k, fun _ => ?_⟩
  refine ⟨fun _ => lw_write hF hx hL hi h k, fun _ => ?_⟩
  refine ⟨fun _ => lw_paste hF hx hL hi h k, fun _ => ?_⟩
  exact k σ h
theorem law_true (L : Nat) (xi : Nat → Int32) (hL : L ≤ 3072) : ∃ F n : Nat, f_law_L18 F L (fun i => (xi i.toNat).toInt) n 0 iniX = some 1 := by
  obtain ⟨v, h1, h2⟩ := law_loop (F := 2000000) (L := L) (xs := fun i => (xi i.toNat).toInt) (by omega) (fun j => iR_t _) hL
  exact ⟨2000000, 600, by rw [h1, h2]⟩
