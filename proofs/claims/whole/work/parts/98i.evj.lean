theorem ev_J {F : Nat} {T : Int → Int} {L n k : Int} {w : Int → Int} {τ0 κ0 : St} (hF : 1000 ≤ F) (hw : WF w) (w3 : w 3 = n) (w4 : w 4 = 0) (w5 : w 5 = n + 1) (hn : 0 ≤ n ∧ n < 40) (hk : 0 ≤ k ∧ k ≤ 8) (hs : SR 7 τ0 w) : ∀ (d : Nat) (j : Int) (Nc Nm : Nat) (τ κ : St), 0 ≤ j → j + d = z_nk k → d < Nc → d + 5 ≤ Nm → EvI T L n k w τ0 κ0 j τ κ → TT (f_X2_readEvent_L45 F 1 7 Nc k j τ) (fun r => TT (f_X7_readNext_L64 F 231 Nm k (6 + 4 * n) j κ) (FRG F (TxQ T L τ0 κ0 (n + 1) r)))
  | 0, j, Nc, Nm, τ, κ, j1, j2, hc, hm, h => ev_0 hF hw w3 w4 w5 hn hk hs (by omega) hc (by omega) h
  | d + 1, j, Nc, Nm, τ, κ, j1, j2, hc, hm, h => by
    have nr := nk_rng hk.1 hk.2
    have hd := hw.1
    unfold Hd at hd
    obtain ⟨c, rfl⟩ : ∃ c, Nc = c + 1 := ⟨Nc - 1, by omega⟩
    obtain ⟨N, rfl⟩ : ∃ c, Nm = c + 1 := ⟨Nm - 1, by omega⟩
    obtain ⟨κ4, hκ⟩ : ∃ κ4, z_up κ 237 (6 + 4 * n + 1 + j) (-1) = κ4 := ⟨_, rfl⟩
    have e4 : E7 κ κ4 := by rw [← hκ]; exact E7.up
    have j4 : JT T L τ κ4 := h.jt.mv rfl rfl e4
    have g4 := j4.jp.g1
    have m31 : κ4 231 = κ 231 := e4 231 (by decide)
    have x0 : κ4 237 0 = w 0 := by rw [← hκ, up7 (by omega), h.wx 0 (by omega)]
    have x3 : κ4 237 3 = n := by rw [← hκ, up7 (by omega), h.wx 3 (by omega), w3]
    have x5 : κ4 237 5 = n + 1 := by rw [← hκ, up7 (by omega), h.wx 5 (by omega), w5]
    have f0 : 0 < j → κ4 237 (6 + 4 * n + 1) = τ 3 0 := fun hj => by
      rw [← hκ, up7 (by omega), (h.nm 0 (by omega) hj).1]
      congr 1
      omega
    have lw : lowV k j (κ4 237 (6 + 4 * n + 1)) = lowV k j (τ 3 0) := by
      by_cases y : 0 < j
      · rw [f0 y]
      · unfold lowV
        rw [if_neg (show ¬ (k = 3 ∧ j = 1) by omega), if_neg (show ¬ (k = 3 ∧ j = 1) by omega)]
    have ft := ft_iff (w0 := w 0) (v := τ 1 8) (f := τ 3 0) (by omega) hk.1 hk.2 j1 (by omega)
    have mn := j4.m_num (F := F) (lo := lowV k j (τ 3 0)) (hi := highV k j (w 0)) ft.2
    have ms : ∀ P : St → Prop, (¬ (k = 2 ∧ j = 1 ∧ κ 231 10 = 2 ∧ κ 231 11 = κ4 237 (6 + 4 * n + 1)) → TT (f_X7_number F 231 (lowV k j (τ 3 0)) (highV k j (w 0)) κ4) (fun r => TT (f_X7_readNext_L64 F 231 N k (6 + 4 * n) (j + 1) (z_up r.2 237 (6 + 4 * n + 1 + j) r.1)) P)) → ((k = 2 ∧ j = 1 ∧ κ 231 10 = 2 ∧ κ 231 11 = κ4 237 (6 + 4 * n + 1)) → TT (f_X7_readNext_L64 F 231 N k (6 + 4 * n) (j + 1) (z_up (erS 2 κ4) 237 (6 + 4 * n + 1 + j) 0)) P) → TT (f_X7_readNext_L64 F 231 (N + 1) k (6 + 4 * n) j κ) P := fun P hA hB => by
      have A : ¬ (k = 2 ∧ j = 1 ∧ κ 231 10 = 2 ∧ κ 231 11 = κ4 237 (6 + 4 * n + 1)) → TT (f_X7_readNext_J136 F 231 (f_X7_readNext_L64 F 231 N) k (6 + 4 * n) j κ4) P := fun y => j136_i (by omega) (by omega) (by omega) (by rw [lw, x0]; exact hA y)
      rw [f_X7_readNext_L64]
      simp only [tt_gt, tt_sg, tt_ite, tt_ck, tt_lk, tt_ix, tt_bo, tt_by, tt_nz, tt_ob, tt_st, tt_cpk, tt_c1, tt_c2, tt_ca, tt_cb, tt_some, kd_231, kd_0, Nat.reduceAdd, true_and, and_true, true_implies, not_true_eq_false, false_implies, not_false_eq_true, true_or, or_true, hκ]
      refine ⟨fun y => absurd y (by omega), fun _ => And.intro (by omega) (And.intro (by omega) (And.intro (by omega) ?_))⟩
      rw [e_nk7 hk.1 hk.2, tt_some]
      refine ⟨fun _ => ?_, fun y => absurd (show j < z_nk k by omega) y⟩
      rw [e_good7, if_pos g4, tt_some, m31]
      refine ⟨fun y => absurd y (by decide), fun _ => ⟨fun z => A (fun y => z y.1), fun z => ⟨fun z1 => A (fun y => z1 y.2.1), fun z1 => ⟨fun z2 => A (fun y => z2 y.2.2.1), fun z2 => And.intro (by omega) (And.intro (by omega) ⟨fun z3 => A (fun y => z3 y.2.2.2), fun z3 => ?_⟩)⟩⟩⟩⟩
      rw [live_errs g4, tt_some]
      have eb := erS_b 2 κ4
      refine j136_i (by omega) (by omega) (by rw [eb.1 237 (by decide)]; omega) ⟨_, dead_num (by rw [erS_12]; decide), ?_⟩
      exact hB ⟨Classical.byContradiction z, Classical.byContradiction z1, Classical.byContradiction z2, Classical.byContradiction z3⟩
    have dead : ∀ a : Int, a ≠ 0 → TT (f_X7_readNext_L64 F 231 N k (6 + 4 * n) (j + 1) (z_up (erS a κ4) 237 (6 + 4 * n + 1 + j) 0)) (FRG F (TxQ T L τ0 κ0 (n + 1) (0, flS a τ))) := fun a ha => by
      have eb := erS_b a κ4
      refine (dead_64 hF hk (by omega) (2 - j).toNat (j + 1) N (z_up (erS a κ4) 237 (6 + 4 * n + 1 + j) 0) (by omega) (by omega) (by omega) (by rw [up_ne (by decide), erS_12]; exact ha) (by rw [up7 (by omega), eb.1 237 (by decide)]; omega) (by rw [up7 (by omega), eb.1 237 (by decide)]; omega)).mono (fun κ' hh => tx_dead (j4.fl ha) (E7.up.tr hh.1) ((g6_c h.g6).tr (flS_b a τ).c) ((h.c7.tr e4.c).tr eb.c) ?_)
      rw [hh.2, up7 (by omega), eb.1 237 (by decide), x5]
      omega
    have t70 : τ 7 0 = w 0 := by rw [h.g6 7 (by decide) (by decide)]; exact hs.1 0 (by decide) (by decide)
    have fb : k = 2 → j = 1 → 0 ≤ τ 3 0 ∧ τ 3 0 < 32 := fun y1 y2 => by
      have := (h.nm 0 (by omega) (by omega)).2
      unfold ftP at this
      rw [if_pos rfl, if_neg (by omega)] at this
      omega
    rw [f_X2_readEvent_L45]
    simp only [tt_gt, tt_sg, tt_ite, tt_ck, tt_lk, tt_ix, tt_bo, tt_by, tt_nz, tt_ob, tt_st, tt_cpk, tt_c1, tt_c2, tt_ca, tt_cb, tt_some, kd_231, kd_0, Nat.reduceAdd, true_and, and_true, true_implies, not_true_eq_false, false_implies, not_false_eq_true, true_or, or_true, h.jt.ty, e_fail, t70]
    refine And.intro (by omega) ⟨fun y => absurd y (by omega), fun _ => ⟨fun y => absurd y (by omega), fun _ => ⟨fun z => And.intro (by decide) (e_fits.mono (fun b hb => ⟨fun z2 => And.intro (by omega) ?_, fun z2 => ?_⟩)), fun z => ?_⟩⟩⟩
    · have nu := h.jt.nu z
      have hft : ftP (w 0) k j (τ 1 8) (τ 3 0) := by
        rcases hb with y | y
        · exact y.2
        · exact absurd y.1 z2
      have hin := ft.1.1 hft
      have jx : JT T L (z_up τ 3 j (τ 1 8)) κ4 := j4.mv (up_ne (by decide)) (up_ne (by decide)) (fun x hx => rfl)
      refine (jx.jp.adv hF).mono (fun τ' h1 => And.intro (by omega) ?_)
      obtain ⟨κ', ea, jt', a6, a7⟩ := h1
      have t3 : ∀ i, τ' 3 i = if i = j then τ 1 8 else τ 3 i := fun i => by rw [a6.1 3 (by decide), up_eq]
      have wx' : ∀ x, x ≠ 6 + 4 * n + 1 + j → z_up κ' 237 (6 + 4 * n + 1 + j) (τ 1 8) 237 x = κ 237 x := fun x hx => by rw [up7 hx, a7.1 237 (by decide), ← hκ, up7 hx]
      refine (ev_J hF hw w3 w4 w5 hn hk hs d (j + 1) c N τ' (z_up κ' 237 (6 + 4 * n + 1 + j) (τ 1 8)) (by omega) (by omega) (by omega) (by omega) ⟨jt'.mv rfl rfl E7.up, fun x x1 x3 => by rw [a6.1 x x1, up_ne x3]; exact h.g6 x x1 x3, ((h.c7.tr e4.c).tr a7.b.c).tr E7.up.c, fun x hx => by rw [wx' x (by omega)]; exact h.wx x hx, by rw [wx' _ (by omega)]; exact h.wk, fun i i1 i2 => ?_⟩).mono (fun r hr => ms _ (fun _ => mn.2.2 (by rw [m31]; exact z) hin.1 _ ⟨κ', ea, hr⟩) (fun q => ?_))
      · rw [t3 i, t3 0]
        by_cases u : i = j
        · subst u
          rw [if_pos rfl, up_eq]
          refine ⟨(if_pos rfl).symm, ?_⟩
          by_cases u0 : (0 : Int) = i
          · rw [if_pos u0]
            unfold ftP at hft ⊢
            rw [if_pos u0.symm] at hft ⊢
            exact hft
          · rw [if_neg u0]
            exact hft
        · rw [if_neg u, if_neg (by omega), wx' _ (by omega)]
          exact h.nm i i1 (by omega)
      · have y1 := fb q.1 q.2.1
        have y2 := f0 (by omega)
        have y3 := q.2.2.2
        exact absurd ⟨q.1, q.2.1, by omega⟩ hin.2
    · have nu := h.jt.nu z
      have hft : ¬ ftP (w 0) k j (τ 1 8) (τ 3 0) := by
        rcases hb with y | y
        · exact absurd (by omega) z2
        · exact y.2
      refine ms _ (fun nq => ⟨_, mn.2.1 (by rw [m31]; exact z) (fun y => hft (ft.1.2 ⟨y, fun u => nq ⟨u.1, u.2.1, z, ?_⟩⟩)), dead 2 (by decide)⟩) (fun _ => dead 2 (by decide))
      have y1 := fb u.1 u.2.1
      have y2 := f0 (by omega)
      omega
    · exact ms _ (fun _ => ⟨_, mn.1 (by rw [m31]; exact z), dead 1 (by decide)⟩) (fun q => absurd q.2.2.1 z)
