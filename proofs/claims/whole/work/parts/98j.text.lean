theorem dead_31 {F : Nat} {x : Int} {κ : St} (h : ¬ κ 231 12 = 0) : f_X7_readNext_J31 F 231 x κ = some κ := by
  apply TT.eq
  unfold f_X7_readNext_J31
  simp only [tt_gt, tt_sg, tt_ite, tt_ck, tt_lk, tt_ix, tt_bo, tt_by, tt_nz, tt_ob, tt_st, tt_cpk, tt_c1, tt_c2, tt_ca, tt_cb, tt_some, kd_231, kd_0, Nat.reduceAdd, true_and, and_true, true_implies, not_true_eq_false, false_implies, not_false_eq_true, true_or, or_true, e_good7, if_neg h]
theorem E7.rf {κ : St} : E7 κ κ := fun _ _ => rfl
theorem text_J {F : Nat} {T : Int → Int} {L n : Int} {τ κ : St} (hF : 1000 ≤ F) (h : JT T L τ κ) (hw : WF (κ 237)) (hs : SR 7 τ (κ 237)) (w3 : κ 237 3 = n) (w4 : κ 237 4 = 0) (w5 : κ 237 5 = n + 1) (hn : 0 ≤ n ∧ n ≤ 40) : TT (f_X2_readEvent F 1 7 τ) (fun r => TT (f_X7_readText F 231 κ) (TxQ T L τ κ (n + 1) r)) := by
  obtain ⟨k, ec, em, k1, k2⟩ := h.kind hF
  have g1 := h.jp.g1
  have t73 : τ 7 3 = n := (hs.1 3 (by decide) (by decide)).trans w3
  have dd : ∀ a : Int, a ≠ 0 → FRG F (TxQ T L τ κ (n + 1) (0, flS a τ)) (erS a κ) := fun a ha => tx_dead (h.fl ha) E7.rf (flS_b a τ).c (erS_b a κ).c (by rw [(erS_b a κ).1 237 (by decide), w5]; omega)
  have dk : ∀ a : Int, a ≠ 0 → ¬ erS a κ 231 12 = 0 := fun a ha => by rw [erS_12]; exact ha
  unfold f_X2_readEvent
  simp only [tt_gt, tt_sg, tt_ite, tt_ck, tt_lk, tt_ix, tt_bo, tt_by, tt_nz, tt_ob, tt_st, tt_cpk, tt_c1, tt_c2, tt_ca, tt_cb, tt_some, kd_231, kd_0, Nat.reduceAdd, true_and, and_true, true_implies, not_true_eq_false, false_implies, not_false_eq_true, true_or, or_true, show kdX 1 = 2 from rfl, show kdX 7 = 4 from rfl, ec, e_fail, t73]
  by_cases q : k = -1
  · refine ⟨fun y => absurd q y, fun _ => txt_next (by omega) ?_⟩
    unfold f_X7_readNext
    simp only [tt_gt, tt_sg, tt_ite, tt_ck, tt_lk, tt_ix, tt_bo, tt_by, tt_nz, tt_ob, tt_st, tt_cpk, tt_c1, tt_c2, tt_ca, tt_cb, tt_some, kd_231, kd_0, Nat.reduceAdd, true_and, and_true, true_implies, not_true_eq_false, false_implies, not_false_eq_true, true_or, or_true, em, live_errs g1, dead_errs (dk 1 (by decide)), dead_31 (dk 1 (by decide))]
    exact ⟨fun y => absurd q y, fun _ => And.intro (by decide) ⟨fun _ => dd 1 (by decide), fun _ => dd 1 (by decide)⟩⟩
  refine ⟨fun _ => ?_, fun y => absurd q y⟩
  by_cases q40 : n < 40
  rotate_left
  · refine ⟨fun y => absurd y q40, fun _ => txt_next (by omega) ?_⟩
    unfold f_X7_readNext
    simp only [tt_gt, tt_sg, tt_ite, tt_ck, tt_lk, tt_ix, tt_bo, tt_by, tt_nz, tt_ob, tt_st, tt_cpk, tt_c1, tt_c2, tt_ca, tt_cb, tt_some, kd_231, kd_0, Nat.reduceAdd, true_and, and_true, true_implies, not_true_eq_false, false_implies, not_false_eq_true, true_or, or_true, em, live_errs g1, dead_31 (dk 3 (by decide))]
    exact ⟨fun _ => And.intro (by decide) ⟨fun y => absurd (show κ 237 3 = 40 by omega) y, fun _ => dd 3 (by decide)⟩, fun y => absurd q y⟩
  refine ⟨fun _ => ?_, fun y => absurd q40 y⟩
  have nr := nk_rng (k := k) (by omega) k2
  refine (h.jp.adv hF).mono (fun τ1 h1 => ?_)
  obtain ⟨κ1, ea, j1, a6, a7⟩ := h1
  refine (fill_ok (F := F) (k := 3) (v := 0) (σ := τ1) rfl (by have : lnX 3 = 3 := rfl; omega) (by decide)).mono (fun τ2 h2 => ?_)
  have w' : κ1 237 = κ 237 := a7.1 237 (by decide)
  have EI : EvI T L n k (κ 237) τ κ 0 τ2 (z_up κ1 237 (6 + 4 * n) k) := by
    refine ⟨j1.mv (h2.1 1 (by decide)) (h2.1 2 (by decide)) E7.up, fun x x1 x3 => by rw [h2.1 x x3, a6.1 x x1], a7.b.c.tr E7.up.c, fun x hx => by rw [up7 (by omega), w'], by rw [up_eq]; exact if_pos rfl, fun i i1 i2 => absurd i2 (by omega)⟩
  refine (ev_J hF hw w3 w4 w5 ⟨hn.1, q40⟩ ⟨by omega, k2⟩ hs (z_nk k).toNat 0 F F τ2 (z_up κ1 237 (6 + 4 * n) k) (by omega) (by omega) (by omega) (by omega) EI).mono (fun r hr => txt_next (by omega) ?_)
  unfold f_X7_readNext f_X7_readNext_J31
  simp only [tt_gt, tt_sg, tt_ite, tt_ck, tt_lk, tt_ix, tt_bo, tt_by, tt_nz, tt_ob, tt_st, tt_cpk, tt_c1, tt_c2, tt_ca, tt_cb, tt_some, kd_231, kd_0, Nat.reduceAdd, true_and, and_true, true_implies, not_true_eq_false, false_implies, not_false_eq_true, true_or, or_true, em, e_good7, if_pos g1, ea, w', w3]
  refine ⟨fun _ => And.intro (by decide) ⟨fun _ => ⟨fun _ => And.intro (by decide) (And.intro (by omega) (And.intro (by omega) (And.intro (by omega) hr))), fun y => absurd (by decide) y⟩, fun y => absurd (show ¬ n = 40 by omega) y⟩, fun y => absurd q y⟩
def EnP (F : Nat) (P : Int × St → Prop) (κ : St) : Prop := (κ 231 12 = 0 → TT (f_X7_store_L87 F 231 F 0 κ) P) ∧ (¬ κ 231 12 = 0 → P (-4, κ))
theorem l54_end {F N : Nat} {κ : St} {P : Int × St → Prop} (h : ¬ κ 231 12 = 0 ∨ κ 231 10 = 0) (he : EnP F P κ) : TT (f_X7_store_L54 F 231 (N + 1) κ) P := by
  rw [f_X7_store_L54]
  simp only [tt_gt, tt_sg, tt_ite, tt_ck, tt_lk, tt_ix, tt_bo, tt_by, tt_nz, tt_ob, tt_st, tt_cpk, tt_c1, tt_c2, tt_ca, tt_cb, tt_some, kd_231, kd_0, Nat.reduceAdd, true_and, and_true, true_implies, not_true_eq_false, false_implies, not_false_eq_true, true_or, or_true, e_good7]
  by_cases q : κ 231 12 = 0
  · rw [if_pos q]
    have z : κ 231 10 = 0 := by
      rcases h with y | y
      · exact absurd q y
      · exact y
    exact ⟨fun y => absurd y (by decide), fun _ => ⟨fun _ => ⟨fun _ => he.1 q, fun y => absurd (by decide) y⟩, fun y => absurd z y⟩⟩
  · rw [if_neg q]
    exact ⟨fun _ => ⟨fun y => absurd rfl y, fun _ => he.2 q⟩, fun y => absurd rfl y⟩
theorem l54_go {F N : Nat} {κ : St} {P : Int × St → Prop} (h : κ 231 12 = 0) (h2 : ¬ κ 231 10 = 0) (he : TT (f_X7_readText F 231 κ) (fun κ' => TT (f_X7_store_L54 F 231 N κ') P)) : TT (f_X7_store_L54 F 231 (N + 1) κ) P := by
  rw [f_X7_store_L54]
  simp only [tt_gt, tt_sg, tt_ite, tt_ck, tt_lk, tt_ix, tt_bo, tt_by, tt_nz, tt_ob, tt_st, tt_cpk, tt_c1, tt_c2, tt_ca, tt_cb, tt_some, kd_231, kd_0, Nat.reduceAdd, true_and, and_true, true_implies, not_true_eq_false, false_implies, not_false_eq_true, true_or, or_true, e_good7, if_pos h]
  exact ⟨fun y => absurd y (by decide), fun _ => ⟨fun y => absurd y h2, fun _ => he⟩⟩
def RdQ (r : Int × St) (κ' : St) : Prop := (r.1 = 1 ∧ (κ' 231 12 = 0 ∧ κ' 231 13 = -1 ∧ r.2 1 1 = 0 ∧ r.2 1 2 = -1) ∧ WF (κ' 237) ∧ SR 7 r.2 (κ' 237)) ∨ (r.1 = 0 ∧ DD r.2 κ')
theorem C6.rf {τ : St} : C6 τ τ := ⟨fun _ _ _ _ _ _ => rfl, fun y => y⟩
theorem C7.rf {κ : St} : C7 κ κ := ⟨fun _ _ _ => rfl, fun _ _ => rfl⟩
theorem loop_J {F : Nat} {T : Int → Int} {L : Int} (hF : 1000 ≤ F) : ∀ (d : Nat) (n : Int) (Nc Nm : Nat) (τ κ : St), 0 ≤ n → n + d = 40 → d + 3 ≤ Nc → d + 3 ≤ Nm → JT T L τ κ → WF (κ 237) → SR 7 τ (κ 237) → κ 237 3 = n → κ 237 4 = 0 → κ 237 5 = n + 1 → TT (f_X2_read_L40 F 1 7 Nc 1 n τ) (fun r => ∃ κ', RdQ r κ' ∧ C6 τ r.2 ∧ C7 κ κ' ∧ ∀ P, EnP F P κ' → TT (f_X7_store_L54 F 231 Nm κ) P) := by
  intro d
  induction d with
  | zero =>
    intro n Nc Nm τ κ n1 n2 hc hm h hw hs w3 w4 w5
    obtain ⟨c, rfl⟩ : ∃ c, Nc = c + 1 + 1 := ⟨Nc - 2, by omega⟩
    obtain ⟨N, rfl⟩ : ∃ c, Nm = c + 1 + 1 := ⟨Nm - 2, by omega⟩
    rw [f_X2_read_L40]
    simp only [tt_gt, tt_sg, tt_ite, tt_ck, tt_lk, tt_ix, tt_bo, tt_by, tt_nz, tt_ob, tt_st, tt_cpk, tt_c1, tt_c2, tt_ca, tt_cb, tt_some, kd_231, kd_0, Nat.reduceAdd, true_and, and_true, true_implies, not_true_eq_false, false_implies, not_false_eq_true, true_or, or_true, h.ty]
    refine ⟨fun y => absurd y (by omega), fun _ => ⟨fun y => absurd y (by decide), fun _ => ⟨fun z => ?_, fun z => ?_⟩⟩⟩
    · exact ⟨κ, Or.inl ⟨rfl, ⟨h.jp.g1, h.jp.g2, h.jp.f1, h.jp.f2⟩, hw, hs⟩, C6.rf, C7.rf, fun P hP => l54_end (Or.inr z) hP⟩
    · refine (text_J hF h hw hs w3 w4 w5 (by omega)).mono (fun r hr => And.intro (by omega) ?_)
      obtain ⟨κ', et, tq⟩ := hr
      rcases tq.oc with oc | oc
      · have wf := (tq.ok oc.1).1.1
        unfold Hd at wf
        have := (tq.ok oc.1).2.2.2.1
        omega
      · rw [f_X2_read_L40]
        simp only [tt_gt, tt_sg, tt_ite, tt_ck, tt_lk, tt_ix, tt_bo, tt_by, tt_nz, tt_ob, tt_st, tt_cpk, tt_c1, tt_c2, tt_ca, tt_cb, tt_some, kd_231, kd_0, Nat.reduceAdd, true_and, and_true, true_implies, not_true_eq_false, false_implies, not_false_eq_true, true_or, or_true, oc.1]
        refine ⟨fun y => absurd y (by omega), fun _ => ?_⟩
        first
          | exact ⟨κ', Or.inr ⟨rfl, oc.2⟩, tq.c6, tq.c7, fun P hP => l54_go h.jp.g1 z ⟨κ', et, l54_end (Or.inl oc.2.kn) hP⟩⟩
          | exact ⟨fun _ => ⟨κ', Or.inr ⟨rfl, oc.2⟩, tq.c6, tq.c7, fun P hP => l54_go h.jp.g1 z ⟨κ', et, l54_end (Or.inl oc.2.kn) hP⟩⟩, fun y => absurd rfl y⟩
  | succ d ih =>
    intro n Nc Nm τ κ n1 n2 hc hm h hw hs w3 w4 w5
    obtain ⟨c, rfl⟩ : ∃ c, Nc = c + 1 + 1 := ⟨Nc - 2, by omega⟩
    obtain ⟨N, rfl⟩ : ∃ c, Nm = c + 1 + 1 := ⟨Nm - 2, by omega⟩
    rw [f_X2_read_L40]
    simp only [tt_gt, tt_sg, tt_ite, tt_ck, tt_lk, tt_ix, tt_bo, tt_by, tt_nz, tt_ob, tt_st, tt_cpk, tt_c1, tt_c2, tt_ca, tt_cb, tt_some, kd_231, kd_0, Nat.reduceAdd, true_and, and_true, true_implies, not_true_eq_false, false_implies, not_false_eq_true, true_or, or_true, h.ty]
    refine ⟨fun y => absurd y (by omega), fun _ => ⟨fun y => absurd y (by decide), fun _ => ⟨fun z => ?_, fun z => ?_⟩⟩⟩
    · exact ⟨κ, Or.inl ⟨rfl, ⟨h.jp.g1, h.jp.g2, h.jp.f1, h.jp.f2⟩, hw, hs⟩, C6.rf, C7.rf, fun P hP => l54_end (Or.inr z) hP⟩
    · refine (text_J hF h hw hs w3 w4 w5 (by omega)).mono (fun r hr => And.intro (by omega) ?_)
      obtain ⟨κ', et, tq⟩ := hr
      rcases tq.oc with oc | oc
      · have ok := tq.ok oc.1
        rw [oc.1]
        refine (ih (n + 1) (c + 1) (N + 1) r.2 κ' (by omega) (by omega) (by omega) (by omega) oc.2 ok.1 ok.2.1 ok.2.2.2.1 ok.2.2.1 ok.2.2.2.2).mono (fun r' hr' => ?_)
        obtain ⟨κ2, rq, c6, c7, hP⟩ := hr'
        exact ⟨κ2, rq, tq.c6.tr c6, tq.c7.tr c7, fun P hp => l54_go h.jp.g1 z ⟨κ', et, hP P hp⟩⟩
      · rw [f_X2_read_L40]
        simp only [tt_gt, tt_sg, tt_ite, tt_ck, tt_lk, tt_ix, tt_bo, tt_by, tt_nz, tt_ob, tt_st, tt_cpk, tt_c1, tt_c2, tt_ca, tt_cb, tt_some, kd_231, kd_0, Nat.reduceAdd, true_and, and_true, true_implies, not_true_eq_false, false_implies, not_false_eq_true, true_or, or_true, oc.1]
        refine ⟨fun y => absurd y (by omega), fun _ => ?_⟩
        first
          | exact ⟨κ', Or.inr ⟨rfl, oc.2⟩, tq.c6, tq.c7, fun P hP => l54_go h.jp.g1 z ⟨κ', et, l54_end (Or.inl oc.2.kn) hP⟩⟩
          | exact ⟨fun _ => ⟨κ', Or.inr ⟨rfl, oc.2⟩, tq.c6, tq.c7, fun P hP => l54_go h.jp.g1 z ⟨κ', et, l54_end (Or.inl oc.2.kn) hP⟩⟩, fun y => absurd rfl y⟩
