def bsR (rf : Nat → Int) : Nat → Nat
  | 0 => 0
  | t + 1 => if ((t + 1 : Nat) : Int) - rf (t + 1) ≤ (bsR rf t : Int) - rf (bsR rf t) then bsR rf t else t + 1
theorem bsR_le (rf : Nat → Int) : ∀ t : Nat, bsR rf t ≤ t
  | 0 => Nat.le_refl 0
  | t + 1 => by
    have := bsR_le rf t
    rw [bsR]
    split <;> omega
theorem worst_c {F : Nat} {w : Int → Int} {σ α : St} (hF : 100 ≤ F) (hw : WF w) (hS : SR 4 σ w) (hα : Al w α) : TT (z_c1 (f_X6_playAnew F 0 σ) fun σ1 => f_X6_worst_L23 F 0 F 0 0 1 σ1) (fun r => r.1 = bsR (fun t => mkR (ItG F (w 1) t α)) (evN w).toNat ∧ Fb 12 σ r.2 ∧ RI F w r.2) := by
  have h60 := hw.ev60
  have hrf : ∀ t : Nat, (t : Int) ≤ evN w → 0 ≤ mkR (ItG F (w 1) t α) ∧ mkR (ItG F (w 1) t α) ≤ t := fun t ht => mk_le (hα.1.mx hF hw hα.2 ht).m1
  have hn : ∀ t : Nat, (t : Int) ≤ evN w → 0 ≤ ItG F (w 1) t α 231 28 ∧ ItG F (w 1) t α 231 28 ≤ 30 := fun t ht => (hα.1.mx hF hw hα.2 ht).n.1
  simp only [tt_c1]
  refine (anew_ok hF hw hS).mono (fun σ1 h1 => ?_)
  have r0 := hrf 0 (by omega)
  refine lp_w (L := fun n (p : Int × Int × Int × St) => f_X6_worst_L23 F 0 n p.1 p.2.1 p.2.2.1 p.2.2.2) (fun m p => ∃ j : Nat, p.2.2.1 = j + 1 ∧ j + m = (evN w).toNat ∧ p.1 = bsR (fun t => mkR (ItG F (w 1) t α)) j ∧ p.2.1 = (bsR (fun t => mkR (ItG F (w 1) t α)) j : Int) - mkR (ItG F (w 1) (bsR (fun t => mkR (ItG F (w 1) t α)) j) α) ∧ Fb 12 σ p.2.2.2 ∧ RIt F w j p.2.2.2) (fun m n p hI ih => ?_) (evN w).toNat F (0, 0, 1, σ1) (by omega) ⟨0, rfl, by omega, rfl, by dsimp only; rw [bsR]; omega, h1.2, h1.1⟩
  obtain ⟨x, y, z, τ⟩ := p
  dsimp only at hI ih ⊢
  obtain ⟨j, rfl, i2, i3, i4, i5, i6⟩ := hI
  have hS2 : SR 4 τ w := hS.fb (Or.inl rfl) i5
  have hb := bsR_le (fun t => mkR (ItG F (w 1) t α)) j
  have r1 := hrf (bsR (fun t => mkR (ItG F (w 1) t α)) j) (by omega)
  rw [f_X6_worst_L23]
  simp only [tt_gt, tt_sg, tt_ite, tt_ck, tt_lk, tt_ix, tt_bo, tt_by, tt_nz, tt_ob, tt_st, tt_cpk, tt_c1, tt_c2, tt_ca, tt_cb, tt_some, kd_231, kd_0, Nat.reduceAdd, true_and, and_true, true_implies, not_true_eq_false, false_implies, not_false_eq_true, true_or, or_true, Nat.zero_add, e4_size (F := F) (s := 4) rfl hS2 hw]
  refine ⟨fun u => ⟨by rw [i3, show j = (evN w).toNat by omega], i5, ⟨j, i6⟩⟩, fun u => ?_⟩
  rw [show (j : Int) + 1 = ((j + 1 : Nat) : Int) by omega]
  have r2 := hrf (j + 1) (by omega)
  refine (playTo_ok (F := F) (T := ((j + 1 : Nat) : Int)) hF hw hS2 ⟨j, i6⟩ ⟨by omega, by omega⟩).mono (fun σ2 h2 => ?_)
  obtain ⟨h3, h4⟩ := h2
  rw [Int.toNat_natCast] at h3
  have hC := h3.2.2.1 α (hα.1.dn (by omega))
  rw [e3_mark hF (Or.inl rfl) hC (hn (j + 1) (by omega)), tt_some]
  refine And.intro (by omega) ⟨fun v => And.intro (by omega) (ih (m - 1) (x, y, ((j + 1 : Nat) : Int) + 1, σ2) (by omega) ⟨j + 1, rfl, by omega, ?_, ?_, i5.tr h4, h3⟩), fun v => And.intro (by omega) (ih (m - 1) (((j + 1 : Nat) : Int), ((j + 1 : Nat) : Int) - mkR (ItG F (w 1) (j + 1) α), ((j + 1 : Nat) : Int) + 1, σ2) (by omega) ⟨j + 1, rfl, by omega, ?_, ?_, i5.tr h4, h3⟩)⟩
  · dsimp only
    rw [bsR, if_pos (by rw [← i4]; exact v), i3]
  · dsimp only
    rw [bsR, if_pos (by rw [← i4]; exact v), i4]
  · dsimp only
    rw [bsR, if_neg (by rw [← i4]; exact v)]
  · dsimp only
    rw [bsR, if_neg (by rw [← i4]; exact v)]
theorem q_worst {F : Nat} {σ : St} (hF : 100 ≤ F) (h : GI F σ) : PP F (f_X6_worst F 0 σ) (f_X7_worst F 231) := by
  have h60 := h.wf.ev60
  have h0 := h.sc.1 0 (by decide) (by decide)
  have hst := h.wf.st
  unfold PP f_X6_worst
  simp only [tt_ob, kd_0, true_and, tt_c1, Nat.zero_add, e4_exists (F := F) (s := 4) (σ := σ) rfl, h0, tt_some, tt_ite]
  by_cases q : 0 < σ 232 0
  · rw [if_pos q]
    simp only [tt_gt, one0, not_false_eq_true, true_implies, not_true_eq_false, false_implies, and_true, tt_c1]
    have cls := tt_all (f := z_c1 (f_X6_playAnew F 0 σ) fun σ1 => f_X6_worst_L23 F 0 F 0 0 1 σ1) (A := Al (σ 232)) (P := fun α r => r.1 = bsR (fun t => mkR (ItG F (σ 232 1) t α)) (evN (σ 232)).toNat) (Q := fun r => Fb 12 σ r.2 ∧ RI F (σ 232) r.2) (al_ex h.wf) (fun α hα => worst_c hF h.wf h.sc hα)
    simp only [tt_c1] at cls
    refine cls.mono (fun σ2 h2 => h2.mono (fun r hr => ?_))
    obtain ⟨T, hT⟩ := hr.2.2
    have P2 : Pl F σ T r.2 := ⟨hT, fun x hx => hr.2.1 x (by omega)⟩
    obtain ⟨⟨v, ν⟩, ha, hv, μ, X⟩ := P2.asks hF h
    dsimp only at hv X
    rw [if_pos (by omega)] at hv
    subst hv
    obtain ⟨α, hα, e1, e2⟩ := X.al2 hF
    have hans := hr.1 α hα
    have hX : ∀ t : Nat, (t : Int) ≤ evN (σ 232) → MX (σ 232) t (ItG F (σ 232 1) t α) ν := fun t ht => by
      rw [e2]; exact hα.1.mx hF h.wf hα.2 ht
    have hrf : ∀ t : Nat, (t : Int) ≤ evN (σ 232) → 0 ≤ mkR (ItG F (σ 232 1) t α) ∧ mkR (ItG F (σ 232 1) t α) ≤ t := fun t ht => mk_le (hX t ht).m1
    unfold f_X7_worst
    simp only [tt_gt, tt_sg, tt_ite, tt_ck, tt_lk, tt_ix, tt_bo, tt_by, tt_nz, tt_ob, tt_st, tt_cpk, tt_c1, tt_c2, tt_ca, tt_cb, tt_some, kd_231, kd_0, Nat.reduceAdd, true_and, and_true, true_implies, not_true_eq_false, false_implies, not_false_eq_true, true_or, or_true, ha, one0]
    have ee := e_events (F := F) (σ := ν) (by rw [X.w2]; exact X.wf.1)
    rw [X.w2] at ee
    refine lp_w (L := fun n (p : Int × Int) => f_X7_worst_L14 F 231 n p.1 p.2 ν) (fun m p => ∃ j : Nat, p.2 = j + 1 ∧ j + m = (evN (σ 232)).toNat ∧ p.1 = bsR (fun t => mkR (ItG F (σ 232 1) t α)) j) (fun m n p hI ih => ?_) (evN (σ 232)).toNat F (0, 1) (by omega) ⟨0, rfl, by omega, rfl⟩
    obtain ⟨x, z⟩ := p
    dsimp only at hI ih ⊢
    obtain ⟨j, rfl, i2, i3⟩ := hI
    have hb := bsR_le (fun t => mkR (ItG F (σ 232 1) t α)) j
    have r1 := hrf (bsR (fun t => mkR (ItG F (σ 232 1) t α)) j) (by omega)
    rw [f_X7_worst_L14]
    simp only [tt_gt, tt_sg, tt_ite, tt_ck, tt_lk, tt_ix, tt_bo, tt_by, tt_nz, tt_ob, tt_st, tt_cpk, tt_c1, tt_c2, tt_ca, tt_cb, tt_some, kd_231, kd_0, Nat.reduceAdd, true_and, and_true, true_implies, not_true_eq_false, false_implies, not_false_eq_true, true_or, or_true, ee]
    refine ⟨fun u => ⟨by rw [hans, i3, show j = (evN (σ 232)).toNat by omega], X.gi⟩, fun u => ?_⟩
    have r2 := hrf (j + 1) (by omega)
    rw [show (j : Int) + 1 = ((j + 1 : Nat) : Int) by omega, i3]
    refine (rf_ok hF (hX (j + 1) (by omega))).mono (fun v1 hv1 => And.intro (by omega) ((rf_ok hF (hX (bsR (fun t => mkR (ItG F (σ 232 1) t α)) j) (by omega))).mono (fun v2 hv2 => And.intro (by omega) ?_)))
    rw [hv1, hv2]
    refine ⟨fun v => And.intro (by omega) (ih (m - 1) (_, ((j + 1 : Nat) : Int) + 1) (by omega) ⟨j + 1, rfl, by omega, ?_⟩), fun v => And.intro (by omega) (ih (m - 1) (_, ((j + 1 : Nat) : Int) + 1) (by omega) ⟨j + 1, rfl, by omega, ?_⟩)⟩
    · show ((bsR _ j : Nat) : Int) = _
      rw [bsR, if_pos v]
    · show ((j + 1 : Nat) : Int) = _
      rw [bsR, if_neg v]
  · rw [if_neg q]
    simp only [tt_gt, eq_self, not_false_eq_true, true_implies, not_true_eq_false, false_implies, true_and, tt_some]
    obtain ⟨T0, P0⟩ := h.self
    obtain ⟨⟨v, ν⟩, ha, hv, μ, X⟩ := P0.asks hF h
    dsimp only at hv X
    rw [if_neg (by omega)] at hv
    subst hv
    unfold f_X7_worst
    simp only [tt_gt, tt_sg, tt_ite, tt_ck, tt_lk, tt_ix, tt_bo, tt_by, tt_nz, tt_ob, tt_st, tt_cpk, tt_c1, tt_c2, tt_ca, tt_cb, tt_some, kd_231, kd_0, Nat.reduceAdd, true_and, and_true, true_implies, not_true_eq_false, false_implies, not_false_eq_true, true_or, or_true, ha, eq_self]
    exact X.gi
