theorem q_pace {F : Nat} {σ : St} {ea : Int} (hF : 100 ≤ F) (h : GI F σ) : PP F (f_X6_pace F 0 ea σ) (f_X7_pace F 231 ea) := by
  have h60 := h.wf.ev60
  have h0 := h.sc.1 0 (by decide) (by decide)
  have hst := h.wf.st
  have neg : ¬ (0 < σ 232 5 ∧ (1 ≤ ea ∧ ea ≤ 20)) → TT (f_X7_pace F 231 ea σ) (fun r' => -2 = r'.1 ∧ GI F r'.2) := by
    intro q
    obtain ⟨T0, P0⟩ := h.self
    obtain ⟨⟨v, ν⟩, ha, hv, μ, X⟩ := P0.asks hF h
    dsimp only at hv X
    unfold f_X7_pace
    by_cases q5 : 0 < σ 232 5
    · rw [if_pos q5] at hv
      subst hv
      simp only [tt_gt, tt_sg, tt_ite, tt_ck, tt_lk, tt_ix, tt_bo, tt_by, tt_nz, tt_ob, tt_st, tt_cpk, tt_c1, tt_c2, tt_ca, tt_cb, tt_some, kd_231, kd_0, Nat.reduceAdd, true_and, and_true, true_implies, not_true_eq_false, false_implies, not_false_eq_true, true_or, or_true, ha, one0, e_in, if_neg (show ¬ (1 ≤ ea ∧ ea ≤ 20) from fun z => q ⟨q5, z⟩), eq_self]
      exact X.gi
    · rw [if_neg q5] at hv
      subst hv
      simp only [tt_gt, tt_sg, tt_ite, tt_ck, tt_lk, tt_ix, tt_bo, tt_by, tt_nz, tt_ob, tt_st, tt_cpk, tt_c1, tt_c2, tt_ca, tt_cb, tt_some, kd_231, kd_0, Nat.reduceAdd, true_and, and_true, true_implies, not_true_eq_false, false_implies, not_false_eq_true, true_or, or_true, ha, eq_self]
      exact X.gi
  unfold PP f_X6_pace
  simp only [tt_gt, tt_sg, tt_ite, tt_ck, tt_lk, tt_ix, tt_bo, tt_by, tt_nz, tt_ob, tt_st, tt_cpk, tt_c1, tt_c2, tt_ca, tt_cb, tt_some, kd_231, kd_0, Nat.reduceAdd, true_and, and_true, true_implies, not_true_eq_false, false_implies, not_false_eq_true, true_or, or_true, Nat.zero_add, e4_exists (F := F) (s := 4) (σ := σ) rfl, h0]
  refine ⟨fun z => neg (fun y => ?_), fun z1 => ⟨fun z => neg (fun y => by omega), fun z2 => ⟨fun z3 => ?_, fun z => neg (fun y => by omega)⟩⟩⟩
  · rw [if_pos (by omega)] at z; exact absurd z (by decide)
  · have q5 : 0 < σ 232 5 := Classical.byContradiction fun y => z1 (by rw [if_neg (by omega)])
    obtain ⟨e, rfl⟩ : ∃ e : Nat, ea = e := ⟨ea.toNat, by omega⟩
    refine (kp_c hF h.wf h.sc (by omega)).mono (fun r hr => ?_)
    have hq : QB σ r.2 := hr.2.qb (by omega)
    obtain ⟨T0, P0⟩ := h.qb hF hq
    obtain ⟨⟨v, ν⟩, ha, hv, μ, X⟩ := P0.asks hF h
    dsimp only at hv X
    rw [if_pos q5] at hv
    subst hv
    unfold f_X7_pace
    simp only [tt_gt, tt_sg, tt_ite, tt_ck, tt_lk, tt_ix, tt_bo, tt_by, tt_nz, tt_ob, tt_st, tt_cpk, tt_c1, tt_c2, tt_ca, tt_cb, tt_some, kd_231, kd_0, Nat.reduceAdd, true_and, and_true, true_implies, not_true_eq_false, false_implies, not_false_eq_true, true_or, or_true, ha, one0, e_in, if_pos (show 1 ≤ (e : Int) ∧ (e : Int) ≤ 20 by omega)]
    refine (pb_ok hF h.wf X.w2 X.kn.v0 (by omega)).mono (fun r' hr' => ⟨by rw [hr.1, hr'.1], ?_⟩)
    exact X.gi.q hF QCl.rf X.gi.rn ⟨fun x hx => hr'.2 x (by omega), fun x hx => hr'.2 x (by omega), fun j hj => by rw [hr'.2 231 (by decide)], fun hb => by rw [hr'.2 251 (by decide)]; exact hb⟩
def lfR (n e : Nat) : Nat := if n = 0 then 0 else (n - 1) % e + 1
def csR (w : Int → Int) (e : Nat) : Int := KpR w e (cmN w (evN w).toNat).toNat + 2 * ((lfR (cmN w (evN w).toNat).toNat e : Nat) : Int)
def beR (w : Int → Int) : Nat → Nat
  | 0 => 1
  | j + 1 => if csR w (beR w j) ≤ csR w (j + 2) then beR w j else j + 2
theorem beR_rng (w : Int → Int) : ∀ j : Nat, 1 ≤ beR w j ∧ beR w j ≤ j + 1
  | 0 => ⟨Nat.le_refl 1, Nat.le_refl 1⟩
  | j + 1 => by
    have := beR_rng w j
    rw [beR]
    split <;> omega
theorem cb_ok {F : Nat} {w : Int → Int} {ν : St} {e : Nat} (hF : 100 ≤ F) (hw : WF w) (h2 : ν 232 = w) (hv : ∀ (t : Nat) (c : Int), (t : Int) < evN w → 0 ≤ c → c < 32 → ν 240 (32 * t + c) = chg w (fun _ => 0) t c) (he : 1 ≤ e ∧ e ≤ 20) : TT (f_X7_costBy F 231 e ν) (fun r => r.1 = csR w e ∧ ∀ k, k ≠ 252 → r.2 k = ν k) := by
  have h60 := hw.ev60
  have hw0 : 0 ≤ w 0 ∧ w 0 ≤ 32 := ⟨hw.1.1, hw.1.2.1⟩
  have hcr := cmN_rng w (evN w).toNat
  obtain ⟨K, eK⟩ : ∃ K : Nat, cmN w (evN w).toNat = K := ⟨(cmN w (evN w).toNat).toNat, by omega⟩
  have hKr := KpR_rng (w := w) e hw0 K
  unfold f_X7_costBy csR
  simp only [tt_ob, kd_231, true_and, tt_c2, tt_ite, tt_gt]
  refine (lcm_ok hF hw h2).mono (fun r hr => ?_)
  obtain ⟨r1, r2, r3⟩ := hr
  have e32 : r.2 232 = w := (r2 232 (by decide)).trans h2
  have P := pb_ok (e := e) hF hw e32 (fun t c t1 c1 c2 => by rw [r2 240 (by decide)]; exact hv t c t1 c1 c2) he
  rw [r1, eK, Int.toNat_natCast]
  rw [eK, Int.toNat_natCast] at P
  have hm := Nat.mod_lt (K - 1) (show 0 < e by omega)
  simp only [tt_ck, tt_nz, tt_gt, tt_some, tt_c2]
  refine ⟨fun z => And.intro (by omega) (And.intro (by omega) ?_), fun z => ?_⟩
  · have hK0 : ¬ K = 0 := by omega
    rw [show (K : Int) - 1 = ((K - 1 : Nat) : Int) by omega, ← Int.ofNat_tmod]
    have el : lfR K e = (K - 1) % e + 1 := if_neg hK0
    refine And.intro (by omega) (P.mono (fun r' hr' => ?_))
    rw [hr'.1, el]
    refine And.intro (by omega) (And.intro (by omega) ⟨by omega, fun k hk => (hr'.2 k hk).trans (r2 k hk)⟩)
  · have hK0 : K = 0 := by omega
    have el : lfR K e = 0 := if_pos hK0
    refine P.mono (fun r' hr' => ?_)
    rw [hr'.1, el]
    exact And.intro (by omega) (And.intro (by omega) ⟨by omega, fun k hk => (hr'.2 k hk).trans (r2 k hk)⟩)
theorem q_best {F : Nat} {σ : St} (hF : 100 ≤ F) (h : GI F σ) : PP F (f_X6_best F 0 σ) (f_X7_best F 231) := by
  have h60 := h.wf.ev60
  have hw0 : 0 ≤ σ 232 0 ∧ σ 232 0 ≤ 32 := ⟨h.wf.1.1, h.wf.1.2.1⟩
  have h0 := h.sc.1 0 (by decide) (by decide)
  have hst := h.wf.st
  have hcr := cmN_rng (σ 232) (evN (σ 232)).toNat
  obtain ⟨K, eK⟩ : ∃ K : Nat, cmN (σ 232) (evN (σ 232)).toNat = K := ⟨(cmN (σ 232) (evN (σ 232)).toNat).toNat, by omega⟩
  have hKr := fun e : Nat => KpR_rng (w := σ 232) e hw0 K
  have cs : ∀ e : Nat, csR (σ 232) e = KpR (σ 232) e K + 2 * ((lfR K e : Nat) : Int) := fun e => by unfold csR; rw [eK, Int.toNat_natCast]
  unfold PP f_X6_best
  simp only [tt_ob, kd_0, true_and, tt_c1, Nat.zero_add, e4_exists (F := F) (s := 4) (σ := σ) rfl, h0, tt_some, tt_ite, tt_gt, e4_commands (F := F) (s := 4) hF rfl h.sc h.wf]
  refine ⟨fun z => ?_, fun z => ?_⟩
  · have q5 : 0 < σ 232 5 := Classical.byContradiction fun y => z (by rw [if_neg (by omega)])
    have ec : sm (fun e => if σ 232 (6 + 4 * (e : Int)) < 4 then 1 else 0) (evN (σ 232)).toNat = (K : Int) := eK
    rw [ec]
    have key : ∀ τ : St, QB σ τ → TT (f_X7_best F 231 τ) (fun r' => ((beR (σ 232) 19 : Nat) : Int) = r'.1 ∧ GI F r'.2) := by
      intro τ hq
      obtain ⟨T0, P0⟩ := h.qb hF hq
      obtain ⟨⟨v, ν⟩, ha, hv, μ, X⟩ := P0.asks hF h
      dsimp only at hv X
      rw [if_pos q5] at hv
      subst hv
      unfold f_X7_best
      simp only [tt_gt, tt_sg, tt_ite, tt_ck, tt_lk, tt_ix, tt_bo, tt_by, tt_nz, tt_ob, tt_st, tt_cpk, tt_c1, tt_c2, tt_ca, tt_cb, tt_some, kd_231, kd_0, Nat.reduceAdd, true_and, and_true, true_implies, not_true_eq_false, false_implies, not_false_eq_true, true_or, or_true, ha, one0]
      have cb : ∀ (τ2 : St) (e : Nat), (∀ k, k ≠ 252 → τ2 k = ν k) → 1 ≤ e ∧ e ≤ 20 → TT (f_X7_costBy F 231 e τ2) (fun r => r.1 = csR (σ 232) e ∧ ∀ k, k ≠ 252 → r.2 k = ν k) := fun τ2 e h2 he => (cb_ok (e := e) hF h.wf ((h2 232 (by decide)).trans X.w2) (fun t c t1 c1 c2 => by rw [h2 240 (by decide)]; exact X.kn.v0 t c t1 c1 c2) he).mono (fun r hr => ⟨hr.1, fun k hk => (hr.2 k hk).trans (h2 k hk)⟩)
      refine lp_w (L := fun n (p : Int × Int × St) => f_X7_best_L14 F 231 n p.1 p.2.1 p.2.2) (fun m p => ∃ j : Nat, p.2.1 = j + 2 ∧ j + m = 19 ∧ p.1 = ((beR (σ 232) j : Nat) : Int) ∧ ∀ k, k ≠ 252 → p.2.2 k = ν k) (fun m n p hI ih => ?_) 19 F (1, 2, ν) (by omega) ⟨0, rfl, rfl, rfl, fun _ _ => rfl⟩
      obtain ⟨x, i, τ2⟩ := p
      dsimp only at hI ih ⊢
      obtain ⟨j, rfl, i2, i3, i4⟩ := hI
      have hb := beR_rng (σ 232) j
      rw [f_X7_best_L14]
      simp only [tt_gt, tt_sg, tt_ite, tt_ck, tt_lk, tt_ix, tt_bo, tt_by, tt_nz, tt_ob, tt_st, tt_cpk, tt_c1, tt_c2, tt_ca, tt_cb, tt_some, kd_231, kd_0, Nat.reduceAdd, true_and, and_true, true_implies, not_true_eq_false, false_implies, not_false_eq_true, true_or, or_true]
      refine ⟨fun u => ⟨by rw [i3, show j = 19 by omega], ?_⟩, fun u => ?_⟩
      · exact X.gi.q hF QCl.rf X.gi.rn ⟨fun x hx => i4 x (by omega), fun x hx => i4 x (by omega), fun j hj => by rw [i4 231 (by decide)], fun hb => by rw [i4 251 (by decide)]; exact hb⟩
      · rw [show (j : Int) + 2 = ((j + 2 : Nat) : Int) by omega, i3]
        refine (cb τ2 (j + 2) i4 (by omega)).mono (fun r1 h1 => (cb r1.2 (beR (σ 232) j) h1.2 (by omega)).mono (fun r2 h2 => ?_))
        rw [h1.1, h2.1]
        refine ⟨fun a => And.intro (by omega) (ih (m - 1) (((beR (σ 232) j : Nat) : Int), ((j + 2 : Nat) : Int) + 1, r2.2) (by omega) ⟨j + 1, by dsimp only; omega, by omega, ?_, h2.2⟩), fun a => And.intro (by omega) (ih (m - 1) (((j + 2 : Nat) : Int), ((j + 2 : Nat) : Int) + 1, r2.2) (by omega) ⟨j + 1, by dsimp only; omega, by omega, ?_, h2.2⟩)⟩
        · dsimp only
          rw [beR, if_pos a]
        · dsimp only
          rw [beR, if_neg a]
    refine lp_w (L := fun n (p : Int × Int × Int × St) => f_X6_best_L28 F 0 n K p.1 p.2.1 p.2.2.1 p.2.2.2) (fun m p => ∃ e : Nat, p.2.2.1 = e ∧ e + m = 21 ∧ 1 ≤ e ∧ (e = 1 → p.1 = 1) ∧ (2 ≤ e → p.1 = ((beR (σ 232) (e - 2) : Nat) : Int) ∧ p.2.1 = csR (σ 232) (beR (σ 232) (e - 2))) ∧ QB σ p.2.2.2) (fun m n p hI ih => ?_) 20 F (1, 0, 1, σ) (by omega) ⟨1, rfl, rfl, Nat.le_refl 1, fun _ => rfl, fun y => absurd y (by decide), QB.rf⟩
    obtain ⟨x, y, i, τ⟩ := p
    dsimp only at hI ih ⊢
    obtain ⟨e, rfl, i2, i3, i4, i5, i6⟩ := hI
    have S2 := h.sc.qb i6
    have hm := Nat.mod_lt (K - 1) (show 0 < e by omega)
    rw [f_X6_best_L28]
    simp only [tt_gt, tt_ite]
    refine ⟨fun u => ?_, fun u => ?_⟩
    · rw [tt_some]
      have he : e = 21 := by omega
      subst he
      have := key τ i6
      rw [(i5 (by decide)).1]
      exact this
    · have j51 : ∀ l : Int, l = ((lfR K e : Nat) : Int) → TT (f_X6_best_J51 F 0 (f_X6_best_L28 F 0 n) K x y e l τ) (fun r => TT (f_X7_best F 231 r.2) (fun r' => r.1 = r'.1 ∧ GI F r'.2)) := by
        intro l hl
        have hKe := hKr e
        have hle : lfR K e ≤ 60 := by unfold lfR; split <;> omega
        unfold f_X6_best_J51
        simp only [tt_gt, tt_sg, tt_ite, tt_ck, tt_lk, tt_ix, tt_bo, tt_by, tt_nz, tt_ob, tt_st, tt_cpk, tt_c1, tt_c2, tt_ca, tt_cb, tt_some, kd_231, kd_0, Nat.reduceAdd, true_and, and_true, true_implies, not_true_eq_false, false_implies, not_false_eq_true, true_or, or_true]
        refine (kp_c hF h.wf S2 (by omega)).mono (fun r hr => ?_)
        rw [hr.1, eK, Int.toNat_natCast]
        have Q2 : QB σ r.2 := i6.tr (hr.2.qb (by omega))
        have ecs : KpR (σ 232) e K + 2 * l = csR (σ 232) e := by rw [cs, hl]
        refine And.intro (by omega) (And.intro (by omega) ?_)
        rw [ecs]
        refine ⟨fun a => And.intro (by omega) (ih (m - 1) ((e : Int), csR (σ 232) e, (e : Int) + 1, r.2) (by omega) ⟨e + 1, by dsimp only; omega, by omega, by omega, fun b => absurd b (by omega), fun _ => ?_, Q2⟩), fun a => ?_⟩
        · have e1 : e = 1 := by omega
          subst e1
          exact ⟨rfl, rfl⟩
        · obtain ⟨x1, y1⟩ := i5 (by omega)
          refine ⟨fun b => And.intro (by omega) (ih (m - 1) (x, y, (e : Int) + 1, r.2) (by omega) ⟨e + 1, by dsimp only; omega, by omega, by omega, fun c => absurd c (by omega), fun _ => ?_, Q2⟩), fun b => And.intro (by omega) (ih (m - 1) ((e : Int), csR (σ 232) e, (e : Int) + 1, r.2) (by omega) ⟨e + 1, by dsimp only; omega, by omega, by omega, fun c => absurd c (by omega), fun _ => ?_, Q2⟩)⟩
          · have : beR (σ 232) (e + 1 - 2) = beR (σ 232) (e - 2) := by
              rw [show e + 1 - 2 = (e - 2) + 1 by omega, beR, show e - 2 + 2 = e by omega, if_pos (by rw [← y1]; exact b)]
            rw [this]
            exact ⟨x1, y1⟩
          · have : beR (σ 232) (e + 1 - 2) = e := by
              rw [show e + 1 - 2 = (e - 2) + 1 by omega, beR, show e - 2 + 2 = e by omega, if_neg (by rw [← y1]; exact b)]
            rw [this]
            exact ⟨rfl, rfl⟩
      refine ⟨fun z2 => ?_, fun z2 => j51 0 ?_⟩
      · simp only [tt_ck, tt_nz, tt_gt]
        rw [show (K : Int) - 1 = ((K - 1 : Nat) : Int) by omega, ← Int.ofNat_tmod]
        refine And.intro (by omega) (And.intro (by omega) (And.intro (by omega) (j51 _ ?_)))
        have : lfR K e = (K - 1) % e + 1 := if_neg (by omega)
        rw [this]
        omega
      · have : lfR K e = 0 := if_pos (by omega)
        rw [this]
        rfl
  · obtain ⟨T0, P0⟩ := h.self
    obtain ⟨⟨v, ν⟩, ha, hv, μ, X⟩ := P0.asks hF h
    dsimp only at hv X
    rw [if_neg (fun y => z (by rw [if_pos (by omega)]; decide))] at hv
    subst hv
    unfold f_X7_best
    simp only [tt_gt, tt_sg, tt_ite, tt_ck, tt_lk, tt_ix, tt_bo, tt_by, tt_nz, tt_ob, tt_st, tt_cpk, tt_c1, tt_c2, tt_ca, tt_cb, tt_some, kd_231, kd_0, Nat.reduceAdd, true_and, and_true, true_implies, not_true_eq_false, false_implies, not_false_eq_true, true_or, or_true, ha, eq_self]
    exact X.gi
