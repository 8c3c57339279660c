theorem e6_hasSlot {F : Nat} {σ : St} {s : Int} : f_X6_hasSlot F s σ = some (if 0 ≤ s ∧ s < 4 then 1 else 0) := by
  apply TT.eq
  unfold f_X6_hasSlot
  simp only [tt_gt, tt_sg, tt_ite, tt_ck, tt_lk, tt_ix, tt_bo, tt_by, tt_nz, tt_ob, tt_st, tt_cpk, tt_c1, tt_c2, tt_ca, tt_cb, tt_some, kd_231, kd_0, Nat.reduceAdd, true_and, and_true, true_implies, not_true_eq_false, false_implies, not_false_eq_true, true_or, or_true]
  refine ⟨fun q => ?_, fun q => ⟨fun q2 => ?_, fun q2 => ?_⟩⟩
  · rw [if_neg (by omega)]
  · rw [if_neg (by omega)]
  · rw [if_pos (by omega)]
theorem e7_isSlot {F : Nat} {σ : St} {s : Int} : f_X7_isSlot F s σ = some (if 0 ≤ s ∧ s < 4 then 1 else 0) := by
  apply TT.eq
  unfold f_X7_isSlot
  simp only [tt_gt, tt_sg, tt_ite, tt_ck, tt_lk, tt_ix, tt_bo, tt_by, tt_nz, tt_ob, tt_st, tt_cpk, tt_c1, tt_c2, tt_ca, tt_cb, tt_some, kd_231, kd_0, Nat.reduceAdd, true_and, and_true, true_implies, not_true_eq_false, false_implies, not_false_eq_true, true_or, or_true, e_in]
  by_cases q : 0 ≤ s ∧ s < 4
  · rw [if_pos q, if_pos (by omega)]
    exact ⟨Or.inr rfl, rfl⟩
  · rw [if_neg q, if_neg (by omega)]
    exact ⟨Or.inl rfl, rfl⟩
theorem sr_loop {F : Nat} {w nm : Int → Int} {σ : St} {c K : Nat} {a : Int} (hF : 100 ≤ F) (hw : WF w) (h0 : 0 < w 0) (hS : SR 4 σ w) (hc : kdX c = 5) (hL : σ c 2 = 3 * K) (hK : K ≤ 20) (hn : ∀ i, 0 ≤ i → i < 3 * (K : Int) → σ (c + 1) i = nm i) : TT (f_X6_seenRefusal_L51 F 0 a σ F c 0) (fun r => (r = 0 ∧ ∀ k, k < K → okR w nm k) ∨ (r = -2 ∧ ¬ ∀ k, k < K → okR w nm k)) := by
  have h60 := hw.ev60
  have hw0 : 0 ≤ w 0 ∧ w 0 ≤ 32 := ⟨hw.1.1, hw.1.2.1⟩
  have e0 := hS.1 0 (by decide) (by decide)
  refine lp_w (L := fun n (p : Int) => f_X6_seenRefusal_L51 F 0 a σ n c p) (fun m p => ∃ j : Nat, p = 3 * j ∧ j + m = K ∧ ∀ k, k < j → okR w nm k) (fun m n p hI ih => ?_) K F 0 (by omega) ⟨0, rfl, by omega, fun k hk => absurd hk (Nat.not_lt_zero k)⟩
  obtain ⟨j, rfl, j2, j3⟩ := hI
  rw [f_X6_seenRefusal_L51]
  simp only [tt_gt, tt_sg, tt_ite, tt_ck, tt_lk, tt_ix, tt_bo, tt_by, tt_nz, tt_ob, tt_st, tt_cpk, tt_c1, tt_c2, tt_ca, tt_cb, tt_some, kd_231, kd_0, Nat.reduceAdd, true_and, and_true, true_implies, not_true_eq_false, false_implies, not_false_eq_true, true_or, or_true, Nat.zero_add, hL, e4_size (F := F) (s := 4) rfl hS hw, e0]
  refine And.intro (by omega) ⟨fun y => Or.inl (fun k hk => j3 k (by omega)), fun y => ?_⟩
  have hjK : j < K := by omega
  have q0 := hn (3 * j) (by omega) (by omega)
  have q1 := hn (3 * j + 1) (by omega) (by omega)
  have q2 := hn (3 * j + 2) (by omega) (by omega)
  simp only [e5_numberAt (F := F) (σ := σ) (i := 3 * (j : Int)) hc (by rw [hL]; omega) (by rw [hL]; omega), e5_numberAt (F := F) (σ := σ) (i := 3 * (j : Int) + 1) hc (by rw [hL]; omega) (by rw [hL]; omega), e5_numberAt (F := F) (σ := σ) (i := 3 * (j : Int) + 2) hc (by rw [hL]; omega) (by rw [hL]; omega), q0, q1, q2, tt_some, e6_isUpTo]
  unfold f_X6_seenRefusal_J121
  simp only [tt_gt, tt_ite, tt_some, one0, eq_self, not_true_eq_false, false_implies, not_false_eq_true, true_implies, true_and, and_true]
  by_cases a1 : 0 ≤ nm (3 * (j : Int)) ∧ nm (3 * (j : Int)) ≤ evN w
  · rw [if_pos a1]
    refine ⟨fun z => absurd z (by decide), fun _ => And.intro (by omega) (And.intro (by omega) ?_)⟩
    by_cases a2 : 0 ≤ nm (3 * (j : Int) + 1) ∧ nm (3 * (j : Int) + 1) ≤ w 0 - 1
    · rw [if_pos a2]
      refine ⟨fun z => absurd z (by decide), fun _ => And.intro (by omega) ?_⟩
      by_cases a3 : 0 ≤ nm (3 * (j : Int) + 2) ∧ nm (3 * (j : Int) + 2) ≤ 255
      · rw [if_pos a3]
        refine ⟨fun z => absurd z (by decide), fun _ => And.intro (by omega) (ih (m - 1) (3 * (j : Int) + 3) (by omega) ⟨j + 1, by omega, by omega, fun k hk => ?_⟩)⟩
        by_cases b : k = j
        · rw [b]; exact ⟨a1, by omega, a3⟩
        · exact j3 k (by omega)
      · rw [if_neg a3]
        exact ⟨fun _ => Or.inr (fun z => a3 (z j hjK).2.2), fun z => absurd rfl z⟩
    · rw [if_neg a2]
      refine ⟨fun _ => Or.inr (fun z => a2 ?_), fun z => absurd rfl z⟩
      have := (z j hjK).2.1
      omega
  · rw [if_neg a1]
    exact ⟨fun _ => Or.inr (fun z => a1 (z j hjK).1), fun z => absurd rfl z⟩
theorem am_loop {F : Nat} {w nm : Int → Int} {ν : St} {s K : Nat} {P : Int × St → Prop} (hF : 100 ≤ F) (hw : WF w) (h5 : 0 < w 5) (hs : s < 4) (h2 : ν 232 = w) (hL : ν 255 s = 3 * K) (hK : K ≤ 20) (hn : ∀ i, 0 ≤ i → i < 3 * (K : Int) → ν 257 (60 * s + i) = nm i) (hv : ∀ (t : Nat) (c : Int), (t : Int) ≤ evN w → 0 ≤ c → c < 32 → ν 239 (32 * t + c) = Val w (fun _ => 0) t c)
    (hbad : (¬ ∀ k, k < K → okR w nm k) → P (-2, ν)) (hgood : (∀ k, k < K → okR w nm k) → TT (f_X7_askMay_L140 F 231 s F 0 (z_up (z_up (z_up ν 231 35 (snR w (fun _ => 0) nm K)) 231 33 0) 231 34 (-1))) P) : TT (f_X7_askMay_L46 F 231 s F 0 ν) P := by
  have h60 := hw.ev60
  have hw0 : 0 ≤ w 0 ∧ w 0 ≤ 32 := ⟨hw.1.1, hw.1.2.1⟩
  refine lp_w (L := fun n (p : Int) => f_X7_askMay_L46 F 231 s n p ν) (fun m p => ∃ j : Nat, p = 3 * j ∧ j + m = K ∧ ∀ k, k < j → okR w nm k) (fun m n p hI ih => ?_) K F 0 (by omega) ⟨0, rfl, by omega, fun k hk => absurd hk (Nat.not_lt_zero k)⟩
  obtain ⟨j, rfl, j2, j3⟩ := hI
  rw [f_X7_askMay_L46]
  simp only [tt_gt, tt_sg, tt_ite, tt_ck, tt_lk, tt_ix, tt_bo, tt_by, tt_nz, tt_ob, tt_st, tt_cpk, tt_c1, tt_c2, tt_ca, tt_cb, tt_some, kd_231, kd_0, Nat.reduceAdd, true_and, and_true, true_implies, not_true_eq_false, false_implies, not_false_eq_true, true_or, or_true, hL]
  refine And.intro (by omega) ⟨fun y => ?_, fun y => ?_⟩
  · have hok : ∀ k, k < K → okR w nm k := fun k hk => j3 k (by omega)
    refine (seen_m hF hw hs hL hK hn hok hv).mono (fun r hr => ?_)
    have h1 := hgood hok
    rw [← hr] at h1
    have h01 := snR_01 w (fun _ => 0) nm K
    rw [← hr] at h01
    refine ⟨fun z => ?_, fun z => ?_⟩
    · rw [z] at h1; exact h1
    · rw [show r = 1 by omega] at h1; exact h1
  · have hjK : j < K := by omega
    have q0 := hn (3 * j) (by omega) (by omega)
    have q1 := hn (3 * j + 1) (by omega) (by omega)
    have q2 := hn (3 * j + 2) (by omega) (by omega)
    have t1 := e_isTick (F := F) (σ := ν) (by rw [h2]; exact hw.1) (nm (3 * (j : Int)))
    have t2 := e_isCell (F := F) (σ := ν) (by rw [h2]; exact hw.1) (nm (3 * (j : Int) + 1))
    rw [h2] at t1 t2
    simp only [e7_numberAt (F := F) (σ := ν) (s := (s : Int)) (i := 3 * (j : Int)) (by omega) (by omega), e7_numberAt (F := F) (σ := ν) (s := (s : Int)) (i := 3 * (j : Int) + 1) (by omega) (by omega), e7_numberAt (F := F) (σ := ν) (s := (s : Int)) (i := 3 * (j : Int) + 2) (by omega) (by omega), q0, q1, q2, tt_some, t1, t2, e_in]
    by_cases a1 : 0 ≤ nm (3 * (j : Int)) ∧ nm (3 * (j : Int)) ≤ evN w
    · rw [if_pos ⟨h5, a1⟩]
      refine ⟨fun z => absurd z (by decide), fun _ => And.intro (by omega) ?_⟩
      by_cases a2 : 0 ≤ nm (3 * (j : Int) + 1) ∧ nm (3 * (j : Int) + 1) < w 0
      · rw [if_pos a2]
        refine ⟨fun z => absurd z (by decide), fun _ => And.intro (by omega) ?_⟩
        by_cases a3 : 0 ≤ nm (3 * (j : Int) + 2) ∧ nm (3 * (j : Int) + 2) ≤ 255
        · rw [if_pos a3]
          refine ⟨fun _ => And.intro (by omega) (ih (m - 1) (3 * (j : Int) + 3) (by omega) ⟨j + 1, by omega, by omega, fun k hk => ?_⟩), fun z => absurd (by decide) z⟩
          by_cases b : k = j
          · rw [b]; exact ⟨a1, a2, a3⟩
          · exact j3 k (by omega)
        · rw [if_neg a3]
          exact ⟨fun z => absurd rfl z, fun _ => hbad (fun z => a3 (z j hjK).2.2)⟩
      · rw [if_neg a2]
        exact ⟨fun _ => hbad (fun z => a2 (z j hjK).2.1), fun z => absurd rfl z⟩
    · rw [if_neg (fun z => a1 z.2)]
      exact ⟨fun _ => hbad (fun z => a1 (z j hjK).1), fun z => absurd rfl z⟩
theorem may_gen {F : Nat} {σ : St} {slot : Int} (hF : 100 ≤ F) (h : GI F σ) :
    (∃ v : Int, v < 0 ∧ f_X6_seenRefusal F 0 slot σ = some v ∧ TT (f_X7_askMay F 231 slot σ) (fun r => r.1 = v ∧ GI F r.2)) ∨
    (∃ (s K : Nat) (nm : Int → Int), slot = s ∧ s < 4 ∧ σ (223 + 2 * s) 2 = 3 * K ∧ K ≤ 20 ∧ (∀ i, 0 ≤ i → i < 3 * (K : Int) → σ (223 + 2 * s + 1) i = nm i) ∧ (∀ k, k < K → okR (σ 232) nm k) ∧ f_X6_seenRefusal F 0 slot σ = some 0 ∧ ∀ τ, QB σ τ → TT (f_X7_askMay F 231 slot τ) (fun r => r.1 = 0 ∧ GI F r.2 ∧ r.2 231 33 = sm (fun e => snR (σ 232) (sgl e) nm K) (σ 232 3).toNat ∧ Fst (fun e => snR (σ 232) (sgl e) nm K = 1) (σ 232 3).toNat (r.2 231 34) ∧ r.2 231 35 = snR (σ 232) (fun _ => 0) nm K)) := by
  have h60 := h.wf.ev60
  have h0 := h.sc.1 0 (by decide) (by decide)
  have hst := h.wf.st
  by_cases q : 0 ≤ slot ∧ slot < 4
  · obtain ⟨s, rfl⟩ : ∃ s : Nat, slot = s := ⟨slot.toNat, by omega⟩
    have hs : s < 4 := by omega
    have hkd := kd_sl s hs
    have hsl := h.sl s hs
    have hask : ∀ τ, QB σ τ → ∃ ν μ T, f_X7_asks F 231 τ = some ((if 0 < σ 232 5 then 1 else 0), ν) ∧ Ctx F (σ 232) T μ ν τ ∧ ν 255 = σ 255 ∧ ν 257 = σ 257 := by
      intro τ hq
      obtain ⟨T0, P0⟩ := h.qb hF hq
      have e1 : τ 232 = σ 232 := hq 232 (by omega)
      obtain ⟨⟨v, ν⟩, ha, hv, μ, X⟩ := P0.asks hF h
      obtain ⟨⟨v2, ν2⟩, ha2, -, -, hqm, -⟩ := asks_ok hF h.wf e1
      rw [ha] at ha2
      cases ha2
      dsimp only at hv X hqm
      subst hv
      exact ⟨ν, μ, T0, ha, X, by rw [hqm.hi 255 (by omega)]; exact hq 255 (by omega), by rw [hqm.hi 257 (by omega)]; exact hq 257 (by omega)⟩
    by_cases q5 : 0 < σ 232 5
    · simp only [if_pos q5] at hask
      rcases hsl with ⟨s0, s1, s2, s3, s4, s5, s6, s7⟩ | ⟨s0, s1⟩
      · by_cases q3 : (σ (223 + 2 * s) 2).tmod 3 = 0
        · obtain ⟨K, eK⟩ : ∃ K : Nat, σ (223 + 2 * s) 2 = 3 * K := by
            refine ⟨(σ (223 + 2 * s) 2 / 3).toNat, ?_⟩
            rw [Int.tmod_eq_emod_of_nonneg s2] at q3
            omega
          have hn : ∀ i, 0 ≤ i → i < 3 * (K : Int) → σ 257 (60 * s + i) = σ (223 + 2 * s + 1) i := fun i i1 i2 => (s7 i i1 (by omega)).symm
          have hrf := sr_loop (F := F) (w := σ 232) (nm := σ (223 + 2 * s + 1)) (σ := σ) (c := 223 + 2 * s) (K := K) (a := (s : Int)) hF h.wf (by omega) h.sc hkd.1 eK (by omega) (fun _ _ _ => rfl)
          have head : ∀ v : Int, f_X6_seenRefusal_L51 F 0 s σ F (223 + 2 * s) 0 = some v → f_X6_seenRefusal F 0 s σ = some v := by
            intro v hv
            apply TT.eq
            unfold f_X6_seenRefusal
            simp only [tt_gt, tt_sg, tt_ite, tt_ck, tt_lk, tt_ix, tt_bo, tt_by, tt_nz, tt_ob, tt_st, tt_cpk, tt_c1, tt_c2, tt_ca, tt_cb, tt_some, kd_231, kd_0, Nat.reduceAdd, true_and, and_true, true_implies, not_true_eq_false, false_implies, not_false_eq_true, true_or, or_true, Nat.zero_add, e6_hasSlot, if_pos q, one0, e4_exists (F := F) (s := 4) (σ := σ) rfl, h0, if_pos (show 0 < σ 232 0 by omega), Int.toNat_natCast, s0, q3, hv, eq_self]
            exact ⟨by omega, by decide⟩
          have mhead : ∀ (τ ν : St) (P : Int × St → Prop), f_X7_asks F 231 τ = some (1, ν) → ν 255 = σ 255 → TT (f_X7_askMay_L46 F 231 s F 0 ν) P → TT (f_X7_askMay F 231 s τ) P := by
            intro τ ν P ha e55 hP
            unfold f_X7_askMay
            simp only [tt_gt, tt_sg, tt_ite, tt_ck, tt_lk, tt_ix, tt_bo, tt_by, tt_nz, tt_ob, tt_st, tt_cpk, tt_c1, tt_c2, tt_ca, tt_cb, tt_some, kd_231, kd_0, Nat.reduceAdd, true_and, and_true, true_implies, not_true_eq_false, false_implies, not_false_eq_true, true_or, or_true, e7_isSlot, if_pos q, one0, ha, e55, s1, q3, eq_self]
            exact ⟨by omega, fun _ => ⟨by omega, by decide, hP⟩, fun z => absurd (by omega) z⟩
          obtain ⟨v, hv1, hv2⟩ := hrf
          rcases hv2 with ⟨rfl, hgood⟩ | ⟨rfl, hbad⟩
          · refine Or.inr ⟨s, K, σ (223 + 2 * s + 1), rfl, hs, eK, by omega, fun _ _ _ => rfl, hgood, head 0 hv1, fun τ hq => ?_⟩
            obtain ⟨ν, μ, T, ha, X, e55, e57⟩ := hask τ hq
            refine mhead τ ν _ ha e55 (am_loop (nm := σ (223 + 2 * s + 1)) hF h.wf q5 hs X.w2 (by rw [e55, s1, eK]) (by omega) (fun i i1 i2 => by rw [e57]; exact hn i i1 i2) X.kn.v9 (fun z => absurd hgood z) (fun _ => ?_))
            have W0 : WM2 ν (z_up (z_up (z_up ν 231 35 (snR (σ 232) (fun _ => 0) (σ (223 + 2 * s + 1)) K)) 231 33 0) 231 34 (-1)) := by
              have W1 : WM2 ν ν := ⟨fun _ _ _ _ _ => rfl, fun _ _ _ _ => rfl, X.go⟩
              exact ((W1.up (Or.inr (Or.inr rfl))).up (Or.inl rfl)).up (Or.inr (Or.inl rfl))
            refine (may_tail (nm := σ (223 + 2 * s + 1)) hF h.wf hs X.w2 (by rw [e55, s1, eK]) (by omega) (fun i i1 i2 => by rw [e57]; exact hn i i1 i2) hgood X.gi W0 (by simp only [up_eq]; rfl) (by simp only [up_eq]; rfl)).mono (fun r hr => ⟨hr.1, hr.2.1, hr.2.2.1, hr.2.2.2.1, ?_⟩)
            rw [hr.2.2.2.2]
            simp only [up_eq]
            rfl
          · obtain ⟨ν, μ, T, ha, X, e55, e57⟩ := hask σ QB.rf
            refine Or.inl ⟨-2, by decide, head _ hv1, mhead σ ν _ ha e55 (am_loop (nm := σ (223 + 2 * s + 1)) hF h.wf q5 hs X.w2 (by rw [e55, s1, eK]) (by omega) (fun i i1 i2 => by rw [e57]; exact hn i i1 i2) X.kn.v9 (fun _ => ⟨rfl, X.gi⟩) (fun z => absurd z hbad))⟩
        · obtain ⟨ν, μ, T, ha, X, e55, e57⟩ := hask σ QB.rf
          refine Or.inl ⟨-2, by decide, ?_, ?_⟩
          · apply TT.eq
            unfold f_X6_seenRefusal
            simp only [tt_gt, tt_sg, tt_ite, tt_ck, tt_lk, tt_ix, tt_bo, tt_by, tt_nz, tt_ob, tt_st, tt_cpk, tt_c1, tt_c2, tt_ca, tt_cb, tt_some, kd_231, kd_0, Nat.reduceAdd, true_and, and_true, true_implies, not_true_eq_false, false_implies, not_false_eq_true, true_or, or_true, Nat.zero_add, e6_hasSlot, if_pos q, one0, e4_exists (F := F) (s := 4) (σ := σ) rfl, h0, if_pos (show 0 < σ 232 0 by omega), Int.toNat_natCast, s0, q3, eq_self]
            exact ⟨by omega, by decide⟩
          · unfold f_X7_askMay
            simp only [tt_gt, tt_sg, tt_ite, tt_ck, tt_lk, tt_ix, tt_bo, tt_by, tt_nz, tt_ob, tt_st, tt_cpk, tt_c1, tt_c2, tt_ca, tt_cb, tt_some, kd_231, kd_0, Nat.reduceAdd, true_and, and_true, true_implies, not_true_eq_false, false_implies, not_false_eq_true, true_or, or_true, e7_isSlot, if_pos q, one0, ha, e55, s1, q3, eq_self]
            exact ⟨by omega, fun _ => ⟨by omega, by decide, X.gi⟩, fun z => absurd (by omega) z⟩
      · obtain ⟨ν, μ, T, ha, X, e55, e57⟩ := hask σ QB.rf
        refine Or.inl ⟨-6, by decide, ?_, ?_⟩
        · apply TT.eq
          unfold f_X6_seenRefusal
          simp only [tt_gt, tt_sg, tt_ite, tt_ck, tt_lk, tt_ix, tt_bo, tt_by, tt_nz, tt_ob, tt_st, tt_cpk, tt_c1, tt_c2, tt_ca, tt_cb, tt_some, kd_231, kd_0, Nat.reduceAdd, true_and, and_true, true_implies, not_true_eq_false, false_implies, not_false_eq_true, true_or, or_true, Nat.zero_add, e6_hasSlot, if_pos q, one0, e4_exists (F := F) (s := 4) (σ := σ) rfl, h0, if_pos (show 0 < σ 232 0 by omega), Int.toNat_natCast, s0, eq_self]
          first
            | exact ⟨by omega, rfl⟩
            | exact ⟨by omega, by omega⟩
        · unfold f_X7_askMay
          simp only [tt_gt, tt_sg, tt_ite, tt_ck, tt_lk, tt_ix, tt_bo, tt_by, tt_nz, tt_ob, tt_st, tt_cpk, tt_c1, tt_c2, tt_ca, tt_cb, tt_some, kd_231, kd_0, Nat.reduceAdd, true_and, and_true, true_implies, not_true_eq_false, false_implies, not_false_eq_true, true_or, or_true, e7_isSlot, if_pos q, one0, ha, e55, s1, eq_self]
          exact ⟨by omega, X.gi⟩
    · simp only [if_neg q5] at hask
      obtain ⟨ν, μ, T, ha, X, e55, e57⟩ := hask σ QB.rf
      refine Or.inl ⟨-2, by decide, ?_, ?_⟩
      · apply TT.eq
        unfold f_X6_seenRefusal
        simp only [tt_gt, tt_sg, tt_ite, tt_ck, tt_lk, tt_ix, tt_bo, tt_by, tt_nz, tt_ob, tt_st, tt_cpk, tt_c1, tt_c2, tt_ca, tt_cb, tt_some, kd_231, kd_0, Nat.reduceAdd, true_and, and_true, true_implies, not_true_eq_false, false_implies, not_false_eq_true, true_or, or_true, Nat.zero_add, e6_hasSlot, if_pos q, one0, e4_exists (F := F) (s := 4) (σ := σ) rfl, h0, if_neg (show ¬ 0 < σ 232 0 by omega), eq_self]
      · unfold f_X7_askMay
        simp only [tt_gt, tt_sg, tt_ite, tt_ck, tt_lk, tt_ix, tt_bo, tt_by, tt_nz, tt_ob, tt_st, tt_cpk, tt_c1, tt_c2, tt_ca, tt_cb, tt_some, kd_231, kd_0, Nat.reduceAdd, true_and, and_true, true_implies, not_true_eq_false, false_implies, not_false_eq_true, true_or, or_true, e7_isSlot, if_pos q, one0, ha, eq_self]
        exact X.gi
  · refine Or.inl ⟨-2, by decide, ?_, ?_⟩
    · apply TT.eq
      unfold f_X6_seenRefusal
      simp only [tt_gt, tt_sg, tt_ite, tt_ck, tt_lk, tt_ix, tt_bo, tt_by, tt_nz, tt_ob, tt_st, tt_cpk, tt_c1, tt_c2, tt_ca, tt_cb, tt_some, kd_231, kd_0, Nat.reduceAdd, true_and, and_true, true_implies, not_true_eq_false, false_implies, not_false_eq_true, true_or, or_true, e6_hasSlot, if_neg q, eq_self]
    · unfold f_X7_askMay
      simp only [tt_gt, tt_sg, tt_ite, tt_ck, tt_lk, tt_ix, tt_bo, tt_by, tt_nz, tt_ob, tt_st, tt_cpk, tt_c1, tt_c2, tt_ca, tt_cb, tt_some, kd_231, kd_0, Nat.reduceAdd, true_and, and_true, true_implies, not_true_eq_false, false_implies, not_false_eq_true, true_or, or_true, e7_isSlot, if_neg q, eq_self]
      exact h
theorem q_may {F : Nat} {σ : St} {slot : Int} (hF : 100 ≤ F) (h : GI F σ) : PP F (f_X6_may F 0 slot σ) (f_X7_may F 231 slot) := by
  have h60 := h.wf.ev60
  have h3b : 0 ≤ σ 232 3 ∧ σ 232 3 ≤ 40 ∧ σ 232 3 ≤ evN (σ 232) := by
    have := h.wf.1
    unfold Hd at this
    unfold evN
    omega
  unfold PP f_X6_may
  rcases may_gen (slot := slot) hF h with ⟨v, hv, hr, hm⟩ | ⟨s, K, nm, rfl, hs, hL, hK, hn, hok, hr, hm⟩
  · simp only [tt_gt, tt_sg, tt_ite, tt_ck, tt_lk, tt_ix, tt_bo, tt_by, tt_nz, tt_ob, tt_st, tt_cpk, tt_c1, tt_c2, tt_ca, tt_cb, tt_some, kd_231, kd_0, Nat.reduceAdd, true_and, and_true, true_implies, not_true_eq_false, false_implies, not_false_eq_true, true_or, or_true, hr]
    refine ⟨fun z => by omega, fun _ => ?_⟩
    unfold f_X7_may
    simp only [tt_ob, kd_231, true_and, tt_c2]
    refine hm.mono (fun r hr2 => ?_)
    simp only [tt_gt, tt_sg, tt_ite, tt_ck, tt_lk, tt_ix, tt_bo, tt_by, tt_nz, tt_ob, tt_st, tt_cpk, tt_c1, tt_c2, tt_ca, tt_cb, tt_some, kd_231, kd_0, Nat.reduceAdd, true_and, and_true, true_implies, not_true_eq_false, false_implies, not_false_eq_true, true_or, or_true]
    rw [hr2.1]
    exact ⟨fun z => by omega, fun _ => ⟨rfl, hr2.2⟩⟩
  · simp only [tt_gt, tt_sg, tt_ite, tt_ck, tt_lk, tt_ix, tt_bo, tt_by, tt_nz, tt_ob, tt_st, tt_cpk, tt_c1, tt_c2, tt_ca, tt_cb, tt_some, kd_231, kd_0, Nat.reduceAdd, true_and, and_true, true_implies, not_true_eq_false, false_implies, not_false_eq_true, true_or, or_true, hr, eq_self]
    refine lp_w (L := fun n (p : Int × Int × St) => f_X6_may_L17 F 0 s n p.1 p.2.1 p.2.2) (fun m p => ∃ j : Nat, p.2.1 = j ∧ (j : Int) + m = σ 232 3 ∧ p.1 = sm (fun e => snR (σ 232) (sgl e) nm K) j ∧ QB σ p.2.2) (fun m n p hI ih => ?_) (σ 232 3).toNat F (0, 0, σ) (by omega) ⟨0, rfl, by omega, rfl, QB.rf⟩
    obtain ⟨x, i, τ⟩ := p
    dsimp only at hI ih ⊢
    obtain ⟨j, rfl, i2, i3, i4⟩ := hI
    have S2 := h.sc.qb i4
    have e3 := S2.1 3 (by decide) (by decide)
    have hr2 := sm_rng (f := fun e => snR (σ 232) (sgl e) nm K) (M := 1) j (fun i _ => by have := snR_01 (σ 232) (sgl i) nm K; omega)
    rw [f_X6_may_L17]
    simp only [tt_gt, tt_sg, tt_ite, tt_ck, tt_lk, tt_ix, tt_bo, tt_by, tt_nz, tt_ob, tt_st, tt_cpk, tt_c1, tt_c2, tt_ca, tt_cb, tt_some, kd_231, kd_0, Nat.reduceAdd, true_and, and_true, true_implies, not_true_eq_false, false_implies, not_false_eq_true, true_or, or_true, Nat.zero_add, e3, Int.toNat_natCast]
    refine ⟨fun z => ?_, fun z => And.intro (by omega) ?_⟩
    · unfold f_X7_may
      simp only [tt_ob, kd_231, true_and, tt_c2]
      refine (hm τ i4).mono (fun r hr3 => ?_)
      simp only [tt_gt, tt_sg, tt_ite, tt_ck, tt_lk, tt_ix, tt_bo, tt_by, tt_nz, tt_ob, tt_st, tt_cpk, tt_c1, tt_c2, tt_ca, tt_cb, tt_some, kd_231, kd_0, Nat.reduceAdd, true_and, and_true, true_implies, not_true_eq_false, false_implies, not_false_eq_true, true_or, or_true]
      rw [hr3.1]
      refine ⟨fun _ => ⟨?_, hr3.2.1⟩, fun z => absurd (by decide) z⟩
      rw [hr3.2.2.1, i3, show (σ 232 3).toNat = j by omega]
    · refine (seen_c (g := sgl j) (nm := nm) (K := K) hF h.wf S2 (kd_sl s hs).1 (by omega) (by rw [i4 (223 + 2 * s) (by omega)]; exact hL) hK (fun i i1 i2 => by rw [i4 (223 + 2 * s + 1) (by omega)]; exact hn i i1 i2) hok (lOut_1 (by omega) (by omega))).mono (fun r hr3 => ?_)
      have h01 := snR_01 (σ 232) (sgl j) nm K
      rw [hr3.1]
      refine ⟨fun u => And.intro (by omega) (ih (m - 1) (x, (j : Int) + 1, r.2) (by omega) ⟨j + 1, by dsimp only; omega, by omega, ?_, i4.tr hr3.2⟩), fun u => And.intro (by omega) (And.intro (by omega) (ih (m - 1) (x + 1, (j : Int) + 1, r.2) (by omega) ⟨j + 1, by dsimp only; omega, by omega, ?_, i4.tr hr3.2⟩))⟩
      · dsimp only
        rw [sm, u, i3]; omega
      · dsimp only
        rw [sm, i3]; omega
theorem q_which {F : Nat} {σ : St} {slot : Int} (hF : 100 ≤ F) (h : GI F σ) : PP F (f_X6_which F 0 slot σ) (f_X7_which F 231 slot) := by
  have h60 := h.wf.ev60
  have h3b : 0 ≤ σ 232 3 ∧ σ 232 3 ≤ 40 ∧ σ 232 3 ≤ evN (σ 232) := by
    have := h.wf.1
    unfold Hd at this
    unfold evN
    omega
  unfold PP f_X6_which
  rcases may_gen (slot := slot) hF h with ⟨v, hv, hr, hm⟩ | ⟨s, K, nm, rfl, hs, hL, hK, hn, hok, hr, hm⟩
  · simp only [tt_gt, tt_sg, tt_ite, tt_ck, tt_lk, tt_ix, tt_bo, tt_by, tt_nz, tt_ob, tt_st, tt_cpk, tt_c1, tt_c2, tt_ca, tt_cb, tt_some, kd_231, kd_0, Nat.reduceAdd, true_and, and_true, true_implies, not_true_eq_false, false_implies, not_false_eq_true, true_or, or_true, hr]
    refine ⟨fun z => by omega, fun _ => ?_⟩
    unfold f_X7_which
    simp only [tt_ob, kd_231, true_and, tt_c2]
    refine hm.mono (fun r hr2 => ?_)
    simp only [tt_gt, tt_sg, tt_ite, tt_ck, tt_lk, tt_ix, tt_bo, tt_by, tt_nz, tt_ob, tt_st, tt_cpk, tt_c1, tt_c2, tt_ca, tt_cb, tt_some, kd_231, kd_0, Nat.reduceAdd, true_and, and_true, true_implies, not_true_eq_false, false_implies, not_false_eq_true, true_or, or_true]
    rw [hr2.1]
    exact ⟨fun z => by omega, fun _ => ⟨rfl, hr2.2⟩⟩
  · simp only [tt_gt, tt_sg, tt_ite, tt_ck, tt_lk, tt_ix, tt_bo, tt_by, tt_nz, tt_ob, tt_st, tt_cpk, tt_c1, tt_c2, tt_ca, tt_cb, tt_some, kd_231, kd_0, Nat.reduceAdd, true_and, and_true, true_implies, not_true_eq_false, false_implies, not_false_eq_true, true_or, or_true, hr, eq_self]
    have key : ∀ (τ : St) (a : Int), QB σ τ → Fst (fun e => snR (σ 232) (sgl e) nm K = 1) (σ 232 3).toNat a → TT (f_X7_which F 231 s τ) (fun r' => a = r'.1 ∧ GI F r'.2) := by
      intro τ a hq hA
      unfold f_X7_which
      simp only [tt_ob, kd_231, true_and, tt_c2]
      refine (hm τ hq).mono (fun r hr3 => ?_)
      simp only [tt_gt, tt_sg, tt_ite, tt_ck, tt_lk, tt_ix, tt_bo, tt_by, tt_nz, tt_ob, tt_st, tt_cpk, tt_c1, tt_c2, tt_ca, tt_cb, tt_some, kd_231, kd_0, Nat.reduceAdd, true_and, and_true, true_implies, not_true_eq_false, false_implies, not_false_eq_true, true_or, or_true]
      rw [hr3.1]
      exact ⟨fun _ => ⟨hA.one hr3.2.2.2.1, hr3.2.1⟩, fun z => absurd (by decide) z⟩
    refine lp_w (L := fun n (p : Int × St) => f_X6_which_L14 F 0 s n p.1 p.2) (fun m p => ∃ j : Nat, p.1 = j ∧ (j : Int) + m = σ 232 3 ∧ (∀ i, i < j → ¬ snR (σ 232) (sgl i) nm K = 1) ∧ QB σ p.2) (fun m n p hI ih => ?_) (σ 232 3).toNat F (0, σ) (by omega) ⟨0, rfl, by omega, fun i hi => absurd hi (Nat.not_lt_zero i), QB.rf⟩
    obtain ⟨i, τ⟩ := p
    dsimp only at hI ih ⊢
    obtain ⟨j, rfl, i2, i3, i4⟩ := hI
    have S2 := h.sc.qb i4
    have e3 := S2.1 3 (by decide) (by decide)
    rw [f_X6_which_L14]
    simp only [tt_gt, tt_sg, tt_ite, tt_ck, tt_lk, tt_ix, tt_bo, tt_by, tt_nz, tt_ob, tt_st, tt_cpk, tt_c1, tt_c2, tt_ca, tt_cb, tt_some, kd_231, kd_0, Nat.reduceAdd, true_and, and_true, true_implies, not_true_eq_false, false_implies, not_false_eq_true, true_or, or_true, Nat.zero_add, e3, Int.toNat_natCast]
    refine ⟨fun z => key τ _ i4 (Or.inl ⟨rfl, fun i hi => i3 i (by omega)⟩), fun z => And.intro (by omega) ?_⟩
    refine (seen_c (g := sgl j) (nm := nm) (K := K) hF h.wf S2 (kd_sl s hs).1 (by omega) (by rw [i4 (223 + 2 * s) (by omega)]; exact hL) hK (fun i i1 i2 => by rw [i4 (223 + 2 * s + 1) (by omega)]; exact hn i i1 i2) hok (lOut_1 (by omega) (by omega))).mono (fun r hr3 => ?_)
    have h01 := snR_01 (σ 232) (sgl j) nm K
    rw [hr3.1]
    refine ⟨fun u => And.intro (by omega) (ih (m - 1) ((j : Int) + 1, r.2) (by omega) ⟨j + 1, by dsimp only; omega, by omega, fun i hi y => ?_, i4.tr hr3.2⟩), fun u => key r.2 _ (i4.tr hr3.2) (Or.inr ⟨j, by omega, rfl, by omega, i3⟩)⟩
    by_cases b : i = j
    · rw [b] at y; omega
    · exact i3 i (by omega) y
theorem q_plain {F : Nat} {σ : St} {slot : Int} (hF : 100 ≤ F) (h : GI F σ) : PP F (f_X6_plain F 0 slot σ) (f_X7_plain F 231 slot) := by
  have h60 := h.wf.ev60
  unfold PP f_X6_plain
  rcases may_gen (slot := slot) hF h with ⟨v, hv, hr, hm⟩ | ⟨s, K, nm, rfl, hs, hL, hK, hn, hok, hr, hm⟩
  · simp only [tt_gt, tt_sg, tt_ite, tt_ck, tt_lk, tt_ix, tt_bo, tt_by, tt_nz, tt_ob, tt_st, tt_cpk, tt_c1, tt_c2, tt_ca, tt_cb, tt_some, kd_231, kd_0, Nat.reduceAdd, true_and, and_true, true_implies, not_true_eq_false, false_implies, not_false_eq_true, true_or, or_true, hr]
    refine ⟨fun z => by omega, fun _ => ?_⟩
    unfold f_X7_plain
    simp only [tt_ob, kd_231, true_and, tt_c2]
    refine hm.mono (fun r hr2 => ?_)
    simp only [tt_gt, tt_sg, tt_ite, tt_ck, tt_lk, tt_ix, tt_bo, tt_by, tt_nz, tt_ob, tt_st, tt_cpk, tt_c1, tt_c2, tt_ca, tt_cb, tt_some, kd_231, kd_0, Nat.reduceAdd, true_and, and_true, true_implies, not_true_eq_false, false_implies, not_false_eq_true, true_or, or_true]
    rw [hr2.1]
    exact ⟨fun z => by omega, fun _ => ⟨rfl, hr2.2⟩⟩
  · simp only [tt_gt, tt_sg, tt_ite, tt_ck, tt_lk, tt_ix, tt_bo, tt_by, tt_nz, tt_ob, tt_st, tt_cpk, tt_c1, tt_c2, tt_ca, tt_cb, tt_some, kd_231, kd_0, Nat.reduceAdd, true_and, and_true, true_implies, not_true_eq_false, false_implies, not_false_eq_true, true_or, or_true, Nat.zero_add, hr, eq_self, Int.toNat_natCast]
    refine And.intro (by omega) ?_
    refine (seen_c (g := fun _ => 0) (nm := nm) (K := K) hF h.wf h.sc (kd_sl s hs).1 (by omega) hL hK hn hok (lOut_0 (by omega))).mono (fun r hr3 => ?_)
    have h01 := snR_01 (σ 232) (fun _ => 0) nm K
    have key : ∀ a : Int, a = snR (σ 232) (fun _ => 0) nm K → TT (f_X7_plain F 231 s r.2) (fun r' => a = r'.1 ∧ GI F r'.2) := by
      intro a hA
      unfold f_X7_plain
      simp only [tt_ob, kd_231, true_and, tt_c2]
      refine (hm r.2 hr3.2).mono (fun r2 hr4 => ?_)
      simp only [tt_gt, tt_sg, tt_ite, tt_ck, tt_lk, tt_ix, tt_bo, tt_by, tt_nz, tt_ob, tt_st, tt_cpk, tt_c1, tt_c2, tt_ca, tt_cb, tt_some, kd_231, kd_0, Nat.reduceAdd, true_and, and_true, true_implies, not_true_eq_false, false_implies, not_false_eq_true, true_or, or_true]
      rw [hr4.1]
      exact ⟨fun _ => ⟨by rw [hA, hr4.2.2.2.2], hr4.2.1⟩, fun z => absurd (by decide) z⟩
    rw [hr3.1]
    exact ⟨fun u => key 0 u.symm, fun u => key 1 (by omega)⟩
