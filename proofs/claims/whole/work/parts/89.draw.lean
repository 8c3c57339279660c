def lcR (s : Int) : Nat → Int
  | 0 => s
  | i + 1 => (1103515245 * lcR s i + 12345).tmod 2147483648
theorem lcR_rng {s : Int} (hs : 0 ≤ s ∧ s < 2147483648) : ∀ i : Nat, 0 ≤ lcR s i ∧ lcR s i < 2147483648
  | 0 => hs
  | i + 1 => by
    have := lcR_rng hs i
    rw [lcR, Int.tmod_eq_emod_of_nonneg (by omega)]
    omega
def dgR (w : Int → Int) (s : Int) : Int → Int := fun e => if ((lcR s (e.toNat + 1)).tdiv 65536).tmod 10 < w 2 then 1 else 0
theorem dgR_01 (w : Int → Int) (s e : Int) : dgR w s e = 0 ∨ dgR w s e = 1 := by
  unfold dgR
  split
  · exact Or.inr rfl
  · exact Or.inl rfl
theorem cmp_ge {a b : Int} : 0 ≤ z_cmp a b ↔ b ≤ a := by
  unfold z_cmp
  split
  · exact ⟨fun _ => by omega, fun _ => by decide⟩
  · split
    · exact ⟨fun _ => by omega, fun _ => by decide⟩
    · exact ⟨fun z => absurd z (by decide), fun z => by omega⟩
theorem do_ok {F : Nat} {w : Int → Int} {s : Int} {σ : St} (hF : 100 ≤ F) (hw : WF w) (hS : SR 4 σ w) (hs : 0 ≤ s ∧ s < 2147483648) : TT (f_X6_drawOut F 0 s σ) (fun o => ∀ e : Nat, e < 64 → (lbt o e ↔ (e : Int) < evN w ∧ dgR w s e = 1)) := by
  have h60 := hw.ev60
  have e2 := hS.1 2 (by decide) (by decide)
  unfold f_X6_drawOut
  simp only [tt_gt, tt_sg, tt_ite, tt_ck, tt_lk, tt_ix, tt_bo, tt_by, tt_nz, tt_ob, tt_st, tt_cpk, tt_c1, tt_c2, tt_ca, tt_cb, tt_some, kd_231, kd_0, Nat.reduceAdd, true_and, and_true, true_implies, not_true_eq_false, false_implies, not_false_eq_true, true_or, or_true]
  refine lp_w (L := fun n (p : Int × Int × Int) => f_X6_drawOut_L8 F 0 s σ n p.1 p.2.1 p.2.2) (fun m p => ∃ j : Nat, p.2.2 = j ∧ (j : Int) + m = evN w ∧ p.2.1 = lcR s j ∧ ∀ e : Nat, e < 64 → (lbt p.1 e ↔ e < j ∧ dgR w s e = 1)) (fun m n p hI ih => ?_) (evN w).toNat F (0, s, 0) (by omega) ⟨0, rfl, by omega, rfl, fun e he => ⟨fun z => absurd z (lbt_zero ⟨by omega, by omega⟩), fun z => absurd z.1 (Nat.not_lt_zero e)⟩⟩
  obtain ⟨o, x, i⟩ := p
  dsimp only at hI ih ⊢
  obtain ⟨j, rfl, i2, i3, i4⟩ := hI
  have hr := lcR_rng hs j
  have hr2 := lcR_rng hs (j + 1)
  rw [← i3] at hr
  have hd : 0 ≤ (lcR s (j + 1)).tdiv 65536 ∧ (lcR s (j + 1)).tdiv 65536 < 2147483648 := by
    rw [Int.tdiv_eq_ediv_of_nonneg hr2.1]
    omega
  have en : lcR s (j + 1) = (1103515245 * x + 12345).tmod 2147483648 := by rw [lcR, i3]
  rw [f_X6_drawOut_L8]
  simp only [tt_gt, tt_sg, tt_ite, tt_ck, tt_lk, tt_ix, tt_bo, tt_by, tt_nz, tt_ob, tt_st, tt_cpk, tt_c1, tt_c2, tt_ca, tt_cb, tt_some, kd_231, kd_0, Nat.reduceAdd, true_and, and_true, true_implies, not_true_eq_false, false_implies, not_false_eq_true, true_or, or_true, Nat.zero_add, e4_size (F := F) (s := 4) rfl hS hw, e2, ← en, cmp_ge]
  have hdg : dgR w s j = if ((lcR s (j + 1)).tdiv 65536).tmod 10 < w 2 then 1 else 0 := by
    unfold dgR
    rw [Int.toNat_natCast]
  refine ⟨fun z e he => ?_, fun z => And.intro (by omega) (And.intro (by omega) (And.intro (by decide) (And.intro (by decide) (And.intro (by omega) (And.intro (by decide) ⟨fun u => And.intro (by omega) (ih (m - 1) (o, lcR s (j + 1), (j : Int) + 1) (by omega) ⟨j + 1, by dsimp only; omega, by omega, rfl, fun e he => ?_⟩), fun u => And.intro (by omega) (ih (m - 1) (z_lor o (z_lshl 1 j), lcR s (j + 1), (j : Int) + 1) (by omega) ⟨j + 1, by dsimp only; omega, by omega, rfl, fun e he => ?_⟩)⟩)))))⟩
  · rw [i4 e he]
    exact ⟨fun y => ⟨by omega, y.2⟩, fun y => ⟨by omega, y.2⟩⟩
  · rw [if_neg (by omega)] at hdg
    dsimp only
    rw [i4 e he]
    refine ⟨fun y => ⟨by omega, y.2⟩, fun y => ⟨?_, y.2⟩⟩
    by_cases b : e = j
    · rw [b] at y; omega
    · omega
  · rw [if_pos (by omega)] at hdg
    dsimp only
    rw [lbt_or ⟨by omega, by omega⟩, i4 e he, lbt_one ⟨by omega, by omega⟩ ⟨by omega, by omega⟩]
    constructor
    · rintro (y | y)
      · exact ⟨by omega, y.2⟩
      · have : e = j := by omega
        rw [this]
        exact ⟨by omega, hdg⟩
    · intro y
      by_cases b : e = j
      · exact Or.inr (by omega)
      · exact Or.inl ⟨by omega, y.2⟩
theorem do_lout {w : Int → Int} {s o : Int} (hw : WF w) (h : ∀ e : Nat, e < 64 → (lbt o e ↔ (e : Int) < evN w ∧ dgR w s e = 1)) : lOut o (dgR w s) (evN w) := fun e e1 e2 => by
  have h60 := hw.ev60
  have := h e.toNat (by omega)
  rw [show ((e.toNat : Nat) : Int) = e by omega] at this
  rw [this]
  have h01 := dgR_01 w s e
  exact ⟨fun z => by omega, fun z => ⟨e2, by omega⟩⟩
theorem gd_ok {F : Nat} {w : Int → Int} {s : Int} {τ : St} (hF : 100 ≤ F) (hw : WF w) (h2 : τ 232 = w) (hs : 0 ≤ s ∧ s < 2147483648) : TT (f_X7_goDrawn F 231 s τ) (fun r => r.1 = sm (fun e => dgR w s e) (evN w).toNat ∧ QM τ r.2 ∧ Kn w (dgR w s) r.2 ∧ ∃ α, Gd w (dgR w s) (evN w).toNat α ∧ r.2 = ItG F (w 1) (evN w).toNat α) := by
  have h60 := hw.ev60
  unfold f_X7_goDrawn
  simp only [tt_ob, kd_231, true_and, tt_c1, tt_gt]
  refine (ng_ok hF).mono (fun τ1 h1 => ?_)
  refine lp_w (L := fun n (p : Int × Int × Int × St) => f_X7_goDrawn_L12 F 231 s n p.1 p.2.1 p.2.2.1 p.2.2.2) (fun m p => ∃ j : Nat, p.2.2.1 = j ∧ (j : Int) + m = evN w ∧ p.1 = lcR s j ∧ p.2.1 = sm (fun e => dgR w s e) j ∧ (∀ k, k ≠ 238 → p.2.2.2 k = τ k) ∧ ∀ e : Nat, e < j → p.2.2.2 238 e = dgR w s e) (fun m n p hI ih => ?_) (evN w).toNat F (s, 0, 0, τ1) (by omega) ⟨0, rfl, by omega, rfl, rfl, fun k hk => h1.1 k hk, fun e he => absurd he (Nat.not_lt_zero e)⟩
  obtain ⟨x, y, i, τ2⟩ := p
  dsimp only at hI ih ⊢
  obtain ⟨j, rfl, i2, i3, i4, i5, i6⟩ := hI
  have e32 : τ2 232 = w := (i5 232 (by decide)).trans h2
  have ee := e_events (F := F) (σ := τ2) (by rw [e32]; exact hw.1)
  rw [e32] at ee
  have hr := lcR_rng hs j
  have hr2 := lcR_rng hs (j + 1)
  rw [← i3] at hr
  have hd : 0 ≤ (lcR s (j + 1)).tdiv 65536 ∧ (lcR s (j + 1)).tdiv 65536 < 2147483648 := by
    rw [Int.tdiv_eq_ediv_of_nonneg hr2.1]
    omega
  have en : lcR s (j + 1) = (1103515245 * x + 12345).tmod 2147483648 := by rw [lcR, i3]
  have hy := sm_rng (f := fun e => dgR w s e) (M := 1) j (fun i _ => by have := dgR_01 w s i; omega)
  rw [← i4] at hy
  rw [f_X7_goDrawn_L12]
  simp only [tt_gt, tt_sg, tt_ite, tt_ck, tt_lk, tt_ix, tt_bo, tt_by, tt_nz, tt_ob, tt_st, tt_cpk, tt_c1, tt_c2, tt_ca, tt_cb, tt_some, kd_231, kd_0, Nat.reduceAdd, true_and, and_true, true_implies, not_true_eq_false, false_implies, not_false_eq_true, true_or, or_true, ee, e32, ← en, cmp_ge]
  have hdg : dgR w s j = if ((lcR s (j + 1)).tdiv 65536).tmod 10 < w 2 then 1 else 0 := by
    unfold dgR
    rw [Int.toNat_natCast]
  refine ⟨fun z => And.intro (by omega) ?_, fun z => And.intro (by omega) (And.intro (by omega) (And.intro (by decide) (And.intro (by decide) (And.intro (by omega) (And.intro (by decide) (And.intro (by omega) ?_))))))⟩
  · refine (layAll_Laid (g := dgR w s) (l := w 1) hF hw e32 (fun e e1 e2 => ?_)).mono (fun ν h3 => ⟨by rw [i4, show (evN w).toNat = j by omega], ?_, h3.kn hF hw e32, h3.ex⟩)
    · have := i6 e.toNat (by omega)
      rw [show ((e.toNat : Nat) : Int) = e by omega] at this
      exact this
    · have q1 : QM τ τ2 := ⟨fun k hk => i5 k (by omega), fun k hk => i5 k (by omega), fun j hj => by rw [i5 231 (by decide)], fun hb => by rw [i5 251 (by decide)]; exact hb⟩
      exact q1.tr h3.qm
  · have step : ∀ v : Int, v = dgR w s j → TT (f_X7_goDrawn_J66 F 231 s (f_X7_goDrawn_L12 F 231 s n) (lcR s (j + 1)) y j v j 238 τ2) (fun r => r.1 = sm (fun e => dgR w s e) (evN w).toNat ∧ QM τ r.2 ∧ Kn w (dgR w s) r.2 ∧ ∃ α, Gd w (dgR w s) (evN w).toNat α ∧ r.2 = ItG F (w 1) (evN w).toNat α) := by
      intro v hv
      have h01 := dgR_01 w s j
      have e38 : z_up τ2 238 j v 238 j = v := by rw [up_eq]; exact if_pos rfl
      have I : ∀ y2 : Int, y2 = y + v → ∃ j' : Nat, ((j : Int) + 1) = j' ∧ (j' : Int) + (m - 1 : Nat) = evN w ∧ lcR s (j + 1) = lcR s j' ∧ y2 = sm (fun e => dgR w s e) j' ∧ (∀ k, k ≠ 238 → z_up τ2 238 j v k = τ k) ∧ ∀ e : Nat, e < j' → z_up τ2 238 j v 238 e = dgR w s e := fun y2 hy2 => by
        refine ⟨j + 1, by omega, by omega, rfl, by rw [hy2, sm, i4, hv], fun k hk => (up_ne hk).trans (i5 k hk), fun e he => ?_⟩
        rw [up_eq]
        dsimp only
        by_cases b : e = j
        · rw [if_pos (by omega), b, hv]
        · rw [if_neg (by omega)]
          exact i6 e (by omega)
      unfold f_X7_goDrawn_J66
      simp only [tt_gt, tt_sg, tt_ite, tt_ck, tt_lk, tt_ix, tt_bo, tt_by, tt_nz, tt_ob, tt_st, tt_cpk, tt_c1, tt_c2, tt_ca, tt_cb, tt_some, kd_231, kd_0, Nat.reduceAdd, true_and, and_true, true_implies, not_true_eq_false, false_implies, not_false_eq_true, true_or, or_true, show lnX 238 = 60 from rfl, e38]
      refine And.intro (by omega) (And.intro (by omega) (And.intro (by omega) ⟨fun u => And.intro (by omega) (And.intro (by omega) (ih (m - 1) (lcR s (j + 1), y + 0, (j : Int) + 1, z_up τ2 238 j v) (by omega) (I (y + 0) (by omega)))), fun u => And.intro (by omega) (And.intro (by omega) (ih (m - 1) (lcR s (j + 1), y + 1, (j : Int) + 1, z_up τ2 238 j v) (by omega) (I (y + 1) (by omega))))⟩))
    refine ⟨fun u => step 0 ?_, fun u => step 1 ?_⟩
    · rw [hdg, if_neg (by omega)]
    · rw [hdg, if_pos (by omega)]
theorem e6_isSeed {F : Nat} {σ : St} {s : Int} : f_X6_isSeed F s σ = some (if 0 ≤ s ∧ s ≤ 2000000000 then 1 else 0) := by
  apply TT.eq
  unfold f_X6_isSeed
  simp only [tt_gt, tt_sg, tt_ite, tt_ck, tt_lk, tt_ix, tt_bo, tt_by, tt_nz, tt_ob, tt_st, tt_cpk, tt_c1, tt_c2, tt_ca, tt_cb, tt_some, kd_231, kd_0, Nat.reduceAdd, true_and, and_true, true_implies, not_true_eq_false, false_implies, not_false_eq_true, true_or, or_true]
  refine ⟨fun q => ?_, fun q => ⟨fun q2 => ?_, fun q2 => ?_⟩⟩
  · rw [if_neg (by omega)]
  · rw [if_neg (by omega)]
  · rw [if_pos (by omega)]
theorem e7_isSeed {F : Nat} {σ : St} {s : Int} : f_X7_isSeed F s σ = some (if 0 ≤ s ∧ s ≤ 2000000000 then 1 else 0) := by
  apply TT.eq
  unfold f_X7_isSeed
  simp only [tt_gt, tt_sg, tt_ite, tt_ck, tt_lk, tt_ix, tt_bo, tt_by, tt_nz, tt_ob, tt_st, tt_cpk, tt_c1, tt_c2, tt_ca, tt_cb, tt_some, kd_231, kd_0, Nat.reduceAdd, true_and, and_true, true_implies, not_true_eq_false, false_implies, not_false_eq_true, true_or, or_true, e_in]
  split
  · exact Or.inr rfl
  · exact Or.inl rfl
theorem q_drawn {F : Nat} {σ : St} {s what : Int} (hF : 100 ≤ F) (h : GI F σ) : PP F (f_X6_drawn F 0 s what σ) (f_X7_drawn F 231 s what) := by
  have h60 := h.wf.ev60
  have hw0 : 0 ≤ σ 232 0 ∧ σ 232 0 ≤ 32 := ⟨h.wf.1.1, h.wf.1.2.1⟩
  have h0 := h.sc.1 0 (by decide) (by decide)
  have hst := h.wf.st
  have hN : (((evN (σ 232)).toNat : Nat) : Int) = evN (σ 232) := by omega
  have neg : ¬ (0 < σ 232 5 ∧ (0 ≤ s ∧ s ≤ 2000000000) ∧ (0 ≤ what ∧ what ≤ 1)) → TT (f_X7_drawn F 231 s what σ) (fun r' => -2 = r'.1 ∧ GI F r'.2) := by
    intro q
    unfold f_X7_drawn
    simp only [tt_gt, tt_sg, tt_ite, tt_ck, tt_lk, tt_ix, tt_bo, tt_by, tt_nz, tt_ob, tt_st, tt_cpk, tt_c1, tt_c2, tt_ca, tt_cb, tt_some, kd_231, kd_0, Nat.reduceAdd, true_and, and_true, true_implies, not_true_eq_false, false_implies, not_false_eq_true, true_or, or_true, e_isStore, e7_isSeed, e_in]
    by_cases q5 : 0 < σ 232 5
    · rw [if_pos q5]
      refine ⟨fun z => absurd z (by decide), fun _ => ?_⟩
      by_cases q6 : 0 ≤ s ∧ s ≤ 2000000000
      · rw [if_pos q6, if_neg (fun z => q ⟨q5, q6, z⟩)]
        exact ⟨fun z => absurd z (by decide), fun _ => ⟨fun z => absurd rfl z, fun _ => h⟩⟩
      · rw [if_neg q6]
        exact ⟨fun _ => h, fun z => absurd rfl z⟩
    · rw [if_neg q5]
      exact ⟨fun _ => h, fun z => absurd rfl z⟩
  unfold PP f_X6_drawn
  simp only [tt_ob, kd_0, true_and, tt_c1, Nat.zero_add, e4_exists (F := F) (s := 4) (σ := σ) rfl, h0, tt_some, tt_ite, tt_gt, tt_c2, e6_isSeed]
  refine ⟨fun z => neg (fun y => ?_), fun z1 => ⟨fun z => neg (fun y => ?_), fun z2 => ⟨fun z => neg (fun y => by omega), fun z3 => ⟨fun z4 => ?_, fun z => neg (fun y => by omega)⟩⟩⟩⟩
  · rw [if_pos (by omega)] at z; exact absurd z (by decide)
  · rw [if_pos y.2.1] at z; exact absurd z (by decide)
  · have q5 : 0 < σ 232 5 := Classical.byContradiction fun y => z1 (by rw [if_neg (by omega)])
    have q6 : 0 ≤ s ∧ s ≤ 2000000000 := Classical.byContradiction fun y => z2 (if_neg y)
    refine (do_ok (s := s) hF h.wf h.sc (by omega)).mono (fun o ho => ?_)
    have mo : ∀ (τ : St) (a : Int), QT σ τ → ((what = 0 → a = sm (fun e => dgR (σ 232) s e) (evN (σ 232)).toNat) ∧ (what ≠ 0 → ∀ α, Gd (σ 232) (dgR (σ 232) s) (evN (σ 232)).toNat α → a = sm (fun i => if baseR (ItG F (σ 232 1) (evN (σ 232)).toNat α) (evN (σ 232)).toNat ≤ latR (ItG F (σ 232 1) (evN (σ 232)).toNat α 240) (0 + (i : Int)) (evN (σ 232)).toNat then 1 else 0) (σ 232 0).toNat)) → TT (f_X7_drawn F 231 s what τ) (fun r' => a = r'.1 ∧ GI F r'.2) := by
      intro τ a hq hA
      have e1 : τ 232 = σ 232 := hq 232 (by omega)
      have es := e_isStore (F := F) (σ := τ)
      rw [e1, if_pos q5] at es
      unfold f_X7_drawn
      simp only [tt_gt, tt_sg, tt_ite, tt_ck, tt_lk, tt_ix, tt_bo, tt_by, tt_nz, tt_ob, tt_st, tt_cpk, tt_c1, tt_c2, tt_ca, tt_cb, tt_some, kd_231, kd_0, Nat.reduceAdd, true_and, and_true, true_implies, not_true_eq_false, false_implies, not_false_eq_true, true_or, or_true, es, e7_isSeed, if_pos q6, one0, e_in, if_pos (show 0 ≤ what ∧ what ≤ 1 by omega)]
      refine (gd_ok (s := s) hF h.wf e1 (by omega)).mono (fun r hr => ?_)
      obtain ⟨r1, r2, r3, α, hα, r5⟩ := hr
      have e3 : r.2 232 = σ 232 := (r2.hi 232 (by omega)).trans e1
      have ee := e_events (F := F) (σ := r.2) (by rw [e3]; exact h.wf.1)
      rw [e3] at ee
      refine ⟨fun u => ?_, fun u => ⟨by rw [hA.1 (Classical.byContradiction u), r1], h.q2 hF hq r2⟩⟩
      rw [ee, tt_some]
      have dd := dF_ok (F := F) (ν := r.2) (lo := 0) (hi := 32) (T := (evN (σ 232)).toNat) hF e3 hw0 (by omega) (r3.mi.n30 (by omega)) (by omega)
      rw [hN] at dd
      refine dd.mono (fun v hv => ⟨?_, h.q2 hF hq r2⟩)
      rw [hA.2 u α hα, hv, ← r5, hN]
      congr 1
      split <;> omega
    refine ⟨fun u => ?_, fun u => ?_⟩
    · refine (pw_ok (g := dgR (σ 232) s) hF h.wf h.sc (do_lout h.wf ho)).mono (fun σ1 h1 => ?_)
      rw [bitc_ok, tt_some]
      refine mo σ1 _ h1.2.1 ⟨fun y => absurd y u, fun _ α hα => ?_⟩
      have hC := h1.1 α hα
      refine bc_eq (by omega) (fun c hc => ?_) (fun c c1 c2 y => ?_)
      · have d1 := hC.dt c (by omega) (by omega)
        rw [Int.zero_add]
        by_cases b : baseR (ItG F (σ 232 1) (evN (σ 232)).toNat α) (evN (σ 232)).toNat ≤ latR (ItG F (σ 232 1) (evN (σ 232)).toNat α 240) c (evN (σ 232)).toNat
        · rw [if_pos b, if_pos (d1.mpr ⟨by omega, b⟩)]
        · rw [if_neg b, if_neg (fun y => b (d1.mp y).2)]
      · have := ((hC.dt c (by omega) (by omega)).mp y).1
        omega
    · rw [lbitc_ok, tt_some]
      refine mo σ _ QT.rf ⟨fun _ => ?_, fun y => absurd y u⟩
      refine lbc_sm (by omega) (fun i hi => ?_) (fun i i1 i2 y => ?_)
      · have h1 := ho i (by omega)
        have h01 := dgR_01 (σ 232) s i
        rcases h01 with b | b
        · exact Or.inr ⟨b, fun y => by have := (h1.mp y).2; omega⟩
        · exact Or.inl ⟨b, h1.mpr ⟨by omega, b⟩⟩
      · have := ((ho i i2).mp y).1
        omega
def lkD (F : Nat) (w : Int → Int) (s c : Int) : Int := if baseR (tri F w (dgR w s) (w 1)) (evN w).toNat ≤ latR (tri F w (dgR w s) (w 1) 240) c (evN w).toNat then 1 else 0
theorem q_luck {F : Nat} {σ : St} {s n c : Int} (hF : 100 ≤ F) (h : GI F σ) : PP F (f_X6_luck F 0 s n c σ) (f_X7_luck F 231 s n c) := by
  have h60 := h.wf.ev60
  have hw0 : 0 ≤ σ 232 0 ∧ σ 232 0 ≤ 32 := ⟨h.wf.1.1, h.wf.1.2.1⟩
  have hw1 : 0 ≤ σ 232 1 ∧ σ 232 1 ≤ 3 := ⟨h.wf.1.2.2.1, h.wf.1.2.2.2.1⟩
  have hN : (((evN (σ 232)).toNat : Nat) : Int) = evN (σ 232) := by omega
  have hc := e6_hasCell (F := F) (c := c) h.sc
  have neg : ¬ ((0 ≤ c ∧ c < σ 232 0) ∧ (0 ≤ s ∧ s ≤ 2000000000) ∧ (1 ≤ n ∧ n ≤ 20)) → TT (f_X7_luck F 231 s n c σ) (fun r' => -2 = r'.1 ∧ GI F r'.2) := by
    intro q
    unfold f_X7_luck
    simp only [tt_gt, tt_sg, tt_ite, tt_ck, tt_lk, tt_ix, tt_bo, tt_by, tt_nz, tt_ob, tt_st, tt_cpk, tt_c1, tt_c2, tt_ca, tt_cb, tt_some, kd_231, kd_0, Nat.reduceAdd, true_and, and_true, true_implies, not_true_eq_false, false_implies, not_false_eq_true, true_or, or_true, e_isCell h.wf.1, e7_isSeed, e_in]
    by_cases q5 : 0 ≤ c ∧ c < σ 232 0
    · rw [if_pos q5]
      refine ⟨fun z => absurd z (by decide), fun _ => ?_⟩
      by_cases q6 : 0 ≤ s ∧ s ≤ 2000000000
      · rw [if_pos q6, if_neg (fun z => q ⟨q5, q6, z⟩)]
        exact ⟨fun z => absurd z (by decide), fun _ => ⟨fun z => absurd rfl z, fun _ => h⟩⟩
      · rw [if_neg q6]
        exact ⟨fun _ => h, fun z => absurd rfl z⟩
    · rw [if_neg q5]
      exact ⟨fun _ => h, fun z => absurd rfl z⟩
  unfold PP f_X6_luck
  simp only [tt_gt, tt_sg, tt_ite, tt_ck, tt_lk, tt_ix, tt_bo, tt_by, tt_nz, tt_ob, tt_st, tt_cpk, tt_c1, tt_c2, tt_ca, tt_cb, tt_some, kd_231, kd_0, Nat.reduceAdd, true_and, and_true, true_implies, not_true_eq_false, false_implies, not_false_eq_true, true_or, or_true, hc, e6_isSeed]
  refine ⟨fun z => neg (fun y => ?_), fun z1 => ⟨fun z => neg (fun y => ?_), fun z2 => ⟨fun z => neg (fun y => by omega), fun z3 => ⟨fun z4 => ?_, fun z => neg (fun y => by omega)⟩⟩⟩⟩
  · rw [if_pos y.1] at z; exact absurd z (by decide)
  · rw [if_pos y.2.1] at z; exact absurd z (by decide)
  · have q5 : 0 ≤ c ∧ c < σ 232 0 := Classical.byContradiction fun y => z1 (if_neg y)
    have q6 : 0 ≤ s ∧ s ≤ 2000000000 := Classical.byContradiction fun y => z2 (if_neg y)
    obtain ⟨K, rfl⟩ : ∃ K : Nat, n = K := ⟨n.toNat, by omega⟩
    have rD : ∀ j : Nat, 0 ≤ sm (fun i => lkD F (σ 232) (s + i) c) j ∧ sm (fun i => lkD F (σ 232) (s + i) c) j ≤ j := fun j => by
      have := sm_rng (f := fun i => lkD F (σ 232) (s + (i : Int)) c) (M := 1) j (fun i _ => by unfold lkD; split <;> omega)
      omega
    have key : ∀ τ : St, QT σ τ → TT (f_X7_luck F 231 s K c τ) (fun r' => sm (fun i => lkD F (σ 232) (s + i) c) K = r'.1 ∧ GI F r'.2) := by
      intro τ hq
      have e1 : τ 232 = σ 232 := hq 232 (by omega)
      have ec := e_isCell (F := F) (σ := τ) (by rw [e1]; exact h.wf.1) c
      rw [e1, if_pos q5] at ec
      unfold f_X7_luck
      simp only [tt_gt, tt_sg, tt_ite, tt_ck, tt_lk, tt_ix, tt_bo, tt_by, tt_nz, tt_ob, tt_st, tt_cpk, tt_c1, tt_c2, tt_ca, tt_cb, tt_some, kd_231, kd_0, Nat.reduceAdd, true_and, and_true, true_implies, not_true_eq_false, false_implies, not_false_eq_true, true_or, or_true, ec, e7_isSeed, if_pos q6, one0, e_in, if_pos (show 1 ≤ (K : Int) ∧ (K : Int) ≤ 20 by omega)]
      refine lp_w (L := fun n (p : Int × Int × St) => f_X7_luck_L37 F 231 s K c n p.1 p.2.1 p.2.2) (fun m p => ∃ j : Nat, p.2.1 = j ∧ j + m = K ∧ p.1 = sm (fun i => lkD F (σ 232) (s + i) c) j ∧ QM τ p.2.2) (fun m n p hI ih => ?_) K F (0, 0, τ) (by omega) ⟨0, rfl, by omega, rfl, QM.rf⟩
      obtain ⟨x, i, τ2⟩ := p
      dsimp only at hI ih ⊢
      obtain ⟨j, rfl, i2, i3, i4⟩ := hI
      have r0 := rD j
      rw [← i3] at r0
      rw [f_X7_luck_L37]
      simp only [tt_gt, tt_sg, tt_ite, tt_ck, tt_lk, tt_ix, tt_bo, tt_by, tt_nz, tt_ob, tt_st, tt_cpk, tt_c1, tt_c2, tt_ca, tt_cb, tt_some, kd_231, kd_0, Nat.reduceAdd, true_and, and_true, true_implies, not_true_eq_false, false_implies, not_false_eq_true, true_or, or_true]
      refine ⟨fun u => ⟨by rw [i3, show K = j by omega], h.q2 hF hq i4⟩, fun u => And.intro (by omega) ?_⟩
      refine (gd_ok (s := s + j) hF h.wf ((i4.hi 232 (by omega)).trans e1) (by omega)).mono (fun r hr => ?_)
      obtain ⟨r1, r2, r3, α, hα, r5⟩ := hr
      have e3 : r.2 232 = σ 232 := (r2.hi 232 (by omega)).trans ((i4.hi 232 (by omega)).trans e1)
      have ee := e_events (F := F) (σ := r.2) (by rw [e3]; exact h.wf.1)
      rw [e3] at ee
      rw [ee, tt_some]
      have n30 := r3.mi.n30 (by omega)
      have dd := e_isDirtyAt (F := F) (σ := r.2) (c := c) hF ⟨q5.1, by omega⟩ (evN (σ 232)).toNat (by omega) ⟨n30.1, by omega⟩
      rw [hN] at dd
      obtain ⟨o, -, ho⟩ := do_ok (F := F) (s := s + j) hF h.wf h.sc (by omega)
      obtain ⟨σ', g1, g2⟩ := tri_eq (F := F) (l := σ 232 1) hF h.wf h.sc hw1 (do_lout h.wf ho) hα
      rw [← r5] at g1
      have hde := dr_eq g1 g2 (c := c) ⟨q5.1, by omega⟩ q5.2
      refine dd.mono (fun v hv => ?_)
      rcases hv with ⟨rfl, hv⟩ | ⟨rfl, hv⟩
      · refine ⟨fun z => absurd z (by decide), fun _ => And.intro (by omega) (And.intro (by omega) (ih (m - 1) (x + 1, (j : Int) + 1, r.2) (by omega) ⟨j + 1, by dsimp only; omega, by omega, ?_, i4.tr r2⟩))⟩
        dsimp only
        rw [sm, i3]
        have : lkD F (σ 232) (s + j) c = 1 := if_pos (hde.mp hv)
        rw [this]
      · refine ⟨fun _ => And.intro (by omega) (And.intro (by omega) (ih (m - 1) (x + 0, (j : Int) + 1, r.2) (by omega) ⟨j + 1, by dsimp only; omega, by omega, ?_, i4.tr r2⟩)), fun z => absurd rfl z⟩
        dsimp only
        rw [sm, i3]
        have : lkD F (σ 232) (s + j) c = 0 := if_neg (fun y => hv (hde.mpr y))
        rw [this]
    refine lp_w (L := fun n (p : Int × Int × St) => f_X6_luck_L35 F 0 s K c n p.1 p.2.1 p.2.2) (fun m p => ∃ j : Nat, p.2.1 = j ∧ j + m = K ∧ p.1 = sm (fun i => lkD F (σ 232) (s + i) c) j ∧ QT σ p.2.2) (fun m n p hI ih => ?_) K F (0, 0, σ) (by omega) ⟨0, rfl, by omega, rfl, QT.rf⟩
    obtain ⟨x, i, τ⟩ := p
    dsimp only at hI ih ⊢
    obtain ⟨j, rfl, i2, i3, i4⟩ := hI
    have r0 := rD j
    rw [← i3] at r0
    rw [f_X6_luck_L35]
    simp only [tt_gt, tt_sg, tt_ite, tt_ck, tt_lk, tt_ix, tt_bo, tt_by, tt_nz, tt_ob, tt_st, tt_cpk, tt_c1, tt_c2, tt_ca, tt_cb, tt_some, kd_231, kd_0, Nat.reduceAdd, true_and, and_true, true_implies, not_true_eq_false, false_implies, not_false_eq_true, true_or, or_true, Nat.zero_add]
    refine ⟨fun u => ?_, fun u => And.intro (by omega) ?_⟩
    · have := key τ i4
      rw [i3, show j = K by omega]
      exact this
    · refine (do_ok (s := s + j) hF h.wf (h.sc.qt i4) (by omega)).mono (fun o ho => ?_)
      refine (pw_ok (g := dgR (σ 232) (s + j)) hF h.wf (h.sc.qt i4) (do_lout h.wf ho)).mono (fun σ1 h1 => ?_)
      have hd := (h1.1 _ (cAl_gd _ h.wf)).dt c q5.1 (by omega)
      simp only [e6_holds, tt_some]
      by_cases b : bt (σ1 110 2) c
      · rw [if_pos b]
        refine ⟨fun z => absurd z (by decide), fun _ => And.intro (by omega) (And.intro (by omega) (ih (m - 1) (x + 1, (j : Int) + 1, σ1) (by omega) ⟨j + 1, by dsimp only; omega, by omega, ?_, i4.tr h1.2.1⟩))⟩
        dsimp only
        rw [sm, i3]
        have : lkD F (σ 232) (s + j) c = 1 := if_pos (hd.mp b).2
        rw [this]
      · rw [if_neg b]
        refine ⟨fun _ => And.intro (by omega) (ih (m - 1) (x, (j : Int) + 1, σ1) (by omega) ⟨j + 1, by dsimp only; omega, by omega, ?_, i4.tr h1.2.1⟩), fun z => absurd rfl z⟩
        dsimp only
        rw [sm, i3]
        have : lkD F (σ 232) (s + j) c = 0 := if_neg (fun y => b (hd.mpr ⟨q5.2, y⟩))
        rw [this]
        omega
