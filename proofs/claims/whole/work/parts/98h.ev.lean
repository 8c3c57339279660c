theorem gp_ft {w0 k a2 a3 a4 : Int} (k1 : 0 ≤ k) (k2 : k ≤ 8) : ((if z_nk k ≤ 0 then a2 = 0 else ftP w0 k 0 a2 a2) ∧ (if z_nk k ≤ 1 then a3 = 0 else ftP w0 k 1 a3 a2) ∧ (if z_nk k ≤ 2 then a4 = 0 else ftP w0 k 2 a4 a2)) ↔ gP w0 k a2 a3 a4 := by
  unfold ftP gP
  rw [nk_v k1 k2, if_pos (show (0 : Int) = 0 from rfl), if_neg (show ¬ (1 : Int) = 0 by decide), if_pos (show (1 : Int) = 1 from rfl), if_neg (show ¬ (2 : Int) = 0 by decide), if_neg (show ¬ (2 : Int) = 1 by decide)]
  have : k = 0 ∨ k = 1 ∨ k = 2 ∨ k = 3 ∨ k = 4 ∨ k = 5 ∨ k = 6 ∨ k = 7 ∨ k = 8 := by omega
  rcases this with z | z | z | z | z | z | z | z | z <;> subst z <;> simp only [Int.reduceLT, Int.reduceEq, Int.reduceLE, reduceIte, if_true, if_false, true_and, and_true, true_implies, false_implies, implies_true, not_true_eq_false, not_false_eq_true, false_and, and_false, or_false, false_or, or_true, true_or, Int.reduceNeg, Int.reduceSub, ne_eq] <;> omega
theorem j136_i {F : Nat} {K : Int → Int → Int → St → Option St} {k n j : Int} {κ : St} {P : St → Prop} (hn : 0 ≤ n ∧ n ≤ 40) (hj : 0 ≤ j ∧ j < 3) (h0 : 0 ≤ κ 237 0 ∧ κ 237 0 ≤ 32) (h : TT (f_X7_number F 231 (lowV k j (κ 237 (6 + 4 * n + 1))) (highV k j (κ 237 0)) κ) (fun r => TT (K k (6 + 4 * n) (j + 1) (z_up r.2 237 (6 + 4 * n + 1 + j) r.1)) P)) : TT (f_X7_readNext_J136 F 231 K k (6 + 4 * n) j κ) P := by
  unfold f_X7_readNext_J136
  simp only [tt_gt, tt_sg, tt_ite, tt_ck, tt_lk, tt_ix, tt_bo, tt_by, tt_nz, tt_ob, tt_st, tt_cpk, tt_c1, tt_c2, tt_ca, tt_cb, tt_some, kd_231, kd_0, Nat.reduceAdd, true_and, and_true, true_implies, not_true_eq_false, false_implies, not_false_eq_true, true_or, or_true, e_low, e_high (F := F) (σ := κ) (k := k) (j := j) h0]
  refine And.intro (by omega) (And.intro (by omega) (And.intro (by omega) (And.intro (by omega) (And.intro (by omega) (h.mono (fun r hr => And.intro (by omega) (And.intro (by omega) hr)))))))
theorem up7 {κ : St} {a j v : Int} (h : j ≠ a) : z_up κ 237 a v 237 j = κ 237 j := by
  rw [up_eq]
  exact if_neg h
theorem dead_64 {F : Nat} {k n : Int} (hF : 1000 ≤ F) (hk : 0 ≤ k ∧ k ≤ 8) (hn : 0 ≤ n ∧ n ≤ 40) : ∀ (m : Nat) (j : Int) (N : Nat) (κ : St), 0 ≤ j → j + m = 3 → m < N → ¬ κ 231 12 = 0 → (0 ≤ κ 237 0 ∧ κ 237 0 ≤ 32) → (0 ≤ κ 237 3 ∧ κ 237 3 ≤ 100) → TT (f_X7_readNext_L64 F 231 N k (6 + 4 * n) j κ) (fun κ' => E7 κ κ' ∧ κ' 237 5 = κ 237 5)
  | 0, j, N, κ, j1, j2, hN, hd, h0, h3 => by
    obtain ⟨N, rfl⟩ : ∃ N', N = N' + 1 := ⟨N - 1, by omega⟩
    rw [f_X7_readNext_L64]
    simp only [tt_gt, tt_sg, tt_ite, tt_ck, tt_lk, tt_ix, tt_bo, tt_by, tt_nz, tt_ob, tt_st, tt_cpk, tt_c1, tt_c2, tt_ca, tt_cb, tt_some, kd_231, kd_0, Nat.reduceAdd, true_and, and_true, true_implies, not_true_eq_false, false_implies, not_false_eq_true, true_or, or_true]
    exact ⟨fun _ => And.intro (by omega) (And.intro (by omega) (And.intro (by omega) ⟨E7.up, up7 (by decide)⟩)), fun y => absurd (show 3 ≤ j by omega) y⟩
  | m + 1, j, N, κ, j1, j2, hN, hd, h0, h3 => by
    obtain ⟨N, rfl⟩ : ∃ N', N = N' + 1 := ⟨N - 1, by omega⟩
    rw [f_X7_readNext_L64]
    simp only [tt_gt, tt_sg, tt_ite, tt_ck, tt_lk, tt_ix, tt_bo, tt_by, tt_nz, tt_ob, tt_st, tt_cpk, tt_c1, tt_c2, tt_ca, tt_cb, tt_some, kd_231, kd_0, Nat.reduceAdd, true_and, and_true, true_implies, not_true_eq_false, false_implies, not_false_eq_true, true_or, or_true]
    refine ⟨fun y => absurd y (by omega), fun _ => And.intro (by omega) (And.intro (by omega) (And.intro (by omega) ?_))⟩
    rw [e_nk7 hk.1 hk.2, tt_some]
    generalize hκ : z_up κ 237 (6 + 4 * n + 1 + j) (-1) = κ4
    have e4 : E7 κ κ4 := by rw [← hκ]; exact E7.up
    have c0 : κ4 237 0 = κ 237 0 := by rw [← hκ, up7 (by omega)]
    have c3 : κ4 237 3 = κ 237 3 := by rw [← hκ, up7 (by omega)]
    have c5 : κ4 237 5 = κ 237 5 := by rw [← hκ, up7 (by omega)]
    have d4 : ¬ κ4 231 12 = 0 := by rw [e4 231 (by decide)]; exact hd
    refine ⟨fun _ => ?_, fun _ => And.intro (by omega) ((dead_64 hF hk hn m (j + 1) N κ4 (by omega) (by omega) (by omega) d4 (by omega) (by omega)).mono (fun κ' h => ⟨e4.tr h.1, h.2.trans c5⟩))⟩
    rw [e_good7, if_neg d4, tt_some]
    refine ⟨fun _ => j136_i hn ⟨j1, by omega⟩ (by omega) ⟨_, dead_num d4, ?_⟩, fun y => absurd rfl y⟩
    dsimp only
    refine (dead_64 hF hk hn m (j + 1) N (z_up κ4 237 (6 + 4 * n + 1 + j) 0) (by omega) (by omega) (by omega) (by rw [up_ne (by decide)]; exact d4) (by rw [up7 (by omega)]; omega) (by rw [up7 (by omega)]; omega)).mono (fun κ' h => ⟨e4.tr (E7.up.tr h.1), h.2.trans ((up7 (by omega)).trans c5)⟩)
theorem fin_64 {F : Nat} {k n : Int} (hk : 0 ≤ k ∧ k ≤ 8) (hn : 0 ≤ n ∧ n ≤ 40) : ∀ (m : Nat) (j : Int) (N : Nat) (κ : St), 0 ≤ j → j + m = 3 → m < N → z_nk k ≤ j → (0 ≤ κ 237 3 ∧ κ 237 3 ≤ 100) → TT (f_X7_readNext_L64 F 231 N k (6 + 4 * n) j κ) (fun κ' => E7 κ κ' ∧ ∀ x, κ' 237 x = if x = 3 then κ 237 3 + 1 else if 6 + 4 * n + 1 + j ≤ x ∧ x < 6 + 4 * n + 4 then -1 else κ 237 x)
  | 0, j, N, κ, j1, j2, hN, hd, h3 => by
    obtain ⟨N, rfl⟩ : ∃ N', N = N' + 1 := ⟨N - 1, by omega⟩
    rw [f_X7_readNext_L64]
    simp only [tt_gt, tt_sg, tt_ite, tt_ck, tt_lk, tt_ix, tt_bo, tt_by, tt_nz, tt_ob, tt_st, tt_cpk, tt_c1, tt_c2, tt_ca, tt_cb, tt_some, kd_231, kd_0, Nat.reduceAdd, true_and, and_true, true_implies, not_true_eq_false, false_implies, not_false_eq_true, true_or, or_true]
    refine ⟨fun _ => And.intro (by omega) (And.intro (by omega) (And.intro (by omega) ⟨E7.up, fun x => ?_⟩)), fun y => absurd (show 3 ≤ j by omega) y⟩
    rw [up_eq]
    dsimp only
    by_cases y : x = 3
    · rw [if_pos y, if_pos y]
    · rw [if_neg y, if_neg y, if_neg (by omega)]
  | m + 1, j, N, κ, j1, j2, hN, hd, h3 => by
    obtain ⟨N, rfl⟩ : ∃ N', N = N' + 1 := ⟨N - 1, by omega⟩
    rw [f_X7_readNext_L64]
    simp only [tt_gt, tt_sg, tt_ite, tt_ck, tt_lk, tt_ix, tt_bo, tt_by, tt_nz, tt_ob, tt_st, tt_cpk, tt_c1, tt_c2, tt_ca, tt_cb, tt_some, kd_231, kd_0, Nat.reduceAdd, true_and, and_true, true_implies, not_true_eq_false, false_implies, not_false_eq_true, true_or, or_true]
    refine ⟨fun y => absurd y (by omega), fun _ => And.intro (by omega) (And.intro (by omega) (And.intro (by omega) ?_))⟩
    rw [e_nk7 hk.1 hk.2, tt_some]
    refine ⟨fun y => absurd y (by omega), fun _ => And.intro (by omega) ((fin_64 hk hn m (j + 1) N _ (by omega) (by omega) (by omega) (by omega) (by rw [up7 (by omega)]; exact h3)).mono (fun κ' h => ⟨E7.up.tr h.1, fun x => ?_⟩))⟩
    rw [h.2, up7 (by omega), up_eq]
    dsimp only
    by_cases y : x = 3
    · rw [if_pos y, if_pos y]
    · rw [if_neg y, if_neg y]
      by_cases y2 : 6 + 4 * n + 1 + (j + 1) ≤ x ∧ x < 6 + 4 * n + 4
      · rw [if_pos y2, if_pos (by omega)]
      · rw [if_neg y2]
        by_cases y3 : x = 6 + 4 * n + 1 + j
        · rw [if_pos y3, if_pos (by omega)]
        · rw [if_neg y3, if_neg (by omega)]
def EvI (T : Int → Int) (L : Int) (n : Int) (k : Int) (w : Int → Int) (τ0 : St) (κ0 : St) (j : Int) (τ : St) (κ : St) : Prop := (JT T L τ κ) ∧ (∀ x, x ≠ 1 → x ≠ 3 → τ x = τ0 x) ∧ (C7 κ0 κ) ∧ (∀ x, (x < 6 + 4 * n ∨ 6 + 4 * n + 4 ≤ x) → κ 237 x = w x) ∧ (κ 237 (6 + 4 * n) = k) ∧ (∀ i, 0 ≤ i → i < j → τ 3 i = κ 237 (6 + 4 * n + 1 + i) ∧ ftP (w 0) k i (τ 3 i) (τ 3 0))
theorem EvI.jt {T : Int → Int} {L : Int} {n : Int} {k : Int} {w : Int → Int} {τ0 : St} {κ0 : St} {j : Int} {τ : St} {κ : St} (h : EvI T L n k w τ0 κ0 j τ κ) : JT T L τ κ := h.1
theorem EvI.g6 {T : Int → Int} {L : Int} {n : Int} {k : Int} {w : Int → Int} {τ0 : St} {κ0 : St} {j : Int} {τ : St} {κ : St} (h : EvI T L n k w τ0 κ0 j τ κ) : ∀ x, x ≠ 1 → x ≠ 3 → τ x = τ0 x := h.2.1
theorem EvI.c7 {T : Int → Int} {L : Int} {n : Int} {k : Int} {w : Int → Int} {τ0 : St} {κ0 : St} {j : Int} {τ : St} {κ : St} (h : EvI T L n k w τ0 κ0 j τ κ) : C7 κ0 κ := h.2.2.1
theorem EvI.wx {T : Int → Int} {L : Int} {n : Int} {k : Int} {w : Int → Int} {τ0 : St} {κ0 : St} {j : Int} {τ : St} {κ : St} (h : EvI T L n k w τ0 κ0 j τ κ) : ∀ x, (x < 6 + 4 * n ∨ 6 + 4 * n + 4 ≤ x) → κ 237 x = w x := h.2.2.2.1
theorem EvI.wk {T : Int → Int} {L : Int} {n : Int} {k : Int} {w : Int → Int} {τ0 : St} {κ0 : St} {j : Int} {τ : St} {κ : St} (h : EvI T L n k w τ0 κ0 j τ κ) : κ 237 (6 + 4 * n) = k := h.2.2.2.2.1
theorem EvI.nm {T : Int → Int} {L : Int} {n : Int} {k : Int} {w : Int → Int} {τ0 : St} {κ0 : St} {j : Int} {τ : St} {κ : St} (h : EvI T L n k w τ0 κ0 j τ κ) : ∀ i, 0 ≤ i → i < j → τ 3 i = κ 237 (6 + 4 * n + 1 + i) ∧ ftP (w 0) k i (τ 3 i) (τ 3 0) := h.2.2.2.2.2
theorem g6_c {τ0 τ : St} (h : ∀ x, x ≠ 1 → x ≠ 3 → τ x = τ0 x) : C6 τ0 τ := ⟨fun x x1 x2 _ _ _ => h x x1 x2, fun y => by rw [h 8 (by decide) (by decide)]; exact y⟩
theorem ev_0 {F : Nat} {T : Int → Int} {L n k : Int} {w : Int → Int} {τ0 κ0 τ κ : St} {j : Int} {Nc Nm : Nat} (hF : 1000 ≤ F) (hw : WF w) (w3 : w 3 = n) (w4 : w 4 = 0) (w5 : w 5 = n + 1) (hn : 0 ≤ n ∧ n < 40) (hk : 0 ≤ k ∧ k ≤ 8) (hs : SR 7 τ0 w) (hj : j = z_nk k) (hc : 0 < Nc) (hm : 5 ≤ Nm) (h : EvI T L n k w τ0 κ0 j τ κ) : TT (f_X2_readEvent_L45 F 1 7 Nc k j τ) (fun r => TT (f_X7_readNext_L64 F 231 Nm k (6 + 4 * n) j κ) (FRG F (TxQ T L τ0 κ0 (n + 1) r))) := by
  have nr := nk_rng hk.1 hk.2
  have eN : evN w = n := by unfold evN; rw [w3, w4]; omega
  have hS : SR 7 τ w := hs.mv (h.g6 7 (by decide) (by decide)) (h.g6 8 (by decide) (by decide)) (h.g6 9 (by decide) (by decide))
  have k3 : κ 237 3 = n := (h.wx 3 (by omega)).trans w3
  obtain ⟨κ1, e64, e7, wκ⟩ := fin_64 (F := F) (k := k) (n := n) hk (by omega) (3 - j).toNat j Nm κ (by omega) (by omega) (by omega) (by omega) (by omega)
  obtain ⟨c, rfl⟩ : ∃ c, Nc = c + 1 := ⟨Nc - 1, by omega⟩
  rw [f_X2_readEvent_L45]
  simp only [tt_gt, tt_sg, tt_ite, tt_ck, tt_lk, tt_ix, tt_bo, tt_by, tt_nz, tt_ob, tt_st, tt_cpk, tt_c1, tt_c2, tt_ca, tt_cb, tt_some, kd_231, kd_0, Nat.reduceAdd, true_and, and_true, true_implies, not_true_eq_false, false_implies, not_false_eq_true, true_or, or_true]
  refine And.intro (by omega) ⟨fun _ => ?_, fun y => absurd (show z_nk k ≤ j by omega) y⟩
  unfold f_X2_readEvent_J121 f_X4_putEvent
  simp only [tt_gt, tt_sg, tt_ite, tt_ck, tt_lk, tt_ix, tt_bo, tt_by, tt_nz, tt_ob, tt_st, tt_cpk, tt_c1, tt_c2, tt_ca, tt_cb, tt_some, kd_231, kd_0, Nat.reduceAdd, true_and, and_true, true_implies, not_true_eq_false, false_implies, not_false_eq_true, true_or, or_true, e4_size (F := F) (s := 7) rfl hS hw, show kdX 7 = 4 from rfl, eN]
  refine And.intro (by decide) (And.intro (by decide) (And.intro (by decide) ⟨fun y => absurd y (by omega), fun _ => ⟨fun y => absurd y (by omega), fun _ => ⟨fun y => absurd y (by omega), fun _ => ?_⟩⟩⟩))
  refine And.intro (by omega) (And.intro (by omega) (And.intro (by omega) (And.intro (by omega) (And.intro (by omega) (And.intro (by omega) (And.intro (by omega) (And.intro (by omega) ?_)))))))
  generalize hς : z_up (z_up (z_up (z_up τ 8 n k) 9 (n * 3) (τ 3 0)) 9 (n * 3 + 1) (τ 3 1)) 9 (n * 3 + 2) (τ 3 2) = ς
  have o1 : ∀ x, x ≠ 8 → x ≠ 9 → ς x = τ x := fun x x1 x2 => by rw [← hς, up_ne x2, up_ne x2, up_ne x2, up_ne x1]
  have s8 : ∀ i, ς 8 i = if i = n then k else τ 8 i := fun i => by rw [← hς, up_ne (by decide), up_ne (by decide), up_ne (by decide), up_eq]
  have s9 : ∀ i, ς 9 i = if i = n * 3 + 2 then τ 3 2 else if i = n * 3 + 1 then τ 3 1 else if i = n * 3 then τ 3 0 else τ 9 i := fun i => by
    rw [← hς]
    simp only [up_eq]
    rw [up_ne (show 9 ≠ 8 by decide)]
  have t3 : ς 7 3 = n := by rw [o1 7 (by decide) (by decide), hS.1 3 (by decide) (by decide), w3]
  rw [t3]
  refine And.intro (by omega) ?_
  generalize hτ : z_up ς 7 3 (n + 1) = τ'
  have o2 : ∀ x, x ≠ 7 → x ≠ 8 → x ≠ 9 → τ' x = τ x := fun x x1 x2 x3 => by rw [← hτ, up_ne x1, o1 x x2 x3]
  have s7 : ∀ i, τ' 7 i = if i = 3 then n + 1 else τ 7 i := fun i => by rw [← hτ, up_eq]; dsimp only; rw [o1 7 (by decide) (by decide)]
  have s8' : τ' 8 = ς 8 := by rw [← hτ, up_ne (by decide)]
  have s9' : τ' 9 = ς 9 := by rw [← hτ, up_ne (by decide)]
  have j' : JT T L τ' κ1 := h.jt.mv (o2 1 (by decide) (by decide) (by decide)) (o2 2 (by decide) (by decide) (by decide)) e7
  have k5 : κ1 237 5 = n + 1 := by rw [wκ, if_neg (by decide), if_neg (by omega), h.wx 5 (by omega), w5]
  have c6 : C6 τ0 τ' := by
    refine ⟨fun x x1 x2 x3 x4 x5 => (o2 x x3 x4 x5).trans (h.g6 x x1 x2), fun y e e1 e2 => ?_⟩
    rw [s8', s8]
    by_cases u : e = n
    · rw [if_pos u]; exact hk
    · rw [if_neg u, h.g6 8 (by decide) (by decide)]; exact y e e1 e2
  refine And.intro (by omega) ?_
  refine (j'.sign hF (by rw [k5]; omega)).mono (fun r hr => ⟨hr.1, κ1, e64, hr.2.mono (fun κ' hq => ⟨hq.1, c6.tr hq.2.1.c, (h.c7.tr e7.c).tr hq.2.2.1, fun _ => ?_⟩)⟩)
  have hd := hw.1
  unfold Hd at hd
  have v : ∀ x, κ' 237 x = if x = 5 then n + 2 else if x = 3 then n + 1 else if 6 + 4 * n + 1 + j ≤ x ∧ x < 6 + 4 * n + 4 then -1 else κ 237 x := fun x => by
    rw [hq.2.2.2]
    dsimp only
    rw [k5, wκ, k3]
    by_cases u : x = 5
    · rw [if_pos u, if_pos u]; omega
    · rw [if_neg u, if_neg u]
  have vo : ∀ x, x ≠ 3 → x ≠ 5 → (x < 6 + 4 * n ∨ 6 + 4 * n + 4 ≤ x) → κ' 237 x = w x := fun x x1 x2 x3 => by rw [v, if_neg x2, if_neg x1, if_neg (by omega), h.wx x x3]
  have v0 : κ' 237 0 = w 0 := vo 0 (by decide) (by decide) (by omega)
  have v1 : κ' 237 1 = w 1 := vo 1 (by decide) (by decide) (by omega)
  have v2 : κ' 237 2 = w 2 := vo 2 (by decide) (by decide) (by omega)
  have v3 : κ' 237 3 = n + 1 := by rw [v, if_neg (by decide), if_pos rfl]
  have v4 : κ' 237 4 = 0 := (vo 4 (by decide) (by decide) (by omega)).trans w4
  have v5 : κ' 237 5 = n + 2 := by rw [v, if_pos rfl]
  have vk : κ' 237 (6 + 4 * n) = k := by rw [v, if_neg (by omega), if_neg (by omega), if_neg (by omega)]; exact h.wk
  have vi : ∀ i, 0 ≤ i → i < 3 → κ' 237 (6 + 4 * n + 1 + i) = if j ≤ i then -1 else τ 3 i := fun i i1 i2 => by
    rw [v, if_neg (by omega), if_neg (by omega)]
    by_cases u : j ≤ i
    · rw [if_pos u, if_pos (by omega)]
    · rw [if_neg u, if_neg (by omega), (h.nm i i1 (by omega)).1]
  have xe : evN (κ' 237) = n + 1 := by unfold evN; rw [v3, v4]; omega
  have gp : gP (w 0) k (if z_nk k ≤ 0 then 0 else τ 3 0) (if z_nk k ≤ 1 then 0 else τ 3 1) (if z_nk k ≤ 2 then 0 else τ 3 2) := by
    refine (gp_ft hk.1 hk.2).1 ⟨?_, ?_, ?_⟩
    · by_cases u : z_nk k ≤ 0
      · rw [if_pos u, if_pos u]
      · rw [if_neg u, if_neg u]; exact (h.nm 0 (by omega) (by omega)).2
    · by_cases u : z_nk k ≤ 1
      · rw [if_pos u, if_pos u]
      · rw [if_neg u, if_neg u, if_neg (by omega)]; exact (h.nm 1 (by omega) (by omega)).2
    · by_cases u : z_nk k ≤ 2
      · rw [if_pos u, if_pos u]
      · rw [if_neg u, if_neg u, if_neg (by omega)]; exact (h.nm 2 (by omega) (by omega)).2
  have dwf := dw_wf hw (by omega) (by omega) hk.1 hk.2 gp
  refine ⟨⟨?_, Or.inr ?_, fun e e1 e2 => ?_⟩, ⟨fun i i1 i2 => ?_, fun e e1 e2 => ?_, fun e e1 e2 => ?_⟩, v4, v3, by rw [v5]; omega⟩
  · unfold Hd
    rw [v0, v1, v2, v3, v4, v5]
    omega
  · rw [v0, v3, v5]
    rcases hw.2.1 with y | y
    · omega
    · omega
  · rw [xe] at e2
    by_cases u : e = n
    · have ge := dwf.2.2 (evN w) (by omega) (by rw [dw_ev (by omega)]; omega)
      have n0 : (0 : Int) ≤ evN w := by omega
      refine (show e = evN w by omega) ▸ ge.cg ?_ ?_ ?_ ?_ ?_
      · rw [v0, dw_n (by decide) (by omega)]
      · rw [dw_k n0, eN]; exact vk
      · rw [dw_1 n0, eN, vi 0 (by decide) (by decide)]
        unfold yN
        rw [hj]
        by_cases u : z_nk k ≤ 0
        · rw [if_pos u, if_pos u]
        · rw [if_neg u, if_neg u, if_neg u]
      · rw [dw_2 n0, eN, vi 1 (by decide) (by decide)]
        unfold yN
        rw [hj]
        by_cases u : z_nk k ≤ 1
        · rw [if_pos u, if_pos u]
        · rw [if_neg u, if_neg u, if_neg u]
      · rw [dw_3 n0, eN, vi 2 (by decide) (by decide)]
        unfold yN
        rw [hj]
        by_cases u : z_nk k ≤ 2
        · rw [if_pos u, if_pos u]
        · rw [if_neg u, if_neg u, if_neg u]
    · exact (hw.2.2 e e1 (by omega)).cg v0 (vo _ (by omega) (by omega) (by omega)) (vo _ (by omega) (by omega) (by omega)) (vo _ (by omega) (by omega) (by omega)) (vo _ (by omega) (by omega) (by omega))
  · rw [hq.2.1 7 (by decide), s7]
    by_cases u : i = 3
    · rw [if_pos u, u, v3]
    · rw [if_neg u, vo i u (by omega) (by omega)]
      exact hS.1 i i1 i2
  · rw [hq.2.1 8 (by decide), s8', s8]
    by_cases u : e = n
    · rw [if_pos u]; exact hk
    · rw [if_neg u]; exact hS.2.1 e e1 e2
  · rw [xe] at e2
    rw [hq.2.1 8 (by decide), hq.2.1 9 (by decide), s8', s9', s8]
    by_cases u : e = n
    · rw [if_pos u, u, vk]
      refine ⟨rfl, fun i i1 i2 => ?_⟩
      rw [vi i i1 (by omega), if_neg (by omega), s9]
      have : i = 0 ∨ i = 1 ∨ i = 2 := by omega
      rcases this with y | y | y <;> subst y
      · rw [if_neg (by omega), if_neg (by omega), if_pos (by omega)]
      · rw [if_neg (by omega), if_pos (by omega)]
      · rw [if_pos (by omega)]
    · have hh := hS.2.2 e e1 (by omega)
      have hk' := hw.2.2 e e1 (by omega)
      have nr' := nk_rng hk'.1 hk'.2.1
      rw [if_neg u, vo _ (by omega) (by omega) (by omega)]
      refine ⟨hh.1, fun i i1 i2 => ?_⟩
      rw [s9, if_neg (by omega), if_neg (by omega), if_neg (by omega), vo _ (by omega) (by omega) (by omega)]
      exact hh.2 i i1 i2
