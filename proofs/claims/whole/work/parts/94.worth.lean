def plC (w : Int → Int) (i : Nat) : Prop := (i : Int) < w 3 ∧ w (6 + 4 * (i : Int)) < 4
def plR (w : Int → Int) : Nat → Nat
  | 0 => 0
  | i + 1 => if (i : Int) < w 3 ∧ w (6 + 4 * (i : Int)) < 4 then 2 ^ i * 1 + plR w i else plR w i
theorem plR_lt (w : Int → Int) : ∀ i : Nat, plR w i < 2 ^ i
  | 0 => (by decide : (0 : Nat) < 2 ^ 0)
  | i + 1 => by
    have := plR_lt w i
    rw [plR, Nat.pow_succ]
    split <;> omega
theorem plR_bit (w : Int → Int) : ∀ i j : Nat, (plR w i).testBit j = true ↔ j < i ∧ plC w j
  | 0, j => by
    rw [plR]
    simp
  | i + 1, j => by
    have ih := plR_bit w i j
    have hlt := plR_lt w i
    rw [plR]
    by_cases q : (i : Int) < w 3 ∧ w (6 + 4 * (i : Int)) < 4
    · rw [if_pos q, Nat.testBit_two_pow_mul_add _ hlt]
      by_cases z : j < i
      · rw [if_pos z, ih]
        exact ⟨fun y => ⟨by omega, y.2⟩, fun y => ⟨z, y.2⟩⟩
      · rw [if_neg z]
        by_cases z2 : j = i
        · rw [z2, show i - i = 0 by omega]
          exact ⟨fun _ => ⟨by omega, q⟩, fun _ => by decide⟩
        · have : Nat.testBit 1 (j - i) = false := Nat.testBit_lt_two_pow (Nat.lt_of_lt_of_le (by decide : 1 < 2 ^ 1) (Nat.pow_le_pow_right (by decide) (by omega)))
          rw [this]
          exact ⟨fun y => absurd y (by decide), fun y => by omega⟩
    · rw [if_neg q, ih]
      refine ⟨fun y => ⟨by omega, y.2⟩, fun y => ⟨?_, y.2⟩⟩
      by_cases z2 : j = i
      · rw [z2] at y; exact absurd y.2 q
      · omega
theorem or_up : ∀ i : Nat, i < 8 → ∀ x : Nat, x < 2 ^ i → z_or x (z_shl 1 i) = ((2 ^ i * 1 + x : Nat) : Int) := by decide +kernel
theorem or_ev : ∀ e : Nat, e < 8 → ∀ s : Nat, s < 256 → s.testBit e = false → z_or s (z_shl 1 e) = ((s + 2 ^ e : Nat) : Int) ∧ s + 2 ^ e < 256 := by decide +kernel
theorem and_ev : ∀ e : Nat, e < 8 → ∀ s : Nat, s < 256 → (z_and s (z_shl 1 e) = 0 ↔ s.testBit e = false) := by decide +kernel
theorem e6_players {F : Nat} {w : Int → Int} {σ : St} (hF : 100 ≤ F) (hw : WF w) (hS : SR 4 σ w) : f_X6_players F 0 σ = some ((plR w 8 : Nat) : Int) := by
  have h60 := hw.ev60
  have h3b : 0 ≤ w 3 ∧ w 3 ≤ evN w := by
    have := hw.1
    unfold Hd at this
    unfold evN
    omega
  have e3 := hS.1 3 (by decide) (by decide)
  apply TT.eq
  unfold f_X6_players
  simp only [tt_gt, tt_sg, tt_ite, tt_ck, tt_lk, tt_ix, tt_bo, tt_by, tt_nz, tt_ob, tt_st, tt_cpk, tt_c1, tt_c2, tt_ca, tt_cb, tt_some, kd_231, kd_0, Nat.reduceAdd, true_and, and_true, true_implies, not_true_eq_false, false_implies, not_false_eq_true, true_or, or_true]
  refine lp_w (L := fun n (p : Int × Int) => f_X6_players_L4 F 0 σ n p.1 p.2) (fun m p => ∃ j : Nat, p.2 = j ∧ j + m = 8 ∧ p.1 = ((plR w j : Nat) : Int)) (fun m n p hI ih => ?_) 8 F (0, 0) (by omega) ⟨0, rfl, rfl, rfl⟩
  obtain ⟨x, i⟩ := p
  dsimp only at hI ih ⊢
  obtain ⟨j, rfl, i2, i3⟩ := hI
  have stop : ∀ d : Nat, w 3 ≤ (j : Int) → plR w (j + d) = plR w j := by
    intro d hd
    induction d with
    | zero => rfl
    | succ d ih2 => rw [show j + (d + 1) = (j + d) + 1 by omega, plR, if_neg (by omega), ih2]
  rw [f_X6_players_L4]
  simp only [tt_gt, tt_sg, tt_ite, tt_ck, tt_lk, tt_ix, tt_bo, tt_by, tt_nz, tt_ob, tt_st, tt_cpk, tt_c1, tt_c2, tt_ca, tt_cb, tt_some, kd_231, kd_0, Nat.reduceAdd, true_and, and_true, true_implies, not_true_eq_false, false_implies, not_false_eq_true, true_or, or_true, Nat.zero_add, e3]
  refine ⟨fun z => by rw [i3, show j = 8 by omega], fun z => ⟨fun z2 => ?_, fun z2 => ?_⟩⟩
  · have := stop (8 - j) z2
    rw [show j + (8 - j) = 8 by omega] at this
    rw [i3, this]
  · rw [e4_isCommand (F := F) (s := 4) (e := (j : Int)) rfl hS hw ⟨by omega, by omega⟩, tt_some]
    refine ⟨fun z3 => And.intro (by omega) (ih (m - 1) (x, (j : Int) + 1) (by omega) ⟨j + 1, by dsimp only; omega, by omega, ?_⟩), fun z3 => And.intro (by omega) (ih (m - 1) (z_or x (z_shl 1 j), (j : Int) + 1) (by omega) ⟨j + 1, by dsimp only; omega, by omega, ?_⟩)⟩
    · have : ¬ w (6 + 4 * (j : Int)) < 4 := fun y => by rw [if_pos y] at z3; exact absurd z3 (by decide)
      dsimp only
      rw [i3, plR, if_neg (fun y => this y.2)]
    · have : w (6 + 4 * (j : Int)) < 4 := Classical.byContradiction fun y => z3 (if_neg y)
      dsimp only
      rw [i3, or_up j (by omega) _ (plR_lt w j), plR, if_pos ⟨by omega, this⟩]
theorem e7_isFirst {F : Nat} {w : Int → Int} {τ : St} {e : Int} (hw : WF w) (h2 : τ 232 = w) : f_X7_isFirst F 231 e τ = some (if (0 ≤ e ∧ e < w 3) ∧ e < 8 ∧ w (6 + 4 * e) < 4 then 1 else 0) := by
  have h60 := hw.ev60
  have h3b : 0 ≤ w 3 ∧ w 3 ≤ evN w := by
    have := hw.1
    unfold Hd at this
    unfold evN
    omega
  have et := e_isTold (F := F) (σ := τ) (by rw [h2]; exact hw.1) e
  rw [h2] at et
  apply TT.eq
  unfold f_X7_isFirst
  simp only [tt_gt, tt_sg, tt_ite, tt_ck, tt_lk, tt_ix, tt_bo, tt_by, tt_nz, tt_ob, tt_st, tt_cpk, tt_c1, tt_c2, tt_ca, tt_cb, tt_some, kd_231, kd_0, Nat.reduceAdd, true_and, and_true, true_implies, not_true_eq_false, false_implies, not_false_eq_true, true_or, or_true, et, cmp_ge]
  by_cases q1 : 0 ≤ e ∧ e < w 3
  · rw [if_pos q1]
    refine ⟨fun z => absurd z (by decide), fun _ => ⟨fun z => ?_, fun z => ?_⟩⟩
    · rw [if_neg (by omega)]
    · have ec := e_isCommand (F := F) (σ := τ) (e := e) ⟨q1.1, by omega⟩
      rw [h2] at ec
      rw [l2i_i ⟨q1.1, by omega⟩, ec, tt_some]
      by_cases q2 : w (6 + 4 * e) < 4
      · rw [if_pos q2, if_pos ⟨q1, by omega, q2⟩]
        exact ⟨fun z => absurd z (by decide), fun _ => rfl⟩
      · rw [if_neg q2, if_neg (fun y => q2 y.2.2)]
        exact ⟨fun _ => rfl, fun z => absurd rfl z⟩
  · rw [if_neg q1, if_neg (fun y => q1 y.1)]
    exact ⟨fun _ => rfl, fun z => absurd rfl z⟩
theorem e7_allFirst {F : Nat} {w : Int → Int} {τ : St} (hF : 100 ≤ F) (hw : WF w) (h2 : τ 232 = w) : f_X7_allFirst F 231 τ = some ((plR w 8 : Nat) : Int) := by
  apply TT.eq
  unfold f_X7_allFirst
  simp only [tt_gt, tt_sg, tt_ite, tt_ck, tt_lk, tt_ix, tt_bo, tt_by, tt_nz, tt_ob, tt_st, tt_cpk, tt_c1, tt_c2, tt_ca, tt_cb, tt_some, kd_231, kd_0, Nat.reduceAdd, true_and, and_true, true_implies, not_true_eq_false, false_implies, not_false_eq_true, true_or, or_true]
  refine lp_w (L := fun n (p : Int × Int) => f_X7_allFirst_L4 F 231 τ n p.1 p.2) (fun m p => ∃ j : Nat, p.2 = j ∧ j + m = 8 ∧ p.1 = ((plR w j : Nat) : Int)) (fun m n p hI ih => ?_) 8 F (0, 0) (by omega) ⟨0, rfl, rfl, rfl⟩
  obtain ⟨x, i⟩ := p
  dsimp only at hI ih ⊢
  obtain ⟨j, rfl, i2, i3⟩ := hI
  have hlt := plR_lt w j
  have h2p : 2 ^ j ≤ 256 := Nat.le_trans (Nat.pow_le_pow_right (by decide) (show j ≤ 8 by omega)) (by decide)
  rw [f_X7_allFirst_L4]
  simp only [tt_gt, tt_sg, tt_ite, tt_ck, tt_lk, tt_ix, tt_bo, tt_by, tt_nz, tt_ob, tt_st, tt_cpk, tt_c1, tt_c2, tt_ca, tt_cb, tt_some, kd_231, kd_0, Nat.reduceAdd, true_and, and_true, true_implies, not_true_eq_false, false_implies, not_false_eq_true, true_or, or_true, e7_isFirst (F := F) (e := (j : Int)) hw h2]
  refine ⟨fun z => by rw [i3, show j = 8 by omega], fun z => ?_⟩
  by_cases q : (0 ≤ (j : Int) ∧ (j : Int) < w 3) ∧ (j : Int) < 8 ∧ w (6 + 4 * (j : Int)) < 4
  · rw [if_pos q]
    refine ⟨fun y => absurd y (by decide), fun _ => And.intro (by omega) (ih (m - 1) (z_or x (z_shl 1 j), (j : Int) + 1) (by omega) ⟨j + 1, by dsimp only; omega, by omega, ?_⟩)⟩
    dsimp only
    rw [i3, or_up j (by omega) _ hlt, plR, if_pos ⟨q.1.2, q.2.2⟩]
  · rw [if_neg q]
    refine ⟨fun _ => And.intro (by omega) (ih (m - 1) (z_or x 0, (j : Int) + 1) (by omega) ⟨j + 1, by dsimp only; omega, by omega, ?_⟩), fun y => absurd rfl y⟩
    dsimp only
    rw [or_0 (by rw [i3]; exact ⟨by omega, by omega⟩), i3, plR, if_neg (fun y => q ⟨⟨by omega, y.1⟩, by omega, y.2⟩)]
def gW (w : Int → Int) (s : Nat) : Int → Int := fun e => if ((0 ≤ e ∧ e < w 3) ∧ e < 8 ∧ w (6 + 4 * e) < 4) ∧ ¬ s.testBit e.toNat = true then 1 else 0
theorem lbt_nat {s e : Nat} (hs : s < 4294967296) (he : e < 64) : lbt (s : Int) e ↔ s.testBit e = true := by
  rw [lbt_bv ⟨by omega, by omega⟩, Int.toNat_natCast, ← BitVec.testBit_toNat, lbv_nat hs]
theorem lOut_W {w : Int → Int} {s : Nat} {N : Int} (hN : N ≤ 60) (hs : s < 256) : lOut (z_and ((plR w 8 : Nat) : Int) (z_xor (s : Int) (-1))) (gW w s) N := by
  have hp := plR_lt w 8
  have hn : (bv (z_and ((plR w 8 : Nat) : Int) (z_xor (s : Int) (-1)))).toNat < 256 := by
    rw [n_and, bv_nat (by omega)]
    exact Nat.lt_of_le_of_lt Nat.and_le_left hp
  have hv : z_and ((plR w 8 : Nat) : Int) (z_xor (s : Int) (-1)) = (((bv (z_and ((plR w 8 : Nat) : Int) (z_xor (s : Int) (-1)))).toNat : Nat) : Int) := by
    have := bv_int (iR_and (a := ((plR w 8 : Nat) : Int)) (b := z_xor (s : Int) (-1)))
    rw [BitVec.toInt_eq_toNat_of_lt (by omega)] at this
    exact this.symm
  intro e e1 e2
  obtain ⟨n, rfl⟩ : ∃ n : Nat, e = n := ⟨e.toNat, by omega⟩
  rw [hv, lbt_nat (by omega) (by omega)]
  by_cases q : n < 8
  · have h1 : (bv (z_and ((plR w 8 : Nat) : Int) (z_xor (s : Int) (-1)))).toNat.testBit n = true ↔ bt (z_and ((plR w 8 : Nat) : Int) (z_xor (s : Int) (-1))) n := by
      rw [bt_bv ⟨by omega, by omega⟩, Int.toNat_natCast, ← BitVec.testBit_toNat]
    rw [h1, bt_and ⟨by omega, by omega⟩, bt_not ⟨by omega, by omega⟩, bt_nat (by omega) (by omega), bt_nat (by omega) (by omega), plR_bit]
    unfold gW plC
    rw [Int.toNat_natCast]
    by_cases z : ((0 ≤ (n : Int) ∧ (n : Int) < w 3) ∧ (n : Int) < 8 ∧ w (6 + 4 * (n : Int)) < 4) ∧ ¬ s.testBit n = true
    · rw [if_pos z]
      exact ⟨fun _ => by decide, fun _ => ⟨⟨q, z.1.1.2, z.1.2.2⟩, z.2⟩⟩
    · rw [if_neg z]
      exact ⟨fun y => absurd ⟨⟨⟨by omega, y.1.2.1⟩, by omega, y.1.2.2⟩, y.2⟩ z, fun y => absurd rfl y⟩
  · have h1 : (bv (z_and ((plR w 8 : Nat) : Int) (z_xor (s : Int) (-1)))).toNat.testBit n = false := Nat.testBit_lt_two_pow (Nat.lt_of_lt_of_le hn (Nat.le_trans (by decide : 256 ≤ 2 ^ 8) (Nat.pow_le_pow_right (by decide) (by omega))))
    rw [h1]
    unfold gW
    rw [if_neg (fun y => by have := y.1.2.1; omega)]
    exact ⟨fun y => absurd y (by decide), fun y => absurd rfl y⟩
def wV (w : Int → Int) (s : Nat) : Int := w 0 - zrN w (gW w s)
theorem wV_rng {w : Int → Int} (s : Nat) (hw : 0 ≤ w 0 ∧ w 0 ≤ 32) : -32 ≤ wV w s ∧ wV w s ≤ 32 := by
  have := zrN_rng (gW w s) hw
  unfold wV
  omega
theorem wo_ok {F : Nat} {w : Int → Int} {s : Nat} {τ : St} (hF : 100 ≤ F) (hw : WF w) (hS : SR 4 τ w) (hs : s < 256) : TT (f_X6_worthOf F 0 s ((plR w 8 : Nat) : Int) τ) (fun r => r.1 = wV w s ∧ OB 208 τ r.2) := by
  have h60 := hw.ev60
  have hw0 : 0 ≤ w 0 ∧ w 0 ≤ 32 := ⟨hw.1.1, hw.1.2.1⟩
  have hr := wV_rng (w := w) s hw0
  unfold f_X6_worthOf
  simp only [tt_ob, kd_0, true_and, tt_c1, Nat.zero_add, tt_gt, e4_size (F := F) (s := 4) rfl hS hw, tt_some]
  refine (play_ok (F := F) (b := 208) (s := 4) (g := gW w s) hF rfl rfl rfl rfl (Or.inl (by decide)) hS hw ⟨by omega, Int.le_refl _⟩ (lOut_W h60.2 hs)).mono (fun σ1 h1 => ?_)
  have e0 := (hS.qb (h1.1.qb (by omega))).1 0 (by decide) (by decide)
  rw [zeros_ok hF rfl hw0 h1.2, tt_some, e0, tt_ck, tt_some]
  exact ⟨by have : wV w s = w 0 - sm (fun c => if Val w (gW w s) (evN w).toNat c = 0 then 1 else 0) (w 0).toNat := rfl; omega, rfl, h1.1⟩
theorem wn_ok {F : Nat} {w : Int → Int} {s : Nat} {τ : St} (hF : 100 ≤ F) (hw : WF w) (h2 : τ 232 = w) (hs : s < 256) : TT (f_X7_worthNow F 231 s τ) (fun r => r.1 = wV w s ∧ ∀ k, k ≠ 238 → k ≠ 239 → k ≠ 240 → r.2 k = τ k) := by
  have h60 := hw.ev60
  have hw0 : 0 ≤ w 0 ∧ w 0 ≤ 32 := ⟨hw.1.1, hw.1.2.1⟩
  have hr := wV_rng (w := w) s hw0
  unfold f_X7_worthNow
  simp only [tt_ob, kd_231, true_and, tt_c1, tt_gt]
  refine (ng_ok hF).mono (fun τ1 h1 => ?_)
  refine lp_w (L := fun n (p : Int × St) => f_X7_worthNow_L6 F 231 s n p.1 p.2) (fun m p => ∃ j : Nat, p.1 = j ∧ j + m = 8 ∧ (∀ k, k ≠ 238 → p.2 k = τ k) ∧ ∀ e, 0 ≤ e → e < 60 → p.2 238 e = if e < j then gW w s e else 0) (fun m n p hI ih => ?_) 8 F (0, τ1) (by omega) ⟨0, rfl, rfl, fun k hk => h1.1 k hk, fun e e1 e2 => by dsimp only; rw [if_neg (by omega)]; exact h1.2 e e1 e2⟩
  obtain ⟨i, τ2⟩ := p
  dsimp only at hI ih ⊢
  obtain ⟨j, rfl, i2, i3, i4⟩ := hI
  have e32 : τ2 232 = w := (i3 232 (by decide)).trans h2
  have step : ∀ v : Int, (j : Int) < 8 → v = gW w s j → TT (f_X7_worthNow_L6 F 231 s n ((j : Int) + 1) (z_up τ2 238 j v)) (fun r => r.1 = wV w s ∧ ∀ k, k ≠ 238 → k ≠ 239 → k ≠ 240 → r.2 k = τ k) := by
    intro v hj hv
    refine ih (m - 1) ((j : Int) + 1, z_up τ2 238 j v) (by omega) ⟨j + 1, by dsimp only; omega, by omega, fun k hk => (up_ne hk).trans (i3 k hk), fun e e1 e2 => ?_⟩
    dsimp only
    rw [up_eq]
    dsimp only
    by_cases b : e = j
    · rw [if_pos b, if_pos (by omega), hv, b]
    · rw [if_neg b, i4 e e1 e2]
      by_cases b2 : e < j
      · rw [if_pos b2, if_pos (by omega)]
      · rw [if_neg b2, if_neg (by omega)]
  rw [f_X7_worthNow_L6]
  simp only [tt_gt, tt_sg, tt_ite, tt_ck, tt_lk, tt_ix, tt_bo, tt_by, tt_nz, tt_ob, tt_st, tt_cpk, tt_c1, tt_c2, tt_ca, tt_cb, tt_some, kd_231, kd_0, Nat.reduceAdd, true_and, and_true, true_implies, not_true_eq_false, false_implies, not_false_eq_true, true_or, or_true, e7_isFirst (F := F) (e := (j : Int)) hw e32, e7_bit (F := F) (s := s) (i := j) (σ := τ2) (by omega) (by omega)]
  refine ⟨fun z => ?_, fun z => ?_⟩
  · refine (layValues_ok (F := F) (σ := τ2) hF (by rw [e32]; exact hw)).mono (fun σ2 h3 => ?_)
    have e22 : σ2 232 = w := (h3.1 232 (by decide) (by decide)).trans e32
    have hv : ∀ (t : Nat) (c : Int), (t : Int) ≤ evN w → 0 ≤ c → c < 32 → σ2 239 (32 * t + c) = Val w (gW w s) t c := fun t c t1 c1 c2 => by
      rw [h3.2.1 t c (by rw [e32]; omega) c1 c2, e32, val_cg (g' := gW w s) t (fun e e1 e2 => ?_)]
      rw [i4 e e1 (by omega)]
      by_cases b : e < j
      · rw [if_pos b]
      · rw [if_neg b]
        unfold gW
        rw [if_neg (fun y => by have := y.1.2.1; omega)]
    rw [e_cells, tt_some, zr_ok hF hw e22 hv, tt_some, e22]
    exact ⟨by unfold wV at hr; omega, rfl, fun k k1 k2 k3 => (h3.1 k k2 k3).trans (i3 k k1)⟩
  · by_cases q : (0 ≤ (j : Int) ∧ (j : Int) < w 3) ∧ (j : Int) < 8 ∧ w (6 + 4 * (j : Int)) < 4
    · rw [if_pos q]
      refine ⟨fun y => absurd y (by decide), fun _ => ?_⟩
      by_cases b : s.testBit j = true
      · rw [if_pos b]
        refine ⟨fun _ => And.intro (by omega) (And.intro (by omega) (step 0 (by omega) ?_)), fun y => absurd (by decide) y⟩
        unfold gW
        rw [Int.toNat_natCast, if_neg (fun y => y.2 b)]
      · rw [if_neg b]
        refine ⟨fun y => absurd rfl y, fun _ => And.intro (by omega) (And.intro (by omega) (step 1 (by omega) ?_))⟩
        unfold gW
        rw [Int.toNat_natCast, if_pos ⟨q, b⟩]
    · rw [if_neg q]
      refine ⟨fun _ => And.intro (by omega) (And.intro (by omega) (step 0 (by omega) ?_)), fun y => absurd rfl y⟩
      unfold gW
      rw [if_neg (fun y => q y.1)]
theorem q_worth {F : Nat} {σ : St} {set : Int} (hF : 100 ≤ F) (h : GI F σ) : PP F (f_X6_worth F 0 set σ) (f_X7_worth F 231 set) := by
  have h60 := h.wf.ev60
  have h0 := h.sc.1 0 (by decide) (by decide)
  have hst := h.wf.st
  have neg : ¬ (0 < σ 232 5 ∧ (0 ≤ set ∧ set ≤ 255)) → TT (f_X7_worth F 231 set σ) (fun r' => -2 = r'.1 ∧ GI F r'.2) := by
    intro q
    unfold f_X7_worth
    simp only [tt_gt, tt_sg, tt_ite, tt_ck, tt_lk, tt_ix, tt_bo, tt_by, tt_nz, tt_ob, tt_st, tt_cpk, tt_c1, tt_c2, tt_ca, tt_cb, tt_some, kd_231, kd_0, Nat.reduceAdd, true_and, and_true, true_implies, not_true_eq_false, false_implies, not_false_eq_true, true_or, or_true, e_isStore, e_in]
    by_cases q5 : 0 < σ 232 5
    · rw [if_pos q5, if_neg (fun z => q ⟨q5, z⟩)]
      exact ⟨fun z => absurd z (by decide), fun _ => ⟨fun _ => h, fun z => absurd rfl z⟩⟩
    · rw [if_neg q5]
      exact ⟨fun _ => h, fun z => absurd rfl z⟩
  unfold PP f_X6_worth
  simp only [tt_gt, tt_sg, tt_ite, tt_ck, tt_lk, tt_ix, tt_bo, tt_by, tt_nz, tt_ob, tt_st, tt_cpk, tt_c1, tt_c2, tt_ca, tt_cb, tt_some, kd_231, kd_0, Nat.reduceAdd, true_and, and_true, true_implies, not_true_eq_false, false_implies, not_false_eq_true, true_or, or_true, Nat.zero_add, e4_exists (F := F) (s := 4) (σ := σ) rfl, h0]
  refine ⟨fun z => neg (fun y => ?_), fun z1 => ⟨fun z => neg (fun y => by omega), fun z2 => ⟨fun z3 => ?_, fun z => neg (fun y => by omega)⟩⟩⟩
  · rw [if_pos (by omega)] at z; exact absurd z (by decide)
  · have q5 : 0 < σ 232 5 := Classical.byContradiction fun y => z1 (by rw [if_neg (by omega)])
    obtain ⟨s, rfl⟩ : ∃ s : Nat, set = s := ⟨set.toNat, by omega⟩
    rw [e6_players hF h.wf h.sc, tt_some]
    refine (wo_ok hF h.wf h.sc (by omega)).mono (fun r hr => ?_)
    have hq : QB σ r.2 := hr.2.qb (by omega)
    have e1 : r.2 232 = σ 232 := hq 232 (by omega)
    have es := e_isStore (F := F) (σ := r.2)
    rw [e1, if_pos q5] at es
    unfold f_X7_worth
    simp only [tt_gt, tt_sg, tt_ite, tt_ck, tt_lk, tt_ix, tt_bo, tt_by, tt_nz, tt_ob, tt_st, tt_cpk, tt_c1, tt_c2, tt_ca, tt_cb, tt_some, kd_231, kd_0, Nat.reduceAdd, true_and, and_true, true_implies, not_true_eq_false, false_implies, not_false_eq_true, true_or, or_true, es, one0, e_in, if_pos (show 0 ≤ (s : Int) ∧ (s : Int) ≤ 255 by omega)]
    refine (wn_ok hF h.wf e1 (by omega)).mono (fun r' hr' => ⟨by rw [hr.1, hr'.1], ?_⟩)
    exact h.q2 hF (fun x hx => hq x (by omega)) ⟨fun x hx => hr'.2 x (by omega) (by omega) (by omega), fun x hx => hr'.2 x (by omega) (by omega) (by omega), fun j hj => by rw [hr'.2 231 (by decide) (by decide) (by decide)], fun hb => by rw [hr'.2 251 (by decide) (by decide) (by decide)]; exact hb⟩
