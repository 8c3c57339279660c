abbrev subP (p s : Nat) : Prop := z_and (s : Int) (z_xor (p : Int) (-1)) = 0
theorem sub_iff {p s : Nat} (hp : p < 256) (hs : s < 256) : subP p s ↔ ∀ i, i < 8 → s.testBit i = true → p.testBit i = true := by
  constructor
  · intro h i hi h1
    apply Classical.byContradiction
    intro z
    have h2 : bt (z_and (s : Int) (z_xor (p : Int) (-1))) i := by
      rw [bt_and ⟨by omega, by omega⟩, bt_not ⟨by omega, by omega⟩, bt_nat (by omega) (by omega), bt_nat (by omega) (by omega)]
      exact ⟨h1, z⟩
    rw [h] at h2
    exact bt_zero ⟨by omega, by omega⟩ h2
  · intro h
    refine bt_nil iR_and (fun c c1 c2 z => ?_)
    obtain ⟨i, rfl⟩ : ∃ i : Nat, c = i := ⟨c.toNat, by omega⟩
    rw [bt_and ⟨by omega, by omega⟩, bt_not ⟨by omega, by omega⟩, bt_nat (by omega) (by omega), bt_nat (by omega) (by omega)] at z
    by_cases q : i < 8
    · exact z.2 (h i q z.1)
    · have : s.testBit i = false := Nat.testBit_lt_two_pow (Nat.lt_of_lt_of_le hs (Nat.le_trans (by decide : 256 ≤ 2 ^ 8) (Nat.pow_le_pow_right (by decide) (by omega))))
      rw [this] at z
      exact absurd z.1 (by decide)
theorem sub_le {p s : Nat} (hp : p < 256) (hs : s < 256) (h : subP p s) : s ≤ p := by
  have h1 := (sub_iff hp hs).mp h
  have h2 : s &&& p = s := by
    apply Nat.eq_of_testBit_eq
    intro i
    rw [Nat.testBit_and]
    by_cases q : i < 8
    · by_cases z : s.testBit i = true
      · rw [z, h1 i q z]; rfl
      · have z2 : s.testBit i = false := by simpa using z
        rw [z2]; rfl
    · have : s.testBit i = false := Nat.testBit_lt_two_pow (Nat.lt_of_lt_of_le hs (Nat.le_trans (by decide : 256 ≤ 2 ^ 8) (Nat.pow_le_pow_right (by decide) (by omega))))
      rw [this]; rfl
  rw [← h2]
  exact Nat.and_le_right
theorem sm_le {f g : Nat → Int} : ∀ n : Nat, (∀ i, i < n → f i ≤ g i) → sm f n ≤ sm g n
  | 0, _ => Int.le_refl 0
  | n + 1, h => by
    have h1 := sm_le n (fun i hi => h i (by omega))
    have h2 := h n (by omega)
    rw [sm, sm]
    omega
theorem sm_lt {f g : Nat → Int} {e : Nat} : ∀ n : Nat, (∀ i, i < n → f i ≤ g i) → e < n → f e + 1 ≤ g e → sm f n + 1 ≤ sm g n
  | 0, _, h, _ => absurd h (Nat.not_lt_zero e)
  | n + 1, h, he, h3 => by
    rw [sm, sm]
    by_cases q : e = n
    · have h1 := sm_le n (fun i hi => h i (by omega))
      rw [q] at h3
      omega
    · have h1 := sm_lt n (fun i hi => h i (by omega)) (by omega) h3
      have h2 := h n (by omega)
      omega
theorem tb_sub {p s e : Nat} (hp : p < 256) (hs : s < 256) (h : subP p s) (he : e < 8) (h1 : ¬ s.testBit e = true) (h2 : p.testBit e = true) : tb s 8 + 1 ≤ tb p 8 := by
  have h3 := (sub_iff hp hs).mp h
  unfold tb
  refine sm_lt (e := e) 8 (fun i hi => ?_) he ?_
  · by_cases z : s.testBit i = true
    · rw [if_pos z, if_pos (h3 i hi z)]; omega
    · rw [if_neg z]
      split <;> omega
  · rw [if_neg h1, if_pos h2]; omega
theorem sub_ev {p s e : Nat} (hp : p < 256) (hs : s < 256) (he : e < 8) (h : subP p s) (h1 : ¬ s.testBit e = true) (h2 : p.testBit e = true) : subP p (s + 2 ^ e) := by
  have h0 : s.testBit e = false := by simpa using h1
  obtain ⟨o1, o2⟩ := or_ev e he s hs h0
  refine (sub_iff hp o2).mpr (fun i hi hb => ?_)
  have hb2 := (bt_nat (s := s + 2 ^ e) (i := i) (by omega) (by omega)).mpr hb
  rw [← o1, bt_or ⟨by omega, by omega⟩, bt_one ⟨by omega, by omega⟩ ⟨by omega, by omega⟩, bt_nat (by omega) (by omega)] at hb2
  rcases hb2 with z | z
  · exact (sub_iff hp hs).mp h i hi z
  · rw [show i = e by omega]; exact h2
theorem ff_le : ∀ c : Nat, c ≤ 7 → ∀ m : Nat, m ≤ 7 → c + m ≤ 7 → 1 ≤ fcR c * fcR m ∧ fcR c * fcR m ≤ 5040 := by decide
def shT (w : Int → Int) (e s : Nat) : Int := if subP (plR w 8) s ∧ ¬ s.testBit e = true then fcR (tb s 8).toNat * fcR (tb (plR w 8) 8 - 1 - tb s 8).toNat * (wV w (s + 2 ^ e) - wV w s) else 0
theorem sh_fac {w : Int → Int} {e s : Nat} (hs : s < 256) (he : e < 8) (h2 : (plR w 8).testBit e = true) (h : subP (plR w 8) s ∧ ¬ s.testBit e = true) : (0 ≤ tb s 8 ∧ tb s 8 ≤ 7) ∧ (0 ≤ tb (plR w 8) 8 - 1 - tb s 8 ∧ tb (plR w 8) 8 - 1 - tb s 8 ≤ 7) ∧ 1 ≤ fcR (tb s 8).toNat * fcR (tb (plR w 8) 8 - 1 - tb s 8).toNat ∧ fcR (tb s 8).toNat * fcR (tb (plR w 8) 8 - 1 - tb s 8).toNat ≤ 5040 := by
  have h3 := tb_sub (plR_lt w 8) hs h.1 he h.2 h2
  have r1 := tb_rng s 8
  have r2 := tb_rng (plR w 8) 8
  refine ⟨by omega, by omega, ff_le _ (by omega) _ (by omega) (by omega)⟩
theorem mul_abs {x y : Int} (hx : 1 ≤ x ∧ x ≤ 5040) (hy : -64 ≤ y ∧ y ≤ 64) : -322560 ≤ x * y ∧ x * y ≤ 322560 := by
  have h1 : x * y ≤ 5040 * 64 := by
    by_cases z : 0 ≤ y
    · exact Int.mul_le_mul hx.2 hy.2 z (by omega)
    · have := Int.mul_nonneg (show 0 ≤ x by omega) (show 0 ≤ -y by omega)
      rw [Int.mul_neg] at this
      omega
  have h2 : x * (-y) ≤ 5040 * 64 := by
    by_cases z : 0 ≤ -y
    · exact Int.mul_le_mul hx.2 (by omega) z (by omega)
    · have := Int.mul_nonneg (show 0 ≤ x by omega) (show 0 ≤ y by omega)
      rw [Int.mul_neg]
      omega
  rw [Int.mul_neg] at h2
  omega
theorem shT_rng {w : Int → Int} {e s : Nat} (hw : 0 ≤ w 0 ∧ w 0 ≤ 32) (hs : s < 256) (he : e < 8) (h2 : (plR w 8).testBit e = true) : -322560 ≤ shT w e s ∧ shT w e s ≤ 322560 := by
  unfold shT
  split
  · rename_i z
    have h3 := sh_fac hs he h2 z
    have r1 := wV_rng (w := w) s hw
    have r2 := wV_rng (w := w) (s + 2 ^ e) hw
    exact mul_abs h3.2.2 (by omega)
  · omega
theorem sm_abs {f : Nat → Int} {M : Int} (hM : 0 ≤ M) : ∀ n : Nat, (∀ i, i < n → -M ≤ f i ∧ f i ≤ M) → -(M * n) ≤ sm f n ∧ sm f n ≤ M * n
  | 0, _ => by simp [sm]
  | n + 1, h => by
    have h1 := sm_abs hM n (fun i hi => h i (by omega))
    have h2 := h n (by omega)
    rw [sm]
    rw [show M * ((n + 1 : Nat) : Int) = M * n + M by rw [Int.natCast_add, Int.mul_add]; simp]
    omega
theorem e7_bits {F s : Nat} {σ : St} (hF : 100 ≤ F) (hs : s < 256) : f_X7_bits F s σ = some (tb s 8) := by
  apply TT.eq
  unfold f_X7_bits
  simp only [tt_gt, tt_sg, tt_ite, tt_ck, tt_lk, tt_ix, tt_bo, tt_by, tt_nz, tt_ob, tt_st, tt_cpk, tt_c1, tt_c2, tt_ca, tt_cb, tt_some, kd_231, kd_0, Nat.reduceAdd, true_and, and_true, true_implies, not_true_eq_false, false_implies, not_false_eq_true, true_or, or_true]
  refine lp_w (L := fun n (p : Int × Int) => f_X7_bits_L4 F s σ n p.1 p.2) (fun m p => ∃ j : Nat, p.2 = j ∧ j + m = 8 ∧ p.1 = tb s j) (fun m n p hI ih => ?_) 8 F (0, 0) (by omega) ⟨0, rfl, rfl, rfl⟩
  obtain ⟨x, i⟩ := p
  dsimp only at hI ih ⊢
  obtain ⟨j, rfl, i2, i3⟩ := hI
  have hr := tb_rng s j
  rw [f_X7_bits_L4]
  simp only [tt_gt, tt_sg, tt_ite, tt_ck, tt_lk, tt_ix, tt_bo, tt_by, tt_nz, tt_ob, tt_st, tt_cpk, tt_c1, tt_c2, tt_ca, tt_cb, tt_some, kd_231, kd_0, Nat.reduceAdd, true_and, and_true, true_implies, not_true_eq_false, false_implies, not_false_eq_true, true_or, or_true]
  refine ⟨fun z => by rw [i3, show j = 8 by omega], fun z => ?_⟩
  rw [e7_bit (by omega) (by omega), tt_some]
  have h01 : 0 ≤ (if s.testBit j = true then (1 : Int) else 0) ∧ (if s.testBit j = true then (1 : Int) else 0) ≤ 1 := by split <;> omega
  refine And.intro (by omega) (And.intro (by omega) (ih (m - 1) (x + (if s.testBit j = true then 1 else 0), (j : Int) + 1) (by omega) ⟨j + 1, by dsimp only; omega, by omega, ?_⟩))
  dsimp only
  rw [tb_s, i3]
theorem bc_8 {s : Nat} (hs : s < 256) : bc (s : Int) 32 = tb s 8 := by
  rw [bc_tb _ 32 (by decide), bv_nat (by omega)]
  exact tb_cut hs 32 (by decide)
theorem fw_ok {F : Nat} {w : Int → Int} {σ : St} (hF : 1000 ≤ F) (hw : WF w) (hS : SR 4 σ w) : TT (f_X6_fillWorths F 0 ((plR w 8 : Nat) : Int) σ) (fun σ' => QB σ σ' ∧ ∀ s : Nat, s < 256 → subP (plR w 8) s → σ' 212 s = wV w s) := by
  unfold f_X6_fillWorths
  simp only [tt_gt, tt_sg, tt_ite, tt_ck, tt_lk, tt_ix, tt_bo, tt_by, tt_nz, tt_ob, tt_st, tt_cpk, tt_c1, tt_c2, tt_ca, tt_cb, tt_some, kd_231, kd_0, Nat.reduceAdd, true_and, and_true, true_implies, not_true_eq_false, false_implies, not_false_eq_true, true_or, or_true]
  refine lp_w (L := fun n (p : Int × St) => f_X6_fillWorths_L2 F 0 ((plR w 8 : Nat) : Int) n p.1 p.2) (fun m p => ∃ j : Nat, p.1 = j ∧ j + m = 256 ∧ QB σ p.2 ∧ ∀ s : Nat, s < j → subP (plR w 8) s → p.2 212 s = wV w s) (fun m n p hI ih => ?_) 256 F (0, σ) (by omega) ⟨0, rfl, rfl, QB.rf, fun s hs => absurd hs (Nat.not_lt_zero s)⟩
  obtain ⟨i, τ⟩ := p
  dsimp only at hI ih ⊢
  obtain ⟨j, rfl, i2, i3, i4⟩ := hI
  rw [f_X6_fillWorths_L2]
  simp only [tt_gt, tt_sg, tt_ite, tt_ck, tt_lk, tt_ix, tt_bo, tt_by, tt_nz, tt_ob, tt_st, tt_cpk, tt_c1, tt_c2, tt_ca, tt_cb, tt_some, kd_231, kd_0, Nat.reduceAdd, true_and, and_true, true_implies, not_true_eq_false, false_implies, not_false_eq_true, true_or, or_true, Nat.zero_add]
  refine ⟨fun z => ⟨i3, fun s hs => i4 s (by omega)⟩, fun z => ⟨fun z2 => And.intro (by omega) (ih (m - 1) ((j : Int) + 1, τ) (by omega) ⟨j + 1, by dsimp only; omega, by omega, i3, fun s hs hsb => ?_⟩), fun z2 => ?_⟩⟩
  · by_cases b : s = j
    · rw [b] at hsb; exact absurd hsb z2
    · exact i4 s (by omega) hsb
  · refine (wo_ok (s := j) (by omega) hw (hS.qb i3) (by omega)).mono (fun r hr => And.intro (by omega) (And.intro (by omega) (ih (m - 1) ((j : Int) + 1, z_up r.2 212 j r.1) (by omega) ⟨j + 1, by dsimp only; omega, by omega, fun x hx => by dsimp only; rw [up_ne (by omega), hr.2 x (by omega) (by omega), i3 x hx], fun s hs hsb => ?_⟩)))
    dsimp only
    rw [up_eq]
    dsimp only
    by_cases b : s = j
    · rw [if_pos (by omega), hr.1, b]
    · rw [if_neg (by omega), hr.2 212 (by decide) (by decide)]
      exact i4 s (by omega) hsb
theorem q_share {F : Nat} {σ : St} {ev what : Int} (hF : 2000000 ≤ F) (h : GI F σ) : PP F (f_X6_share F 0 ev what σ) (f_X7_share F 231 ev what) := by
  have h60 := h.wf.ev60
  have hw0 : 0 ≤ σ 232 0 ∧ σ 232 0 ≤ 32 := ⟨h.wf.1.1, h.wf.1.2.1⟩
  have h3b : 0 ≤ σ 232 3 ∧ σ 232 3 ≤ evN (σ 232) := by
    have := h.wf.1
    unfold Hd at this
    unfold evN
    omega
  have ht := e6_isTold (F := F) (t := ev) h.sc
  have hp := plR_lt (σ 232) 8
  have rp := tb_rng (plR (σ 232) 8) 8
  have neg : ¬ (0 < σ 232 5 ∧ ((0 ≤ ev ∧ ev < σ 232 3) ∧ ev < 8 ∧ σ 232 (6 + 4 * ev) < 4) ∧ (0 ≤ what ∧ what ≤ 1)) → TT (f_X7_share F 231 ev what σ) (fun r' => -1000 = r'.1 ∧ GI F r'.2) := by
    intro q
    unfold f_X7_share
    simp only [tt_gt, tt_sg, tt_ite, tt_ck, tt_lk, tt_ix, tt_bo, tt_by, tt_nz, tt_ob, tt_st, tt_cpk, tt_c1, tt_c2, tt_ca, tt_cb, tt_some, kd_231, kd_0, Nat.reduceAdd, true_and, and_true, true_implies, not_true_eq_false, false_implies, not_false_eq_true, true_or, or_true, e_isStore, e7_isFirst (F := F) (e := ev) h.wf rfl, e_in]
    by_cases q5 : 0 < σ 232 5
    · rw [if_pos q5]
      refine ⟨fun z => absurd z (by decide), fun _ => ?_⟩
      by_cases q6 : (0 ≤ ev ∧ ev < σ 232 3) ∧ ev < 8 ∧ σ 232 (6 + 4 * ev) < 4
      · rw [if_pos q6, if_neg (fun z => q ⟨q5, q6, z⟩)]
        exact ⟨fun z => absurd z (by decide), fun _ => ⟨fun z => absurd rfl z, fun _ => h⟩⟩
      · rw [if_neg q6]
        exact ⟨fun _ => h, fun z => absurd rfl z⟩
    · rw [if_neg q5]
      exact ⟨fun _ => h, fun z => absurd rfl z⟩
  by_cases q : 0 < σ 232 5 ∧ ((0 ≤ ev ∧ ev < σ 232 3) ∧ ev < 8 ∧ σ 232 (6 + 4 * ev) < 4) ∧ (0 ≤ what ∧ what ≤ 1)
  · obtain ⟨q5, ⟨q1, q2, q3⟩, q4⟩ := q
    obtain ⟨e, rfl⟩ : ∃ e : Nat, ev = e := ⟨ev.toNat, by omega⟩
    have he8 : e < 8 := by omega
    have h2e := Nat.two_pow_pos e
    have hpe : (plR (σ 232) 8).testBit e = true := (plR_bit (σ 232) 8 e).mpr ⟨he8, by omega, q3⟩
    have hc := e4_isCommand (F := F) (s := 4) (e := (e : Int)) rfl h.sc h.wf ⟨by omega, by omega⟩
    rw [if_pos q1] at ht
    rw [if_pos q3] at hc
    have tR : ∀ s, s < 256 → -322560 ≤ shT (σ 232) e s ∧ shT (σ 232) e s ≤ 322560 := fun s hs => shT_rng hw0 hs he8 hpe
    have hcut : sm (shT (σ 232) e) 256 = sm (shT (σ 232) e) (plR (σ 232) 8 + 1) := sm_ext (m := plR (σ 232) 8 + 1) 256 (by omega) (fun s s1 s2 => if_neg (fun z => by have := sub_le hp s2 z.1; omega))
    have hsum := sm_abs (f := shT (σ 232) e) (M := 322560) (by decide) 256 (fun s hs => tR s hs)
    have hn1 : 1 ≤ tb (plR (σ 232) 8) 8 := by
      have := tb_sub (p := plR (σ 232) 8) (s := 0) (e := e) hp (by decide) ((sub_iff hp (by decide)).mpr (fun i _ z => by rw [Nat.zero_testBit] at z; exact absurd z (by decide))) he8 (by rw [Nat.zero_testBit]; decide) hpe
      have := tb_rng 0 8
      omega
    obtain ⟨n, en⟩ : ∃ n : Nat, tb (plR (σ 232) 8) 8 = n := ⟨(tb (plR (σ 232) 8) 8).toNat, by omega⟩
    have fn := fcR_rng n (by omega)
    have key : ∀ τ : St, QB σ τ → TT (f_X7_share F 231 e what τ) (fun r' => z_l2i (frV (sm (shT (σ 232) e) 256) (fcR n) what) = r'.1 ∧ GI F r'.2) := by
      intro τ hq
      have e1 : τ 232 = σ 232 := hq 232 (by omega)
      have es := e_isStore (F := F) (σ := τ)
      rw [e1, if_pos q5] at es
      have ef := e7_isFirst (F := F) (e := (e : Int)) h.wf e1
      rw [if_pos ⟨q1, q2, q3⟩] at ef
      unfold f_X7_share
      simp only [tt_gt, tt_sg, tt_ite, tt_ck, tt_lk, tt_ix, tt_bo, tt_by, tt_nz, tt_ob, tt_st, tt_cpk, tt_c1, tt_c2, tt_ca, tt_cb, tt_some, kd_231, kd_0, Nat.reduceAdd, true_and, and_true, true_implies, not_true_eq_false, false_implies, not_false_eq_true, true_or, or_true, es, ef, one0, e_in, if_pos q4, e7_allFirst (F := F) (by omega) h.wf e1, e7_bits (F := F) (s := plR (σ 232) 8) (by omega) hp]
      have second : ∀ τ2 : St, QM τ τ2 → (∀ s : Nat, s ≤ plR (σ 232) 8 → subP (plR (σ 232) 8) s → τ2 254 s = wV (σ 232) s) → TT (f_X7_share_L84 F 231 e what F ((plR (σ 232) 8 : Nat) : Int) (tb (plR (σ 232) 8) 8) 0 0 τ2) (fun r' => z_l2i (frV (sm (shT (σ 232) e) 256) (fcR n) what) = r'.1 ∧ GI F r'.2) := by
        intro τ2 hq2 hW
        refine lp_w (L := fun n' (p : Int × Int) => f_X7_share_L84 F 231 e what n' ((plR (σ 232) 8 : Nat) : Int) (tb (plR (σ 232) 8) 8) p.1 p.2 τ2) (fun m p => ∃ j : Nat, p.2 = j ∧ j + m = plR (σ 232) 8 + 1 ∧ p.1 = sm (shT (σ 232) e) j) (fun m n' p hI ih => ?_) (plR (σ 232) 8 + 1) F (0, 0) (by omega) ⟨0, rfl, by omega, rfl⟩
        obtain ⟨x, i⟩ := p
        dsimp only at hI ih ⊢
        obtain ⟨j, rfl, i2, i3⟩ := hI
        rw [f_X7_share_L84]
        simp only [tt_gt, tt_sg, tt_ite, tt_ck, tt_lk, tt_ix, tt_bo, tt_by, tt_nz, tt_ob, tt_st, tt_cpk, tt_c1, tt_c2, tt_ca, tt_cb, tt_some, kd_231, kd_0, Nat.reduceAdd, true_and, and_true, true_implies, not_true_eq_false, false_implies, not_false_eq_true, true_or, or_true]
        refine ⟨fun z => ?_, fun z => ?_⟩
        · rw [en, fac7_ok (by omega) (by omega), tt_some, i3, show j = plR (σ 232) 8 + 1 by omega, ← hcut, frac_ok hF ⟨by omega, by omega⟩ ⟨by omega, by omega⟩, tt_some]
          exact ⟨rfl, h.q2 (by omega) (fun x hx => hq x (by omega)) hq2⟩
        · have hj : j < 256 := by omega
          have hx := sm_abs (f := shT (σ 232) e) (M := 322560) (by decide) j (fun s hs => tR s (by omega))
          have ht := tR j hj
          have skip : ¬ (subP (plR (σ 232) 8) j ∧ ¬ j.testBit e = true) → TT (f_X7_share_L84 F 231 e what n' ((plR (σ 232) 8 : Nat) : Int) (tb (plR (σ 232) 8) 8) x ((j : Int) + 1) τ2) (fun r' => z_l2i (frV (sm (shT (σ 232) e) 256) (fcR n) what) = r'.1 ∧ GI F r'.2) := fun y => by
            refine ih (m - 1) (x, (j : Int) + 1) (by omega) ⟨j + 1, by dsimp only; omega, by omega, ?_⟩
            have : shT (σ 232) e j = 0 := if_neg y
            dsimp only
            rw [sm, this, i3, Int.add_zero]
          refine ⟨fun z2 => And.intro (by omega) (skip (fun y => z2 y.1)), fun z2 => ?_⟩
          have z3 := Classical.byContradiction z2
          rw [e7_bit (by omega) (by omega), tt_some]
          by_cases b : j.testBit e = true
          · rw [if_pos b]
            exact ⟨fun _ => And.intro (by omega) (skip (fun y => y.2 b)), fun y => absurd (by decide) y⟩
          · rw [if_neg b]
            refine ⟨fun y => absurd rfl y, fun _ => ?_⟩
            obtain ⟨f1, f2, f3⟩ := sh_fac hj he8 hpe ⟨z3, b⟩
            obtain ⟨o1, o2⟩ := or_ev e he8 j hj (by simpa using b)
            have c1 := fac7_ok (F := F) (e := (tb j 8).toNat) (σ := τ2) (by omega) (by omega)
            have c2 := fac7_ok (F := F) (e := (tb (plR (σ 232) 8) 8 - 1 - tb j 8).toNat) (σ := τ2) (by omega) (by omega)
            rw [show (((tb j 8).toNat : Nat) : Int) = tb j 8 by omega] at c1
            rw [show (((tb (plR (σ 232) 8) 8 - 1 - tb j 8).toNat : Nat) : Int) = tb (plR (σ 232) 8) 8 - 1 - tb j 8 by omega] at c2
            rw [e7_bits (by omega) hj, tt_some, c1, tt_some]
            have hs2 := sub_ev hp hj he8 z3 b hpe
            have w1 := hW (j + 2 ^ e) (sub_le hp o2 hs2) hs2
            have w2 := hW j (sub_le hp hj z3) z3
            refine And.intro (by omega) ?_
            rw [tt_some]
            refine And.intro (by omega) ?_
            rw [c2, tt_some, o1, w1, w2]
            have r1 := wV_rng (w := σ 232) j hw0
            have r2 := wV_rng (w := σ 232) (j + 2 ^ e) hw0
            have eT : fcR (tb j 8).toNat * fcR (tb (plR (σ 232) 8) 8 - 1 - tb j 8).toNat * (wV (σ 232) (j + 2 ^ e) - wV (σ 232) j) = shT (σ 232) e j := (if_pos ⟨z3, b⟩).symm
            rw [eT]
            refine And.intro (by omega) (And.intro (by omega) (And.intro (by omega) (And.intro (by omega) (And.intro (by omega) (And.intro (by omega) (And.intro (by omega) (ih (m - 1) (x + shT (σ 232) e j, (j : Int) + 1) (by omega) ⟨j + 1, by dsimp only; omega, by omega, ?_⟩)))))))
            dsimp only
            rw [sm, i3]
      refine lp_w (L := fun n' (p : Int × St) => f_X7_share_L44 F 231 e what n' ((plR (σ 232) 8 : Nat) : Int) (tb (plR (σ 232) 8) 8) p.1 p.2) (fun m p => ∃ j : Nat, p.1 = j ∧ j + m = plR (σ 232) 8 + 1 ∧ QM τ p.2 ∧ ∀ s : Nat, s < j → subP (plR (σ 232) 8) s → p.2 254 s = wV (σ 232) s) (fun m n' p hI ih => ?_) (plR (σ 232) 8 + 1) F (0, τ) (by omega) ⟨0, rfl, by omega, QM.rf, fun s hs => absurd hs (Nat.not_lt_zero s)⟩
      obtain ⟨i, τ2⟩ := p
      dsimp only at hI ih ⊢
      obtain ⟨j, rfl, i2, i3, i4⟩ := hI
      rw [f_X7_share_L44]
      simp only [tt_gt, tt_sg, tt_ite, tt_ck, tt_lk, tt_ix, tt_bo, tt_by, tt_nz, tt_ob, tt_st, tt_cpk, tt_c1, tt_c2, tt_ca, tt_cb, tt_some, kd_231, kd_0, Nat.reduceAdd, true_and, and_true, true_implies, not_true_eq_false, false_implies, not_false_eq_true, true_or, or_true]
      refine ⟨fun z => second τ2 i3 (fun s hs => i4 s (by omega)), fun z => ⟨fun z2 => And.intro (by omega) (ih (m - 1) ((j : Int) + 1, τ2) (by omega) ⟨j + 1, by dsimp only; omega, by omega, i3, fun s hs hsb => ?_⟩), fun z2 => ?_⟩⟩
      · by_cases b : s = j
        · rw [b] at hsb; exact absurd hsb z2
        · exact i4 s (by omega) hsb
      · refine (wn_ok (s := j) (by omega) h.wf ((i3.hi 232 (by omega)).trans e1) (by omega)).mono (fun r hr => And.intro (by omega) (And.intro (by omega) (ih (m - 1) ((j : Int) + 1, z_up r.2 254 j r.1) (by omega) ⟨j + 1, by dsimp only; omega, by omega, ?_, fun s hs hsb => ?_⟩)))
        · dsimp only
          refine i3.tr ⟨fun x hx => ?_, fun x hx => ?_, fun j' hj => ?_, fun hb => ?_⟩
          · rw [up_ne (by omega)]; exact hr.2 x (by omega) (by omega) (by omega)
          · rw [up_ne (by omega)]; exact hr.2 x (by omega) (by omega) (by omega)
          · rw [up_ne (by decide), hr.2 231 (by decide) (by decide) (by decide)]
          · rw [up_ne (by decide), hr.2 251 (by decide) (by decide) (by decide)]; exact hb
        · dsimp only
          rw [up_eq]
          dsimp only
          by_cases b : s = j
          · rw [if_pos (by omega), hr.1, b]
          · rw [if_neg (by omega), hr.2 254 (by decide) (by decide) (by decide)]
            exact i4 s (by omega) hsb
    unfold PP f_X6_share
    simp only [tt_gt, tt_sg, tt_ite, tt_ck, tt_lk, tt_ix, tt_bo, tt_by, tt_nz, tt_ob, tt_st, tt_cpk, tt_c1, tt_c2, tt_ca, tt_cb, tt_some, kd_231, kd_0, Nat.reduceAdd, true_and, and_true, true_implies, not_true_eq_false, false_implies, not_false_eq_true, true_or, or_true, Nat.zero_add, ht, hc, one0, e6_players (F := F) (by omega) h.wf h.sc]
    refine ⟨fun z => absurd z (by omega), fun _ => ⟨fun z => absurd z (by omega), fun _ => ⟨fun z => absurd z (by omega), fun _ => ⟨fun _ => ?_, fun z => absurd q4.2 z⟩⟩⟩⟩
    refine (fw_ok (by omega) h.wf h.sc).mono (fun σ1 h1 => ?_)
    rw [bitc_ok, tt_some, bc_8 hp]
    refine lp_w (L := fun n' (p : Int × Int) => f_X6_share_L69 F 0 e what n' ((plR (σ 232) 8 : Nat) : Int) (tb (plR (σ 232) 8) 8) (z_shl 1 e) p.1 p.2 σ1) (fun m p => ∃ j : Nat, p.2 = j ∧ j + m = 256 ∧ p.1 = sm (shT (σ 232) e) j) (fun m n' p hI ih => ?_) 256 F (0, 0) (by omega) ⟨0, rfl, by omega, rfl⟩
    obtain ⟨x, i⟩ := p
    dsimp only at hI ih ⊢
    obtain ⟨j, rfl, i2, i3⟩ := hI
    rw [f_X6_share_L69]
    simp only [tt_gt, tt_sg, tt_ite, tt_ck, tt_lk, tt_ix, tt_bo, tt_by, tt_nz, tt_ob, tt_st, tt_cpk, tt_c1, tt_c2, tt_ca, tt_cb, tt_some, kd_231, kd_0, Nat.reduceAdd, true_and, and_true, true_implies, not_true_eq_false, false_implies, not_false_eq_true, true_or, or_true, Nat.zero_add]
    refine ⟨fun z => ?_, fun z => ?_⟩
    · rw [en, fac6_ok (by omega) (by omega), tt_some, i3, show j = 256 by omega, low_ok (by omega) ⟨by omega, by omega⟩ ⟨by omega, by omega⟩, tt_some]
      exact key σ1 h1.1
    · have hj : j < 256 := by omega
      have hx := sm_abs (f := shT (σ 232) e) (M := 322560) (by decide) j (fun s hs => tR s (by omega))
      have ht := tR j hj
      have skip : ¬ (subP (plR (σ 232) 8) j ∧ ¬ j.testBit e = true) → TT (f_X6_share_L69 F 0 e what n' ((plR (σ 232) 8 : Nat) : Int) (tb (plR (σ 232) 8) 8) (z_shl 1 e) x ((j : Int) + 1) σ1) (fun r => TT (f_X7_share F 231 e what r.2) (fun r' => r.1 = r'.1 ∧ GI F r'.2)) := fun y => by
        refine ih (m - 1) (x, (j : Int) + 1) (by omega) ⟨j + 1, by dsimp only; omega, by omega, ?_⟩
        have : shT (σ 232) e j = 0 := if_neg y
        dsimp only
        rw [sm, this, i3, Int.add_zero]
      refine ⟨fun z2 => And.intro (by omega) (skip (fun y => z2 y.1)), fun z2 => ?_⟩
      have z3 := Classical.byContradiction z2
      have ha := and_ev e he8 j hj
      refine ⟨fun z4 => And.intro (by omega) (skip (fun y => z4 (ha.mpr (by simpa using y.2)))), fun z4 => ?_⟩
      have b : ¬ j.testBit e = true := by
        have := ha.mp (Classical.byContradiction z4)
        rw [this]
        decide
      obtain ⟨f1, f2, f3⟩ := sh_fac hj he8 hpe ⟨z3, b⟩
      obtain ⟨o1, o2⟩ := or_ev e he8 j hj (by simpa using b)
      have c1 := fac6_ok (F := F) (e := (tb j 8).toNat) (σ := σ1) (by omega) (by omega)
      have c2 := fac6_ok (F := F) (e := (tb (plR (σ 232) 8) 8 - 1 - tb j 8).toNat) (σ := σ1) (by omega) (by omega)
      rw [show (((tb j 8).toNat : Nat) : Int) = tb j 8 by omega] at c1
      rw [show (((tb (plR (σ 232) 8) 8 - 1 - tb j 8).toNat : Nat) : Int) = tb (plR (σ 232) 8) 8 - 1 - tb j 8 by omega] at c2
      rw [bitc_ok, tt_some, bc_8 hj, c1, tt_some]
      have hs2 := sub_ev hp hj he8 z3 b hpe
      have w1 := h1.2 (j + 2 ^ e) o2 hs2
      have w2 := h1.2 j hj z3
      refine And.intro (by omega) (And.intro (by omega) ?_)
      rw [c2, tt_some, o1, w1, w2]
      have r1 := wV_rng (w := σ 232) j hw0
      have r2 := wV_rng (w := σ 232) (j + 2 ^ e) hw0
      have eT : fcR (tb j 8).toNat * fcR (tb (plR (σ 232) 8) 8 - 1 - tb j 8).toNat * (wV (σ 232) (j + 2 ^ e) - wV (σ 232) j) = shT (σ 232) e j := (if_pos ⟨z3, b⟩).symm
      rw [eT]
      refine And.intro (by omega) (And.intro (by omega) (And.intro (by omega) (And.intro (by omega) (And.intro (by omega) (And.intro (by omega) (And.intro (by omega) (ih (m - 1) (x + shT (σ 232) e j, (j : Int) + 1) (by omega) ⟨j + 1, by dsimp only; omega, by omega, ?_⟩)))))))
      dsimp only
      rw [sm, i3]
  · have N := neg q
    unfold PP f_X6_share
    simp only [tt_gt, tt_sg, tt_ite, tt_ck, tt_lk, tt_ix, tt_bo, tt_by, tt_nz, tt_ob, tt_st, tt_cpk, tt_c1, tt_c2, tt_ca, tt_cb, tt_some, kd_231, kd_0, Nat.reduceAdd, true_and, and_true, true_implies, not_true_eq_false, false_implies, not_false_eq_true, true_or, or_true, Nat.zero_add, ht]
    refine ⟨fun _ => N, fun z1 => ⟨fun _ => N, fun z2 => ⟨fun _ => N, fun z3 => ?_⟩⟩⟩
    have q1 : 0 ≤ ev ∧ ev < σ 232 3 := Classical.byContradiction fun y => z3 (if_neg y)
    rw [e4_isCommand (F := F) (s := 4) (e := ev) rfl h.sc h.wf ⟨by omega, by omega⟩, tt_some]
    refine ⟨fun _ => N, fun z4 => ⟨fun _ => N, fun z5 => ⟨fun z6 => ?_, fun _ => N⟩⟩⟩
    have q3 : σ 232 (6 + 4 * ev) < 4 := Classical.byContradiction fun y => z4 (if_neg y)
    have q5 : 0 < σ 232 5 := Classical.byContradiction fun y => by
      have := h.wf.noev y
      omega
    exact absurd ⟨q5, ⟨q1, by omega, q3⟩, by omega, z6⟩ q
