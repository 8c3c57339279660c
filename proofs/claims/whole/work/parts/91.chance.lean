def wtR (p q : Int) (s : Nat) : Nat → Int
  | 0 => 1
  | i + 1 => wtR p q s i * (if s.testBit i = true then p else q)
theorem wtR_rng {p q : Int} (hp : 0 ≤ p ∧ p ≤ 10) (hq : 0 ≤ q ∧ q ≤ 10) (s : Nat) : ∀ i : Nat, 0 ≤ wtR p q s i ∧ wtR p q s i ≤ pwR 10 i
  | 0 => ⟨show (0 : Int) ≤ 1 by decide, show (1 : Int) ≤ 1 by decide⟩
  | i + 1 => by
    have ih := wtR_rng hp hq s i
    rw [wtR, pwR]
    have h1 : 0 ≤ (if s.testBit i = true then p else q) ∧ (if s.testBit i = true then p else q) ≤ 10 := by split <;> omega
    exact ⟨Int.mul_nonneg ih.1 h1.1, Int.mul_le_mul ih.2 h1.2 h1.1 (Int.le_trans ih.1 ih.2)⟩
theorem wt_pow (p q : Int) (s : Nat) : ∀ k : Nat, wtR p q s k = pwR p (tb s k).toNat * pwR q (k - (tb s k).toNat)
  | 0 => rfl
  | k + 1 => by
    have ih := wt_pow p q s k
    have hr := tb_rng s k
    rw [wtR, ih, tb_s]
    by_cases z : s.testBit k = true
    · rw [if_pos z, if_pos z, show (tb s k + 1).toNat = (tb s k).toNat + 1 by omega, show k + 1 - ((tb s k).toNat + 1) = k - (tb s k).toNat by omega, pwR]
      rw [Int.mul_assoc, Int.mul_assoc, Int.mul_comm p]
    · rw [if_neg z, if_neg z, Int.add_zero, show k + 1 - (tb s k).toNat = (k - (tb s k).toNat) + 1 by omega, pwR, Int.mul_assoc]
def rv : Nat → Nat → Nat
  | 0, _ => 0
  | k + 1, t => 2 ^ k * (t % 2) + rv k (t / 2)
theorem rv_lt : ∀ k t : Nat, rv k t < 2 ^ k
  | 0, _ => (by decide : (0 : Nat) < 2 ^ 0)
  | k + 1, t => by
    have := rv_lt k (t / 2)
    rw [rv, Nat.pow_succ]
    have h2 : t % 2 = 0 ∨ t % 2 = 1 := by omega
    rcases h2 with h | h <;> rw [h] <;> omega
theorem rv_bit : ∀ k t j : Nat, j < k → (rv k t).testBit j = t.testBit (k - 1 - j)
  | 0, _, j, h => absurd h (Nat.not_lt_zero j)
  | k + 1, t, j, h => by
    rw [rv, Nat.testBit_two_pow_mul_add _ (rv_lt k (t / 2))]
    by_cases q : j < k
    · rw [if_pos q, rv_bit k (t / 2) j q, Nat.testBit_div_two, show k - 1 - j + 1 = k + 1 - 1 - j by omega]
    · rw [if_neg q, show j = k by omega, show k - k = 0 by omega, show k + 1 - 1 - k = 0 by omega, Nat.testBit_zero, Nat.testBit_zero, Nat.mod_mod]
theorem rv_tb : ∀ k t : Nat, tb (rv k t) k = tb t k
  | 0, _ => rfl
  | k + 1, t => by
    have ih := rv_tb k (t / 2)
    have e1 : tb (rv (k + 1) t) k = tb (rv k (t / 2)) k := by
      unfold tb
      refine sm_congr k (fun i hi => ?_)
      rw [rv, Nat.testBit_two_pow_mul_add _ (rv_lt k (t / 2)), if_pos hi]
    have e2 : tb t (k + 1) = (if t.testBit 0 = true then 1 else 0) + tb (t / 2) k := by
      unfold tb
      rw [show k + 1 = 1 + k by omega, sm_split 1 k]
      have a1 : sm (fun c => if t.testBit c = true then (1 : Int) else 0) 1 = (if t.testBit 0 = true then 1 else 0) := by
        rw [sm, sm, Int.zero_add]
      have a2 : sm (fun i => if t.testBit (1 + i) = true then (1 : Int) else 0) k = sm (fun c => if (t / 2).testBit c = true then 1 else 0) k := sm_congr k (fun i _ => by rw [Nat.testBit_div_two, show 1 + i = i + 1 by omega])
      rw [a1, a2]
    rw [tb_s, e1, ih, e2, rv_bit (k + 1) t k (by omega), show k + 1 - 1 - k = 0 by omega]
    omega
theorem rv_wt (p q : Int) (k t : Nat) : wtR p q (rv k t) k = wtR p q t k := by
  rw [wt_pow, wt_pow, rv_tb]
theorem sm_dbl {f : Nat → Int} : ∀ n : Nat, sm f (2 * n) = sm (fun s => f (2 * s) + f (2 * s + 1)) n
  | 0 => rfl
  | n + 1 => by
    rw [show 2 * (n + 1) = 2 * n + 1 + 1 by omega, sm, sm, sm, sm_dbl n]
    omega
theorem rv_sum : ∀ (k : Nat) (H : Nat → Int), sm (fun t => H (rv k t)) (2 ^ k) = sm H (2 ^ k)
  | 0, H => rfl
  | k + 1, H => by
    rw [show 2 ^ (k + 1) = 2 * 2 ^ k by rw [Nat.pow_succ]; omega, sm_dbl]
    have e1 : sm (fun s => H (rv (k + 1) (2 * s)) + H (rv (k + 1) (2 * s + 1))) (2 ^ k) = sm (fun s => (fun S => H S + H (2 ^ k + S)) (rv k s)) (2 ^ k) := by
      refine sm_congr _ (fun s _ => ?_)
      rw [rv, rv, show 2 * s % 2 = 0 by omega, show (2 * s + 1) % 2 = 1 by omega, show 2 * s / 2 = s by omega, show (2 * s + 1) / 2 = s by omega, Nat.mul_zero, Nat.mul_one, Nat.zero_add]
    rw [e1, rv_sum k (fun S => H S + H (2 ^ k + S)), show 2 * 2 ^ k = 2 ^ k + 2 ^ k by omega, sm_split (2 ^ k) (2 ^ k), sm_add]
theorem wt_all {p q : Int} (hpq : p + q = 10) : ∀ k : Nat, sm (fun s => wtR p q s k) (2 ^ k) = pwR 10 k
  | 0 => rfl
  | k + 1 => by
    have ih := wt_all hpq k
    rw [show 2 ^ (k + 1) = 2 ^ k + 2 ^ k by rw [Nat.pow_succ]; omega, sm_split]
    have low : ∀ (s i : Nat), i ≤ k → s < 2 ^ k → wtR p q (2 ^ k + s) i = wtR p q s i := by
      intro s i
      induction i with
      | zero => intro _ _; rfl
      | succ i ih2 =>
        intro hi hs
        rw [wtR, wtR, ih2 (by omega) hs, show 2 ^ k + s = 2 ^ k * 1 + s by omega, Nat.testBit_two_pow_mul_add _ hs, if_pos (show i < k by omega)]
    have e1 : sm (fun s => wtR p q s (k + 1)) (2 ^ k) = sm (fun s => wtR p q s k * q) (2 ^ k) := sm_congr _ (fun s hs => by
      rw [wtR, if_neg (fun z => by rw [Nat.testBit_lt_two_pow hs] at z; exact absurd z (by decide))])
    have e2 : sm (fun s => wtR p q (2 ^ k + s) (k + 1)) (2 ^ k) = sm (fun s => wtR p q s k * p) (2 ^ k) := sm_congr _ (fun s hs => by
      rw [wtR, low s k (Nat.le_refl k) hs, if_pos (by rw [show 2 ^ k + s = 2 ^ k * 1 + s by omega, Nat.testBit_two_pow_mul_add _ hs, if_neg (by omega), show k - k = 0 by omega]; decide)])
    rw [e1, e2, ← sm_add, pwR, ← ih]
    have e3 : ∀ n : Nat, sm (fun s => wtR p q s k * q + wtR p q s k * p) n = sm (fun s => wtR p q s k) n * 10 := by
      intro n
      induction n with
      | zero => rfl
      | succ n ih3 => rw [sm, sm, ih3, ← Int.mul_add, Int.add_comm q p, hpq, ← Int.add_mul]
    exact e3 _
def gC (N : Int) (k s : Nat) : Int → Int := fun e => if (N - k ≤ e ∧ e < N) ∧ s.testBit (e - (N - k)).toNat = true then 1 else 0
theorem lOut_C {N : Int} {k s : Nat} (hN : N ≤ 60) (hk : (k : Int) ≤ N) (hs : s < 4294967296) : lOut (z_lshl (s : Int) (N - k)) (gC N k s) N := fun e e1 e2 => by
  have h := lbt_shl (s := s) (d := (N - k).toNat) (e := e.toNat) hs (by omega) (by omega)
  rw [show (((N - k).toNat : Nat) : Int) = N - k by omega, show ((e.toNat : Nat) : Int) = e by omega] at h
  rw [h]
  unfold gC
  by_cases z : (N - k ≤ e ∧ e < N) ∧ s.testBit (e - (N - k)).toNat = true
  · rw [if_pos z]
    refine ⟨fun _ => by decide, fun _ => ⟨by omega, ?_⟩⟩
    rw [show e.toNat - (N - k).toNat = (e - (N - k)).toNat by omega]
    exact z.2
  · rw [if_neg z]
    refine ⟨fun y => absurd ⟨⟨by omega, e2⟩, ?_⟩ z, fun y => absurd rfl y⟩
    rw [show (e - (N - k)).toNat = e.toNat - (N - k).toNat by omega]
    exact y.2
def dT (F : Nat) (w g : Int → Int) (c : Int) : Int := if baseR (tri F w g (w 1)) (evN w).toNat ≤ latR (tri F w g (w 1) 240) c (evN w).toNat then 1 else 0
def cT (F : Nat) (w g : Int → Int) : Int := sm (fun c => dT F w g c) (w 0).toNat
theorem dT_01 (F : Nat) (w g : Int → Int) (c : Int) : 0 ≤ dT F w g c ∧ dT F w g c ≤ 1 := by
  unfold dT
  split <;> omega
theorem cT_rng {w : Int → Int} (F : Nat) (g : Int → Int) (hw : 0 ≤ w 0 ∧ w 0 ≤ 32) : 0 ≤ cT F w g ∧ cT F w g ≤ 32 := by
  have := sm_rng (f := fun c => dT F w g c) (M := 1) (w 0).toNat (fun i _ => dT_01 F w g i)
  unfold cT
  omega
theorem sh2 : ∀ k : Nat, k ≤ 6 → z_shl 1 k = ((2 ^ k : Nat) : Int) ∧ 2 ^ k ≤ 64 := by decide
theorem hyp {w : Int → Int} (hw : WF w) : (0 ≤ w 2 ∧ w 2 ≤ 10) ∧ (0 ≤ 10 - w 2 ∧ 10 - w 2 ≤ 10) := by
  have := hw.1
  unfold Hd at this
  omega
theorem mul_rng {x y M : Int} (hx : 0 ≤ x ∧ x ≤ M) (hy : 0 ≤ y ∧ y ≤ 32) : 0 ≤ x * y ∧ x * y ≤ M * 32 := ⟨Int.mul_nonneg hx.1 hy.1, Int.mul_le_mul hx.2 hy.2 hy.1 (Int.le_trans hx.1 hx.2)⟩
theorem wd_ok {F : Nat} {w : Int → Int} {k : Nat} {asked : Int} {τ : St} {A : (Int → Int) → Int} (hF : 100 ≤ F) (hw : WF w) (hS : SR 4 τ w) (hk : k ≤ 6) (hkN : (k : Int) ≤ evN w) (hA : ∀ g σ1, RunR 110 (w 0) (w 1) (evN w).toNat (tri F w g (w 1)) σ1 → bc (z_and (σ1 110 2) asked) 32 = A g) (hA2 : ∀ g, 0 ≤ A g ∧ A g ≤ 32) : TT (f_X6_weighedDirties F 0 k asked τ) (fun r => r.1 = sm (fun s => wtR (w 2) (10 - w 2) s k * A (gC (evN w) k s)) (2 ^ k) ∧ QT τ r.2) := by
  have h60 := hw.ev60
  obtain ⟨h2, h64⟩ := sh2 k hk
  obtain ⟨hp, hq⟩ := hyp hw
  have p10 := pw10 k hk
  have tR : ∀ s : Nat, 0 ≤ wtR (w 2) (10 - w 2) s k * A (gC (evN w) k s) ∧ wtR (w 2) (10 - w 2) s k * A (gC (evN w) k s) ≤ 1000000 * 32 := fun s => by
    have := wtR_rng hp hq s k
    exact mul_rng ⟨this.1, by omega⟩ (hA2 _)
  unfold f_X6_weighedDirties
  simp only [tt_gt, tt_sg, tt_ite, tt_ck, tt_lk, tt_ix, tt_bo, tt_by, tt_nz, tt_ob, tt_st, tt_cpk, tt_c1, tt_c2, tt_ca, tt_cb, tt_some, kd_231, kd_0, Nat.reduceAdd, true_and, and_true, true_implies, not_true_eq_false, false_implies, not_false_eq_true, true_or, or_true]
  refine lp_w (L := fun n (p : Int × Int × St) => f_X6_weighedDirties_L5 F 0 k asked n p.1 p.2.1 p.2.2) (fun m p => ∃ j : Nat, p.2.1 = j ∧ j + m = 2 ^ k ∧ p.1 = sm (fun s => wtR (w 2) (10 - w 2) s k * A (gC (evN w) k s)) j ∧ QT τ p.2.2) (fun m n p hI ih => ?_) (2 ^ k) F (0, 0, τ) (by omega) ⟨0, rfl, by omega, rfl, QT.rf⟩
  obtain ⟨x, i, τ2⟩ := p
  dsimp only at hI ih ⊢
  obtain ⟨j, rfl, i2, i3, i4⟩ := hI
  have S2 := hS.qt i4
  have e2 := S2.1 2 (by decide) (by decide)
  have hx := sm_rng (f := fun s => wtR (w 2) (10 - w 2) s k * A (gC (evN w) k s)) (M := 1000000 * 32) j (fun s _ => tR s)
  rw [← i3] at hx
  rw [f_X6_weighedDirties_L5]
  simp only [tt_gt, tt_sg, tt_ite, tt_ck, tt_lk, tt_ix, tt_bo, tt_by, tt_nz, tt_ob, tt_st, tt_cpk, tt_c1, tt_c2, tt_ca, tt_cb, tt_some, kd_231, kd_0, Nat.reduceAdd, true_and, and_true, true_implies, not_true_eq_false, false_implies, not_false_eq_true, true_or, or_true, Nat.zero_add, h2, e2, bitc_ok]
  refine ⟨fun z => ⟨by rw [i3, show j = 2 ^ k by omega], i4⟩, fun z => ?_⟩
  have hjk : j < 2 ^ k := by omega
  have hpc : bc (j : Int) 32 = tb j k := by
    rw [bc_tb _ 32 (by decide), bv_nat (by omega)]
    exact tb_cut hjk 32 (by omega)
  have hr := tb_rng j k
  have hwt := wt_pow (w 2) (10 - w 2) j k
  have hwr := wtR_rng hp hq j k
  have ht := tR j
  have P1 := pow_ok (F := F) (b := w 2) (e := (tb j k).toNat) (σ := τ2) hF hp (by omega)
  have P2 := pow_ok (F := F) (b := 10 - w 2) (e := k - (tb j k).toNat) (σ := τ2) hF hq (by omega)
  rw [show (((tb j k).toNat : Nat) : Int) = tb j k by omega] at P1
  rw [show ((k - (tb j k).toNat : Nat) : Int) = (k : Int) - tb j k by omega] at P2
  rw [hpc, P1, tt_some]
  refine And.intro (by omega) (And.intro (by omega) ?_)
  rw [P2, tt_some, ← hwt]
  refine And.intro (by omega) ?_
  rw [cmp_0]
  refine ⟨fun u => And.intro (by omega) (ih (m - 1) (x, (j : Int) + 1, τ2) (by omega) ⟨j + 1, by dsimp only; omega, by omega, ?_, i4⟩), fun u => ?_⟩
  · dsimp only
    rw [sm, ← i3, u, Int.zero_mul, Int.add_zero]
  · rw [e4_size (F := F) (s := 4) rfl S2 hw, tt_some]
    refine And.intro (by omega) ?_
    refine (pw_ok (g := gC (evN w) k j) hF hw S2 (lOut_C h60.2 hkN (by omega))).mono (fun σ1 h1 => ?_)
    rw [hA _ σ1 (h1.1 _ (cAl_gd _ hw))]
    refine And.intro (by omega) (And.intro (by omega) (And.intro (by omega) (ih (m - 1) (x + wtR (w 2) (10 - w 2) j k * A (gC (evN w) k j), (j : Int) + 1, σ1) (by omega) ⟨j + 1, by dsimp only; omega, by omega, ?_, i4.tr h1.2.1⟩)))
    dsimp only
    rw [sm, ← i3]
theorem ask_cell {F : Nat} {w g : Int → Int} {c : Int} {σ1 : St} (hw : 0 ≤ w 0 ∧ w 0 ≤ 32) (hc : 0 ≤ c ∧ c < w 0) (hC : RunR 110 (w 0) (w 1) (evN w).toNat (tri F w g (w 1)) σ1) : bc (z_and (σ1 110 2) (z_shl 1 c)) 32 = dT F w g c := by
  have hb : ∀ d : Nat, d < 32 → (bt (z_and (σ1 110 2) (z_shl 1 c)) d ↔ (d : Int) = c ∧ baseR (tri F w g (w 1)) (evN w).toNat ≤ latR (tri F w g (w 1) 240) c (evN w).toNat) := fun d hd => by
    rw [bt_and ⟨by omega, by omega⟩, bt_one ⟨by omega, by omega⟩ ⟨hc.1, by omega⟩, hC.dt d (by omega) (by omega)]
    constructor
    · rintro ⟨y1, y2⟩
      exact ⟨y2, by rw [← y2]; exact y1.2⟩
    · rintro ⟨y1, y2⟩
      exact ⟨⟨by omega, by rw [y1]; exact y2⟩, y1⟩
  unfold bc
  rw [sm_only (k0 := c.toNat) 32 (by omega) (fun i hi hn => if_neg (fun z => ?_))]
  · have h1 := hb c.toNat (by omega)
    unfold dT
    by_cases z : baseR (tri F w g (w 1)) (evN w).toNat ≤ latR (tri F w g (w 1) 240) c (evN w).toNat
    · rw [if_pos z, if_pos (h1.mpr ⟨by omega, z⟩)]
    · rw [if_neg z, if_neg (fun y => z (h1.mp y).2)]
  · have := ((hb i hi).mp z).1
    omega
theorem ask_all {F : Nat} {w g : Int → Int} {σ1 : St} (hw : 0 ≤ w 0 ∧ w 0 ≤ 32) (hC : RunR 110 (w 0) (w 1) (evN w).toNat (tri F w g (w 1)) σ1) : bc (z_and (σ1 110 2) (-1)) 32 = cT F w g := by
  have hm : ∀ d : Nat, d < 32 → bt (-1) d := by decide
  have hb : ∀ d : Nat, d < 32 → (bt (z_and (σ1 110 2) (-1)) d ↔ (d : Int) < w 0 ∧ baseR (tri F w g (w 1)) (evN w).toNat ≤ latR (tri F w g (w 1) 240) d (evN w).toNat) := fun d hd => by
    rw [bt_and ⟨by omega, by omega⟩, hC.dt d (by omega) (by omega)]
    exact ⟨fun y => y.1, fun y => ⟨y, hm d hd⟩⟩
  unfold cT
  refine bc_eq (by omega) (fun c hc => ?_) (fun c c1 c2 z => ?_)
  · have h1 := hb c (by omega)
    unfold dT
    by_cases z : baseR (tri F w g (w 1)) (evN w).toNat ≤ latR (tri F w g (w 1) 240) c (evN w).toNat
    · rw [if_pos z, if_pos (h1.mpr ⟨by omega, z⟩)]
    · rw [if_neg z, if_neg (fun y => z (h1.mp y).2)]
  · have := ((hb c c2).mp z).1
    omega
