theorem cmp_nz {x : Nat} : z_cmp (x : Int) 0 = 0 ↔ x = 0 := by
  rw [cmp_0]
  omega
theorem low_loop {F : Nat} {a1 a2 a3 : Int} {σ : St} : ∀ (k n x y i : Nat), x < y → x * y < 2 ^ k → i + k ≤ 99 → k < n → f_X6_lowest_L12 F a1 a2 a3 σ n x y i = f_X6_lowest_J47 F a1 a2 a3 σ (Nat.gcd x y : Nat) := by
  intro k
  induction k with
  | zero =>
    intro n x y i hxy hm hi hn
    obtain ⟨n, rfl⟩ : ∃ m, n = m + 1 := ⟨n - 1, by omega⟩
    have hx : x = 0 := by
      apply Classical.byContradiction
      intro z
      have := Nat.mul_pos (show 0 < x by omega) (show 0 < y by omega)
      omega
    subst hx
    rw [f_X6_lowest_L12, z_gt, if_neg (by omega), z_gt, z_gt, if_pos (by rw [cmp_nz]), Nat.gcd_zero_left]
  | succ k ih =>
    intro n x y i hxy hm hi hn
    obtain ⟨n, rfl⟩ : ∃ m, n = m + 1 := ⟨n - 1, by omega⟩
    rw [f_X6_lowest_L12, z_gt, if_neg (by omega), z_gt, z_gt]
    by_cases hx : x = 0
    · subst hx
      rw [if_pos (by rw [cmp_nz]), Nat.gcd_zero_left]
    · rw [if_neg (by rw [cmp_nz]; exact hx), z_nz, if_neg (by omega), z_gt, ← Int.ofNat_tmod, z_ck, if_pos (by omega), Nat.gcd_rec]
      have hr := Nat.mod_lt y (show 0 < x by omega)
      have h2 : 2 * (y % x) ≤ y := by
        have h3 := Nat.div_add_mod y x
        have h4 : 1 ≤ y / x := (Nat.one_le_div_iff (by omega)).mpr (by omega)
        have h5 : x * 1 ≤ x * (y / x) := Nat.mul_le_mul_left x h4
        omega
      have h6 : 2 * (y % x * x) ≤ x * y := by
        have := Nat.mul_le_mul_right x h2
        rw [Nat.mul_comm x y, ← Nat.mul_assoc]
        exact this
      have h7 := ih n (y % x) x (i + 1) hr (by rw [Nat.pow_succ] at hm; omega) (by omega) (by omega)
      rw [show ((i : Int) + 1) = ((i + 1 : Nat) : Int) by omega]
      exact h7
def frV (a b what : Int) : Int := if what = 0 then a.tdiv (Nat.gcd a.natAbs b.toNat : Nat) else b.tdiv (Nat.gcd a.natAbs b.toNat : Nat)
theorem frV_rng {a b what : Int} (ha : -4000000000 ≤ a ∧ a ≤ 4000000000) (hb : 0 < b ∧ b ≤ 4000000000) : -4000000000 ≤ frV a b what ∧ frV a b what ≤ 4000000000 := by
  have h1 := Int.natAbs_tdiv_le_natAbs a (Nat.gcd a.natAbs b.toNat : Nat)
  have h2 := Int.natAbs_tdiv_le_natAbs b (Nat.gcd a.natAbs b.toNat : Nat)
  unfold frV
  split <;> omega
theorem j47_ok {F : Nat} {a b what : Int} {σ : St} (ha : -4000000000 ≤ a ∧ a ≤ 4000000000) (hb : 0 < b ∧ b ≤ 4000000000) : f_X6_lowest_J47 F a b what σ (Nat.gcd a.natAbs b.toNat : Nat) = some (frV a b what) := by
  have hg : 0 < Nat.gcd a.natAbs b.toNat := Nat.gcd_pos_of_pos_right _ (by omega)
  have h1 := Int.natAbs_tdiv_le_natAbs a (Nat.gcd a.natAbs b.toNat : Nat)
  have h2 := Int.natAbs_tdiv_le_natAbs b (Nat.gcd a.natAbs b.toNat : Nat)
  unfold frV
  apply TT.eq
  unfold f_X6_lowest_J47
  simp only [tt_gt, tt_sg, tt_ite, tt_ck, tt_lk, tt_ix, tt_bo, tt_by, tt_nz, tt_ob, tt_st, tt_cpk, tt_c1, tt_c2, tt_ca, tt_cb, tt_some, kd_231, kd_0, Nat.reduceAdd, true_and, and_true, true_implies, not_true_eq_false, false_implies, not_false_eq_true, true_or, or_true, cmp_nz]
  refine ⟨fun _ => ⟨fun z => And.intro (by omega) (And.intro (by omega) (by rw [if_neg z])), fun z => And.intro (by omega) (And.intro (by omega) (by rw [if_pos (Classical.byContradiction z)]))⟩, fun z => absurd (by omega) z⟩
theorem low_ok {F : Nat} {a b what : Int} {σ : St} (hF : 200 ≤ F) (ha : -4000000000 ≤ a ∧ a ≤ 4000000000) (hb : 0 < b ∧ b ≤ 4000000000) : f_X6_lowest F a b what σ = some (frV a b what) := by
  have e1 : (if 0 < a then a else -a) = ((a.natAbs : Nat) : Int) := by split <;> omega
  have e2 : b = ((b.toNat : Nat) : Int) := by omega
  have hm : a.natAbs * b.toNat < 2 ^ 64 := Nat.lt_of_le_of_lt (Nat.mul_le_mul (show a.natAbs ≤ 4000000000 by omega) (show b.toNat ≤ 4000000000 by omega)) (by decide)
  have fin : f_X6_lowest_L12 F a b what σ F ((a.natAbs : Nat) : Int) ((b.toNat : Nat) : Int) ((0 : Nat) : Int) = some (frV a b what) := by
    rw [← j47_ok (F := F) (what := what) (σ := σ) ha hb]
    by_cases q : a.natAbs < b.toNat
    · exact low_loop 64 F a.natAbs b.toNat 0 q hm (by omega) (by omega)
    · obtain ⟨n, rfl⟩ : ∃ m, F = m + 1 := ⟨F - 1, by omega⟩
      rw [f_X6_lowest_L12, z_gt, if_neg (by omega), z_gt, z_gt]
      by_cases hx : a.natAbs = 0
      · omega
      · rw [if_neg (by rw [cmp_nz]; exact hx), z_nz, if_neg (by omega), z_gt, ← Int.ofNat_tmod, z_ck, if_pos (by omega), Nat.gcd_rec]
        have hr := Nat.mod_lt b.toNat (show 0 < a.natAbs by omega)
        have h8 : b.toNat % a.natAbs * a.natAbs < 2 ^ 64 := Nat.lt_of_le_of_lt (Nat.mul_le_mul (Nat.mod_le b.toNat a.natAbs) (Nat.le_refl _)) (by rw [Nat.mul_comm]; exact hm)
        exact low_loop 64 n (b.toNat % a.natAbs) a.natAbs 1 hr h8 (by omega) (by omega)
  apply TT.eq
  unfold f_X6_lowest
  simp only [tt_gt, tt_sg, tt_ite, tt_ck, tt_lk, tt_ix, tt_bo, tt_by, tt_nz, tt_ob, tt_st, tt_cpk, tt_c1, tt_c2, tt_ca, tt_cb, tt_some, kd_231, kd_0, Nat.reduceAdd, true_and, and_true, true_implies, not_true_eq_false, false_implies, not_false_eq_true, true_or, or_true, e1]
  refine And.intro (by omega) ?_
  rw [← e2] at fin
  rw [show ((0 : Nat) : Int) = 0 from rfl] at fin
  rw [fin, tt_some]
theorem div_loop {F : Nat} {a1 a2 : Int} {σ : St} : ∀ (n x y : Nat), y < n → f_X7_divisor_L9 F a1 a2 σ n x y = some ((Nat.gcd y x : Nat) : Int) := by
  intro n
  induction n with
  | zero => intro x y h; exact absurd h (Nat.not_lt_zero y)
  | succ n ih =>
    intro x y h
    rw [f_X7_divisor_L9, z_gt, z_gt]
    by_cases hy : y = 0
    · subst hy
      rw [if_pos (by rw [cmp_nz]), Nat.gcd_zero_left]
    · have hr := Nat.mod_lt x (show 0 < y by omega)
      rw [if_neg (by rw [cmp_nz]; exact hy), z_nz, if_neg (by omega), z_gt, ← Int.ofNat_tmod, ih y (x % y) (by omega), Nat.gcd_rec y x]
theorem frac_ok {F : Nat} {a b what : Int} {σ : St} (hF : 2000000 ≤ F) (ha : -4000000000 ≤ a ∧ a ≤ 4000000000) (hb : 0 < b ∧ b ≤ 1000000) : f_X7_fraction F a b what σ = some (frV a b what) := by
  have e1 : (if 0 < a then a else -a) = ((a.natAbs : Nat) : Int) := by split <;> omega
  have hg : 0 < Nat.gcd a.natAbs b.toNat := Nat.gcd_pos_of_pos_right _ (by omega)
  have h1 := Int.natAbs_tdiv_le_natAbs a (Nat.gcd a.natAbs b.toNat : Nat)
  have h2 := Int.natAbs_tdiv_le_natAbs b (Nat.gcd a.natAbs b.toNat : Nat)
  have ed : f_X7_divisor F a b σ = some ((Nat.gcd a.natAbs b.toNat : Nat) : Int) := by
    apply TT.eq
    unfold f_X7_divisor
    simp only [tt_gt, tt_sg, tt_ite, tt_ck, tt_lk, tt_ix, tt_bo, tt_by, tt_nz, tt_ob, tt_st, tt_cpk, tt_c1, tt_c2, tt_ca, tt_cb, tt_some, kd_231, kd_0, Nat.reduceAdd, true_and, and_true, true_implies, not_true_eq_false, false_implies, not_false_eq_true, true_or, or_true, e1]
    refine And.intro (by omega) ?_
    have := div_loop (F := F) (a1 := a) (a2 := b) (σ := σ) F a.natAbs b.toNat (by omega)
    rw [show ((b.toNat : Nat) : Int) = b by omega, Nat.gcd_comm] at this
    rw [this, tt_some]
  apply TT.eq
  unfold f_X7_fraction frV
  simp only [tt_gt, tt_sg, tt_ite, tt_ck, tt_lk, tt_ix, tt_bo, tt_by, tt_nz, tt_ob, tt_st, tt_cpk, tt_c1, tt_c2, tt_ca, tt_cb, tt_some, kd_231, kd_0, Nat.reduceAdd, true_and, and_true, true_implies, not_true_eq_false, false_implies, not_false_eq_true, true_or, or_true, ed]
  refine ⟨fun z => And.intro (by omega) (And.intro (by omega) (by rw [if_neg z])), fun z => And.intro (by omega) (And.intro (by omega) (by rw [if_pos (Classical.byContradiction z)]))⟩
def pwR (b : Int) : Nat → Int
  | 0 => 1
  | j + 1 => pwR b j * b
theorem pwR_rng {b : Int} (hb : 0 ≤ b ∧ b ≤ 10) : ∀ j : Nat, 0 ≤ pwR b j ∧ pwR b j ≤ pwR 10 j
  | 0 => ⟨show (0 : Int) ≤ 1 by decide, show (1 : Int) ≤ 1 by decide⟩
  | j + 1 => by
    have ih := pwR_rng hb j
    rw [pwR, pwR]
    exact ⟨Int.mul_nonneg ih.1 hb.1, Int.mul_le_mul ih.2 hb.2 hb.1 (Int.le_trans ih.1 ih.2)⟩
theorem pw10 : ∀ j : Nat, j ≤ 6 → 1 ≤ pwR 10 j ∧ pwR 10 j ≤ 1000000 := by
  intro j hj
  have : j = 0 ∨ j = 1 ∨ j = 2 ∨ j = 3 ∨ j = 4 ∨ j = 5 ∨ j = 6 := by omega
  rcases this with rfl | rfl | rfl | rfl | rfl | rfl | rfl <;> decide
theorem pow_ok {F : Nat} {b : Int} {e : Nat} {σ : St} (hF : 100 ≤ F) (hb : 0 ≤ b ∧ b ≤ 10) (he : e ≤ 6) : f_X6_power F b e σ = some (pwR b e) := by
  apply TT.eq
  unfold f_X6_power
  simp only [tt_gt, tt_sg, tt_ite, tt_ck, tt_lk, tt_ix, tt_bo, tt_by, tt_nz, tt_ob, tt_st, tt_cpk, tt_c1, tt_c2, tt_ca, tt_cb, tt_some, kd_231, kd_0, Nat.reduceAdd, true_and, and_true, true_implies, not_true_eq_false, false_implies, not_false_eq_true, true_or, or_true]
  refine lp_w (L := fun n (p : Int × Int) => f_X6_power_L5 F b e σ n p.1 p.2) (fun m p => ∃ j : Nat, p.2 = j ∧ j + m = e ∧ p.1 = pwR b j) (fun m n p hI ih => ?_) e F (1, 0) (by omega) ⟨0, rfl, by omega, rfl⟩
  obtain ⟨x, i⟩ := p
  dsimp only at hI ih ⊢
  obtain ⟨j, rfl, i2, i3⟩ := hI
  rw [f_X6_power_L5]
  simp only [tt_gt, tt_sg, tt_ite, tt_ck, tt_lk, tt_ix, tt_bo, tt_by, tt_nz, tt_ob, tt_st, tt_cpk, tt_c1, tt_c2, tt_ca, tt_cb, tt_some, kd_231, kd_0, Nat.reduceAdd, true_and, and_true, true_implies, not_true_eq_false, false_implies, not_false_eq_true, true_or, or_true]
  refine ⟨fun z => by rw [i3, show j = e by omega], fun z => ?_⟩
  have h1 := pwR_rng hb (j + 1)
  have h2 := pw10 (j + 1) (by omega)
  have h3 : x * b = pwR b (j + 1) := by rw [pwR, i3]
  rw [h3]
  exact And.intro (by omega) (And.intro (by omega) (ih (m - 1) (pwR b (j + 1), (j : Int) + 1) (by omega) ⟨j + 1, by dsimp only; omega, by omega, rfl⟩))
def fcR : Nat → Int
  | 0 => 1
  | n + 1 => if n = 0 then 1 else fcR n * ((n + 1 : Nat) : Int)
theorem fcR_rng : ∀ n : Nat, n ≤ 8 → 1 ≤ fcR n ∧ fcR n ≤ 40320 := by
  intro n hn
  have : n = 0 ∨ n = 1 ∨ n = 2 ∨ n = 3 ∨ n = 4 ∨ n = 5 ∨ n = 6 ∨ n = 7 ∨ n = 8 := by omega
  rcases this with rfl | rfl | rfl | rfl | rfl | rfl | rfl | rfl | rfl <;> decide
theorem fac6_ok {F : Nat} {e : Nat} {σ : St} (hF : 100 ≤ F) (he : e ≤ 8) : f_X6_factorial F e σ = some (fcR e) := by
  apply TT.eq
  unfold f_X6_factorial
  simp only [tt_gt, tt_sg, tt_ite, tt_ck, tt_lk, tt_ix, tt_bo, tt_by, tt_nz, tt_ob, tt_st, tt_cpk, tt_c1, tt_c2, tt_ca, tt_cb, tt_some, kd_231, kd_0, Nat.reduceAdd, true_and, and_true, true_implies, not_true_eq_false, false_implies, not_false_eq_true, true_or, or_true]
  have hb : e = 0 ∨ 1 ≤ e := by omega
  rcases hb with rfl | hb
  · obtain ⟨n, rfl⟩ : ∃ m, F = m + 1 := ⟨F - 1, by omega⟩
    rw [f_X6_factorial_L4]
    simp only [tt_gt, tt_sg, tt_ite, tt_ck, tt_lk, tt_ix, tt_bo, tt_by, tt_nz, tt_ob, tt_st, tt_cpk, tt_c1, tt_c2, tt_ca, tt_cb, tt_some, kd_231, kd_0, Nat.reduceAdd, true_and, and_true, true_implies, not_true_eq_false, false_implies, not_false_eq_true, true_or, or_true]
    exact ⟨fun _ => rfl, fun z => absurd (by decide) z⟩
  · refine lp_w (L := fun n (p : Int × Int) => f_X6_factorial_L4 F e σ n p.1 p.2) (fun m p => ∃ j : Nat, p.2 = j + 1 ∧ j + m = e ∧ 1 ≤ j ∧ p.1 = fcR j) (fun m n p hI ih => ?_) (e - 1) F (1, 2) (by omega) ⟨1, rfl, by omega, by omega, rfl⟩
    obtain ⟨x, i⟩ := p
    dsimp only at hI ih ⊢
    obtain ⟨j, rfl, i2, i4, i3⟩ := hI
    rw [f_X6_factorial_L4]
    simp only [tt_gt, tt_sg, tt_ite, tt_ck, tt_lk, tt_ix, tt_bo, tt_by, tt_nz, tt_ob, tt_st, tt_cpk, tt_c1, tt_c2, tt_ca, tt_cb, tt_some, kd_231, kd_0, Nat.reduceAdd, true_and, and_true, true_implies, not_true_eq_false, false_implies, not_false_eq_true, true_or, or_true]
    refine ⟨fun z => by rw [i3, show j = e by omega], fun z => ?_⟩
    have h1 := fcR_rng (j + 1) (by omega)
    have h3 : x * ((j : Int) + 1) = fcR (j + 1) := by
      rw [fcR, if_neg (by omega), i3]
      rfl
    rw [h3]
    exact And.intro (by omega) (And.intro (by omega) (ih (m - 1) (fcR (j + 1), (j : Int) + 1 + 1) (by omega) ⟨j + 1, by dsimp only; omega, by omega, by omega, rfl⟩))
theorem fac7_ok {F : Nat} {e : Nat} {σ : St} (hF : 100 ≤ F) (he : e ≤ 8) : f_X7_factorial F e σ = some (fcR e) := by
  apply TT.eq
  unfold f_X7_factorial
  simp only [tt_gt, tt_sg, tt_ite, tt_ck, tt_lk, tt_ix, tt_bo, tt_by, tt_nz, tt_ob, tt_st, tt_cpk, tt_c1, tt_c2, tt_ca, tt_cb, tt_some, kd_231, kd_0, Nat.reduceAdd, true_and, and_true, true_implies, not_true_eq_false, false_implies, not_false_eq_true, true_or, or_true]
  have hb : e = 0 ∨ 1 ≤ e := by omega
  rcases hb with rfl | hb
  · obtain ⟨n, rfl⟩ : ∃ m, F = m + 1 := ⟨F - 1, by omega⟩
    rw [f_X7_factorial_L4]
    simp only [tt_gt, tt_sg, tt_ite, tt_ck, tt_lk, tt_ix, tt_bo, tt_by, tt_nz, tt_ob, tt_st, tt_cpk, tt_c1, tt_c2, tt_ca, tt_cb, tt_some, kd_231, kd_0, Nat.reduceAdd, true_and, and_true, true_implies, not_true_eq_false, false_implies, not_false_eq_true, true_or, or_true]
    exact ⟨fun _ => rfl, fun z => absurd (by decide) z⟩
  · refine lp_w (L := fun n (p : Int × Int) => f_X7_factorial_L4 F e σ n p.1 p.2) (fun m p => ∃ j : Nat, p.2 = j + 1 ∧ j + m = e ∧ 1 ≤ j ∧ p.1 = fcR j) (fun m n p hI ih => ?_) (e - 1) F (1, 2) (by omega) ⟨1, rfl, by omega, by omega, rfl⟩
    obtain ⟨x, i⟩ := p
    dsimp only at hI ih ⊢
    obtain ⟨j, rfl, i2, i4, i3⟩ := hI
    rw [f_X7_factorial_L4]
    simp only [tt_gt, tt_sg, tt_ite, tt_ck, tt_lk, tt_ix, tt_bo, tt_by, tt_nz, tt_ob, tt_st, tt_cpk, tt_c1, tt_c2, tt_ca, tt_cb, tt_some, kd_231, kd_0, Nat.reduceAdd, true_and, and_true, true_implies, not_true_eq_false, false_implies, not_false_eq_true, true_or, or_true]
    refine ⟨fun z => by rw [i3, show j = e by omega], fun z => ?_⟩
    have h1 := fcR_rng (j + 1) (by omega)
    have h3 : x * ((j : Int) + 1) = fcR (j + 1) := by
      rw [fcR, if_neg (by omega), i3]
      rfl
    rw [h3]
    exact And.intro (by omega) (And.intro (by omega) (ih (m - 1) (fcR (j + 1), (j : Int) + 1 + 1) (by omega) ⟨j + 1, by dsimp only; omega, by omega, by omega, rfl⟩))
theorem bv_nat {s : Nat} (hs : s < 4294967296) : (bv (s : Int)).toNat = s := by
  show (Int32.ofInt (s : Int)).toBitVec.toNat = s
  rw [Int32.toBitVec_ofInt, BitVec.ofInt_natCast, BitVec.toNat_ofNat]
  exact Nat.mod_eq_of_lt hs
theorem bt_nat {s i : Nat} (hs : s < 4294967296) (hi : i < 32) : bt (s : Int) i ↔ s.testBit i = true := by
  rw [bt_bv ⟨by omega, by omega⟩, Int.toNat_natCast, ← BitVec.testBit_toNat, bv_nat hs]
theorem lbv_nat {s : Nat} (hs : s < 4294967296) : (lbv (s : Int)).toNat = s := by
  show (Int64.ofInt (s : Int)).toBitVec.toNat = s
  rw [Int64.toBitVec_ofInt, BitVec.ofInt_natCast, BitVec.toNat_ofNat]
  exact Nat.mod_eq_of_lt (by omega)
theorem lbt_shl {s d e : Nat} (hs : s < 4294967296) (hd : d < 64) (he : e < 64) : lbt (z_lshl (s : Int) d) e ↔ d ≤ e ∧ s.testBit (e - d) = true := by
  rw [lbt_bv ⟨by omega, by omega⟩, lbv_shl ⟨by omega, by omega⟩, Int.toNat_natCast, Int.toNat_natCast, BitVec.getLsbD_shiftLeft, ← BitVec.testBit_toNat, lbv_nat hs]
  simp
  omega
theorem e7_bit {F s i : Nat} {σ : St} (hs : s < 4294967296) (hi : i < 32) : f_X7_bit F s i σ = some (if s.testBit i = true then 1 else 0) := by
  rw [e_bit, bt_ite ⟨by omega, by omega⟩, Int.toNat_natCast, ← BitVec.testBit_toNat, bv_nat hs]
theorem tb_cut {s k : Nat} (hs : s < 2 ^ k) : ∀ n : Nat, k ≤ n → tb s n = tb s k := fun n hn => by
  unfold tb
  exact sm_ext n hn (fun i i1 i2 => if_neg (fun z => by
    have := Nat.testBit_lt_two_pow (x := s) (i := i) (Nat.lt_of_lt_of_le hs (Nat.pow_le_pow_right (by decide) i1))
    rw [this] at z
    exact absurd z (by decide)))
theorem tb_rng (s n : Nat) : 0 ≤ tb s n ∧ tb s n ≤ n := by
  have := sm_rng (f := fun c => if s.testBit c = true then 1 else 0) (M := 1) n (fun i _ => by split <;> omega)
  unfold tb
  omega
theorem tb_s (s n : Nat) : tb s (n + 1) = tb s n + (if s.testBit n = true then 1 else 0) := rfl
