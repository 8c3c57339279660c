theorem lbv_w (a : Int) : lbv (z_lw a) = lbv a := by
  show (lZ ((lZ a).toInt)).toBitVec = _
  rw [lZ_t]; rfl
theorem lbv_add (a b : Int) : lbv (a + b) = lbv a + lbv b := by
  show (Int64.ofInt (a + b)).toBitVec = (Int64.ofInt a).toBitVec + (Int64.ofInt b).toBitVec
  rw [Int64.toBitVec_ofInt, Int64.toBitVec_ofInt, Int64.toBitVec_ofInt, BitVec.ofInt_add]
theorem nlw_add (a b : Int) : (lbv (z_lw (a + b))).toNat = ((lbv a).toNat + (lbv b).toNat) % 18446744073709551616 := by
  rw [lbv_w, lbv_add]
  exact BitVec.toNat_add _ _
theorem nlw_sub {a b : Int} (h : (lbv b).toNat ≤ (lbv a).toNat) : (lbv (z_lw (a - b))).toNat = (lbv a).toNat - (lbv b).toNat := by
  rw [lbv_w]
  have h1 : lbv (a - b) + lbv b = lbv a := by rw [← lbv_add, Int.sub_add_cancel]
  have h2 := congrArg BitVec.toNat h1
  rw [BitVec.toNat_add] at h2
  have h3 := (lbv (a - b)).isLt
  have h4 := (lbv a).isLt
  omega
theorem nl_and (a b : Int) : (lbv (z_land a b)).toNat = (lbv a).toNat &&& (lbv b).toNat := by
  rw [lbv_and, BitVec.toNat_and]
theorem lZ_u : ∀ d : Nat, d < 64 → (((iZ d).toInt64.toUInt64 &&& Int64.toUInt64 63).toBitVec % 64).toNat = d := by decide
theorem nl_ushr {a : Int} (d : Nat) (hd : d < 64) : (lbv (z_lushr a d)).toNat = (lbv a).toNat / 2 ^ d := by
  have h1 : lbv (z_lushr a d) = ((lZ a).toUInt64 >>> ((iZ d).toInt64.toUInt64 &&& Int64.toUInt64 63)).toBitVec := by
    show (lZ (((lZ a).toUInt64 >>> ((iZ d).toInt64.toUInt64 &&& Int64.toUInt64 63)).toInt64.toInt)).toBitVec = _
    rw [lZ_t]; rfl
  rw [h1, UInt64.toBitVec_shiftRight, BitVec.ushiftRight_eq', BitVec.toNat_ushiftRight, lZ_u d hd, Nat.shiftRight_eq_div_pow]
  rfl
theorem n_l2i (a : Int) : (bv (z_l2i a)).toNat = (lbv a).toNat % 4294967296 := by
  have h1 : bv (z_l2i a) = (lbv a).signExtend 32 := by
    show (iZ ((lZ a).toInt32.toInt)).toBitVec = _
    rw [iZ_t]; rfl
  rw [h1, BitVec.signExtend_eq_setWidth_of_le _ (by decide), BitVec.toNat_setWidth]
theorem fin64 {V P0 P1 P2 P3 P4 P5 P6 P7 : Nat} (h0 : P0 ≤ 8) (h1 : P1 ≤ 8) (h2 : P2 ≤ 8) (h3 : P3 ≤ 8) (h4 : P4 ≤ 8) (h5 : P5 ≤ 8) (h6 : P6 ≤ 8) (h7 : P7 ≤ 8) (hV : V = P0 + 256 * P1 + 65536 * P2 + 16777216 * P3 + 4294967296 * P4 + 1099511627776 * P5 + 281474976710656 * P6 + 72057594037927936 * P7) : V + V / 256 < 18446744073709551616 ∧ V + V / 256 + (V + V / 256) / 65536 < 18446744073709551616 ∧ V + V / 256 + (V + V / 256) / 65536 + (V + V / 256 + (V + V / 256) / 65536) / 4294967296 < 18446744073709551616 ∧ (V + V / 256 + (V + V / 256) / 65536 + (V + V / 256 + (V + V / 256) / 65536) / 4294967296) % 128 = P0 + P1 + P2 + P3 + P4 + P5 + P6 + P7 := by
  have d1 : V / 256 = P1 + 256 * P2 + 65536 * P3 + 16777216 * P4 + 4294967296 * P5 + 1099511627776 * P6 + 281474976710656 * P7 := by omega
  rw [d1]
  have d2 : (V + (P1 + 256 * P2 + 65536 * P3 + 16777216 * P4 + 4294967296 * P5 + 1099511627776 * P6 + 281474976710656 * P7)) / 65536 = (P2 + P3) + 256 * (P3 + P4) + 65536 * (P4 + P5) + 16777216 * (P5 + P6) + 4294967296 * (P6 + P7) + 1099511627776 * P7 := by omega
  rw [d2]
  have d3 : (V + (P1 + 256 * P2 + 65536 * P3 + 16777216 * P4 + 4294967296 * P5 + 1099511627776 * P6 + 281474976710656 * P7) + ((P2 + P3) + 256 * (P3 + P4) + 65536 * (P4 + P5) + 16777216 * (P5 + P6) + 4294967296 * (P6 + P7) + 1099511627776 * P7)) / 4294967296 = (P4 + P5 + P6 + P7) + 256 * (P5 + P6 + P7) + 65536 * (P6 + P7) + 16777216 * P7 := by omega
  rw [d3]
  clear d1 d2 d3
  refine ⟨by omega, by omega, by omega, by omega⟩
def lbc (x : Int) (n : Nat) : Int := tb (lbv x).toNat n
theorem lpop_chain {x v4 v5 v7 v11 v12 v15 v17 v20 v23 v26 : Int} (h4 : v4 = z_land (z_lushr x 1) 6148914691236517205) (h5 : v5 = z_lw (x - v4)) (h7 : v7 = z_land v5 3689348814741910323) (h11 : v11 = z_land (z_lushr v5 2) 3689348814741910323) (h12 : v12 = z_lw (v7 + v11)) (h15 : v15 = z_lw (v12 + z_lushr v12 4)) (h17 : v17 = z_land v15 1085102592571150095) (h20 : v20 = z_lw (v17 + z_lushr v17 8)) (h23 : v23 = z_lw (v20 + z_lushr v20 16)) (h26 : v26 = z_lw (v23 + z_lushr v23 32)) : z_and (z_l2i v26) 127 = lbc x 64 := by
  have hlt := (lbv x).isLt
  unfold lbc
  generalize hX : (lbv x).toNat = X at hlt
  generalize hbs : [X % 256, X / 256 % 256, X / 65536 % 256, X / 16777216 % 256, X / 4294967296 % 256, X / 1099511627776 % 256, X / 281474976710656 % 256, X / 72057594037927936] = bs
  have hl : lt8 bs := by rw [← hbs]; exact ⟨by omega, by omega, by omega, by omega, by omega, by omega, by omega, by omega, trivial⟩
  have hv : vb bs = X := by rw [← hbs]; simp only [vb]; omega
  have hlen : bs.length = 8 := by rw [← hbs]; rfl
  have m85 : (lbv 6148914691236517205).toNat = mb 85 bs := by
    rw [← hbs, show (lbv 6148914691236517205).toNat = 6148914691236517205 by decide]
    show 6148914691236517205 = 256 * (256 * (256 * (256 * (256 * (256 * (256 * (256 * 0 + 85) + 85) + 85) + 85) + 85) + 85) + 85) + 85
    omega
  have m51 : (lbv 3689348814741910323).toNat = mb 51 bs := by
    rw [← hbs, show (lbv 3689348814741910323).toNat = 3689348814741910323 by decide]
    show 3689348814741910323 = 256 * (256 * (256 * (256 * (256 * (256 * (256 * (256 * 0 + 51) + 51) + 51) + 51) + 51) + 51) + 51) + 51
    omega
  have m15 : (lbv 1085102592571150095).toNat = mb 15 bs := by
    rw [← hbs, show (lbv 1085102592571150095).toNat = 1085102592571150095 by decide]
    show 1085102592571150095 = 256 * (256 * (256 * (256 * (256 * (256 * (256 * (256 * 0 + 15) + 15) + 15) + 15) + 15) + 15) + 15) + 15
    omega
  have f1 : ∀ b, b < 256 → s1 b < 256 := fun b hb => (by_f b hb).2.1
  have f2 : ∀ b, b < 256 → s2 b ≤ 68 := fun b hb => (by_f b hb).2.2.1
  have f3 : ∀ b, b < 256 → s3 b ≤ 8 := fun b hb => (by_f b hb).2.2.2.1
  have n4 : (lbv v4).toNat = ab (fun b => (b / 2) &&& 85) bs := by
    rw [h4, nl_and, show (1 : Int) = ((1 : Nat) : Int) from rfl, nl_ushr 1 (by decide), hX, ← hv, m85]
    exact L1_ab bs hl
  have hsub := L1_sub bs hl
  have n5 : (lbv v5).toNat = ab s1 bs := by
    rw [h5, nlw_sub (by rw [n4, hX]; omega), n4, hX]
    omega
  have n7 : (lbv v7).toNat = ab (fun b => s1 b &&& 51) bs := by rw [h7, nl_and, n5, m51]; exact L2_a f1 bs hl
  have n11 : (lbv v11).toNat = ab (fun b => (s1 b / 4) &&& 51) bs := by
    rw [h11, nl_and, show (2 : Int) = ((2 : Nat) : Int) from rfl, nl_ushr 2 (by decide), n5, m51]
    exact L2_b f1 bs hl
  have l12 : ab s2 bs < 256 ^ bs.length := ab_lt (fun b hb => by have := f2 b hb; omega) bs hl
  rw [hlen] at l12
  have n12 : (lbv v12).toNat = ab s2 bs := by
    rw [h12, nlw_add, n7, n11, ab_sum]
    exact Nat.mod_eq_of_lt l12
  have c12 : ab s2 bs ≤ 68 * 72340172838076673 := by
    rw [← hbs]
    simp only [ab]
    have := f2 (X % 256) (by omega)
    have := f2 (X / 256 % 256) (by omega)
    have := f2 (X / 65536 % 256) (by omega)
    have := f2 (X / 16777216 % 256) (by omega)
    have := f2 (X / 4294967296 % 256) (by omega)
    have := f2 (X / 1099511627776 % 256) (by omega)
    have := f2 (X / 281474976710656 % 256) (by omega)
    have := f2 (X / 72057594037927936) (by omega)
    omega
  have n15 : (lbv v15).toNat = ab s2 bs + ab s2 bs / 16 := by
    rw [h15, nlw_add, show (4 : Int) = ((4 : Nat) : Int) from rfl, nl_ushr 4 (by decide), n12]
    exact Nat.mod_eq_of_lt (by omega)
  have n17 : (lbv v17).toNat = ab s3 bs := by rw [h17, nl_and, n15, m15]; exact L3_ab f2 (fun b hb => (by_f b hb).2.2.2.2.2) bs hl
  have e17 : ab s3 bs = s3 (X % 256) + 256 * s3 (X / 256 % 256) + 65536 * s3 (X / 65536 % 256) + 16777216 * s3 (X / 16777216 % 256) + 4294967296 * s3 (X / 4294967296 % 256) + 1099511627776 * s3 (X / 1099511627776 % 256) + 281474976710656 * s3 (X / 281474976710656 % 256) + 72057594037927936 * s3 (X / 72057594037927936) := by
    rw [← hbs]
    simp only [ab]
    omega
  have ff := fin64 (f3 (X % 256) (by omega)) (f3 (X / 256 % 256) (by omega)) (f3 (X / 65536 % 256) (by omega)) (f3 (X / 16777216 % 256) (by omega)) (f3 (X / 4294967296 % 256) (by omega)) (f3 (X / 1099511627776 % 256) (by omega)) (f3 (X / 281474976710656 % 256) (by omega)) (f3 (X / 72057594037927936) (by omega)) e17
  have n20 : (lbv v20).toNat = ab s3 bs + ab s3 bs / 256 := by
    rw [h20, nlw_add, show (8 : Int) = ((8 : Nat) : Int) from rfl, nl_ushr 8 (by decide), n17]
    exact Nat.mod_eq_of_lt ff.1
  have n23 : (lbv v23).toNat = ab s3 bs + ab s3 bs / 256 + (ab s3 bs + ab s3 bs / 256) / 65536 := by
    rw [h23, nlw_add, show (16 : Int) = ((16 : Nat) : Int) from rfl, nl_ushr 16 (by decide), n20]
    exact Nat.mod_eq_of_lt ff.2.1
  have n26 : (lbv v26).toNat = ab s3 bs + ab s3 bs / 256 + (ab s3 bs + ab s3 bs / 256) / 65536 + (ab s3 bs + ab s3 bs / 256 + (ab s3 bs + ab s3 bs / 256) / 65536) / 4294967296 := by
    rw [h26, nlw_add, show (32 : Int) = ((32 : Nat) : Int) from rfl, nl_ushr 32 (by decide), n23]
    exact Nat.mod_eq_of_lt ff.2.2.1
  have n29 : (bv (z_and (z_l2i v26) 127)).toNat = s3 (X % 256) + s3 (X / 256 % 256) + s3 (X / 65536 % 256) + s3 (X / 16777216 % 256) + s3 (X / 4294967296 % 256) + s3 (X / 1099511627776 % 256) + s3 (X / 281474976710656 % 256) + s3 (X / 72057594037927936) := by
    rw [n_and, n_l2i, n26, show (bv 127).toNat = 2 ^ 7 - 1 from by decide, Nat.and_two_pow_sub_one_eq_mod, ← ff.2.2.2]
    generalize ab s3 bs + ab s3 bs / 256 + (ab s3 bs + ab s3 bs / 256) / 65536 + (ab s3 bs + ab s3 bs / 256 + (ab s3 bs + ab s3 bs / 256) / 65536) / 4294967296 = Z
    omega
  have hi := bv_int (iR_and (a := z_l2i v26) (b := 127))
  have p0 := f3 (X % 256) (by omega)
  have p1 := f3 (X / 256 % 256) (by omega)
  have p2 := f3 (X / 65536 % 256) (by omega)
  have p3 := f3 (X / 16777216 % 256) (by omega)
  have p4 := f3 (X / 4294967296 % 256) (by omega)
  have p5 := f3 (X / 1099511627776 % 256) (by omega)
  have p6 := f3 (X / 281474976710656 % 256) (by omega)
  have p7 := f3 (X / 72057594037927936) (by omega)
  rw [← hi, BitVec.toInt_eq_toNat_of_lt (by rw [n29]; omega), n29]
  have t0 := (by_f (X % 256) (by omega)).2.2.2.2.1
  have t1 := (by_f (X / 256 % 256) (by omega)).2.2.2.2.1
  have t2 := (by_f (X / 65536 % 256) (by omega)).2.2.2.2.1
  have t3 := (by_f (X / 16777216 % 256) (by omega)).2.2.2.2.1
  have t4 := (by_f (X / 4294967296 % 256) (by omega)).2.2.2.2.1
  have t5 := (by_f (X / 1099511627776 % 256) (by omega)).2.2.2.2.1
  have t6 := (by_f (X / 281474976710656 % 256) (by omega)).2.2.2.2.1
  have t7 := (by_f (X / 72057594037927936) (by omega)).2.2.2.2.1
  have b0 := tb_8 (a := X / 256) (d := X % 256) (m := 56) (by omega)
  have b1 := tb_8 (a := X / 65536) (d := X / 256 % 256) (m := 48) (by omega)
  have b2 := tb_8 (a := X / 16777216) (d := X / 65536 % 256) (m := 40) (by omega)
  have b3 := tb_8 (a := X / 4294967296) (d := X / 16777216 % 256) (m := 32) (by omega)
  have b4 := tb_8 (a := X / 1099511627776) (d := X / 4294967296 % 256) (m := 24) (by omega)
  have b5 := tb_8 (a := X / 281474976710656) (d := X / 1099511627776 % 256) (m := 16) (by omega)
  have b6 := tb_8 (a := X / 72057594037927936) (d := X / 281474976710656 % 256) (m := 8) (by omega)
  rw [show 256 * (X / 256) + X % 256 = X by omega, show (8 + 56 : Nat) = 64 from rfl] at b0
  rw [show 256 * (X / 65536) + X / 256 % 256 = X / 256 by omega, show (8 + 48 : Nat) = 56 from rfl] at b1
  rw [show 256 * (X / 16777216) + X / 65536 % 256 = X / 65536 by omega, show (8 + 40 : Nat) = 48 from rfl] at b2
  rw [show 256 * (X / 4294967296) + X / 16777216 % 256 = X / 16777216 by omega, show (8 + 32 : Nat) = 40 from rfl] at b3
  rw [show 256 * (X / 1099511627776) + X / 4294967296 % 256 = X / 4294967296 by omega, show (8 + 24 : Nat) = 32 from rfl] at b4
  rw [show 256 * (X / 281474976710656) + X / 1099511627776 % 256 = X / 1099511627776 by omega, show (8 + 16 : Nat) = 24 from rfl] at b5
  rw [show 256 * (X / 72057594037927936) + X / 281474976710656 % 256 = X / 281474976710656 by omega, show (8 + 8 : Nat) = 16 from rfl] at b6
  rw [b0, b1, b2, b3, b4, b5, b6, ← t0, ← t1, ← t2, ← t3, ← t4, ← t5, ← t6, ← t7]
  clear b0 b1 b2 b3 b4 b5 b6 t0 t1 t2 t3 t4 t5 t6 t7
  omega
theorem lbitc_ok {F : Nat} {x : Int} {σ : St} : f_J13_bitCount_95d88 F x σ = some (lbc x 64) := by
  apply TT.eq
  unfold f_J13_bitCount_95d88
  simp only [tt_gt, tt_some]
  exact lpop_chain rfl rfl rfl rfl rfl rfl rfl rfl rfl rfl
theorem lbc_sm {x : Int} {f : Nat → Int} {n : Nat} (hn : n ≤ 64) (h : ∀ i : Nat, i < n → (f i = 1 ∧ lbt x i) ∨ (f i = 0 ∧ ¬ lbt x i)) (h2 : ∀ i : Nat, n ≤ i → i < 64 → ¬ lbt x i) : lbc x 64 = sm f n := by
  have hb : ∀ i : Nat, i < 64 → ((lbv x).toNat.testBit i = true ↔ lbt x i) := fun i hi => by
    have := lbt_bv (x := x) (c := (i : Int)) (by omega)
    rw [Int.toNat_natCast] at this
    rw [this]
    exact Iff.rfl
  unfold lbc tb
  rw [sm_ext (m := n) 64 hn (fun i i1 i2 => if_neg (fun z => h2 i i1 i2 ((hb i i2).mp z)))]
  refine sm_congr n (fun i hi => ?_)
  rcases h i hi with z | z
  · rw [z.1, if_pos ((hb i (by omega)).mpr z.2)]
  · rw [z.1, if_neg (fun y => z.2 ((hb i (by omega)).mp y))]
