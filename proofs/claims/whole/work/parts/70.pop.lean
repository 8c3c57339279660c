theorem and8 {a b d m : Nat} (hd : d < 256) (hm : m < 256) : (256 * a + d) &&& (256 * b + m) = 256 * (a &&& b) + (d &&& m) := by
  apply Nat.eq_of_testBit_eq
  intro i
  have h1 : (d &&& m) < 2 ^ 8 := Nat.lt_of_le_of_lt Nat.and_le_left hd
  rw [Nat.testBit_and, show 256 * a + d = 2 ^ 8 * a + d from rfl, show 256 * b + m = 2 ^ 8 * b + m from rfl, show 256 * (a &&& b) + (d &&& m) = 2 ^ 8 * (a &&& b) + (d &&& m) from rfl, Nat.testBit_two_pow_mul_add a (show d < 2 ^ 8 from hd), Nat.testBit_two_pow_mul_add b (show m < 2 ^ 8 from hm), Nat.testBit_two_pow_mul_add (a &&& b) h1]
  by_cases q : i < 8
  · rw [if_pos q, if_pos q, if_pos q, Nat.testBit_and]
  · rw [if_neg q, if_neg q, if_neg q, Nat.testBit_and]
theorem sm_split {f : Nat → Int} (a : Nat) : ∀ m : Nat, sm f (a + m) = sm f a + sm (fun i => f (a + i)) m
  | 0 => by rw [Nat.add_zero, sm, Int.add_zero]
  | m + 1 => by
    rw [show a + (m + 1) = (a + m) + 1 from rfl, sm, sm, sm_split a m]
    omega
def tb (X n : Nat) : Int := sm (fun c => if X.testBit c = true then 1 else 0) n
theorem tb_8 {a d m : Nat} (hd : d < 256) : tb (256 * a + d) (8 + m) = tb d 8 + tb a m := by
  have ht : ∀ i, (256 * a + d).testBit i = if i < 8 then d.testBit i else a.testBit (i - 8) := fun i => by
    rw [show 256 * a + d = 2 ^ 8 * a + d from rfl, Nat.testBit_two_pow_mul_add a (show d < 2 ^ 8 from hd)]
  unfold tb
  rw [sm_split 8 m]
  have h1 : sm (fun c => if (256 * a + d).testBit c = true then (1 : Int) else 0) 8 = sm (fun c => if d.testBit c = true then 1 else 0) 8 := sm_congr 8 (fun i hi => by rw [ht, if_pos (show i < 8 from hi)])
  have h2 : sm (fun i => if (256 * a + d).testBit (8 + i) = true then (1 : Int) else 0) m = sm (fun c => if a.testBit c = true then 1 else 0) m := sm_congr m (fun i _ => by rw [ht, if_neg (show ¬ (8 + i < 8) by omega), show 8 + i - 8 = i by omega])
  rw [h1, h2]
def vb : List Nat → Nat
  | [] => 0
  | b :: bs => 256 * vb bs + b
def mb (m : Nat) : List Nat → Nat
  | [] => 0
  | _ :: bs => 256 * mb m bs + m
def ab (f : Nat → Nat) : List Nat → Nat
  | [] => 0
  | b :: bs => 256 * ab f bs + f b
def lt8 : List Nat → Prop
  | [] => True
  | b :: bs => b < 256 ∧ lt8 bs
def s1 (B : Nat) : Nat := B - ((B / 2) &&& 85)
def s2 (B : Nat) : Nat := (s1 B &&& 51) + ((s1 B / 4) &&& 51)
def s3 (B : Nat) : Nat := (s2 B + s2 B / 16) &&& 15
theorem by_f : ∀ B, B < 256 → ((B / 2) &&& 85) ≤ B ∧ s1 B < 256 ∧ s2 B ≤ 68 ∧ s3 B ≤ 8 ∧ (s3 B : Int) = tb B 8 ∧ s2 B % 16 ≤ 4 := by decide +kernel
theorem by_g1 : ∀ B, B < 256 → ∀ r, r < 2 → (B / 2 + 128 * r) &&& 85 = (B / 2) &&& 85 := by decide +kernel
theorem by_g2 : ∀ B, B < 256 → ∀ r, r < 4 → (B / 4 + 64 * r) &&& 51 = (B / 4) &&& 51 := by decide +kernel
theorem by_g3 : ∀ B, B < 69 → ∀ r, r < 16 → (B + B / 16 + 16 * r) &&& 15 = (B + B / 16) &&& 15 := by decide +kernel
theorem L1_ab : ∀ bs : List Nat, lt8 bs → (vb bs / 2) &&& mb 85 bs = ab (fun b => (b / 2) &&& 85) bs
  | [], _ => by simp [ab, mb, vb]
  | b :: bs, h => by
    obtain ⟨h1, h2⟩ := h
    rw [vb, mb, ab, ← L1_ab bs h2, show (256 * vb bs + b) / 2 = 256 * (vb bs / 2) + (b / 2 + 128 * (vb bs % 2)) by omega, and8 (by omega) (by decide), by_g1 b h1 _ (by omega)]
theorem L1_sub : ∀ bs : List Nat, lt8 bs → ab (fun b => (b / 2) &&& 85) bs + ab s1 bs = vb bs
  | [], _ => by simp [ab, mb, vb]
  | b :: bs, h => by
    obtain ⟨h1, h2⟩ := h
    have h3 := (by_f b h1).1
    rw [vb, ab, ab, ← L1_sub bs h2]
    show 256 * ab _ bs + ((b / 2) &&& 85) + (256 * ab s1 bs + (b - ((b / 2) &&& 85))) = _
    omega
theorem L2_a {f : Nat → Nat} (hf : ∀ b, b < 256 → f b < 256) : ∀ bs : List Nat, lt8 bs → ab f bs &&& mb 51 bs = ab (fun b => f b &&& 51) bs
  | [], _ => by simp [ab, mb, vb]
  | b :: bs, h => by
    obtain ⟨h1, h2⟩ := h
    rw [ab, mb, ab, ← L2_a hf bs h2, and8 (hf b h1) (by decide)]
theorem L2_b {f : Nat → Nat} (hf : ∀ b, b < 256 → f b < 256) : ∀ bs : List Nat, lt8 bs → (ab f bs / 4) &&& mb 51 bs = ab (fun b => (f b / 4) &&& 51) bs
  | [], _ => by simp [ab, mb, vb]
  | b :: bs, h => by
    obtain ⟨h1, h2⟩ := h
    have h3 := hf b h1
    rw [ab, mb, ab, ← L2_b hf bs h2, show (256 * ab f bs + f b) / 4 = 256 * (ab f bs / 4) + (f b / 4 + 64 * (ab f bs % 4)) by omega, and8 (by omega) (by decide), by_g2 (f b) h3 _ (by omega)]
theorem ab_sum {f g : Nat → Nat} : ∀ bs : List Nat, ab f bs + ab g bs = ab (fun b => f b + g b) bs
  | [] => by simp [ab]
  | b :: bs => by
    rw [ab, ab, ab, ← ab_sum bs]
    omega
theorem ab_16 {f : Nat → Nat} (hf : ∀ b, b < 256 → f b % 16 ≤ 4) : ∀ bs : List Nat, lt8 bs → ab f bs % 16 ≤ 4
  | [], _ => by simp [ab]
  | b :: bs, h => by
    obtain ⟨h1, h2⟩ := h
    have h3 := hf b h1
    rw [ab]
    omega
theorem L3_ab {f : Nat → Nat} (hf : ∀ b, b < 256 → f b ≤ 68) (hf2 : ∀ b, b < 256 → f b % 16 ≤ 4) : ∀ bs : List Nat, lt8 bs → (ab f bs + ab f bs / 16) &&& mb 15 bs = ab (fun b => (f b + f b / 16) &&& 15) bs
  | [], _ => by simp [ab, mb, vb]
  | b :: bs, h => by
    obtain ⟨h1, h2⟩ := h
    have h3 := hf b h1
    have h4 := ab_16 hf2 bs h2
    rw [ab, mb, ab, ← L3_ab hf hf2 bs h2, show 256 * ab f bs + f b + (256 * ab f bs + f b) / 16 = 256 * (ab f bs + ab f bs / 16) + (f b + f b / 16 + 16 * (ab f bs % 16)) by omega, and8 (by omega) (by decide), by_g3 (f b) (by omega) _ (by omega)]
theorem ab_lt {f : Nat → Nat} (hf : ∀ b, b < 256 → f b < 256) : ∀ bs : List Nat, lt8 bs → ab f bs < 256 ^ bs.length
  | [], _ => by simp [ab]
  | b :: bs, h => by
    obtain ⟨h1, h2⟩ := h
    have h3 := hf b h1
    have h4 := ab_lt hf bs h2
    rw [ab, List.length_cons, Nat.pow_succ]
    omega
theorem bv_w (a : Int) : bv (z_w a) = bv a := by
  show (iZ ((iZ a).toInt)).toBitVec = _
  rw [iZ_t]; rfl
theorem bv_add (a b : Int) : bv (a + b) = bv a + bv b := by
  show (Int32.ofInt (a + b)).toBitVec = (Int32.ofInt a).toBitVec + (Int32.ofInt b).toBitVec
  rw [Int32.toBitVec_ofInt, Int32.toBitVec_ofInt, Int32.toBitVec_ofInt, BitVec.ofInt_add]
theorem nw_add (a b : Int) : (bv (z_w (a + b))).toNat = ((bv a).toNat + (bv b).toNat) % 4294967296 := by
  rw [bv_w, bv_add]
  exact BitVec.toNat_add _ _
theorem nw_sub {a b : Int} (h : (bv b).toNat ≤ (bv a).toNat) : (bv (z_w (a - b))).toNat = (bv a).toNat - (bv b).toNat := by
  rw [bv_w]
  have h1 : bv (a - b) + bv b = bv a := by rw [← bv_add, Int.sub_add_cancel]
  have h2 := congrArg BitVec.toNat h1
  rw [BitVec.toNat_add] at h2
  have h3 := (bv (a - b)).isLt
  have h4 := (bv a).isLt
  omega
theorem n_and (a b : Int) : (bv (z_and a b)).toNat = (bv a).toNat &&& (bv b).toNat := by
  rw [bv_and, BitVec.toNat_and]
theorem iZ_u : ∀ d : Nat, d < 32 → (((iZ d).toUInt32 &&& Int32.toUInt32 31).toBitVec % 32).toNat = d := by decide
theorem n_ushr {a : Int} (d : Nat) (hd : d < 32) : (bv (z_ushr a d)).toNat = (bv a).toNat / 2 ^ d := by
  have h1 : bv (z_ushr a d) = ((iZ a).toUInt32 >>> ((iZ d).toUInt32 &&& Int32.toUInt32 31)).toBitVec := by
    show (iZ (((iZ a).toUInt32 >>> ((iZ d).toUInt32 &&& Int32.toUInt32 31)).toInt32.toInt)).toBitVec = _
    rw [iZ_t]; rfl
  rw [h1, UInt32.toBitVec_shiftRight, BitVec.ushiftRight_eq', BitVec.toNat_ushiftRight, iZ_u d hd, Nat.shiftRight_eq_div_pow]
  rfl
theorem bc_tb (x : Int) (n : Nat) (hn : n ≤ 32) : bc x n = tb (bv x).toNat n := by
  unfold bc tb
  refine sm_congr n (fun i hi => ?_)
  have h := bt_bv (x := x) (c := (i : Int)) (by omega)
  rw [Int.toNat_natCast] at h
  have h2 : (bv x).toNat.testBit i = (bv x).getLsbD i := BitVec.testBit_toNat _
  rw [h2]
  by_cases q : bt x i
  · rw [if_pos q, if_pos (h.mp q)]
  · rw [if_neg q, if_neg (fun z => q (h.mpr z))]
theorem pop_chain {x v4 v5 v7 v11 v12 v15 v17 v20 v23 : Int} (h4 : v4 = z_and (z_ushr x 1) 1431655765) (h5 : v5 = z_w (x - v4)) (h7 : v7 = z_and v5 858993459) (h11 : v11 = z_and (z_ushr v5 2) 858993459) (h12 : v12 = z_w (v7 + v11)) (h15 : v15 = z_w (v12 + z_ushr v12 4)) (h17 : v17 = z_and v15 252645135) (h20 : v20 = z_w (v17 + z_ushr v17 8)) (h23 : v23 = z_w (v20 + z_ushr v20 16)) : z_and v23 63 = bc x 32 := by
  have hlt := (bv x).isLt
  generalize hX : (bv x).toNat = X at hlt
  generalize hbs : [X % 256, X / 256 % 256, X / 65536 % 256, X / 16777216] = bs
  have hl : lt8 bs := by rw [← hbs]; exact ⟨by omega, by omega, by omega, by omega, trivial⟩
  have hv : vb bs = X := by rw [← hbs]; simp only [vb]; omega
  have hlen : bs.length = 4 := by rw [← hbs]; rfl
  have m85 : (bv 1431655765).toNat = mb 85 bs := by
    rw [← hbs, show (bv 1431655765).toNat = 1431655765 by decide]
    show 1431655765 = 256 * (256 * (256 * (256 * 0 + 85) + 85) + 85) + 85
    omega
  have m51 : (bv 858993459).toNat = mb 51 bs := by
    rw [← hbs, show (bv 858993459).toNat = 858993459 by decide]
    show 858993459 = 256 * (256 * (256 * (256 * 0 + 51) + 51) + 51) + 51
    omega
  have m15 : (bv 252645135).toNat = mb 15 bs := by
    rw [← hbs, show (bv 252645135).toNat = 252645135 by decide]
    show 252645135 = 256 * (256 * (256 * (256 * 0 + 15) + 15) + 15) + 15
    omega
  have f1 : ∀ b, b < 256 → s1 b < 256 := fun b hb => (by_f b hb).2.1
  have f2 : ∀ b, b < 256 → s2 b ≤ 68 := fun b hb => (by_f b hb).2.2.1
  have f3 : ∀ b, b < 256 → s3 b ≤ 8 := fun b hb => (by_f b hb).2.2.2.1
  have n4 : (bv v4).toNat = ab (fun b => (b / 2) &&& 85) bs := by
    rw [h4, n_and, show (1 : Int) = ((1 : Nat) : Int) from rfl, n_ushr 1 (by decide), hX, ← hv, m85]
    exact L1_ab bs hl
  have hsub := L1_sub bs hl
  have n5 : (bv v5).toNat = ab s1 bs := by
    rw [h5, nw_sub (by rw [n4, hX]; omega), n4, hX]
    omega
  have n7 : (bv v7).toNat = ab (fun b => s1 b &&& 51) bs := by rw [h7, n_and, n5, m51]; exact L2_a f1 bs hl
  have n11 : (bv v11).toNat = ab (fun b => (s1 b / 4) &&& 51) bs := by
    rw [h11, n_and, show (2 : Int) = ((2 : Nat) : Int) from rfl, n_ushr 2 (by decide), n5, m51]
    exact L2_b f1 bs hl
  have l12 : ab s2 bs < 256 ^ bs.length := ab_lt (fun b hb => by have := f2 b hb; omega) bs hl
  rw [hlen] at l12
  have n12 : (bv v12).toNat = ab s2 bs := by
    rw [h12, nw_add, n7, n11, ab_sum]
    exact Nat.mod_eq_of_lt l12
  have l17 : ab s3 bs < 256 ^ bs.length := ab_lt (fun b hb => by have := f3 b hb; omega) bs hl
  rw [hlen] at l17
  have c12 : ab s2 bs ≤ 68 * 16843009 := by
    rw [← hbs]
    simp only [ab]
    have := f2 (X % 256) (by omega)
    have := f2 (X / 256 % 256) (by omega)
    have := f2 (X / 65536 % 256) (by omega)
    have := f2 (X / 16777216) (by omega)
    omega
  have n15 : (bv v15).toNat = ab s2 bs + ab s2 bs / 16 := by
    rw [h15, nw_add, show (4 : Int) = ((4 : Nat) : Int) from rfl, n_ushr 4 (by decide), n12]
    exact Nat.mod_eq_of_lt (by omega)
  have n17 : (bv v17).toNat = ab s3 bs := by rw [h17, n_and, n15, m15]; exact L3_ab f2 (fun b hb => (by_f b hb).2.2.2.2.2) bs hl
  have p0 := f3 (X % 256) (by omega)
  have p1 := f3 (X / 256 % 256) (by omega)
  have p2 := f3 (X / 65536 % 256) (by omega)
  have p3 := f3 (X / 16777216) (by omega)
  have t0 := (by_f (X % 256) (by omega)).2.2.2.2.1
  have t1 := (by_f (X / 256 % 256) (by omega)).2.2.2.2.1
  have t2 := (by_f (X / 65536 % 256) (by omega)).2.2.2.2.1
  have t3 := (by_f (X / 16777216) (by omega)).2.2.2.2.1
  have e17 : ab s3 bs = 256 * (256 * (256 * (256 * 0 + s3 (X / 16777216)) + s3 (X / 65536 % 256)) + s3 (X / 256 % 256)) + s3 (X % 256) := by rw [← hbs]; rfl
  have n20 : (bv v20).toNat = ab s3 bs + ab s3 bs / 256 := by
    rw [h20, nw_add, show (8 : Int) = ((8 : Nat) : Int) from rfl, n_ushr 8 (by decide), n17]
    exact Nat.mod_eq_of_lt (by omega)
  have n23 : (bv v23).toNat = ab s3 bs + ab s3 bs / 256 + (ab s3 bs + ab s3 bs / 256) / 65536 := by
    rw [h23, nw_add, show (16 : Int) = ((16 : Nat) : Int) from rfl, n_ushr 16 (by decide), n20]
    exact Nat.mod_eq_of_lt (by omega)
  have n25 : (bv (z_and v23 63)).toNat = s3 (X % 256) + s3 (X / 256 % 256) + s3 (X / 65536 % 256) + s3 (X / 16777216) := by
    rw [n_and, n23, show (bv 63).toNat = 2 ^ 6 - 1 from by decide, Nat.and_two_pow_sub_one_eq_mod]
    have d1 : ab s3 bs / 256 = s3 (X / 256 % 256) + 256 * s3 (X / 65536 % 256) + 65536 * s3 (X / 16777216) := by omega
    have d2 : (ab s3 bs + ab s3 bs / 256) / 65536 = s3 (X / 65536 % 256) + s3 (X / 16777216) + 256 * s3 (X / 16777216) := by omega
    rw [d2, d1, e17]
    omega
  have hi := bv_int (iR_and (a := v23) (b := 63))
  rw [← hi, BitVec.toInt_eq_toNat_of_lt (by rw [n25]; omega), n25, bc_tb x 32 (by decide), hX]
  have hb : tb X 32 = tb (X % 256) 8 + (tb (X / 256 % 256) 8 + (tb (X / 65536 % 256) 8 + tb (X / 16777216) 8)) := by
    have e0 : X = 256 * (X / 256) + X % 256 := by omega
    have e1 : X / 256 = 256 * (X / 65536) + X / 256 % 256 := by omega
    have e2 : X / 65536 = 256 * (X / 16777216) + X / 65536 % 256 := by omega
    have b0 := tb_8 (a := X / 256) (d := X % 256) (m := 24) (by omega)
    have b1 := tb_8 (a := X / 65536) (d := X / 256 % 256) (m := 16) (by omega)
    have b2 := tb_8 (a := X / 16777216) (d := X / 65536 % 256) (m := 8) (by omega)
    rw [← e0] at b0
    rw [← e1] at b1
    rw [← e2] at b2
    rw [show (8 + 24 : Nat) = 32 from rfl] at b0
    rw [show (8 + 16 : Nat) = 24 from rfl] at b1
    rw [show (8 + 8 : Nat) = 16 from rfl] at b2
    omega
  omega
theorem bitc_ok {F : Nat} {x : Int} {σ : St} : f_J6_bitCount_0f7a4 F x σ = some (bc x 32) := by
  apply TT.eq
  unfold f_J6_bitCount_0f7a4
  simp only [tt_gt, tt_some]
  exact pop_chain rfl rfl rfl rfl rfl rfl rfl rfl rfl
