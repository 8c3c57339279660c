def lbv (x : Int) : BitVec 64 := (lZ x).toBitVec
def lbt (x c : Int) : Prop := ¬ z_land (z_lshr x c) 1 = 0
theorem lbv_int {x : Int} (h : lR x) : (lbv x).toInt = x := lZ_o h
theorem lbv_of (y : BitVec 64) : lbv y.toInt = y := by
  show (Int64.ofInt y.toInt).toBitVec = y
  rw [Int64.toBitVec_ofInt, BitVec.ofInt_toInt]
theorem lbv_and (a b : Int) : lbv (z_land a b) = lbv a &&& lbv b := by
  show (lZ ((lZ a &&& lZ b).toInt)).toBitVec = _
  rw [lZ_t]; rfl
theorem lbv_or (a b : Int) : lbv (z_lor a b) = lbv a ||| lbv b := by
  show (lZ ((lZ a ||| lZ b).toInt)).toBitVec = _
  rw [lZ_t]; rfl
theorem lR_and {a b : Int} : lR (z_land a b) := lR_t _
theorem lR_or {a b : Int} : lR (z_lor a b) := lR_t _
theorem lR_shl {a b : Int} : lR (z_lshl a b) := lR_t _
theorem lR_shr {a b : Int} : lR (z_lshr a b) := lR_t _
theorem lZ_63 : ∀ d : Nat, d < 64 → ((iZ d).toInt64 &&& 63).toBitVec.toNat = d ∧ ((iZ d).toInt64 &&& 63).toBitVec.smod 64 = BitVec.ofNat 64 d := by decide
theorem lbv_shl {a d : Int} (h : 0 ≤ d ∧ d < 64) : lbv (z_lshl a d) = lbv a <<< d.toNat := by
  show (lZ ((lZ a <<< ((iZ d).toInt64 &&& 63)).toInt)).toBitVec = _
  rw [lZ_t]
  obtain ⟨n, rfl⟩ : ∃ n : Nat, d = n := ⟨d.toNat, by omega⟩
  have h1 := lZ_63 n (by omega)
  rw [Int64.toBitVec_shiftLeft, h1.2]
  show lbv a <<< BitVec.ofNat 64 n = _
  rw [BitVec.shiftLeft_eq', BitVec.toNat_ofNat, Nat.mod_eq_of_lt (by omega)]
  rfl
theorem lbv_shr {a d : Int} (h : 0 ≤ d ∧ d < 64) : lbv (z_lshr a d) = (lbv a).sshiftRight d.toNat := by
  show (lZ ((lZ a >>> ((iZ d).toInt64 &&& 63)).toInt)).toBitVec = _
  rw [lZ_t]
  obtain ⟨n, rfl⟩ : ∃ n : Nat, d = n := ⟨d.toNat, by omega⟩
  have h1 := lZ_63 n (by omega)
  rw [Int64.toBitVec_shiftRight, h1.2, BitVec.sshiftRight_eq', BitVec.toNat_ofNat, Nat.mod_eq_of_lt (by omega)]
  rfl
theorem lbv_0 {x : Int} (h : lR x) : x = 0 ↔ lbv x = 0#64 := by
  constructor
  · intro q; subst q; rfl
  · intro q
    have := lbv_int h
    rw [q] at this
    exact this.symm
theorem lbt_bv {x c : Int} (h : 0 ≤ c ∧ c < 64) : lbt x c ↔ (lbv x).getLsbD c.toNat = true := by
  unfold lbt
  rw [lbv_0 lR_and, lbv_and, lbv_shr h]
  obtain ⟨n, rfl⟩ : ∃ n : Nat, c = n := ⟨c.toNat, by omega⟩
  have hn : n < 64 := by omega
  rw [Int.toNat_natCast]
  constructor
  · intro q
    apply Classical.byContradiction
    intro q2
    apply q
    apply BitVec.eq_of_getLsbD_eq
    intro i hi
    rw [BitVec.getLsbD_and, BitVec.getLsbD_sshiftRight]
    by_cases z : i = 0
    · subst z
      have q3 : (lbv x).getLsbD n = false := by simpa using q2
      rw [show n + 0 = n from rfl, if_pos hn, q3]; simp
    · have : (lbv 1).getLsbD i = false := by
        show (1#64).getLsbD i = false
        rw [BitVec.getLsbD_one]
        simp [z]
      rw [this]; simp
  · intro q q2
    have h3 := congrArg (fun z => BitVec.getLsbD z 0) q2
    rw [BitVec.getLsbD_and, BitVec.getLsbD_sshiftRight] at h3
    have h1 : (lbv 1).getLsbD 0 = true := rfl
    rw [show n + 0 = n from rfl, if_pos hn, q, h1] at h3
    simp at h3
theorem lbt_and {a b c : Int} (h : 0 ≤ c ∧ c < 64) : lbt (z_land a b) c ↔ lbt a c ∧ lbt b c := by
  rw [lbt_bv h, lbt_bv h, lbt_bv h, lbv_and, BitVec.getLsbD_and, Bool.and_eq_true]
theorem lbt_or {a b c : Int} (h : 0 ≤ c ∧ c < 64) : lbt (z_lor a b) c ↔ lbt a c ∨ lbt b c := by
  rw [lbt_bv h, lbt_bv h, lbt_bv h, lbv_or, BitVec.getLsbD_or, Bool.or_eq_true]
theorem lbt_one {d c : Int} (h : 0 ≤ c ∧ c < 64) (hd : 0 ≤ d ∧ d < 64) : lbt (z_lshl 1 d) c ↔ c = d := by
  rw [lbt_bv h, lbv_shl hd]
  show ((1#64) <<< d.toNat).getLsbD c.toNat = true ↔ _
  rw [BitVec.getLsbD_shiftLeft, BitVec.getLsbD_one]
  simp
  omega
theorem lbt_zero {c : Int} (h : 0 ≤ c ∧ c < 64) : ¬ lbt 0 c := by
  rw [lbt_bv h]
  show ¬ (0#64).getLsbD c.toNat = true
  simp
theorem lbt_ext {a b : Int} (ha : lR a) (hb : lR b) (h : ∀ c, 0 ≤ c → c < 64 → (lbt a c ↔ lbt b c)) : a = b := by
  have h1 : lbv a = lbv b := by
    apply BitVec.eq_of_getLsbD_eq
    intro i hi
    have := h i (by omega) (by omega)
    rw [lbt_bv (by omega), lbt_bv (by omega), Int.toNat_natCast] at this
    exact Bool.eq_iff_iff.mpr this
  rw [← lbv_int ha, ← lbv_int hb, h1]
theorem lbt_nil {a : Int} (ha : lR a) (h : ∀ c, 0 ≤ c → c < 64 → ¬ lbt a c) : a = 0 :=
  lbt_ext ha ⟨by decide, by decide⟩ (fun c h1 h2 => ⟨fun q => absurd q (h c h1 h2), fun q => absurd q (lbt_zero ⟨h1, h2⟩)⟩)
