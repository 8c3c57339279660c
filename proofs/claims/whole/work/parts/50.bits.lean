def bv (x : Int) : BitVec 32 := (iZ x).toBitVec
abbrev bt (x c : Int) : Prop := ¬ z_and (z_shr x c) 1 = 0
theorem bv_int {x : Int} (h : iR x) : (bv x).toInt = x := iZ_o h
theorem bv_of (y : BitVec 32) : bv y.toInt = y := by
  show (Int32.ofInt y.toInt).toBitVec = y
  rw [Int32.toBitVec_ofInt, BitVec.ofInt_toInt]
theorem bv_and (a b : Int) : bv (z_and a b) = bv a &&& bv b := by
  show (iZ ((iZ a &&& iZ b).toInt)).toBitVec = _
  rw [iZ_t]; rfl
theorem bv_or (a b : Int) : bv (z_or a b) = bv a ||| bv b := by
  show (iZ ((iZ a ||| iZ b).toInt)).toBitVec = _
  rw [iZ_t]; rfl
theorem bv_xor (a b : Int) : bv (z_xor a b) = bv a ^^^ bv b := by
  show (iZ ((iZ a ^^^ iZ b).toInt)).toBitVec = _
  rw [iZ_t]; rfl
theorem iR_and {a b : Int} : iR (z_and a b) := iR_t _
theorem iR_or {a b : Int} : iR (z_or a b) := iR_t _
theorem iR_xor {a b : Int} : iR (z_xor a b) := iR_t _
theorem iR_shl {a b : Int} : iR (z_shl a b) := iR_t _
theorem iR_shr {a b : Int} : iR (z_shr a b) := iR_t _
theorem iZ_31 : ∀ d : Nat, d < 32 → (iZ d &&& 31).toBitVec.toNat = d ∧ (iZ d &&& 31).toBitVec.smod 32 = BitVec.ofNat 32 d := by decide
theorem bv_shl {a d : Int} (h : 0 ≤ d ∧ d < 32) : bv (z_shl a d) = bv a <<< d.toNat := by
  show (iZ ((iZ a <<< (iZ d &&& 31)).toInt)).toBitVec = _
  rw [iZ_t]
  obtain ⟨n, rfl⟩ : ∃ n : Nat, d = n := ⟨d.toNat, by omega⟩
  have h1 := iZ_31 n (by omega)
  rw [Int32.toBitVec_shiftLeft, h1.2]
  show bv a <<< BitVec.ofNat 32 n = _
  rw [BitVec.shiftLeft_eq', BitVec.toNat_ofNat, Nat.mod_eq_of_lt (by omega)]
  rfl
theorem bv_shr {a d : Int} (h : 0 ≤ d ∧ d < 32) : bv (z_shr a d) = (bv a).sshiftRight d.toNat := by
  show (iZ ((iZ a >>> (iZ d &&& 31)).toInt)).toBitVec = _
  rw [iZ_t]
  obtain ⟨n, rfl⟩ : ∃ n : Nat, d = n := ⟨d.toNat, by omega⟩
  have h1 := iZ_31 n (by omega)
  rw [Int32.toBitVec_shiftRight, h1.2, BitVec.sshiftRight_eq', BitVec.toNat_ofNat, Nat.mod_eq_of_lt (by omega)]
  rfl
theorem bv_0 {x : Int} (h : iR x) : x = 0 ↔ bv x = 0#32 := by
  constructor
  · intro q; subst q; rfl
  · intro q
    have := bv_int h
    rw [q] at this
    exact this.symm
theorem bt_bv {x c : Int} (h : 0 ≤ c ∧ c < 32) : bt x c ↔ (bv x).getLsbD c.toNat = true := by
  unfold bt
  rw [bv_0 iR_and, bv_and, bv_shr h]
  obtain ⟨n, rfl⟩ : ∃ n : Nat, c = n := ⟨c.toNat, by omega⟩
  have hn : n < 32 := by omega
  rw [Int.toNat_natCast]
  constructor
  · intro q
    apply Classical.byContradiction
    intro q2
    apply q
    apply BitVec.eq_of_getLsbD_eq
    intro i hi
    rw [BitVec.getLsbD_and, BitVec.getLsbD_sshiftRight]
    by_cases z : i = 0
    · subst z
      have q3 : (bv x).getLsbD n = false := by simpa using q2
      rw [show n + 0 = n from rfl, if_pos hn, q3]; simp
    · have : (bv 1).getLsbD i = false := by
        show (1#32).getLsbD i = false
        rw [BitVec.getLsbD_one]
        simp [z]
      rw [this]; simp
  · intro q q2
    have h3 := congrArg (fun z => BitVec.getLsbD z 0) q2
    rw [BitVec.getLsbD_and, BitVec.getLsbD_sshiftRight] at h3
    have h1 : (bv 1).getLsbD 0 = true := rfl
    rw [show n + 0 = n from rfl, if_pos hn, q, h1] at h3
    simp at h3
theorem bt_ite {x c : Int} (h : 0 ≤ c ∧ c < 32) : z_and (z_shr x c) 1 = if (bv x).getLsbD c.toNat = true then 1 else 0 := by
  have hb := bt_bv (x := x) h
  unfold bt at hb
  by_cases q : (bv x).getLsbD c.toNat = true
  · rw [if_pos q]
    have h1 := hb.mpr q
    have h2 : bv (z_and (z_shr x c) 1) = 0#32 ∨ bv (z_and (z_shr x c) 1) = 1#32 := by
      rw [bv_and]
      show _ &&& 1#32 = _ ∨ _ &&& 1#32 = _
      by_cases z : (bv (z_shr x c)).getLsbD 0 = true
      · right
        apply BitVec.eq_of_getLsbD_eq
        intro i hi
        rw [BitVec.getLsbD_and, BitVec.getLsbD_one]
        by_cases z2 : i = 0
        · subst z2; simp [z]
        · simp [z2]
      · left
        apply BitVec.eq_of_getLsbD_eq
        intro i hi
        rw [BitVec.getLsbD_and, BitVec.getLsbD_one]
        by_cases z2 : i = 0
        · subst z2
          have z3 : (bv (z_shr x c)).getLsbD 0 = false := by simpa using z
          rw [z3]; simp
        · simp [z2]
    rcases h2 with h2 | h2
    · exact absurd ((bv_0 iR_and).mpr h2) h1
    · have := bv_int (iR_and (a := z_shr x c) (b := 1))
      rw [h2] at this
      exact this.symm
  · rw [if_neg q]
    exact Classical.byContradiction fun z => q (hb.mp z)
theorem bt_and {a b c : Int} (h : 0 ≤ c ∧ c < 32) : bt (z_and a b) c ↔ bt a c ∧ bt b c := by
  rw [bt_bv h, bt_bv h, bt_bv h, bv_and, BitVec.getLsbD_and, Bool.and_eq_true]
theorem bt_or {a b c : Int} (h : 0 ≤ c ∧ c < 32) : bt (z_or a b) c ↔ bt a c ∨ bt b c := by
  rw [bt_bv h, bt_bv h, bt_bv h, bv_or, BitVec.getLsbD_or, Bool.or_eq_true]
theorem bt_not {a c : Int} (h : 0 ≤ c ∧ c < 32) : bt (z_xor a (-1)) c ↔ ¬ bt a c := by
  rw [bt_bv h, bt_bv h, bv_xor, BitVec.getLsbD_xor]
  have : (bv (-1)).getLsbD c.toNat = true := by
    show (BitVec.allOnes 32).getLsbD c.toNat = true
    rw [BitVec.getLsbD_allOnes]
    simp; omega
  rw [this]
  cases (bv a).getLsbD c.toNat <;> simp
theorem bt_one {d c : Int} (h : 0 ≤ c ∧ c < 32) (hd : 0 ≤ d ∧ d < 32) : bt (z_shl 1 d) c ↔ c = d := by
  rw [bt_bv h, bv_shl hd]
  show ((1#32) <<< d.toNat).getLsbD c.toNat = true ↔ _
  rw [BitVec.getLsbD_shiftLeft, BitVec.getLsbD_one]
  simp
  omega
theorem bt_zero {c : Int} (h : 0 ≤ c ∧ c < 32) : ¬ bt 0 c := by
  rw [bt_bv h]
  show ¬ (0#32).getLsbD c.toNat = true
  simp
theorem bt_ext {a b : Int} (ha : iR a) (hb : iR b) (h : ∀ c, 0 ≤ c → c < 32 → (bt a c ↔ bt b c)) : a = b := by
  have h1 : bv a = bv b := by
    apply BitVec.eq_of_getLsbD_eq
    intro i hi
    have := h i (by omega) (by omega)
    rw [bt_bv (by omega), bt_bv (by omega), Int.toNat_natCast] at this
    exact Bool.eq_iff_iff.mpr this
  rw [← bv_int ha, ← bv_int hb, h1]
theorem bt_nil {a : Int} (ha : iR a) (h : ∀ c, 0 ≤ c → c < 32 → ¬ bt a c) : a = 0 :=
  bt_ext ha ⟨by decide, by decide⟩ (fun c h1 h2 => ⟨fun q => absurd q (h c h1 h2), fun q => absurd q (bt_zero ⟨h1, h2⟩)⟩)
theorem iR_0 : iR 0 := ⟨by decide, by decide⟩
