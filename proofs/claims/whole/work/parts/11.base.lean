abbrev St : Type := Nat → Int → Int
def iZ (z : Int) : Int32 := Int32.ofInt z
def lZ (z : Int) : Int64 := Int64.ofInt z
def iR (z : Int) : Prop := -2147483648 ≤ z ∧ z < 2147483648
def lR (z : Int) : Prop := -9223372036854775808 ≤ z ∧ z < 9223372036854775808
theorem iZ_t (x : Int32) : iZ x.toInt = x := Int32.ofInt_toInt x
theorem lZ_t (x : Int64) : lZ x.toInt = x := Int64.ofInt_toInt x
theorem iR_t (x : Int32) : iR x.toInt := by
  have h1 := Int32.le_toInt x
  have h2 := Int32.toInt_lt x
  exact ⟨by omega, by omega⟩
theorem lR_t (x : Int64) : lR x.toInt := by
  have h1 := Int64.le_toInt x
  have h2 := Int64.toInt_lt x
  exact ⟨by omega, by omega⟩
theorem iR_b {z : Int} (h : iR z) : z.bmod (2 ^ 32) = z := Int.bmod_eq_of_le (by have := h.1; omega) (by have := h.2; omega)
theorem lR_b {z : Int} (h : lR z) : z.bmod (2 ^ 64) = z := Int.bmod_eq_of_le (by have := h.1; omega) (by have := h.2; omega)
theorem iZ_o {z : Int} (h : iR z) : (iZ z).toInt = z := by unfold iZ; rw [Int32.toInt_ofInt]; exact iR_b h
theorem lZ_o {z : Int} (h : lR z) : (lZ z).toInt = z := by unfold lZ; rw [Int64.toInt_ofInt]; exact lR_b h
theorem iR_l {z : Int} (h : iR z) : lR z := ⟨by have := h.1; omega, by have := h.2; omega⟩
/-! the words of the functional programs -/
def z_gt {α : Type} (z : Int) (k : Int → Option α) : Option α := k z
def z_ck {α : Type} (z : Int) (k : Int → Option α) : Option α := if -2147483648 ≤ z ∧ z < 2147483648 then k z else none
def z_lk {α : Type} (z : Int) (k : Int → Option α) : Option α := if -9223372036854775808 ≤ z ∧ z < 9223372036854775808 then k z else none
def z_ix {α : Type} (i : Int) (n : Nat) (f : Option α) : Option α := if 0 ≤ i ∧ i < n then f else none
def z_bo {α : Type} (v : Int) (f : Option α) : Option α := if v = 0 ∨ v = 1 then f else none
def z_by {α : Type} (v : Int) (f : Option α) : Option α := if -128 ≤ v ∧ v < 128 then f else none
def z_nz {α : Type} (v : Int) (f : Option α) : Option α := if v = 0 then none else f
def z_cl {α β : Type} (fc : Option α) (k : α → Option β) : Option β := match fc with
  | some q => k q
  | none => none
def z_nl {α : Type} (r : Option Nat) (f : Option α) (k : Nat → Option α) : Option α := match r with
  | some q => k q
  | none => f
def z_up (σ : St) (k : Nat) (j v : Int) : St := fun k' j' => if k' = k ∧ j' = j then v else σ k' j'
def z_cp (σ : St) (a b : Nat) (sp dp n : Int) : St := fun k' j' => if k' = b ∧ dp ≤ j' ∧ j' < dp + n then σ a (sp + (j' - dp)) else σ k' j'
def z_and (a b : Int) : Int := (iZ a &&& iZ b).toInt
def z_or (a b : Int) : Int := (iZ a ||| iZ b).toInt
def z_xor (a b : Int) : Int := (iZ a ^^^ iZ b).toInt
def z_shl (a b : Int) : Int := (iZ a <<< (iZ b &&& 31)).toInt
def z_shr (a b : Int) : Int := (iZ a >>> (iZ b &&& 31)).toInt
def z_ushr (a b : Int) : Int := ((iZ a).toUInt32 >>> ((iZ b).toUInt32 &&& Int32.toUInt32 31)).toInt32.toInt
def z_w (a : Int) : Int := (iZ a).toInt
def z_lw (a : Int) : Int := (lZ a).toInt
def z_land (a b : Int) : Int := (lZ a &&& lZ b).toInt
def z_lor (a b : Int) : Int := (lZ a ||| lZ b).toInt
def z_lshl (a b : Int) : Int := (lZ a <<< ((iZ b).toInt64 &&& 63)).toInt
def z_lshr (a b : Int) : Int := (lZ a >>> ((iZ b).toInt64 &&& 63)).toInt
def z_lushr (a b : Int) : Int := ((lZ a).toUInt64 >>> ((iZ b).toInt64.toUInt64 &&& Int64.toUInt64 63)).toInt64.toInt
def z_i2b (a : Int) : Int := (iZ a).toInt8.toInt32.toInt
def z_i2s (a : Int) : Int := (iZ a).toInt16.toInt32.toInt
def z_i2c (a : Int) : Int := ((iZ a).toUInt32 % 65536).toInt32.toInt
def z_l2i (a : Int) : Int := (lZ a).toInt32.toInt
def z_cmp (a b : Int) : Int := if b < a then 1 else if a = b then 0 else -1
/-! the one world -/
abbrev GG : Type := (Nat → ClassId) × (Nat → Nat → Nat) × (Nat → ClassId) × (Nat → Nat) × (Nat → Nat) × (Nat → Nat) × Nat
abbrev gD (G : GG) : va_G := (G.1, G.2.1)
abbrev gcy (G : GG) : Nat → ClassId := G.2.2.1
abbrev gad (G : GG) : Nat → Nat := G.2.2.2.1
abbrev gak (G : GG) : Nat → Nat := G.2.2.2.2.1
abbrev gav (G : GG) : Nat → Nat := G.2.2.2.2.2.1
abbrev gts (G : GG) : Nat := G.2.2.2.2.2.2
abbrev clsX : List vw_C := [(RX0, TX0, 2), (RX1, TX1, 10), (RX2, TX2, 10), (RX3, TX3, 15), (RX4, TX4, 8), (RX5, TX5, 4), (RX6, TX6, 11), (RX7, TX7, 44)]
abbrev tysX (G : GG) : List (ClassId × FieldType) := [(gcy G 0, .byte), (gcy G 1, .int), (gcy G 2, .long), (gcy G 3, .boolean), (gcy G 4, .object RX1), (gcy G 5, .object RX4), (gcy G 6, .object RX5)]
def KTX : List (Nat × Nat) := [(6, 0), (2, 0), (8, 700), (9, 3), (4, 0), (9, 60), (9, 180), (4, 0), (9, 60), (9, 180), (13, 3), (14, 4), (3, 0), (0, 0), (9, 32), (0, 0), (9, 32), (9, 32), (9, 60), (12, 30), (1, 0), (9, 32), (9, 32), (1, 0), (9, 32), (9, 32), (1, 0), (9, 32), (9, 32), (1, 0), (9, 32), (9, 32), (1, 0), (9, 32), (9, 32), (1, 0), (9, 32), (9, 32), (1, 0), (9, 32), (9, 32), (1, 0), (9, 32), (9, 32), (1, 0), (9, 32), (9, 32), (1, 0), (9, 32), (9, 32), (1, 0), (9, 32), (9, 32), (1, 0), (9, 32), (9, 32), (1, 0), (9, 32), (9, 32), (1, 0), (9, 32), (9, 32), (1, 0), (9, 32), (9, 32), (1, 0), (9, 32), (9, 32), (1, 0), (9, 32), (9, 32), (1, 0), (9, 32), (9, 32), (1, 0), (9, 32), (9, 32), (1, 0), (9, 32), (9, 32), (1, 0), (9, 32), (9, 32), (1, 0), (9, 32), (9, 32), (1, 0), (9, 32), (9, 32), (1, 0), (9, 32), (9, 32), (1, 0), (9, 32), (9, 32), (1, 0), (9, 32), (9, 32), (1, 0), (9, 32), (9, 32), (1, 0), (9, 32), (9, 32), (1, 0), (9, 32), (9, 32), (1, 0), (9, 32), (9, 32), (3, 0), (0, 0), (9, 32), (0, 0), (9, 32), (9, 32), (9, 60), (12, 30), (1, 0), (9, 32), (9, 32), (1, 0), (9, 32), (9, 32), (1, 0), (9, 32), (9, 32), (1, 0), (9, 32), (9, 32), (1, 0), (9, 32), (9, 32), (1, 0), (9, 32), (9, 32), (1, 0), (9, 32), (9, 32), (1, 0), (9, 32), (9, 32), (1, 0), (9, 32), (9, 32), (1, 0), (9, 32), (9, 32), (1, 0), (9, 32), (9, 32), (1, 0), (9, 32), (9, 32), (1, 0), (9, 32), (9, 32), (1, 0), (9, 32), (9, 32), (1, 0), (9, 32), (9, 32), (1, 0), (9, 32), (9, 32), (1, 0), (9, 32), (9, 32), (1, 0), (9, 32), (9, 32), (1, 0), (9, 32), (9, 32), (1, 0), (9, 32), (9, 32), (1, 0), (9, 32), (9, 32), (1, 0), (9, 32), (9, 32), (1, 0), (9, 32), (9, 32), (1, 0), (9, 32), (9, 32), (1, 0), (9, 32), (9, 32), (1, 0), (9, 32), (9, 32), (1, 0), (9, 32), (9, 32), (1, 0), (9, 32), (9, 32), (1, 0), (9, 32), (9, 32), (1, 0), (9, 32), (9, 32), (0, 0), (9, 32), (0, 0), (9, 32), (9, 256), (9, 4), (4, 0), (9, 60), (9, 180), (4, 0), (9, 60), (9, 180), (4, 0), (9, 60), (9, 180), (5, 0), (10, 60), (5, 0), (10, 60), (5, 0), (10, 60), (5, 0), (10, 60), (7, 0), (9, 246), (9, 738), (11, 3), (8, 700), (9, 5), (9, 246), (11, 60), (9, 1952), (11, 1920), (9, 60), (9, 60), (9, 60), (9, 60), (9, 60), (11, 1920), (11, 1920), (9, 1920), (9, 1920), (9, 60), (9, 32), (9, 60), (9, 32), (9, 256), (9, 4), (9, 4), (10, 240), (10, 60)]
def kdX (k : Nat) : Nat := (KTX.getD k (99, 0)).1
def lnX (k : Nat) : Nat := (KTX.getD k (99, 0)).2
def cfX (G : GG) (k : Nat) (c : Int → Int) : va_E := match kdX k with
  | 0 => .inr (0, [.int (iZ (c 0)), .ref (gad G (k + 1))])
  | 1 => .inr (1, [.int (iZ (c 0)), .int (iZ (c 1)), .int (iZ (c 2)), .int (iZ (c 3)), .int (iZ (c 4)), .int (iZ (c 5)), .int (iZ (c 6)), .int (iZ (c 7)), .ref (gad G (k + 1)), .ref (gad G (k + 2))])
  | 2 => .inr (2, [.int (iZ (c 0)), .int (iZ (c 1)), .int (iZ (c 2)), .ref (gad G (k + 1)), .ref (gad G (k + 2)), .int (iZ (c 5)), .int (iZ (c 6)), .int (iZ (c 7)), .int (iZ (c 8)), .int (iZ (c 9))])
  | 3 => .inr (3, [.ref (gad G (k + 1)), .int (iZ (c 1)), .int (iZ (c 2)), .int (iZ (c 3)), .int (iZ (c 4)), .int (iZ (c 5)), .int (iZ (c 6)), .int (iZ (c 7)), .int (iZ (c 8)), .int (iZ (c 9)), .int (iZ (c 10)), .ref (gad G (k + 3)), .ref (gad G (k + 5)), .ref (gad G (k + 6)), .ref (gad G (k + 7))])
  | 4 => .inr (4, [.int (iZ (c 0)), .int (iZ (c 1)), .int (iZ (c 2)), .int (iZ (c 3)), .int (iZ (c 4)), .int (iZ (c 5)), .ref (gad G (k + 1)), .ref (gad G (k + 2))])
  | 5 => .inr (5, [.int (iZ (c 0)), .int (iZ (c 1)), .int (iZ (c 2)), .ref (gad G (k + 1))])
  | 6 => .inr (6, [.ref (gad G (k + 1)), .ref (gad G (k + 4)), .ref (gad G (k + 7)), .ref (gad G (k + 10)), .ref (gad G (k + 11)), .ref (gad G (k + 12)), .ref (gad G (k + 110)), .ref (gad G (k + 208)), .ref (gad G (k + 210)), .ref (gad G (k + 212)), .ref (gad G (k + 213))])
  | 7 => .inr (7, [.int (iZ (c 0)), .ref (gad G (k + 1)), .ref (gad G (k + 2)), .ref (gad G (k + 3)), .ref (gad G (k + 4)), .int (iZ (c 5)), .ref (gad G (k + 5)), .int (iZ (c 7)), .int (iZ (c 8)), .int (iZ (c 9)), .int (iZ (c 10)), .int (iZ (c 11)), .int (iZ (c 12)), .int (iZ (c 13)), .ref (gad G (k + 6)), .ref (gad G (k + 7)), .ref (gad G (k + 8)), .ref (gad G (k + 9)), .ref (gad G (k + 10)), .ref (gad G (k + 11)), .ref (gad G (k + 12)), .ref (gad G (k + 13)), .ref (gad G (k + 14)), .ref (gad G (k + 15)), .ref (gad G (k + 16)), .ref (gad G (k + 17)), .ref (gad G (k + 18)), .ref (gad G (k + 19)), .int (iZ (c 28)), .int (iZ (c 29)), .ref (gad G (k + 20)), .ref (gad G (k + 21)), .ref (gad G (k + 22)), .int (iZ (c 33)), .int (iZ (c 34)), .int (iZ (c 35)), .ref (gad G (k + 23)), .long (lZ (c 37)), .long (lZ (c 38)), .long (lZ (c 39)), .ref (gad G (k + 24)), .ref (gad G (k + 25)), .ref (gad G (k + 26)), .ref (gad G (k + 27))])
  | 8 => .inl (gcy G 0, lnX k, .inl (fun i => iZ (c i)))
  | 9 => .inl (gcy G 1, lnX k, .inl (fun i => iZ (c i)))
  | 10 => .inl (gcy G 2, lnX k, .inr (.inl (fun i => lZ (c i))))
  | 11 => .inl (gcy G 3, lnX k, .inl (fun i => iZ (c i)))
  | 12 => .inl (gcy G 4, lnX k, .inr (.inr (.inr (.inr (fun i => some (gad G (k + 1 + 3 * i)))))))
  | 13 => .inl (gcy G 5, lnX k, .inr (.inr (.inr (.inr (fun i => some (gad G (k + 204 + 3 * i)))))))
  | 14 => .inl (gcy G 6, lnX k, .inr (.inr (.inr (.inr (fun i => some (gad G (k + 212 + 2 * i)))))))
  | _ => .inr (99, [])
theorem cf_0 {G : GG} {k : Nat} (h : kdX k = 0) (c : Int → Int) : cfX G k c = .inr (0, [.int (iZ (c 0)), .ref (gad G (k + 1))]) := by unfold cfX; rw [h]; rfl
theorem cf_1 {G : GG} {k : Nat} (h : kdX k = 1) (c : Int → Int) : cfX G k c = .inr (1, [.int (iZ (c 0)), .int (iZ (c 1)), .int (iZ (c 2)), .int (iZ (c 3)), .int (iZ (c 4)), .int (iZ (c 5)), .int (iZ (c 6)), .int (iZ (c 7)), .ref (gad G (k + 1)), .ref (gad G (k + 2))]) := by unfold cfX; rw [h]; rfl
theorem cf_2 {G : GG} {k : Nat} (h : kdX k = 2) (c : Int → Int) : cfX G k c = .inr (2, [.int (iZ (c 0)), .int (iZ (c 1)), .int (iZ (c 2)), .ref (gad G (k + 1)), .ref (gad G (k + 2)), .int (iZ (c 5)), .int (iZ (c 6)), .int (iZ (c 7)), .int (iZ (c 8)), .int (iZ (c 9))]) := by unfold cfX; rw [h]; rfl
theorem cf_3 {G : GG} {k : Nat} (h : kdX k = 3) (c : Int → Int) : cfX G k c = .inr (3, [.ref (gad G (k + 1)), .int (iZ (c 1)), .int (iZ (c 2)), .int (iZ (c 3)), .int (iZ (c 4)), .int (iZ (c 5)), .int (iZ (c 6)), .int (iZ (c 7)), .int (iZ (c 8)), .int (iZ (c 9)), .int (iZ (c 10)), .ref (gad G (k + 3)), .ref (gad G (k + 5)), .ref (gad G (k + 6)), .ref (gad G (k + 7))]) := by unfold cfX; rw [h]; rfl
theorem cf_4 {G : GG} {k : Nat} (h : kdX k = 4) (c : Int → Int) : cfX G k c = .inr (4, [.int (iZ (c 0)), .int (iZ (c 1)), .int (iZ (c 2)), .int (iZ (c 3)), .int (iZ (c 4)), .int (iZ (c 5)), .ref (gad G (k + 1)), .ref (gad G (k + 2))]) := by unfold cfX; rw [h]; rfl
theorem cf_5 {G : GG} {k : Nat} (h : kdX k = 5) (c : Int → Int) : cfX G k c = .inr (5, [.int (iZ (c 0)), .int (iZ (c 1)), .int (iZ (c 2)), .ref (gad G (k + 1))]) := by unfold cfX; rw [h]; rfl
theorem cf_6 {G : GG} {k : Nat} (h : kdX k = 6) (c : Int → Int) : cfX G k c = .inr (6, [.ref (gad G (k + 1)), .ref (gad G (k + 4)), .ref (gad G (k + 7)), .ref (gad G (k + 10)), .ref (gad G (k + 11)), .ref (gad G (k + 12)), .ref (gad G (k + 110)), .ref (gad G (k + 208)), .ref (gad G (k + 210)), .ref (gad G (k + 212)), .ref (gad G (k + 213))]) := by unfold cfX; rw [h]; rfl
theorem cf_7 {G : GG} {k : Nat} (h : kdX k = 7) (c : Int → Int) : cfX G k c = .inr (7, [.int (iZ (c 0)), .ref (gad G (k + 1)), .ref (gad G (k + 2)), .ref (gad G (k + 3)), .ref (gad G (k + 4)), .int (iZ (c 5)), .ref (gad G (k + 5)), .int (iZ (c 7)), .int (iZ (c 8)), .int (iZ (c 9)), .int (iZ (c 10)), .int (iZ (c 11)), .int (iZ (c 12)), .int (iZ (c 13)), .ref (gad G (k + 6)), .ref (gad G (k + 7)), .ref (gad G (k + 8)), .ref (gad G (k + 9)), .ref (gad G (k + 10)), .ref (gad G (k + 11)), .ref (gad G (k + 12)), .ref (gad G (k + 13)), .ref (gad G (k + 14)), .ref (gad G (k + 15)), .ref (gad G (k + 16)), .ref (gad G (k + 17)), .ref (gad G (k + 18)), .ref (gad G (k + 19)), .int (iZ (c 28)), .int (iZ (c 29)), .ref (gad G (k + 20)), .ref (gad G (k + 21)), .ref (gad G (k + 22)), .int (iZ (c 33)), .int (iZ (c 34)), .int (iZ (c 35)), .ref (gad G (k + 23)), .long (lZ (c 37)), .long (lZ (c 38)), .long (lZ (c 39)), .ref (gad G (k + 24)), .ref (gad G (k + 25)), .ref (gad G (k + 26)), .ref (gad G (k + 27))]) := by unfold cfX; rw [h]; rfl
theorem cf_8 {G : GG} {k : Nat} (h : kdX k = 8) (c : Int → Int) : cfX G k c = .inl (gcy G 0, lnX k, .inl (fun i => iZ (c i))) := by unfold cfX; rw [h]; rfl
theorem cf_9 {G : GG} {k : Nat} (h : kdX k = 9) (c : Int → Int) : cfX G k c = .inl (gcy G 1, lnX k, .inl (fun i => iZ (c i))) := by unfold cfX; rw [h]; rfl
theorem cf_10 {G : GG} {k : Nat} (h : kdX k = 10) (c : Int → Int) : cfX G k c = .inl (gcy G 2, lnX k, .inr (.inl (fun i => lZ (c i)))) := by unfold cfX; rw [h]; rfl
theorem cf_11 {G : GG} {k : Nat} (h : kdX k = 11) (c : Int → Int) : cfX G k c = .inl (gcy G 3, lnX k, .inl (fun i => iZ (c i))) := by unfold cfX; rw [h]; rfl
theorem cf_12 {G : GG} {k : Nat} (h : kdX k = 12) (c : Int → Int) : cfX G k c = .inl (gcy G 4, lnX k, .inr (.inr (.inr (.inr (fun i => some (gad G (k + 1 + 3 * i))))))) := by unfold cfX; rw [h]; rfl
theorem cf_13 {G : GG} {k : Nat} (h : kdX k = 13) (c : Int → Int) : cfX G k c = .inl (gcy G 5, lnX k, .inr (.inr (.inr (.inr (fun i => some (gad G (k + 204 + 3 * i))))))) := by unfold cfX; rw [h]; rfl
theorem cf_14 {G : GG} {k : Nat} (h : kdX k = 14) (c : Int → Int) : cfX G k c = .inl (gcy G 6, lnX k, .inr (.inr (.inr (.inr (fun i => some (gad G (k + 212 + 2 * i))))))) := by unfold cfX; rw [h]; rfl
theorem kd_lt {k c : Nat} (h : kdX k = c) (hc : c < 99) : k < 259 := by
  apply Classical.byContradiction
  intro q
  have hh : KTX.length = 259 := by decide +kernel
  have h2 : kdX k = 99 := by
    unfold kdX
    rw [List.getD_eq_getElem?_getD, List.getElem?_eq_none (by omega)]
    rfl
  omega
def wdX (G : GG) (σ : St) : va_W := (List.range 259).map (fun k => (gad G k, cfX G k (σ k)))
theorem wd_at {G : GG} {σ : St} {k : Nat} (h : k < 259) : (wdX G σ)[k]? = some (gad G k, cfX G k (σ k)) := by
  unfold wdX
  rw [List.getElem?_map, List.getElem?_range h]
  rfl
theorem wd_inv {G : GG} {σ : St} {k : Nat} {q : Nat × va_E} (h : (wdX G σ)[k]? = some q) : k < 259 ∧ q = (gad G k, cfX G k (σ k)) := by
  have hk : k < 259 := by
    have := (List.getElem?_eq_some_iff.mp h).1
    simpa [wdX] using this
  rw [wd_at hk] at h
  exact ⟨hk, (Option.some.inj h).symm⟩
theorem wd_set {G : GG} {σ σ' : St} {k : Nat} {e : va_E} (hk : k < 259) (he : cfX G k (σ' k) = e) (ho : ∀ k', k' ≠ k → σ' k' = σ k') : (wdX G σ).set k (gad G k, e) = wdX G σ' := by
  apply List.ext_getElem?
  intro j
  have hl : k < (wdX G σ).length := by simpa [wdX] using hk
  by_cases hj : j = k
  · subst hj
    rw [List.getElem?_set_self hl, wd_at hk, he]
  · rw [List.getElem?_set_ne (Ne.symm hj)]
    by_cases hj2 : j < 259
    · rw [wd_at hj2, wd_at hj2, ho j hj]
    · rw [List.getElem?_eq_none (by simp [wdX]; omega), List.getElem?_eq_none (by simp [wdX]; omega)]
def AG (G : GG) : Nat → Prop := fun q => ∃ k, k < 259 ∧ q = gad G k
def RG (σ : St) : Prop := ∀ k j, lR (σ k j) ∧ (kdX k ≠ 10 → iR (σ k j))
def PH (G : GG) (σ : St) (H : Heap) : Prop := va_P (gD G) clsX (wdX G σ) H ∧ RG σ
theorem RG_up {σ : St} {k : Nat} {j v : Int} (h : RG σ) (hv : lR v ∧ (kdX k ≠ 10 → iR v)) : RG (z_up σ k j v) := by
  intro k' j'
  unfold z_up
  by_cases q : k' = k ∧ j' = j
  · rw [if_pos q, q.1]; exact hv
  · rw [if_neg q]; exact h k' j'
theorem up_ne {σ : St} {k k' : Nat} {j v : Int} (h : k' ≠ k) : z_up σ k j v k' = σ k' := by
  funext j'
  unfold z_up
  exact if_neg (fun q => h q.1)
theorem up_eq {σ : St} {k : Nat} {j v : Int} : z_up σ k j v k = fun j' => if j' = j then v else σ k j' := by
  funext j'
  unfold z_up
  by_cases q : j' = j
  · rw [if_pos ⟨rfl, q⟩, if_pos q]
  · rw [if_neg (fun z => q z.2), if_neg q]
def nwX : List Cond := [Cond.methodLinkNest RX6 9 yX2_init "CopyWhileRun", Cond.methodLinkNest RX6 18 yX4_init "CopyWhileRun", Cond.methodLinkNest RX3 11 yX0_init "CopyWhileRun", Cond.methodLinkNest RX3 38 yX1_init "CopyWhileRun", Cond.methodLinkNest RX6 48 yX0_init "CopyWhileRun", Cond.methodLinkNest RX6 63 yX5_init "CopyWhileRun", Cond.fieldLinkNest RX6 403 "CopyWhileRun$Slot" "numbers" "[J" "CopyWhileRun", Cond.fieldLinkNest RX2 97 "CopyWhileRun" "NUMBERS_OF_KIND" "[I" "CopyWhileRun", Cond.methodLinkNest RX2 103 yX6_fits "CopyWhileRun", Cond.fieldLinkNest RX4 52 "CopyWhileRun" "NUMBERS_OF_KIND" "[I" "CopyWhileRun", Cond.methodLinkNest RX3 141 yX6_holds "CopyWhileRun", Cond.methodLinkNest RX0 41 yX6_isOut "CopyWhileRun", Cond.methodLinkNest RX3 96 yX6_isOut "CopyWhileRun"]
def srX : List (String × Nat × String × Nat) := [(RX2, 50, "store", 0), (RX2, 56, "cells", 1), (RX2, 67, "law", 2), (RX2, 72, "odds", 3), (RX2, 121, "set", 4), (RX2, 123, "add", 5), (RX2, 125, "swap", 6), (RX2, 127, "fill", 7), (RX2, 128, "full", 8), (RX2, 130, "part", 9), (RX2, 132, "scan", 10), (RX2, 134, "finish", 11), (RX2, 136, "tear", 12), (RX7, 209, "store", 0), (RX7, 211, "cells", 1), (RX7, 216, "law", 2), (RX7, 218, "odds", 3), (RX7, 122, "set", 4), (RX7, 124, "add", 5), (RX7, 126, "swap", 6), (RX7, 128, "fill", 7), (RX7, 130, "full", 8), (RX7, 132, "part", 9), (RX7, 134, "scan", 10), (RX7, 136, "finish", 11), (RX7, 138, "tear", 12)]
def slX : List Nat := [5, 5, 3, 4, 3, 3, 4, 4, 4, 4, 4, 6, 4]
def sbX : List (List Int32) := [[115, 116, 111, 114, 101], [99, 101, 108, 108, 115], [108, 97, 119], [111, 100, 100, 115], [115, 101, 116], [97, 100, 100], [115, 119, 97, 112], [102, 105, 108, 108], [102, 117, 108, 108], [112, 97, 114, 116], [115, 99, 97, 110], [102, 105, 110, 105, 115, 104], [116, 101, 97, 114]]
def nkX : List Int32 := [2, 2, 2, 3, 0, 0, 1, 0, 0]
def ssX (G : GG) (A : Nat → Prop) (U : State) (H : Heap) : Prop := ∀ i : Nat, i < 13 → va_O "java/lang/String" (gak G i) A U H ∧ va_OF "java/lang/String" "coder" "B" (.int 0) (gak G i) A U H ∧ va_OF "java/lang/String" "value" "[B" (.ref (gav G i)) (gak G i) A U H ∧ va_T .byte (gav G i) (slX.getD i 0) (fun j => .int ((sbX.getD i []).getD j 0)) A U H
def KX (G : GG) (A : Nat → Prop) (U : State) : Prop :=
  va_K (gD G) clsX (tysX G) U ∧ (∀ i j, i < 259 → j < 259 → gad G i = gad G j → i = j) ∧ (∀ w ∈ nwX, va_Nw w U) ∧ va_Z RX6 "NUMBERS_OF_KIND" "[I" (.ref (gts G)) A U U.heap ∧ va_T .int (gts G) 9 (fun j => .int (nkX.getD j 0)) A U U.heap ∧
  va_Z "java/lang/String" "COMPACT_STRINGS" "Z" (.int 1) A U U.heap ∧ va_Zq "jdk/internal/util/Preconditions" "SIOOBE_FORMATTER" "Ljava/util/function/BiFunction;" A U U.heap ∧ ssX G A U U.heap ∧ ∀ q ∈ srX, vk_R q.1 q.2.1 q.2.2.1 (gak G q.2.2.2) U
theorem nw_warm {s U : State} (hW : s.WarmedH U.vm) (h : ∀ w ∈ nwX, va_Nw w s) : ∀ w ∈ nwX, va_Nw w U := by
  intro w hw
  have h1 := h w hw
  simp only [nwX, List.mem_cons, List.not_mem_nil, or_false] at hw
  rcases hw with rfl | rfl | rfl | rfl | rfl | rfl | rfl | rfl | rfl | rfl | rfl | rfl | rfl
  all_goals first | exact va_Nw.warmF hW h1 | exact va_Nw.warmM hW h1
theorem nw_same {s U : State} (hv : s.vm = U.vm) (h : ∀ w ∈ nwX, va_Nw w s) : ∀ w ∈ nwX, va_Nw w U := by
  intro w hw
  have h1 := h w hw
  simp only [nwX, List.mem_cons, List.not_mem_nil, or_false] at hw
  rcases hw with rfl | rfl | rfl | rfl | rfl | rfl | rfl | rfl | rfl | rfl | rfl | rfl | rfl
  all_goals exact va_Nw.same rfl hv h1
theorem ss_moved {G : GG} {A : Nat → Prop} {u U : State} {H : Heap} (hvm : u.vm.Alike U.vm) (h : ssX G A u H) : ssX G A U H := fun i hi => ⟨va_O.moved hvm (h i hi).1, va_OF.moved hvm (h i hi).2.1, va_OF.moved hvm (h i hi).2.2.1, va_T.moved hvm (h i hi).2.2.2⟩
theorem ss_kept {G : GG} {A : Nat → Prop} {U : State} {H H1 : Heap} (h : ssX G A U H) (hq : ∀ a : Nat, a < H.size → ¬ A a → H1[a]? = H[a]?) : ssX G A U H1 := fun i hi => ⟨(h i hi).1.kept hq, (h i hi).2.1.kept hq, (h i hi).2.2.1.kept hq, (h i hi).2.2.2.kept hq⟩
theorem ss_narrow {G : GG} {A B : Nat → Prop} {U : State} {H : Heap} (h : ssX G A U H) (hAB : ∀ q, B q → A q) : ssX G B U H := fun i hi => ⟨(h i hi).1.narrow hAB, (h i hi).2.1.narrow hAB, (h i hi).2.2.1.narrow hAB, (h i hi).2.2.2.narrow hAB⟩
/-- the context at a callee's entry -/
theorem KX_call {G : GG} {A B : Nat → Prop} {s U : State} {H : Heap} {locs : List Loc} (h : KX G A s) (hS : va_S A s.heap H locs) (hAB : ∀ q, B q → A q) (hU : U.heap = H) (hW : s.WarmedH U.vm) : KX G B U := by
  obtain ⟨h1, h2, h3, h4, h5, h6, h7, h8, h9⟩ := h
  rw [← hU] at hS
  exact ⟨va_K.moved hW.alike h1, h2, nw_warm hW h3, ((va_Z.moved hW.alike h4).kept hS.2.1).narrow hAB, ((va_T.moved hW.alike h5).kept hS.2.1).narrow hAB, ((va_Z.moved hW.alike h6).kept hS.2.1).narrow hAB, by
    rcases h7 with q | ⟨t, q⟩
    · exact Or.inl (((va_Z.moved hW.alike q).kept hS.2.1).narrow hAB)
    · exact Or.inr ⟨t, ((va_Z.moved hW.alike q).kept hS.2.1).narrow hAB⟩, ss_narrow (ss_kept (ss_moved hW.alike h8) hS.2.1) hAB, fun q hq => vk_R.warm hW (h9 q hq)⟩
theorem KX_same {G : GG} {A : Nat → Prop} {u U : State} (hv : u.vm = U.vm) (hh : u.heap = U.heap) (h : KX G A u) : KX G A U := by
  obtain ⟨h1, h2, h3, h4, h5, h6, h7, h8, h9⟩ := h
  have ha : u.vm.Alike U.vm := by rw [hv]; exact Vm.Alike.refl U.vm
  refine ⟨va_K.moved ha h1, h2, nw_same hv h3, ?_, ?_, ?_, ?_, ?_, fun q hq => vk_R.same hv.symm (h9 q hq)⟩
  · rw [← hh]; exact va_Z.moved ha h4
  · rw [← hh]; exact va_T.moved ha h5
  · rw [← hh]; exact va_Z.moved ha h6
  · rw [← hh]; exact va_Zq.moved ha h7
  · rw [← hh]; exact ss_moved ha h8
def CX (G : GG) (A : Nat → Prop) (p : Program) (m : MethodId) (c : Code) (cc : ByteArray) (nL : Nat) (s : State) (args : Array Value) (own : String) : Prop :=
  p.tables.exec = Jvm.exec ∧ c.code = cc ∧ c.maxLocals = nL ∧ s.vm.findClass own = some m.cls ∧ (∀ w ∈ GW, w.before args s = true) ∧ KX G A s ∧ ∀ q, AG G q → A q
theorem wd_D {G : GG} {σ : St} {A : Nat → Prop} {U : State} (h : KX G A U) (hA : ∀ q, AG G q → A q) : va_D A (wdX G σ) := by
  refine ⟨fun i j x y hi hj hxy => ?_, fun k q hk => ?_⟩
  · obtain ⟨h1, rfl⟩ := wd_inv hi
    obtain ⟨h2, rfl⟩ := wd_inv hj
    exact h.2.1 i j h1 h2 hxy
  · obtain ⟨h1, rfl⟩ := wd_inv hk
    exact hA _ ⟨k, h1, rfl⟩
/-- the functional program f, and the machine at the frame g -/
def Sim (G : GG) (A : Nat → Prop) (nc ns : Nat) (p : Program) (l : Launch) (e : Env) (R : Room) (s : State) (m : MethodId) (args : Array Value) (below : List Frame) (meth : Method) (c : Code) {α : Type} (Q : α → State → Prop) (σ : St) (f : Option α) (g : JFrame) : Prop :=
  ∀ o : α, f = some o → ∀ (H : Heap) (locs : List Loc), PH G σ H → va_S A s.heap H locs → W p l e R s m args below meth c H locs nc ns (Q o) g
