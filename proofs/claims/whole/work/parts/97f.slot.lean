theorem lsh_v (v : Int) (d : Nat) (hd : d < 64) : z_lshr (z_lshl v d) d = (((((lbv v).toNat * 2 ^ d : Nat) : Int).bmod (2 ^ 64)) / ((2 ^ d : Nat) : Int)) := by
  have e := lbv_int (lR_shr (a := z_lshl v d) (b := d))
  rw [← e, lbv_shr (by omega), lbv_shl (by omega), Int.toNat_natCast, BitVec.toInt_sshiftRight, BitVec.toInt_shiftLeft, Nat.shiftLeft_eq, Int.shiftRight_eq_div_pow]
theorem lv_n {v : Int} (hv : lR v) : v = if 2 * (lbv v).toNat < 2 ^ 64 then ((lbv v).toNat : Int) else ((lbv v).toNat : Int) - ((2 ^ 64 : Nat) : Int) := by
  have e := lbv_int hv
  rw [BitVec.toInt_eq_toNat_cond] at e
  exact e.symm
theorem l2i_v {v : Int} (hv : lR v) : z_l2i v = v.bmod (2 ^ 32) := by
  unfold z_l2i
  rw [Int64.toInt_toInt32, lZ_o hv]
theorem i2b_v {a : Int} (ha : iR a) : z_i2b a = a.bmod (2 ^ 8) := by
  unfold z_i2b
  rw [Int8.toInt_toInt32, Int32.toInt_toInt8, iZ_o ha]
theorem i2s_v {a : Int} (ha : iR a) : z_i2s a = a.bmod (2 ^ 16) := by
  unfold z_i2s
  rw [Int16.toInt_toInt32, Int32.toInt_toInt16, iZ_o ha]
theorem l2i_R (v : Int) : iR (z_l2i v) := iR_t _
theorem bmod_d (x : Int) (m : Nat) : x.bmod m = if x % (m : Int) < ((m : Int) + 1) / 2 then x % (m : Int) else x % (m : Int) - m := rfl
theorem clip_0 {v : Int} (hv : lR v) : z_lshr (z_lshl v 56) 56 = z_i2b (z_l2i v) := by
  have e := lsh_v v 56 (by decide)
  have hn := lv_n hv
  have hl := (lbv v).isLt
  rw [show ((56 : Nat) : Int) = 56 from rfl] at e
  rw [e, i2b_v (l2i_R v), l2i_v hv]
  simp only [bmod_d, Nat.reducePow] at hn hl ⊢
  generalize (lbv v).toNat = n at hn hl ⊢
  omega
theorem clip_1 {v : Int} (hv : lR v) : z_lshr (z_lshl v 48) 48 = z_i2s (z_l2i v) := by
  have e := lsh_v v 48 (by decide)
  have hn := lv_n hv
  have hl := (lbv v).isLt
  rw [show ((48 : Nat) : Int) = 48 from rfl] at e
  rw [e, i2s_v (l2i_R v), l2i_v hv]
  simp only [bmod_d, Nat.reducePow] at hn hl ⊢
  generalize (lbv v).toNat = n at hn hl ⊢
  omega
theorem clip_2 {v : Int} (hv : lR v) : z_lshr (z_lshl v 32) 32 = z_l2i v := by
  have e := lsh_v v 32 (by decide)
  have hn := lv_n hv
  have hl := (lbv v).isLt
  rw [show ((32 : Nat) : Int) = 32 from rfl] at e
  rw [e, l2i_v hv]
  simp only [bmod_d, Nat.reducePow] at hn hl ⊢
  generalize (lbv v).toNat = n at hn hl ⊢
  omega
theorem clip_3 {v : Int} (hv : lR v) : z_lshr (z_lshl v 0) 0 = v := by
  have e := lsh_v v 0 (by decide)
  have hn := lv_n hv
  have hl := (lbv v).isLt
  rw [show ((0 : Nat) : Int) = 0 from rfl] at e
  rw [e]
  simp only [bmod_d, Nat.reducePow] at hn hl ⊢
  generalize (lbv v).toNat = n at hn hl ⊢
  omega
def ctV (wd v : Int) : Int := if wd = 0 then z_i2b (z_l2i v) else if wd = 1 then z_i2s (z_l2i v) else if wd = 2 then z_l2i v else v
theorem e_clip {F : Nat} {σ : St} {wd v : Int} (hv : lR v) (h : 0 ≤ wd ∧ wd ≤ 3) : f_X7_clipped F v wd σ = some (ctV wd v) := by
  apply TT.eq
  unfold f_X7_clipped ctV
  simp only [tt_gt, tt_sg, tt_ite, tt_ck, tt_lk, tt_ix, tt_bo, tt_by, tt_nz, tt_ob, tt_st, tt_cpk, tt_c1, tt_c2, tt_ca, tt_cb, tt_some, kd_231, kd_0, Nat.reduceAdd, true_and, and_true, true_implies, not_true_eq_false, false_implies, not_false_eq_true, true_or, or_true]
  have : wd = 0 ∨ wd = 1 ∨ wd = 2 ∨ wd = 3 := by omega
  rcases this with z | z | z | z <;> subst z
  · rw [show z_shl 8 0 = 8 by decide]
    exact ⟨by decide, clip_0 hv⟩
  · rw [show z_shl 8 1 = 16 by decide]
    exact ⟨by decide, clip_1 hv⟩
  · rw [show z_shl 8 2 = 32 by decide]
    exact ⟨by decide, clip_2 hv⟩
  · rw [show z_shl 8 3 = 64 by decide]
    exact ⟨by decide, clip_3 hv⟩
theorem e_cut {F c : Nat} {σ : St} {v : Int} (hk : kdX c = 5) : f_X5_cut F c v σ = some (ctV (σ c 1) v) := by
  apply TT.eq
  unfold f_X5_cut ctV
  simp only [tt_gt, tt_sg, tt_ite, tt_ck, tt_lk, tt_ix, tt_bo, tt_by, tt_nz, tt_ob, tt_st, tt_cpk, tt_c1, tt_c2, tt_ca, tt_cb, tt_some, kd_231, kd_0, Nat.reduceAdd, true_and, and_true, true_implies, not_true_eq_false, false_implies, not_false_eq_true, true_or, or_true, hk]
  exact ⟨fun z => by rw [if_pos z], fun z => ⟨fun z1 => by rw [if_neg z, if_pos z1], fun z1 => ⟨fun z2 => by rw [if_neg z, if_neg z1, if_pos z2], fun z2 => by rw [if_neg z, if_neg z1, if_neg z2]⟩⟩⟩
theorem e6_slot {F : Nat} {σ : St} {a : Int} : f_X6_hasSlot F a σ = some (if 0 ≤ a ∧ a ≤ 3 then 1 else 0) := by
  apply TT.eq
  unfold f_X6_hasSlot
  simp only [tt_gt, tt_sg, tt_ite, tt_ck, tt_lk, tt_ix, tt_bo, tt_by, tt_nz, tt_ob, tt_st, tt_cpk, tt_c1, tt_c2, tt_ca, tt_cb, tt_some, kd_231, kd_0, Nat.reduceAdd, true_and, and_true, true_implies, not_true_eq_false, false_implies, not_false_eq_true, true_or, or_true]
  exact ⟨fun z => by rw [if_neg (by omega)], fun z => ⟨fun z1 => by rw [if_neg (by omega)], fun z1 => by rw [if_pos (by omega)]⟩⟩
theorem e7_slot {F : Nat} {σ : St} {a : Int} : f_X7_isSlot F a σ = some (if 0 ≤ a ∧ a ≤ 3 then 1 else 0) := by
  apply TT.eq
  unfold f_X7_isSlot
  simp only [tt_gt, tt_sg, tt_ite, tt_ck, tt_lk, tt_ix, tt_bo, tt_by, tt_nz, tt_ob, tt_st, tt_cpk, tt_c1, tt_c2, tt_ca, tt_cb, tt_some, kd_231, kd_0, Nat.reduceAdd, true_and, and_true, true_implies, not_true_eq_false, false_implies, not_false_eq_true, true_or, or_true, e_in]
  first
    | (split <;> exact ⟨by omega, rfl⟩)
    | (split <;> omega)
    | trivial
theorem lfill_ok {F k : Nat} {v : Int} {σ : St} (hk : kdX k = 10) (hF : lnX k < F) (hl : lnX k ≤ 2000) : TT (f_J7_fill_d0a16 F k v σ) (fun σ' => (∀ k', k' ≠ k → σ' k' = σ k') ∧ ∀ j, σ' k j = if 0 ≤ j ∧ j < lnX k then v else σ k j) := by
  unfold f_J7_fill_d0a16
  simp only [tt_gt, tt_sg, tt_ite, tt_ck, tt_lk, tt_ix, tt_bo, tt_by, tt_nz, tt_ob, tt_st, tt_cpk, tt_c1, tt_c2, tt_ca, tt_cb, tt_some, kd_231, kd_0, Nat.reduceAdd, true_and, and_true, true_implies, not_true_eq_false, false_implies, not_false_eq_true, true_or, or_true, hk]
  refine lp_w (L := fun n (p : Int × St) => f_J7_fill_d0a16_L6 F k v n p.1 (lnX k) p.2) (fun m p => 0 ≤ p.1 ∧ p.1 + m = lnX k ∧ (∀ k', k' ≠ k → p.2 k' = σ k') ∧ ∀ j, p.2 k j = if 0 ≤ j ∧ j < p.1 then v else σ k j) (fun m n p hI ih => ?_) (lnX k) F (0, σ) hF ⟨by dsimp only; omega, by dsimp only; omega, fun _ _ => rfl, fun j => by dsimp only; rw [if_neg (by omega)]⟩
  obtain ⟨i, τ⟩ := p
  dsimp only at hI ih ⊢
  obtain ⟨i1, i2, i3, i4⟩ := hI
  rw [f_J7_fill_d0a16_L6]
  simp only [tt_gt, tt_sg, tt_ite, tt_ck, tt_lk, tt_ix, tt_bo, tt_by, tt_nz, tt_ob, tt_st, tt_cpk, tt_c1, tt_c2, tt_ca, tt_cb, tt_some, kd_231, kd_0, Nat.reduceAdd, true_and, and_true, true_implies, not_true_eq_false, false_implies, not_false_eq_true, true_or, or_true]
  refine ⟨fun q => ⟨i3, fun j => ?_⟩, fun q => And.intro (by omega) (And.intro (by omega) (ih (m - 1) (i + 1, z_up τ k i v) (by omega) ⟨by dsimp only; omega, by dsimp only; omega, fun k' h => (up_ne h).trans (i3 k' h), fun j => ?_⟩))⟩
  · rw [i4, show i = ((lnX k : Nat) : Int) by omega]
  · dsimp only
    rw [up_eq]
    dsimp only
    rw [i4]
    by_cases y : j = i
    · rw [if_pos y, if_pos (by omega)]
    · rw [if_neg y]
      by_cases y2 : 0 ≤ j ∧ j < i
      · rw [if_pos y2, if_pos (by omega)]
      · rw [if_neg y2, if_neg (by omega)]
theorem SlP.mv2 {σ σ' : St} {c : Nat} {s : Int} (h : SlP σ c s) (h0 : σ' c = σ c) (h1 : σ' (c + 1) = σ (c + 1)) (h2 : σ' 255 s = σ 255 s) (h3 : σ' 256 s = σ 256 s) (h4 : ∀ i, 0 ≤ i → i < 60 → σ' 257 (60 * s + i) = σ 257 (60 * s + i)) : SlP σ' c s := by
  unfold SlP
  rw [h0, h1, h2, h3]
  rcases h with z | z
  · exact Or.inl ⟨z.1, z.2.1, z.2.2.1, z.2.2.2.1, z.2.2.2.2.1, z.2.2.2.2.2.1, z.2.2.2.2.2.2.1, fun i i1 i2 => (z.2.2.2.2.2.2.2 i i1 i2).trans (h4 i i1 i2).symm⟩
  · exact Or.inr z
theorem gi_sl {F : Nat} {σ σ' : St} (hF : 100 ≤ F) (h : GI F σ) (e : ∀ x, x < 223 ∨ (230 < x ∧ x < 255) → σ' x = σ x) (hs : ∀ s : Nat, s < 4 → SlP σ' (223 + 2 * s) s) : GI F σ' :=
  gi_mk (h.w_fr hF (fun x hx => e x (by omega))) (by rw [e 8 (by omega)]; exact h.sp) (h.i_fr (fun x hx => e x (by omega))) (h.t_fr (by rw [e 1 (by omega)]) (e 2 (by omega)) (e 235 (by omega)) (by rw [e 231 (by omega)])) (by rw [e 1 (by omega), e 231 (by omega)]; exact h.fk) (by rw [e 1 (by omega), e 231 (by omega)]; exact h.fp) hs (by rw [e 251 (by omega)]; exact h.ag)
theorem q_row {F : Nat} {σ : St} {a b l : Int} (hF : 1000 ≤ F) (h : GI F σ) : PP F (f_X6_row F 0 a b l σ) (f_X7_row F 231 a b l) := by
  unfold PP f_X6_row
  simp only [tt_gt, tt_sg, tt_ite, tt_ck, tt_lk, tt_ix, tt_bo, tt_by, tt_nz, tt_ob, tt_st, tt_cpk, tt_c1, tt_c2, tt_ca, tt_cb, tt_some, kd_231, kd_0, Nat.reduceAdd, true_and, and_true, true_implies, not_true_eq_false, false_implies, not_false_eq_true, true_or, or_true, Nat.zero_add, e6_slot]
  by_cases q : 0 ≤ a ∧ a ≤ 3
  rotate_left
  · rw [if_neg q]
    refine ⟨fun _ => ?_, fun y => absurd rfl y⟩
    unfold f_X7_row
    simp only [tt_gt, tt_sg, tt_ite, tt_ck, tt_lk, tt_ix, tt_bo, tt_by, tt_nz, tt_ob, tt_st, tt_cpk, tt_c1, tt_c2, tt_ca, tt_cb, tt_some, kd_231, kd_0, Nat.reduceAdd, true_and, and_true, true_implies, not_true_eq_false, false_implies, not_false_eq_true, true_or, or_true, e7_slot]
    rw [if_neg q]
    exact ⟨fun _ => h, fun y => absurd rfl y⟩
  rw [if_pos q]
  have n1 : ¬ (0 ≤ b ∧ b ≤ 3) → TT (f_X7_row F 231 a b l σ) (fun r' => -2 = r'.1 ∧ GI F r'.2) := fun q1 => by
    unfold f_X7_row
    simp only [tt_gt, tt_sg, tt_ite, tt_ck, tt_lk, tt_ix, tt_bo, tt_by, tt_nz, tt_ob, tt_st, tt_cpk, tt_c1, tt_c2, tt_ca, tt_cb, tt_some, kd_231, kd_0, Nat.reduceAdd, true_and, and_true, true_implies, not_true_eq_false, false_implies, not_false_eq_true, true_or, or_true, e7_slot, e_in]
    rw [if_pos q, if_neg q1]
    exact ⟨fun y => absurd y (by decide), fun _ => ⟨fun _ => h, fun y => absurd rfl y⟩⟩
  refine ⟨fun y => absurd y (by decide), fun _ => ⟨fun z => n1 (by omega), fun z => ⟨fun z1 => n1 (by omega), fun z1 => ⟨fun z2 => ⟨fun z3 => And.intro (by omega) ?_, fun z3 => ?_⟩, fun z2 => ?_⟩⟩⟩⟩
  · obtain ⟨s, rfl⟩ : ∃ s : Nat, a = s := ⟨a.toNat, by omega⟩
    rw [Int.toNat_natCast]
    have s4 : s < 4 := by omega
    have kd := kd_sl s s4
    unfold f_X5_make
    simp only [tt_gt, tt_sg, tt_ite, tt_ck, tt_lk, tt_ix, tt_bo, tt_by, tt_nz, tt_ob, tt_st, tt_cpk, tt_c1, tt_c2, tt_ca, tt_cb, tt_some, kd_231, kd_0, Nat.reduceAdd, true_and, and_true, true_implies, not_true_eq_false, false_implies, not_false_eq_true, true_or, or_true, kd.1]
    have mm : z_max 0 (z_min l 60) = l := by
      have m1 : z_min l 60 = l := if_neg (by omega)
      rw [m1]
      unfold z_max
      by_cases y : 0 < l
      · rw [if_pos y]
      · rw [if_neg y]; omega
    rw [mm]
    refine (lfill_ok kd.2.1 (by rw [kd.2.2]; omega) (by rw [kd.2.2]; omega)).mono (fun σ1 h1 => ?_)
    have o1 : ∀ x, x ≠ 223 + 2 * s → x ≠ 223 + 2 * s + 1 → σ1 x = σ x := fun x x1 x2 => by rw [h1.1 x x2, up_ne x1, up_ne x1, up_ne x1]
    have c0 : ∀ j, σ1 (223 + 2 * s) j = if j = 2 then l else if j = 1 then b else if j = 0 then 1 else σ (223 + 2 * s) j := fun j => by
      rw [h1.1 _ (by omega)]
      simp only [up_eq]
    have c1 : ∀ j, 0 ≤ j → j < 60 → σ1 (223 + 2 * s + 1) j = 0 := fun j j1 j2 => by rw [h1.2, if_pos (by rw [kd.2.2]; omega)]
    unfold f_X7_row
    simp only [tt_gt, tt_sg, tt_ite, tt_ck, tt_lk, tt_ix, tt_bo, tt_by, tt_nz, tt_ob, tt_st, tt_cpk, tt_c1, tt_c2, tt_ca, tt_cb, tt_some, kd_231, kd_0, Nat.reduceAdd, true_and, and_true, true_implies, not_true_eq_false, false_implies, not_false_eq_true, true_or, or_true, e7_slot, e_in]
    rw [if_pos q, if_pos (by omega)]
    refine ⟨fun y => absurd y (by decide), fun _ => ⟨fun y => absurd y (by decide), fun _ => ⟨fun _ => ⟨fun _ => And.intro (by omega) (And.intro (by omega) ?_), fun y => absurd z3 y⟩, fun y => absurd z2 y⟩⟩⟩
    generalize hτ : z_up (z_up σ1 255 s l) 256 s b = τ
    have ot : ∀ x, x ≠ 255 → x ≠ 256 → τ x = σ1 x := fun x x1 x2 => by rw [← hτ, up_ne x2, up_ne x1]
    have t55 : ∀ j, τ 255 j = if j = s then l else σ 255 j := fun j => by rw [← hτ, up_ne (by decide), up_eq]; dsimp only; rw [o1 255 (by omega) (by omega)]
    have t56 : ∀ j, τ 256 j = if j = s then b else σ 256 j := fun j => by rw [← hτ, up_eq]; dsimp only; rw [up_ne (by decide), o1 256 (by omega) (by omega)]
    refine lp_w (L := fun n (p : Int × St) => f_X7_row_L52 F 231 s b l n p.1 p.2) (fun m p => ∃ i : Nat, p.1 = i ∧ i + m = 60 ∧ (∀ x, x ≠ 257 → p.2 x = τ x) ∧ ∀ j : Int, p.2 257 j = if 60 * (s : Int) ≤ j ∧ j < 60 * (s : Int) + i then 0 else σ 257 j) (fun m n p hI ih => ?_) 60 F (0, τ) (by omega) ⟨0, rfl, rfl, fun _ _ => rfl, fun i => by dsimp only; rw [if_neg (by omega), ot 257 (by decide) (by decide), o1 257 (by omega) (by omega)]⟩
    obtain ⟨x, κ⟩ := p
    dsimp only at hI ih ⊢
    obtain ⟨i, rfl, i2, i3, i4⟩ := hI
    rw [f_X7_row_L52]
    simp only [tt_gt, tt_sg, tt_ite, tt_ck, tt_lk, tt_ix, tt_bo, tt_by, tt_nz, tt_ob, tt_st, tt_cpk, tt_c1, tt_c2, tt_ca, tt_cb, tt_some, kd_231, kd_0, Nat.reduceAdd, true_and, and_true, true_implies, not_true_eq_false, false_implies, not_false_eq_true, true_or, or_true]
    refine ⟨fun z => ?_, fun z => And.intro (by omega) (And.intro (by omega) (And.intro (by omega) (And.intro (by omega) (ih (m - 1) ((i : Int) + 1, z_up κ 257 (60 * s + i) 0) (by omega) ⟨i + 1, by dsimp only; omega, by omega, fun x hx => (up_ne hx).trans (i3 x hx), fun j => ?_⟩))))⟩
    · have : i = 60 := by omega
      subst this
      have gi : GI F κ := by
        refine gi_sl (by omega) h (fun x hx => by rw [i3 x (by omega), ot x (by omega) (by omega), o1 x (by omega) (by omega)]) (fun s' hs' => ?_)
        by_cases y : s' = s
        · subst y
          refine Or.inl ?_
          rw [i3 _ (by omega), i3 (223 + 2 * s' + 1) (by omega), i3 255 (by decide), i3 256 (by decide), ot _ (by omega) (by omega), ot (223 + 2 * s' + 1) (by omega) (by omega), t55, t56, if_pos rfl, if_pos rfl, c0, c0, c0]
          refine ⟨rfl, rfl, ?_, ?_, rfl, ?_, ?_, fun i i1 i2 => ?_⟩
          · show 0 ≤ l; omega
          · show l ≤ 60; omega
          · show 0 ≤ b; omega
          · show b ≤ 3; omega
          · rw [c1 i i1 i2, i4, if_pos (by omega)]
        · refine (h.sl s' hs').mv2 ?_ ?_ ?_ ?_ (fun i i1 i2 => ?_)
          · rw [i3 _ (by omega), ot _ (by omega) (by omega), o1 _ (by omega) (by omega)]
          · rw [i3 _ (by omega), ot _ (by omega) (by omega), o1 _ (by omega) (by omega)]
          · rw [i3 _ (by omega), t55, if_neg (by omega)]
          · rw [i3 _ (by omega), t56, if_neg (by omega)]
          · rw [i4, if_neg (by omega)]
      first
        | exact gi
        | exact ⟨rfl, gi⟩
    · dsimp only
      rw [up_eq]
      dsimp only
      by_cases y : j = 60 * (s : Int) + i
      · rw [if_pos y, if_pos (by omega)]
      · rw [if_neg y, i4]
        by_cases y2 : 60 * (s : Int) ≤ j ∧ j < 60 * (s : Int) + i
        · rw [if_pos y2, if_pos (by omega)]
        · rw [if_neg y2, if_neg (by omega)]
  · unfold f_X7_row
    simp only [tt_gt, tt_sg, tt_ite, tt_ck, tt_lk, tt_ix, tt_bo, tt_by, tt_nz, tt_ob, tt_st, tt_cpk, tt_c1, tt_c2, tt_ca, tt_cb, tt_some, kd_231, kd_0, Nat.reduceAdd, true_and, and_true, true_implies, not_true_eq_false, false_implies, not_false_eq_true, true_or, or_true, e7_slot, e_in]
    rw [if_pos q, if_pos (by omega)]
    exact ⟨fun y => absurd y (by decide), fun _ => ⟨fun y => absurd y (by decide), fun _ => ⟨fun _ => ⟨fun y => absurd y z3, fun _ => h⟩, fun y => absurd z2 y⟩⟩⟩
  · unfold f_X7_row
    simp only [tt_gt, tt_sg, tt_ite, tt_ck, tt_lk, tt_ix, tt_bo, tt_by, tt_nz, tt_ob, tt_st, tt_cpk, tt_c1, tt_c2, tt_ca, tt_cb, tt_some, kd_231, kd_0, Nat.reduceAdd, true_and, and_true, true_implies, not_true_eq_false, false_implies, not_false_eq_true, true_or, or_true, e7_slot, e_in]
    rw [if_pos q, if_pos (by omega)]
    exact ⟨fun y => absurd y (by decide), fun _ => ⟨fun y => absurd y (by decide), fun _ => ⟨fun y => absurd y z2, fun _ => h⟩⟩⟩
theorem q_write {F : Nat} {σ : St} {a p v : Int} (hF : 1000 ≤ F) (h : GI F σ) (hv : lR v) : PP F (f_X6_write F 0 a p v σ) (f_X7_write F 231 a p v) := by
  unfold PP f_X6_write
  simp only [tt_gt, tt_sg, tt_ite, tt_ck, tt_lk, tt_ix, tt_bo, tt_by, tt_nz, tt_ob, tt_st, tt_cpk, tt_c1, tt_c2, tt_ca, tt_cb, tt_some, kd_231, kd_0, Nat.reduceAdd, true_and, and_true, true_implies, not_true_eq_false, false_implies, not_false_eq_true, true_or, or_true, Nat.zero_add, e6_slot]
  by_cases q : 0 ≤ a ∧ a ≤ 3
  rotate_left
  · rw [if_neg q]
    refine ⟨fun y => absurd rfl y, fun _ => ?_⟩
    unfold f_X7_write
    simp only [tt_gt, tt_sg, tt_ite, tt_ck, tt_lk, tt_ix, tt_bo, tt_by, tt_nz, tt_ob, tt_st, tt_cpk, tt_c1, tt_c2, tt_ca, tt_cb, tt_some, kd_231, kd_0, Nat.reduceAdd, true_and, and_true, true_implies, not_true_eq_false, false_implies, not_false_eq_true, true_or, or_true, e7_slot]
    rw [if_neg q]
    exact ⟨fun y => absurd rfl y, fun _ => h⟩
  rw [if_pos q]
  refine ⟨fun _ => And.intro (by omega) ?_, fun y => absurd (by decide) y⟩
  obtain ⟨s, rfl⟩ : ∃ s : Nat, a = s := ⟨a.toNat, by omega⟩
  rw [Int.toNat_natCast]
  have s4 : s < 4 := by omega
  have kd := kd_sl s s4
  rcases h.sl s s4 with hs | hs
  rotate_left
  · rw [hs.1]
    refine ⟨fun y => absurd rfl y, fun _ => ?_⟩
    unfold f_X7_write
    simp only [tt_gt, tt_sg, tt_ite, tt_ck, tt_lk, tt_ix, tt_bo, tt_by, tt_nz, tt_ob, tt_st, tt_cpk, tt_c1, tt_c2, tt_ca, tt_cb, tt_some, kd_231, kd_0, Nat.reduceAdd, true_and, and_true, true_implies, not_true_eq_false, false_implies, not_false_eq_true, true_or, or_true, e7_slot]
    rw [if_pos q, hs.2]
    exact ⟨fun _ => And.intro (by omega) ⟨fun y => absurd rfl y, fun _ => h⟩, fun y => absurd (by decide) y⟩
  obtain ⟨k0, k1, k2, k3, k4, k5, k6, k7⟩ := hs
  rw [k0]
  have n7 : ¬ (0 ≤ p ∧ p ≤ σ (223 + 2 * s) 2 - 1) → TT (f_X7_write F 231 s p v σ) (fun r' => -7 = r'.1 ∧ GI F r'.2) := fun q7 => by
    unfold f_X7_write
    simp only [tt_gt, tt_sg, tt_ite, tt_ck, tt_lk, tt_ix, tt_bo, tt_by, tt_nz, tt_ob, tt_st, tt_cpk, tt_c1, tt_c2, tt_ca, tt_cb, tt_some, kd_231, kd_0, Nat.reduceAdd, true_and, and_true, true_implies, not_true_eq_false, false_implies, not_false_eq_true, true_or, or_true, e7_slot, e_in]
    rw [if_pos q, k1, if_neg q7]
    exact ⟨fun _ => And.intro (by omega) ⟨fun _ => And.intro (by omega) (And.intro (by omega) ⟨fun y => absurd rfl y, fun _ => h⟩), fun y => absurd (by omega) y⟩, fun y => absurd (by decide) y⟩
  refine ⟨fun _ => ⟨fun z => n7 (by omega), fun z => ⟨fun z2 => ?_, fun z2 => n7 (by omega)⟩⟩, fun y => absurd (by decide) y⟩
  unfold f_X5_put
  simp only [tt_gt, tt_sg, tt_ite, tt_ck, tt_lk, tt_ix, tt_bo, tt_by, tt_nz, tt_ob, tt_st, tt_cpk, tt_c1, tt_c2, tt_ca, tt_cb, tt_some, kd_231, kd_0, Nat.reduceAdd, true_and, and_true, true_implies, not_true_eq_false, false_implies, not_false_eq_true, true_or, or_true, kd.1, e_cut (F := F) (σ := σ) (v := v) kd.1]
  refine ⟨fun y => absurd y z, fun _ => ⟨fun y => absurd y (by omega), fun _ => And.intro (by omega) ?_⟩⟩
  generalize hτ : z_up σ (223 + 2 * s + 1) p (ctV (σ (223 + 2 * s) 1) v) = τ
  have o : ∀ x, x ≠ 223 + 2 * s + 1 → τ x = σ x := fun x hx => by rw [← hτ, up_ne hx]
  have t1 : ∀ j, τ (223 + 2 * s + 1) j = if j = p then ctV (σ (223 + 2 * s) 1) v else σ (223 + 2 * s + 1) j := fun j => by rw [← hτ, up_eq]
  have t5 : τ 255 s = σ (223 + 2 * s) 2 := by rw [o 255 (by omega)]; exact k1
  have t6 : τ 256 s = σ (223 + 2 * s) 1 := by rw [o 256 (by omega)]; exact k4
  unfold f_X7_write
  simp only [tt_gt, tt_sg, tt_ite, tt_ck, tt_lk, tt_ix, tt_bo, tt_by, tt_nz, tt_ob, tt_st, tt_cpk, tt_c1, tt_c2, tt_ca, tt_cb, tt_some, kd_231, kd_0, Nat.reduceAdd, true_and, and_true, true_implies, not_true_eq_false, false_implies, not_false_eq_true, true_or, or_true, e7_slot, e_in, t5, t6, e_clip (F := F) (σ := τ) (wd := σ (223 + 2 * s) 1) hv ⟨k5, k6⟩]
  rw [if_pos q, if_pos (by omega)]
  refine ⟨fun _ => And.intro (by omega) ⟨fun _ => And.intro (by omega) (And.intro (by omega) ⟨fun _ => ?_, fun y => absurd (by decide) y⟩), fun y => absurd (by omega) y⟩, fun y => absurd (by decide) y⟩
  refine And.intro (by omega) (And.intro (by omega) (And.intro (by omega) (And.intro (by omega) ?_)))
  generalize hω : z_up τ 257 (60 * s + p) (ctV (σ (223 + 2 * s) 1) v) = ω
  have oo : ∀ x, x ≠ 223 + 2 * s + 1 → x ≠ 257 → ω x = σ x := fun x x1 x2 => by rw [← hω, up_ne x2, o x x1]
  have w1 : ω (223 + 2 * s + 1) = τ (223 + 2 * s + 1) := by rw [← hω, up_ne (by omega)]
  have w7 : ∀ j, ω 257 j = if j = 60 * s + p then ctV (σ (223 + 2 * s) 1) v else σ 257 j := fun j => by rw [← hω, up_eq]; dsimp only; rw [o 257 (by omega)]
  have gi : GI F ω := by
    refine gi_sl (by omega) h (fun x hx => oo x (by omega) (by omega)) (fun s' hs' => ?_)
    by_cases y : s' = s
    · subst y
      refine Or.inl ?_
      rw [oo _ (by omega) (by omega), oo 255 (by omega) (by omega), oo 256 (by omega) (by omega), w1]
      refine ⟨k0, k1, k2, k3, k4, k5, k6, fun i i1 i2 => ?_⟩
      rw [t1, w7]
      by_cases y : i = p
      · rw [if_pos y, if_pos (by omega)]
      · rw [if_neg y, if_neg (by omega)]
        exact k7 i i1 i2
    · refine (h.sl s' hs').mv2 (oo _ (by omega) (by omega)) (oo _ (by omega) (by omega)) (by rw [oo _ (by omega) (by omega)]) (by rw [oo _ (by omega) (by omega)]) (fun i i1 i2 => ?_)
      rw [w7, if_neg (by omega)]
  first
    | exact gi
    | exact ⟨rfl, gi⟩
theorem e_rch {F c : Nat} {σ : St} {a b : Int} (hk : kdX c = 5) (ha : iR a) (hb : iR b) : f_X5_reaches F c a b σ = some (if 0 ≤ a ∧ 0 ≤ b ∧ a + b ≤ σ c 2 then 1 else 0) := by
  have h1 := ha.1
  have h2 := ha.2
  have h3 := hb.1
  have h4 := hb.2
  apply TT.eq
  unfold f_X5_reaches z_cmp
  simp only [tt_gt, tt_sg, tt_ite, tt_ck, tt_lk, tt_ix, tt_bo, tt_by, tt_nz, tt_ob, tt_st, tt_cpk, tt_c1, tt_c2, tt_ca, tt_cb, tt_some, kd_231, kd_0, Nat.reduceAdd, true_and, and_true, true_implies, not_true_eq_false, false_implies, not_false_eq_true, true_or, or_true, hk]
  refine ⟨fun z => by rw [if_neg (by omega)], fun z => ⟨fun z1 => by rw [if_neg (by omega)], fun z1 => And.intro (by omega) ⟨fun z2 => ?_, fun z2 => ?_⟩⟩⟩
  · rw [if_neg]
    intro y
    rw [if_neg (by omega)] at z2
    split at z2 <;> omega
  · rw [if_pos]
    refine ⟨by omega, by omega, Classical.byContradiction (fun y => z2 ?_)⟩
    rw [if_pos (by omega)]
    decide
theorem q_paste {F : Nat} {σ : St} {a p b r n : Int} (hF : 1000 ≤ F) (h : GI F σ) (hp : iR p) (hr : iR r) (hn : iR n) : PP F (f_X6_paste F 0 a p b r n σ) (f_X7_paste F 231 a p b r n) := by
  have p1 := hp.1
  have p2 := hp.2
  have r1 := hr.1
  have r2 := hr.2
  have m1 := hn.1
  have m2 := hn.2
  have no : ∀ v : Int, TT (f_X7_paste F 231 a p b r n σ) (fun r' => r' = (v, σ)) → TT (f_X7_paste F 231 a p b r n σ) (fun r' => v = r'.1 ∧ GI F r'.2) := fun v y => y.mono (fun r' z => by rw [z]; exact ⟨rfl, h⟩)
  unfold PP f_X6_paste
  simp only [tt_gt, tt_sg, tt_ite, tt_ck, tt_lk, tt_ix, tt_bo, tt_by, tt_nz, tt_ob, tt_st, tt_cpk, tt_c1, tt_c2, tt_ca, tt_cb, tt_some, kd_231, kd_0, Nat.reduceAdd, true_and, and_true, true_implies, not_true_eq_false, false_implies, not_false_eq_true, true_or, or_true, Nat.zero_add, e6_slot]
  by_cases q : 0 ≤ a ∧ a ≤ 3
  rotate_left
  · rw [if_neg q]
    refine ⟨fun _ => no _ ?_, fun y => absurd rfl y⟩
    unfold f_X7_paste
    simp only [tt_gt, tt_sg, tt_ite, tt_ck, tt_lk, tt_ix, tt_bo, tt_by, tt_nz, tt_ob, tt_st, tt_cpk, tt_c1, tt_c2, tt_ca, tt_cb, tt_some, kd_231, kd_0, Nat.reduceAdd, true_and, and_true, true_implies, not_true_eq_false, false_implies, not_false_eq_true, true_or, or_true, e7_slot]
    rw [if_neg q]
    exact ⟨fun _ => trivial, fun y => absurd rfl y⟩
  by_cases q' : 0 ≤ b ∧ b ≤ 3
  rotate_left
  · rw [if_pos q, if_neg q']
    refine ⟨fun y => absurd y (by decide), fun _ => ⟨fun y => absurd rfl y, fun _ => no _ ?_⟩⟩
    unfold f_X7_paste
    simp only [tt_gt, tt_sg, tt_ite, tt_ck, tt_lk, tt_ix, tt_bo, tt_by, tt_nz, tt_ob, tt_st, tt_cpk, tt_c1, tt_c2, tt_ca, tt_cb, tt_some, kd_231, kd_0, Nat.reduceAdd, true_and, and_true, true_implies, not_true_eq_false, false_implies, not_false_eq_true, true_or, or_true, e7_slot]
    rw [if_pos q, if_neg q']
    exact ⟨fun y => absurd y (by decide), fun _ => ⟨fun y => absurd rfl y, fun _ => trivial⟩⟩
  rw [if_pos q, if_pos q']
  refine ⟨fun y => absurd y (by decide), fun _ => ⟨fun _ => And.intro (by omega) (And.intro (by omega) ?_), fun y => absurd (by decide) y⟩⟩
  obtain ⟨s, rfl⟩ : ∃ s : Nat, a = s := ⟨a.toNat, by omega⟩
  obtain ⟨t, rfl⟩ : ∃ t : Nat, b = t := ⟨b.toNat, by omega⟩
  rw [Int.toNat_natCast, Int.toNat_natCast]
  have s4 : s < 4 := by omega
  have t4 : t < 4 := by omega
  have kd := kd_sl s s4
  have kd' := kd_sl t t4
  have hs := h.sl s s4
  have ht := h.sl t t4
  have nx : ∀ v : Int, (σ 255 s = -1 → v = -6) → (σ 255 s ≠ -1 → σ 255 t = -1 → v = -6) → (σ 255 s ≠ -1 → σ 255 t ≠ -1 → (σ 256 s ≠ σ 256 t → v = -8) ∧ (σ 256 s = σ 256 t → v = -7 ∧ ¬ ((0 ≤ p ∧ 0 ≤ n ∧ p + n ≤ σ 255 s) ∧ (0 ≤ r ∧ 0 ≤ n ∧ r + n ≤ σ 255 t)))) → (-1 ≤ σ 255 s ∧ σ 255 s ≤ 60) → (-1 ≤ σ 255 t ∧ σ 255 t ≤ 60) → TT (f_X7_paste F 231 s p t r n σ) (fun r' => r' = (v, σ)) := fun v g1 g2 g3 g4 g5 => by
    have cp : ∀ x y : Int, 0 < z_cmp x y ↔ y < x := fun x y => by
      unfold z_cmp
      split
      · omega
      · split <;> omega
    unfold f_X7_paste
    simp only [tt_gt, tt_sg, tt_ite, tt_ck, tt_lk, tt_ix, tt_bo, tt_by, tt_nz, tt_ob, tt_st, tt_cpk, tt_c1, tt_c2, tt_ca, tt_cb, tt_some, kd_231, kd_0, Nat.reduceAdd, true_and, and_true, true_implies, not_true_eq_false, false_implies, not_false_eq_true, true_or, or_true, e7_slot]
    rw [if_pos q, if_pos q']
    refine ⟨fun y => absurd y (by decide), fun _ => ⟨fun _ => And.intro (by omega) ⟨fun z => by rw [g1 z], fun z => And.intro (by omega) ⟨fun z1 => And.intro (by omega) (And.intro (by omega) ⟨fun z2 => ?_, fun z2 => by rw [((g3 z z1).1 z2)]⟩), fun z1 => by rw [g2 z (Classical.byContradiction z1)]⟩⟩, fun y => absurd (by decide) y⟩⟩
    obtain ⟨hv, g6⟩ := (g3 z z1).2 z2
    subst hv
    refine ⟨fun _ => rfl, fun z3 => ⟨fun _ => rfl, fun z4 => ⟨fun _ => rfl, fun z5 => And.intro (by omega) (And.intro (by omega) ⟨fun _ => rfl, fun z6 => And.intro (by omega) (And.intro (by omega) ⟨fun z7 => ?_, fun _ => rfl⟩)⟩)⟩⟩⟩
    rw [cp] at z6
    have z8 : ¬ 0 < z_cmp (r + n) (σ 255 t) := by omega
    rw [cp] at z8
    exact absurd ⟨⟨by omega, by omega, by omega⟩, by omega, by omega, by omega⟩ g6
  rcases hs with hs | hs
  rotate_left
  · rw [hs.1]
    refine ⟨fun _ => no _ (nx _ (fun _ => rfl) (fun y => absurd hs.2 y) (fun y => absurd hs.2 y) (by omega) ?_), fun y => absurd rfl y⟩
    rcases ht with ht | ht
    · have := ht.2.1
      have := ht.2.2.1
      have := ht.2.2.2.1
      omega
    · have := ht.2
      omega
  obtain ⟨k0, k1, k2, k3, k4, k5, k6, k7⟩ := hs
  rw [k0]
  refine ⟨fun y => absurd y (by decide), fun _ => ?_⟩
  rcases ht with ht | ht
  rotate_left
  · rw [ht.1]
    exact ⟨fun y => absurd rfl y, fun _ => no _ (nx _ (fun _ => rfl) (fun _ _ => rfl) (fun _ y => absurd ht.2 y) (by omega) (by omega))⟩
  obtain ⟨l0, l1, l2, l3, l4, l5, l6, l7⟩ := ht
  rw [l0]
  refine ⟨fun _ => ?_, fun y => absurd (by decide) y⟩
  rw [e_rch kd.1 hp hn, e_rch kd'.1 hr hn, ← k1, ← l1, ← k4, ← l4]
  rw [← k1] at k2 k3
  rw [← l1] at l2 l3
  by_cases q2 : σ 256 s = σ 256 t
  rotate_left
  · exact ⟨fun y => absurd y q2, fun _ => no _ (nx _ (fun y => absurd y (by omega)) (fun _ y => absurd y (by omega)) (fun _ _ => ⟨fun _ => rfl, fun y => absurd y q2⟩) (by omega) (by omega))⟩
  refine ⟨fun _ => ?_, fun y => absurd q2 y⟩
  simp only [tt_some]
  by_cases q3 : 0 ≤ p ∧ 0 ≤ n ∧ p + n ≤ σ 255 s
  rotate_left
  · rw [if_neg q3]
    exact ⟨fun _ => no _ (nx _ (fun y => absurd y (by omega)) (fun _ y => absurd y (by omega)) (fun _ _ => ⟨fun y => absurd q2 y, fun _ => ⟨rfl, fun y => q3 y.1⟩⟩) (by omega) (by omega)), fun y => absurd rfl y⟩
  rw [if_pos q3]
  refine ⟨fun y => absurd y (by decide), fun _ => ?_⟩
  by_cases q4 : 0 ≤ r ∧ 0 ≤ n ∧ r + n ≤ σ 255 t
  rotate_left
  · rw [if_neg q4]
    exact ⟨fun y => absurd rfl y, fun _ => no _ (nx _ (fun y => absurd y (by omega)) (fun _ y => absurd y (by omega)) (fun _ _ => ⟨fun y => absurd q2 y, fun _ => ⟨rfl, fun y => q4 y.2⟩⟩) (by omega) (by omega))⟩
  rw [if_pos q4]
  refine ⟨fun _ => And.intro (by omega) ?_, fun y => absurd (by decide) y⟩
  generalize hτ : z_cp σ (223 + 2 * s + 1) (223 + 2 * t + 1) p r n = τ
  have o : ∀ x, x ≠ 223 + 2 * t + 1 → τ x = σ x := fun x hx => by rw [← hτ, cp_ne hx]
  have t1 : ∀ j, τ (223 + 2 * t + 1) j = if r ≤ j ∧ j < r + n then σ (223 + 2 * s + 1) (p + (j - r)) else σ (223 + 2 * t + 1) j := fun j => by rw [← hτ, cp_eq]
  have t5 : τ 255 = σ 255 := o 255 (by omega)
  have t6 : τ 256 = σ 256 := o 256 (by omega)
  have t7 : τ 257 = σ 257 := o 257 (by omega)
  obtain ⟨n, rfl⟩ : ∃ n' : Nat, n = n' := ⟨n.toNat, by omega⟩
  unfold f_X7_paste
  simp only [tt_gt, tt_sg, tt_ite, tt_ck, tt_lk, tt_ix, tt_bo, tt_by, tt_nz, tt_ob, tt_st, tt_cpk, tt_c1, tt_c2, tt_ca, tt_cb, tt_some, kd_231, kd_0, Nat.reduceAdd, true_and, and_true, true_implies, not_true_eq_false, false_implies, not_false_eq_true, true_or, or_true, e7_slot, t5, t6]
  rw [if_pos q, if_pos q']
  refine ⟨fun y => absurd y (by decide), fun _ => ⟨fun _ => And.intro (by omega) ⟨fun y => absurd y (by omega), fun _ => And.intro (by omega) ⟨fun _ => And.intro (by omega) (And.intro (by omega) ⟨fun _ => ⟨fun y => absurd y (by omega), fun _ => ⟨fun y => absurd y (by omega), fun _ => ⟨fun y => absurd y (by omega), fun _ => And.intro (by omega) (And.intro (by omega) ⟨fun y => ?_, fun _ => And.intro (by omega) (And.intro (by omega) ⟨fun _ => ?_, fun y => ?_⟩)⟩)⟩⟩⟩, fun y => absurd q2 y⟩), fun y => absurd (by omega) y⟩⟩, fun y => absurd (by decide) y⟩⟩
  · unfold z_cmp at y
    rw [if_neg (by omega)] at y
    split at y <;> omega
  · refine lp_w (L := fun m (x : Int × St) => f_X7_paste_L113 F 231 s p t r n m x.1 x.2) (fun m x => ∃ i : Nat, x.1 = i ∧ i + m = n ∧ (∀ y, y ≠ 258 → x.2 y = τ y) ∧ ∀ j : Int, 0 ≤ j → j < i → x.2 258 j = σ 257 (60 * s + p + j)) (fun m m' x hI ih => ?_) n F (0, τ) (by omega) ⟨0, rfl, Nat.zero_add _, fun _ _ => rfl, fun j j1 j2 => absurd j2 (by omega)⟩
    obtain ⟨x, κ⟩ := x
    dsimp only at hI ih ⊢
    obtain ⟨i, rfl, i2, i3, i4⟩ := hI
    rw [f_X7_paste_L113]
    simp only [tt_gt, tt_sg, tt_ite, tt_ck, tt_lk, tt_ix, tt_bo, tt_by, tt_nz, tt_ob, tt_st, tt_cpk, tt_c1, tt_c2, tt_ca, tt_cb, tt_some, kd_231, kd_0, Nat.reduceAdd, true_and, and_true, true_implies, not_true_eq_false, false_implies, not_false_eq_true, true_or, or_true]
    refine ⟨fun z => ?_, fun z => And.intro (by omega) (And.intro (by omega) (And.intro (by omega) (And.intro (by omega) (And.intro (by omega) (And.intro (by omega) (ih (m - 1) ((i : Int) + 1, z_up κ 258 i (κ 257 (60 * s + p + i))) (by omega) ⟨i + 1, by dsimp only; omega, by omega, fun x hx => (up_ne hx).trans (i3 x hx), fun j j1 j2 => ?_⟩))))))⟩
    rotate_left
    · dsimp only
      rw [up_eq]
      dsimp only
      by_cases y : j = i
      · rw [if_pos y, i3 257 (by decide), t7, y]
      · rw [if_neg y]
        exact i4 j j1 (by omega)
    have : i = n := by omega
    subst this
    refine lp_w (L := fun m (x : Int × St) => f_X7_paste_L150 F 231 s p t r i m x.1 x.2) (fun m x => ∃ e : Nat, x.1 = e ∧ e + m = i ∧ (∀ y, y ≠ 257 → x.2 y = κ y) ∧ ∀ j : Int, x.2 257 j = if 60 * (t : Int) + r ≤ j ∧ j < 60 * (t : Int) + r + e then κ 258 (j - (60 * t + r)) else σ 257 j) (fun m m' x hI ih => ?_) i F (0, κ) (by omega) ⟨0, rfl, Nat.zero_add _, fun _ _ => rfl, fun j => by dsimp only; rw [if_neg (by omega), i3 257 (by decide), t7]⟩
    obtain ⟨x, ω⟩ := x
    dsimp only at hI ih ⊢
    obtain ⟨e, rfl, e2, e3, e4⟩ := hI
    rw [f_X7_paste_L150]
    simp only [tt_gt, tt_sg, tt_ite, tt_ck, tt_lk, tt_ix, tt_bo, tt_by, tt_nz, tt_ob, tt_st, tt_cpk, tt_c1, tt_c2, tt_ca, tt_cb, tt_some, kd_231, kd_0, Nat.reduceAdd, true_and, and_true, true_implies, not_true_eq_false, false_implies, not_false_eq_true, true_or, or_true]
    refine ⟨fun z => ?_, fun z => And.intro (by omega) (And.intro (by omega) (And.intro (by omega) (And.intro (by omega) (And.intro (by omega) (And.intro (by omega) (ih (m - 1) ((e : Int) + 1, z_up ω 257 (60 * t + r + e) (ω 258 e)) (by omega) ⟨e + 1, by dsimp only; omega, by omega, fun x hx => (up_ne hx).trans (e3 x hx), fun j => ?_⟩))))))⟩
    · have : e = i := by omega
      subst this
      have oo : ∀ x, x ≠ 223 + 2 * t + 1 → x ≠ 257 → x ≠ 258 → ω x = σ x := fun x x1 x2 x3 => by rw [e3 x x2, i3 x x3, o x x1]
      have gi : GI F ω := by
        refine gi_sl (by omega) h (fun x hx => oo x (by omega) (by omega) (by omega)) (fun s' hs' => ?_)
        by_cases y : s' = t
        · subst y
          refine Or.inl ?_
          rw [oo _ (by omega) (by omega) (by omega), oo 255 (by omega) (by omega) (by omega), oo 256 (by omega) (by omega) (by omega), e3 (223 + 2 * s' + 1) (by omega), i3 (223 + 2 * s' + 1) (by omega)]
          refine ⟨l0, l1, by rw [← l1]; exact l2, by rw [← l1]; exact l3, l4, l5, l6, fun i i1 i2 => ?_⟩
          rw [t1, e4]
          by_cases y : r ≤ i ∧ i < r + e
          · rw [if_pos y, if_pos (by omega), i4 _ (by omega) (by omega), k7 _ (by omega) (by omega)]
            congr 1
            omega
          · rw [if_neg y, if_neg (by omega)]
            exact l7 i i1 i2
        · refine (h.sl s' hs').mv2 (oo _ (by omega) (by omega) (by omega)) (oo _ (by omega) (by omega) (by omega)) (by rw [oo _ (by omega) (by omega) (by omega)]) (by rw [oo _ (by omega) (by omega) (by omega)]) (fun i i1 i2 => ?_)
          rw [e4, if_neg (by omega)]
      first
        | exact gi
        | exact ⟨rfl, gi⟩
    · dsimp only
      rw [up_eq]
      dsimp only
      by_cases y : j = 60 * (t : Int) + r + e
      · rw [if_pos y, if_pos (by omega), e3 258 (by decide)]
        congr 1
        omega
      · rw [if_neg y, e4]
        by_cases y2 : 60 * (t : Int) + r ≤ j ∧ j < 60 * (t : Int) + r + e
        · rw [if_pos y2, if_pos (by omega)]
        · rw [if_neg y2, if_neg (by omega)]
  · refine absurd ?_ y
    unfold z_cmp
    rw [if_neg (by omega)]
    split <;> omega
