theorem e6_wordOf {F : Nat} {σ : St} {x : Int} (h : 0 ≤ x) (h2 : x ≤ 8) : f_X2_wordOf F x σ = some (4 + x.toNat) := by
  have : x = 0 ∨ x = 1 ∨ x = 2 ∨ x = 3 ∨ x = 4 ∨ x = 5 ∨ x = 6 ∨ x = 7 ∨ x = 8 := by omega
  rcases this with y | y | y | y | y | y | y | y | y <;> subst y <;> rfl
theorem e7_wordOf {F : Nat} {σ : St} {x : Int} (h : 0 ≤ x) (h2 : x ≤ 8) : f_X7_wordOf F x σ = some (4 + x.toNat) := by
  have : x = 0 ∨ x = 1 ∨ x = 2 ∨ x = 3 ∨ x = 4 ∨ x = 5 ∨ x = 6 ∨ x = 7 ∨ x = 8 := by omega
  rcases this with y | y | y | y | y | y | y | y | y <;> subst y <;> rfl
def KdP (T : Int → Int) (ty st en k : Int) : Prop := (0 ≤ k ∧ k ≤ 8 ∧ WdP T ty st en (4 + k.toNat) ∧ ∀ i : Int, 0 ≤ i → i < k → ¬ WdP T ty st en (4 + i.toNat)) ∨ (k = -1 ∧ ∀ i : Int, 0 ≤ i → i ≤ 8 → ¬ WdP T ty st en (4 + i.toNat))
theorem KdP.u {T : Int → Int} {ty st en k k' : Int} (h : KdP T ty st en k) (h' : KdP T ty st en k') : k = k' := by
  rcases h with a | a
  · rcases h' with b | b
    · rcases Int.lt_trichotomy k k' with z | z | z
      · exact absurd a.2.2.1 (b.2.2.2 k a.1 z)
      · exact z
      · exact absurd b.2.2.1 (a.2.2.2 k' b.1 z)
    · exact absurd a.2.2.1 (b.2 k a.1 a.2.1)
  · rcases h' with b | b
    · exact absurd b.2.2.1 (a.2 k' b.1 b.2.1)
    · rw [a.1, b.1]
theorem JT.kind {F : Nat} {T : Int → Int} {L : Int} {τ κ : St} (hF : 1000 ≤ F) (h : JT T L τ κ) : ∃ k, f_X2_kindOfWord F 1 τ = some k ∧ f_X7_kindRead F 231 κ = some k ∧ -1 ≤ k ∧ k ≤ 8 := by
  have c : TT (f_X2_kindOfWord F 1 τ) (fun k => KdP T (κ 231 10) (κ 231 9) (κ 231 8) k) := by
    unfold f_X2_kindOfWord
    simp only [tt_gt, tt_sg, tt_ite, tt_ck, tt_lk, tt_ix, tt_bo, tt_by, tt_nz, tt_ob, tt_st, tt_cpk, tt_c1, tt_c2, tt_ca, tt_cb, tt_some, kd_231, kd_0, Nat.reduceAdd, true_and, and_true, true_implies, not_true_eq_false, false_implies, not_false_eq_true, true_or, or_true, show kdX 1 = 2 from rfl]
    refine lp_w (L := fun n (p : Int) => f_X2_kindOfWord_L2 F 1 τ n p) (fun m p => 0 ≤ p ∧ p + m = 9 ∧ ∀ i, 0 ≤ i → i < p → ¬ WdP T (κ 231 10) (κ 231 9) (κ 231 8) (4 + i.toNat)) (fun m n p hI ih => ?_) 9 F 0 (by omega) ⟨by omega, by omega, fun i i1 i2 => absurd i2 (by omega)⟩
    obtain ⟨i1, i2, i3⟩ := hI
    rw [f_X2_kindOfWord_L2]
    simp only [tt_gt, tt_sg, tt_ite, tt_ck, tt_lk, tt_ix, tt_bo, tt_by, tt_nz, tt_ob, tt_st, tt_cpk, tt_c1, tt_c2, tt_ca, tt_cb, tt_some, kd_231, kd_0, Nat.reduceAdd, true_and, and_true, true_implies, not_true_eq_false, false_implies, not_false_eq_true, true_or, or_true]
    refine ⟨fun z => Or.inr ⟨rfl, fun i k1 k2 => i3 i k1 (by omega)⟩, fun z => ?_⟩
    rw [e6_wordOf i1 (by omega), tt_some]
    refine (h.is6 hF (by omega)).mono (fun b hb => ⟨fun z2 => And.intro (by omega) (ih (m - 1) (p + 1) (by omega) ⟨by omega, by omega, fun i k1 k2 => ?_⟩), fun z2 => Or.inl ⟨i1, by omega, ?_, i3⟩⟩)
    · rcases hb with y | y
      · omega
      · by_cases u : i = p
        · rw [u]; exact y.2
        · exact i3 i k1 (by omega)
    · rcases hb with y | y
      · exact y.2
      · omega
  have m : TT (f_X7_kindRead F 231 κ) (fun k => KdP T (κ 231 10) (κ 231 9) (κ 231 8) k) := by
    unfold f_X7_kindRead
    simp only [tt_gt, tt_sg, tt_ite, tt_ck, tt_lk, tt_ix, tt_bo, tt_by, tt_nz, tt_ob, tt_st, tt_cpk, tt_c1, tt_c2, tt_ca, tt_cb, tt_some, kd_231, kd_0, Nat.reduceAdd, true_and, and_true, true_implies, not_true_eq_false, false_implies, not_false_eq_true, true_or, or_true]
    refine lp_w (L := fun n (p : Int) => f_X7_kindRead_L2 F 231 κ n p) (fun m p => 0 ≤ p ∧ p + m = 9 ∧ ∀ i, 0 ≤ i → i < p → ¬ WdP T (κ 231 10) (κ 231 9) (κ 231 8) (4 + i.toNat)) (fun m n p hI ih => ?_) 9 F 0 (by omega) ⟨by omega, by omega, fun i i1 i2 => absurd i2 (by omega)⟩
    obtain ⟨i1, i2, i3⟩ := hI
    rw [f_X7_kindRead_L2]
    simp only [tt_gt, tt_sg, tt_ite, tt_ck, tt_lk, tt_ix, tt_bo, tt_by, tt_nz, tt_ob, tt_st, tt_cpk, tt_c1, tt_c2, tt_ca, tt_cb, tt_some, kd_231, kd_0, Nat.reduceAdd, true_and, and_true, true_implies, not_true_eq_false, false_implies, not_false_eq_true, true_or, or_true]
    refine ⟨fun z => Or.inr ⟨rfl, fun i k1 k2 => i3 i k1 (by omega)⟩, fun z => ?_⟩
    rw [e7_wordOf i1 (by omega), tt_some]
    refine (h.is7 hF (by omega)).mono (fun b hb => ⟨fun z2 => And.intro (by omega) (ih (m - 1) (p + 1) (by omega) ⟨by omega, by omega, fun i k1 k2 => ?_⟩), fun z2 => Or.inl ⟨i1, by omega, ?_, i3⟩⟩)
    · rcases hb with y | y
      · omega
      · by_cases u : i = p
        · rw [u]; exact y.2
        · exact i3 i k1 (by omega)
    · rcases hb with y | y
      · exact y.2
      · omega
  obtain ⟨k, c1, c2⟩ := c
  obtain ⟨k', m1, m2⟩ := m
  have e := c2.u m2
  subst e
  refine ⟨k, c1, m1, ?_⟩
  rcases c2 with y | y <;> omega
def lowV (k j f : Int) : Int := if k = 6 then 1 else if k = 3 ∧ j = 1 then f else 0
def highV (k j w0 : Int) : Int := if k = 6 then 32 else if j = 0 then w0 - 1 else if j = 1 then (if k < 2 then 255 else w0 - 1) else 255
theorem e_low {F : Nat} {σ : St} {k j f : Int} : f_X7_lowOf F k j f σ = some (lowV k j f) := by
  apply TT.eq
  unfold f_X7_lowOf lowV
  simp only [tt_gt, tt_sg, tt_ite, tt_ck, tt_lk, tt_ix, tt_bo, tt_by, tt_nz, tt_ob, tt_st, tt_cpk, tt_c1, tt_c2, tt_ca, tt_cb, tt_some, kd_231, kd_0, Nat.reduceAdd, true_and, and_true, true_implies, not_true_eq_false, false_implies, not_false_eq_true, true_or, or_true]
  exact ⟨fun z => ⟨fun z1 => by rw [if_neg z, if_neg (fun y => z1 y.1)], fun z1 => ⟨fun z2 => by rw [if_neg z, if_neg (fun y => z2 y.2)], fun z2 => by rw [if_neg z, if_pos ⟨Classical.byContradiction z1, Classical.byContradiction z2⟩]⟩⟩, fun z => by rw [if_pos (Classical.byContradiction z)]⟩
theorem e_high {F : Nat} {σ : St} {k j w0 : Int} (h : 0 ≤ w0 ∧ w0 ≤ 32) : f_X7_highOf F k j w0 σ = some (highV k j w0) := by
  apply TT.eq
  unfold f_X7_highOf highV
  simp only [tt_gt, tt_sg, tt_ite, tt_ck, tt_lk, tt_ix, tt_bo, tt_by, tt_nz, tt_ob, tt_st, tt_cpk, tt_c1, tt_c2, tt_ca, tt_cb, tt_some, kd_231, kd_0, Nat.reduceAdd, true_and, and_true, true_implies, not_true_eq_false, false_implies, not_false_eq_true, true_or, or_true]
  exact ⟨fun z => ⟨fun z1 => And.intro (by omega) (by rw [if_neg z, if_pos z1]), fun z1 => ⟨fun z2 => by rw [if_neg z, if_neg z1, if_neg z2], fun z2 => ⟨fun z3 => by rw [if_neg z, if_neg z1, if_pos (Classical.byContradiction z2), if_pos z3], fun z3 => And.intro (by omega) (by rw [if_neg z, if_neg z1, if_pos (Classical.byContradiction z2), if_neg z3])⟩⟩⟩, fun z => by rw [if_pos (Classical.byContradiction z)]⟩
theorem ft_iff {w0 k j v f : Int} (hw : w0 ≤ 32) (k1 : 0 ≤ k) (k2 : k ≤ 8) (j1 : 0 ≤ j) (j2 : j < z_nk k) : (ftP w0 k j v f ↔ (lowV k j f ≤ v ∧ v ≤ highV k j w0) ∧ ¬ (k = 2 ∧ j = 1 ∧ v = f)) ∧ highV k j w0 ≤ 255 := by
  rw [nk_v k1 k2] at j2
  have hj : j = 0 ∨ j = 1 ∨ j = 2 := by
    split at j2
    · omega
    · split at j2
      · omega
      · split at j2 <;> omega
  unfold ftP lowV highV
  have : k = 0 ∨ k = 1 ∨ k = 2 ∨ k = 3 ∨ k = 4 ∨ k = 5 ∨ k = 6 ∨ k = 7 ∨ k = 8 := by omega
  rcases this with y | y | y | y | y | y | y | y | y <;> subst y <;> rcases hj with u | u | u <;> subst u <;> simp only [Int.reduceLT, Int.reduceEq, Int.reduceLE, reduceIte, if_true, if_false, true_and, and_true, true_implies, false_implies, implies_true, not_true_eq_false, not_false_eq_true, false_and, and_false, or_false, false_or, or_true, true_or, Int.reduceNeg, Int.reduceSub, ne_eq] at j2 ⊢ <;> omega
theorem dn_20 {F : Nat} {κ : St} {lo hi : Int} (hk : ¬ κ 231 12 = 0) : f_X7_number_J20 F 231 lo hi κ = some (0, κ) ∧ f_X7_number_J47 F 231 lo hi κ = some (0, κ) := by
  have j47 : f_X7_number_J47 F 231 lo hi κ = some (0, κ) := by
    apply TT.eq
    unfold f_X7_number_J47
    simp only [tt_gt, tt_sg, tt_ite, tt_ck, tt_lk, tt_ix, tt_bo, tt_by, tt_nz, tt_ob, tt_st, tt_cpk, tt_c1, tt_c2, tt_ca, tt_cb, tt_some, kd_231, kd_0, Nat.reduceAdd, true_and, and_true, true_implies, not_true_eq_false, false_implies, not_false_eq_true, true_or, or_true, e_good7, if_neg hk]
  refine ⟨?_, j47⟩
  apply TT.eq
  unfold f_X7_number_J20
  simp only [tt_gt, tt_sg, tt_ite, tt_ck, tt_lk, tt_ix, tt_bo, tt_by, tt_nz, tt_ob, tt_st, tt_cpk, tt_c1, tt_c2, tt_ca, tt_cb, tt_some, kd_231, kd_0, Nat.reduceAdd, true_and, and_true, true_implies, not_true_eq_false, false_implies, not_false_eq_true, true_or, or_true, e_good7, if_neg hk, j47]
theorem JT.m_num {F : Nat} {T : Int → Int} {L lo hi : Int} {τ κ : St} (h : JT T L τ κ) (hh : hi ≤ 255) : (¬ κ 231 10 = 2 → f_X7_number F 231 lo hi κ = some (0, erS 1 κ)) ∧ (κ 231 10 = 2 → ¬ (lo ≤ τ 1 8 ∧ τ 1 8 ≤ hi) → f_X7_number F 231 lo hi κ = some (0, erS 2 κ)) ∧ (κ 231 10 = 2 → (lo ≤ τ 1 8 ∧ τ 1 8 ≤ hi) → ∀ P : Int × St → Prop, TT (f_X7_advance F 231 κ) (fun κ' => P (τ 1 8, κ')) → TT (f_X7_number F 231 lo hi κ) P) := by
  have g1 := h.jp.g1
  have e1 : ∀ a : Int, a ≠ 0 → ¬ erS a κ 231 12 = 0 := fun a ha => by rw [erS_12]; exact ha
  refine ⟨fun z => ?_, fun y1 y2 => ?_, fun y1 y2 P hP => ?_⟩
  · apply TT.eq
    unfold f_X7_number
    simp only [tt_gt, tt_sg, tt_ite, tt_ck, tt_lk, tt_ix, tt_bo, tt_by, tt_nz, tt_ob, tt_st, tt_cpk, tt_c1, tt_c2, tt_ca, tt_cb, tt_some, kd_231, kd_0, Nat.reduceAdd, true_and, and_true, true_implies, not_true_eq_false, false_implies, not_false_eq_true, true_or, or_true, e_good7, if_pos g1, live_errs g1, (dn_20 (e1 1 (by decide))).1]
    exact ⟨fun y => absurd y (by decide), fun _ => ⟨fun y => absurd y z, fun _ => trivial⟩⟩
  · have nu := h.nu y1
    apply TT.eq
    unfold f_X7_number
    unfold f_X7_number_J20
    simp only [tt_gt, tt_sg, tt_ite, tt_ck, tt_lk, tt_ix, tt_bo, tt_by, tt_nz, tt_ob, tt_st, tt_cpk, tt_c1, tt_c2, tt_ca, tt_cb, tt_some, kd_231, kd_0, Nat.reduceAdd, true_and, and_true, true_implies, not_true_eq_false, false_implies, not_false_eq_true, true_or, or_true, e_good7, if_pos g1, e_in, live_errs g1, (dn_20 (e1 2 (by decide))).2]
    rw [if_neg (show ¬ (lo ≤ κ 231 11 ∧ κ 231 11 ≤ hi) by omega)]
    exact ⟨fun y => absurd y (by decide), fun _ => ⟨fun _ => ⟨fun y => absurd y (by decide), fun _ => ⟨fun y => absurd rfl y, fun _ => trivial⟩⟩, fun y => absurd y1 y⟩⟩
  · have nu := h.nu y1
    unfold f_X7_number
    unfold f_X7_number_J20 f_X7_number_J47
    simp only [tt_gt, tt_sg, tt_ite, tt_ck, tt_lk, tt_ix, tt_bo, tt_by, tt_nz, tt_ob, tt_st, tt_cpk, tt_c1, tt_c2, tt_ca, tt_cb, tt_some, kd_231, kd_0, Nat.reduceAdd, true_and, and_true, true_implies, not_true_eq_false, false_implies, not_false_eq_true, true_or, or_true, e_good7, if_pos g1, e_in]
    rw [if_pos (show lo ≤ κ 231 11 ∧ κ 231 11 ≤ hi by omega), show κ 231 11 = τ 1 8 by omega]
    exact ⟨fun y => absurd y (by decide), fun _ => ⟨fun _ => ⟨fun y => absurd y (by decide), fun _ => ⟨fun _ => ⟨fun _ => hP, fun y => absurd (by decide) y⟩, fun y => absurd (by decide) y⟩⟩, fun y => absurd y1 y⟩⟩
