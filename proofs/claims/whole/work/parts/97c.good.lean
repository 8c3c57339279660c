def gP (w0 a1 a2 a3 a4 : Int) : Prop := (a1 < 4 → 0 ≤ a2 ∧ a2 < w0) ∧ (a1 < 2 → 0 ≤ a3 ∧ a3 ≤ 255) ∧ (a1 = 2 → 0 ≤ a3 ∧ a3 < w0 ∧ a2 ≠ a3) ∧ (a1 = 3 → a2 ≤ a3 ∧ a3 < w0 ∧ 0 ≤ a4 ∧ a4 ≤ 255) ∧ (a1 = 6 → 1 ≤ a2 ∧ a2 ≤ 32) ∧ (a1 = 4 ∨ a1 = 5 ∨ 7 ≤ a1 → a2 = 0) ∧ (4 ≤ a1 → a3 = 0) ∧ (a1 ≠ 3 → a4 = 0)
theorem e_nk7 {F : Nat} {σ : St} {k : Int} (h : 0 ≤ k) (h2 : k ≤ 8) : f_X7_numbersOf F k σ = some (z_nk k) := by
  rw [nk_v h h2]
  apply TT.eq
  unfold f_X7_numbersOf
  simp only [tt_gt, tt_sg, tt_ite, tt_ck, tt_lk, tt_ix, tt_bo, tt_by, tt_nz, tt_ob, tt_st, tt_cpk, tt_c1, tt_c2, tt_ca, tt_cb, tt_some, kd_231, kd_0, Nat.reduceAdd, true_and, and_true, true_implies, not_true_eq_false, false_implies, not_false_eq_true, true_or, or_true]
  exact ⟨fun z => ⟨fun z2 => ⟨fun z3 => by rw [if_neg (by omega), if_neg (by omega), if_neg (by omega)], fun z3 => by rw [if_neg (by omega), if_neg (by omega), if_pos (by omega)]⟩, fun z2 => by rw [if_neg (by omega), if_pos (by omega)]⟩, fun z => by rw [if_pos (by omega)]⟩
def ftP (w0 k j v f : Int) : Prop := if j = 0 then (if k = 6 then 1 ≤ v ∧ v ≤ 32 else 0 ≤ v ∧ v < w0) else if j = 1 then (if k = 2 then 0 ≤ v ∧ v < w0 ∧ v ≠ f else if k = 3 then f ≤ v ∧ v < w0 else 0 ≤ v ∧ v ≤ 255) else 0 ≤ v ∧ v ≤ 255
theorem e_fits {F : Nat} {σ : St} {w0 k j v f : Int} : TT (f_X6_fits F w0 k j v f σ) (fun r => (r = 1 ∧ ftP w0 k j v f) ∨ (r = 0 ∧ ¬ ftP w0 k j v f)) := by
  unfold f_X6_fits f_X6_fits_J75 ftP
  simp only [tt_gt, tt_sg, tt_ite, tt_ck, tt_lk, tt_ix, tt_bo, tt_by, tt_nz, tt_ob, tt_st, tt_cpk, tt_c1, tt_c2, tt_ca, tt_cb, tt_some, kd_231, kd_0, Nat.reduceAdd, true_and, and_true, true_implies, not_true_eq_false, false_implies, not_false_eq_true, true_or, or_true]
  by_cases z0 : j = 0
  · rw [if_pos z0]
    refine ⟨fun y => absurd z0 y, fun _ => ?_⟩
    by_cases z1 : k = 6
    · rw [if_pos z1]; omega
    · rw [if_neg z1]; omega
  · rw [if_neg z0]
    refine ⟨fun _ => ?_, fun y => absurd z0 y⟩
    by_cases z1 : j = 1
    · rw [if_pos z1]
      by_cases z2 : k = 2
      · rw [if_pos z2]; omega
      · rw [if_neg z2]
        by_cases z3 : k = 3
        · rw [if_pos z3]; omega
        · rw [if_neg z3]; omega
    · rw [if_neg z1]; omega
theorem e_nums {F : Nat} {σ : St} {a1 a2 a3 a4 : Int} (h1 : 0 ≤ a1) (h2 : a1 ≤ 8) : TT (f_X6_areNumbersOf F 0 a1 a2 a3 a4 σ) (fun r => (r = 1 ∧ gP (σ 4 0) a1 a2 a3 a4) ∨ (r = 0 ∧ ¬ gP (σ 4 0) a1 a2 a3 a4)) := by
  have nk := nk_v h1 h2
  have j8 : ∀ x y z : Int, (x = 0 ∨ x = 1) → (y = 0 ∨ y = 1) → (z = 0 ∨ z = 1) → ((x = 1 ∧ y = 1 ∧ z = 1) ↔ gP (σ 4 0) a1 a2 a3 a4) → TT (f_X6_areNumbersOf_J108 F 0 a1 a2 a3 a4 σ x y z) (fun r => (r = 1 ∧ gP (σ 4 0) a1 a2 a3 a4) ∨ (r = 0 ∧ ¬ gP (σ 4 0) a1 a2 a3 a4)) := fun x y z hx hy hz hi => by
    unfold f_X6_areNumbersOf_J108
    simp only [tt_gt, tt_sg, tt_ite, tt_ck, tt_lk, tt_ix, tt_bo, tt_by, tt_nz, tt_ob, tt_st, tt_cpk, tt_c1, tt_c2, tt_ca, tt_cb, tt_some, kd_231, kd_0, Nat.reduceAdd, true_and, and_true, true_implies, not_true_eq_false, false_implies, not_false_eq_true, true_or, or_true]
    by_cases g : gP (σ 4 0) a1 a2 a3 a4
    · have := hi.2 g
      simp only [g, not_true_eq_false, and_false, or_false, and_true]
      clear hi
      exact ⟨fun z => absurd z (by omega), fun _ => ⟨fun z => absurd z (by omega), fun _ => ⟨fun z => absurd z (by omega), fun _ => trivial⟩⟩⟩
    · have n : ¬ (x = 1 ∧ y = 1 ∧ z = 1) := fun y => g (hi.1 y)
      simp only [g, not_false_eq_true, and_false, false_or, and_true]
      clear hi
      exact ⟨fun _ => trivial, fun z1 => ⟨fun _ => trivial, fun z2 => ⟨fun _ => trivial, fun z3 => absurd (show x = 1 ∧ y = 1 ∧ z = 1 by omega) n⟩⟩⟩
  have fit : ∀ (j v : Int), TT (f_X6_fits F (σ 4 0) a1 j v a2 σ) (fun r => (r = 1 ∧ ftP (σ 4 0) a1 j v a2) ∨ (r = 0 ∧ ¬ ftP (σ 4 0) a1 j v a2)) := fun j v => e_fits
  have alt : ∀ {p : Prop} {r : Int}, (r = 1 ∧ p) ∨ (r = 0 ∧ ¬ p) → (r = 0 ∨ r = 1) ∧ (r = 1 ↔ p) := fun {p r} z => by
    rcases z with z | z
    · exact ⟨Or.inr z.1, fun _ => z.2, fun _ => z.1⟩
    · exact ⟨Or.inl z.1, fun y => absurd (z.1.symm.trans y) (by decide), fun y => absurd y z.2⟩
  have f2 : ∀ x y : Int, (x = 0 ∨ x = 1) → (y = 0 ∨ y = 1) → ((x = 1 ∧ y = 1 ∧ (if z_nk a1 ≤ 2 then a4 = 0 else ftP (σ 4 0) a1 2 a4 a2)) ↔ gP (σ 4 0) a1 a2 a3 a4) → TT (f_X6_areNumbersOf_J72 F 0 a1 a2 a3 a4 σ (z_nk a1) x y) (fun r => (r = 1 ∧ gP (σ 4 0) a1 a2 a3 a4) ∨ (r = 0 ∧ ¬ gP (σ 4 0) a1 a2 a3 a4)) := fun x y hx hy hi => by
    unfold f_X6_areNumbersOf_J72
    simp only [tt_gt, tt_sg, tt_ite, tt_ck, tt_lk, tt_ix, tt_bo, tt_by, tt_nz, tt_ob, tt_st, tt_cpk, tt_c1, tt_c2, tt_ca, tt_cb, tt_some, kd_231, kd_0, Nat.reduceAdd, true_and, and_true, true_implies, not_true_eq_false, false_implies, not_false_eq_true, true_or, or_true, Nat.zero_add]
    refine ⟨fun q => ⟨fun z => j8 _ _ _ hx hy (Or.inl rfl) ?_, fun z => j8 _ _ _ hx hy (Or.inr rfl) ?_⟩, fun q => (fit 2 a4).mono (fun r hr => j8 _ _ _ hx hy (alt hr).1 ?_)⟩
    · rw [if_pos q] at hi
      rw [← hi]
      exact ⟨fun y => absurd y.2.2 (by decide), fun y => absurd y.2.2 z⟩
    · rw [if_pos q] at hi
      rw [← hi]
      exact ⟨fun y => ⟨y.1, y.2.1, Classical.byContradiction z⟩, fun y => ⟨y.1, y.2.1, rfl⟩⟩
    · rw [if_neg q] at hi
      rw [← hi, (alt hr).2]
  have f1 : ∀ x : Int, (x = 0 ∨ x = 1) → ((x = 1 ∧ (if z_nk a1 ≤ 1 then a3 = 0 else ftP (σ 4 0) a1 1 a3 a2) ∧ (if z_nk a1 ≤ 2 then a4 = 0 else ftP (σ 4 0) a1 2 a4 a2)) ↔ gP (σ 4 0) a1 a2 a3 a4) → TT (f_X6_areNumbersOf_J38 F 0 a1 a2 a3 a4 σ (z_nk a1) x) (fun r => (r = 1 ∧ gP (σ 4 0) a1 a2 a3 a4) ∨ (r = 0 ∧ ¬ gP (σ 4 0) a1 a2 a3 a4)) := fun x hx hi => by
    unfold f_X6_areNumbersOf_J38
    simp only [tt_gt, tt_sg, tt_ite, tt_ck, tt_lk, tt_ix, tt_bo, tt_by, tt_nz, tt_ob, tt_st, tt_cpk, tt_c1, tt_c2, tt_ca, tt_cb, tt_some, kd_231, kd_0, Nat.reduceAdd, true_and, and_true, true_implies, not_true_eq_false, false_implies, not_false_eq_true, true_or, or_true, Nat.zero_add]
    refine ⟨fun q => ⟨fun z => f2 _ _ hx (Or.inl rfl) ?_, fun z => f2 _ _ hx (Or.inr rfl) ?_⟩, fun q => (fit 1 a3).mono (fun r hr => f2 _ _ hx (alt hr).1 ?_)⟩
    · rw [if_pos q] at hi
      rw [← hi]
      exact ⟨fun y => absurd y.2.1 (by decide), fun y => absurd y.2.1 z⟩
    · rw [if_pos q] at hi
      rw [← hi]
      exact ⟨fun y => ⟨y.1, Classical.byContradiction z, y.2.2⟩, fun y => ⟨y.1, rfl, y.2.2⟩⟩
    · rw [if_neg q] at hi
      rw [← hi, (alt hr).2]
  have f0 : ((if z_nk a1 ≤ 0 then a2 = 0 else ftP (σ 4 0) a1 0 a2 a2) ∧ (if z_nk a1 ≤ 1 then a3 = 0 else ftP (σ 4 0) a1 1 a3 a2) ∧ (if z_nk a1 ≤ 2 then a4 = 0 else ftP (σ 4 0) a1 2 a4 a2)) ↔ gP (σ 4 0) a1 a2 a3 a4 := by
    unfold ftP gP
    rw [nk, if_pos (show (0 : Int) = 0 from rfl), if_neg (show ¬ (1 : Int) = 0 by decide), if_pos (show (1 : Int) = 1 from rfl), if_neg (show ¬ (2 : Int) = 0 by decide), if_neg (show ¬ (2 : Int) = 1 by decide)]
    have : a1 = 0 ∨ a1 = 1 ∨ a1 = 2 ∨ a1 = 3 ∨ a1 = 4 ∨ a1 = 5 ∨ a1 = 6 ∨ a1 = 7 ∨ a1 = 8 := by omega
    clear nk j8 fit alt f2 f1
    rcases this with z | z | z | z | z | z | z | z | z <;> subst z <;> simp only [Int.reduceLT, Int.reduceEq, Int.reduceLE, reduceIte, if_true, if_false, true_and, and_true, true_implies, false_implies, implies_true, not_true_eq_false, not_false_eq_true, false_and, and_false, or_false, false_or, or_true, true_or, Int.reduceNeg, Int.reduceSub, ne_eq] <;> omega
  unfold f_X6_areNumbersOf
  simp only [tt_gt, tt_sg, tt_ite, tt_ck, tt_lk, tt_ix, tt_bo, tt_by, tt_nz, tt_ob, tt_st, tt_cpk, tt_c1, tt_c2, tt_ca, tt_cb, tt_some, kd_231, kd_0, Nat.reduceAdd, true_and, and_true, true_implies, not_true_eq_false, false_implies, not_false_eq_true, true_or, or_true, Nat.zero_add]
  refine And.intro (by omega) ⟨fun q => ⟨fun z => f1 _ (Or.inl rfl) ?_, fun z => f1 _ (Or.inr rfl) ?_⟩, fun q => (fit 0 a2).mono (fun r hr => f1 _ (alt hr).1 ?_)⟩
  · rw [if_pos q] at f0
    rw [← f0]
    exact ⟨fun y => absurd y.1 (by decide), fun y => absurd y.1 z⟩
  · rw [if_pos q] at f0
    rw [← f0]
    exact ⟨fun y => ⟨Classical.byContradiction z, y.2⟩, fun y => ⟨rfl, y.2⟩⟩
  · rw [if_neg q] at f0
    rw [← f0, (alt hr).2]
theorem e_good {F : Nat} {σ : St} {a1 a2 a3 a4 : Int} (hd : Hd (σ 232)) : TT (f_X7_isGood F 231 a1 a2 a3 a4 σ) (fun r => (r = 1 ∧ 0 < σ 232 5 ∧ 0 ≤ a1 ∧ a1 ≤ 8 ∧ gP (σ 232 0) a1 a2 a3 a4) ∨ (r = 0 ∧ ¬ (0 < σ 232 5 ∧ 0 ≤ a1 ∧ a1 ≤ 8 ∧ gP (σ 232 0) a1 a2 a3 a4))) := by
  have h0 : 0 ≤ σ 232 0 ∧ σ 232 0 ≤ 32 := ⟨hd.1, hd.2.1⟩
  generalize hw0 : σ 232 0 = w0 at h0
  have no : ∀ P : Prop, ¬ P → ((0 : Int) = 1 ∧ P) ∨ ¬ P := fun P h => Or.inr h
  unfold f_X7_isGood
  simp only [tt_gt, tt_sg, tt_ite, tt_ck, tt_lk, tt_ix, tt_bo, tt_by, tt_nz, tt_ob, tt_st, tt_cpk, tt_c1, tt_c2, tt_ca, tt_cb, tt_some, kd_231, kd_0, Nat.reduceAdd, true_and, and_true, true_implies, not_true_eq_false, false_implies, not_false_eq_true, true_or, or_true, e_isStore, e_in, e_cells, hw0]
  by_cases q5 : 0 < σ 232 5
  rotate_left
  · rw [if_neg q5]
    exact ⟨fun _ => no _ (fun y => q5 y.1), fun y => absurd rfl y⟩
  rw [if_pos q5]
  refine ⟨fun y => absurd y (by decide), fun _ => ?_⟩
  by_cases q1 : 0 ≤ a1 ∧ a1 ≤ 8
  rotate_left
  · rw [if_neg q1]
    exact ⟨fun y => absurd rfl y, fun _ => no _ (fun y => q1 ⟨y.2.1, y.2.2.1⟩)⟩
  rw [if_pos q1]
  refine ⟨fun _ => ?_, fun y => absurd (by decide) y⟩
  rw [e_nk7 q1.1 q1.2, nk_v q1.1 q1.2]
  unfold f_X7_isGood_J66 f_X7_isGood_J106 f_X7_lowOf f_X7_highOf gP
  simp only [tt_gt, tt_sg, tt_ite, tt_ck, tt_lk, tt_ix, tt_bo, tt_by, tt_nz, tt_ob, tt_st, tt_cpk, tt_c1, tt_c2, tt_ca, tt_cb, tt_some, kd_231, kd_0, Nat.reduceAdd, true_and, and_true, true_implies, not_true_eq_false, false_implies, not_false_eq_true, true_or, or_true, e_in, e_cells, hw0]
  have : a1 = 0 ∨ a1 = 1 ∨ a1 = 2 ∨ a1 = 3 ∨ a1 = 4 ∨ a1 = 5 ∨ a1 = 6 ∨ a1 = 7 ∨ a1 = 8 := by omega
  clear hd
  rcases this with z | z | z | z | z | z | z | z | z <;> subst z <;> simp only [Int.reduceLT, Int.reduceEq, Int.reduceLE, reduceIte, if_true, if_false, true_and, and_true, true_implies, false_implies, implies_true, not_true_eq_false, not_false_eq_true, false_and, and_false, or_false, false_or, or_true, true_or, Int.reduceNeg, Int.reduceSub, ne_eq, q5] <;> omega
