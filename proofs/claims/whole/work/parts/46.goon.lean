def clS (e st : Int) (σ : St) : St := z_up (z_up (z_up σ 243 (σ 231 29) st) 244 (σ 231 29) (e + 1)) 231 29 (-1)
theorem e_close {F : Nat} {σ : St} {e st : Int} (hk : 0 ≤ σ 231 29 ∧ σ 231 29 < 60) (he : 0 ≤ e ∧ e < 60) : f_X7_close F 231 e st σ = some (clS e st σ) := by
  apply TT.eq
  unfold f_X7_close
  have u1 : ∀ (τ : St) (k : Nat) (j v : Int), k ≠ 231 → z_up τ k j v 231 = τ 231 := fun τ k j v h => up_ne (Ne.symm h)
  simp only [tt_gt, tt_sg, tt_ite, tt_ck, tt_lk, tt_ix, tt_bo, tt_by, tt_nz, tt_ob, tt_st, tt_cpk, tt_c1, tt_c2, tt_ca, tt_cb, tt_some, kd_231, kd_0, Nat.reduceAdd, true_and, and_true, true_implies, not_true_eq_false, false_implies, not_false_eq_true, ne_eq, true_or, or_true, u1 _ 243 _ _ (by decide), u1 _ 244 _ _ (by decide)]
  repeat refine And.intro (by omega) ?_
  rfl
def hwR (σ : St) : Nat → Prop
  | 0 => False
  | m + 1 => hwR σ m ∨ σ 243 m = 1
theorem e_hasWhole {F : Nat} {σ : St} (hF : 100 ≤ F) (h : 0 ≤ σ 231 28 ∧ σ 231 28 ≤ 60) : TT (f_X7_hasWhole F 231 σ) (fun r => (r = 1 ∧ hwR σ (σ 231 28).toNat) ∨ (r = 0 ∧ ¬ hwR σ (σ 231 28).toNat)) := by
  have loop : ∀ (n m j : Nat) (x : Int), (j : Int) + m = σ 231 28 → m < n → ((x = 1 ∧ hwR σ j) ∨ (x = 0 ∧ ¬ hwR σ j)) → TT (f_X7_hasWhole_L4 F 231 σ n x j) (fun r => (r = 1 ∧ hwR σ (σ 231 28).toNat) ∨ (r = 0 ∧ ¬ hwR σ (σ 231 28).toNat)) := by
    intro n
    induction n with
    | zero => intro m j x _ h; exact absurd h (Nat.not_lt_zero m)
    | succ n ih =>
      intro m j x hm hn hx
      rw [f_X7_hasWhole_L4]
      by_cases q : σ 231 28 ≤ (j : Int)
      · have hj : (σ 231 28).toNat = j := by omega
        simp only [tt_gt, tt_sg, tt_ite, tt_ck, tt_lk, tt_ix, tt_bo, tt_by, tt_nz, tt_ob, tt_st, tt_cpk, tt_c1, tt_c2, tt_ca, tt_cb, tt_some, kd_231, kd_0, Nat.reduceAdd, true_and, and_true, true_implies, not_true_eq_false, false_implies, not_false_eq_true, ne_eq, true_or, or_true, q, hj]
        exact ⟨by rcases hx with h | h <;> omega, hx⟩
      · simp only [tt_gt, tt_sg, tt_ite, tt_ck, tt_lk, tt_ix, tt_bo, tt_by, tt_nz, tt_ob, tt_st, tt_cpk, tt_c1, tt_c2, tt_ca, tt_cb, tt_some, kd_231, kd_0, Nat.reduceAdd, true_and, and_true, true_implies, not_true_eq_false, false_implies, not_false_eq_true, ne_eq, true_or, or_true, q]
        have go : ∀ y : Int, ((y = 1 ∧ hwR σ (j + 1)) ∨ (y = 0 ∧ ¬ hwR σ (j + 1))) → TT (f_X7_hasWhole_L4 F 231 σ n y ((j : Int) + 1)) (fun r => (r = 1 ∧ hwR σ (σ 231 28).toNat) ∨ (r = 0 ∧ ¬ hwR σ (σ 231 28).toNat)) := by
          intro y hy
          rw [show (j : Int) + 1 = ((j + 1 : Nat) : Int) by omega]
          exact ih (m - 1) (j + 1) y (by omega) (by omega) hy
        rcases hx with ⟨rfl, hx⟩ | ⟨rfl, hx⟩
        · exact ⟨fun _ => And.intro (by omega) (go 1 (Or.inl ⟨rfl, Or.inl hx⟩)), fun z => absurd (by decide) z⟩
        · refine ⟨fun z => absurd rfl z, fun _ => And.intro (by omega) ⟨fun q2 => And.intro (by omega) (go 0 (Or.inr ⟨rfl, fun z => z.elim hx q2⟩)), fun q2 => And.intro (by omega) (go 1 (Or.inl ⟨rfl, Or.inr (by omega)⟩))⟩⟩
  unfold f_X7_hasWhole
  simp only [tt_gt, tt_sg, tt_ite, tt_ck, tt_lk, tt_ix, tt_bo, tt_by, tt_nz, tt_ob, tt_st, tt_cpk, tt_c1, tt_c2, tt_ca, tt_cb, tt_some, kd_231, kd_0, Nat.reduceAdd, true_and, and_true, true_implies, not_true_eq_false, false_implies, not_false_eq_true, ne_eq, true_or, or_true]
  exact loop F (σ 231 28).toNat 0 0 (by omega) (by omega) (Or.inr ⟨rfl, fun z => z⟩)
def whyP (σ : St) (kd r : Int) : Prop :=
  (kd < 4 ∧ r = 0) ∨ (5 < kd ∧ σ 231 29 = -1 ∧ r = 2) ∨ (5 < kd ∧ σ 231 29 ≠ -1 ∧ r = 0) ∨ ((kd = 4 ∨ kd = 5) ∧ σ 231 29 ≠ -1 ∧ r = 1) ∨ (kd = 4 ∧ σ 231 29 = -1 ∧ r = 0) ∨ (kd = 5 ∧ σ 231 29 = -1 ∧ hwR σ (σ 231 28).toNat ∧ r = 0) ∨ (kd = 5 ∧ σ 231 29 = -1 ∧ ¬ hwR σ (σ 231 28).toNat ∧ r = 3)
theorem e_whyNot {F : Nat} {σ : St} {kd : Int} (hF : 100 ≤ F) (h : 0 ≤ σ 231 28 ∧ σ 231 28 ≤ 60) : TT (f_X7_whyNot F 231 kd σ) (fun r => whyP σ kd r) := by
  unfold f_X7_whyNot whyP
  simp only [tt_gt, tt_sg, tt_ite, tt_ck, tt_lk, tt_ix, tt_bo, tt_by, tt_nz, tt_ob, tt_st, tt_cpk, tt_c1, tt_c2, tt_ca, tt_cb, tt_some, kd_231, kd_0, Nat.reduceAdd, true_and, and_true, true_implies, not_true_eq_false, false_implies, not_false_eq_true, ne_eq, true_or, or_true]
  refine ⟨fun q1 => ⟨fun q2 => ⟨fun q3 => ⟨fun q4 => ?_, fun q4 => ?_⟩, fun q3 => ?_⟩, fun q2 => ⟨fun q3 => ?_, fun q3 => ?_⟩⟩, fun q1 => ?_⟩
  · exact Or.inr (Or.inr (Or.inr (Or.inr (Or.inl ⟨by omega, q3⟩))))
  · refine (e_hasWhole hF h).mono (fun r hr => ?_)
    rcases hr with ⟨rfl, hr⟩ | ⟨rfl, hr⟩
    · exact ⟨fun _ => Or.inr (Or.inr (Or.inr (Or.inr (Or.inr (Or.inl ⟨by omega, q3, hr⟩))))), fun z => absurd (by decide) z⟩
    · exact ⟨fun z => absurd rfl z, fun _ => Or.inr (Or.inr (Or.inr (Or.inr (Or.inr (Or.inr ⟨by omega, q3, hr⟩)))))⟩
  · exact Or.inr (Or.inr (Or.inr (Or.inl ⟨by omega, q3⟩)))
  · exact Or.inr (Or.inr (Or.inl ⟨by omega, q3⟩))
  · exact Or.inr (Or.inl ⟨by omega, by omega⟩)
  · exact Or.inl (by omega)
