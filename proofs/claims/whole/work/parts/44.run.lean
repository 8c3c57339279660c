def dirR (σ : St) : Nat → Int → Int
  | 0, _ => 0
  | m + 1, t => if σ 243 m = 1 ∧ σ 244 m ≤ t then σ 242 m else dirR σ m t
def baseR (σ : St) (t : Int) : Int := dirR σ (σ 231 28).toNat t
abbrev drt (σ : St) (c : Int) (t : Nat) : Prop := baseR σ t ≤ latR (σ 240) c t
abbrev lft (σ : St) (c : Int) : Prop := σ 246 (32 * σ 231 29 + c) ≠ 0 ∧ σ 248 (32 * σ 231 29 + c) = -1
def kpS (c e s : Int) (σ : St) : St := z_up (z_up (z_up (z_up σ 248 (32 * σ 231 29 + c) e) 247 (32 * σ 231 29 + c) s) 249 (32 * σ 231 29 + σ 245 (σ 231 29)) c) 245 (σ 231 29) (σ 245 (σ 231 29) + 1)
def rkR (l : Int) (e : Nat) (σ : St) (c : Int) : Int := if l = 0 then c else if l = 1 then -c else if l = 2 then c - 100 * latR (σ 240) c e else c + 100 * c.tmod 2
def Rok (σ : St) : Prop := 0 ≤ σ 231 28 ∧ σ 231 28 ≤ 60 ∧ -1 ≤ σ 231 29 ∧ σ 231 29 < σ 231 28 ∧ ∀ k, 0 ≤ k → k < σ 231 28 → 0 ≤ σ 245 k ∧ σ 245 k ≤ 32
theorem e_isWholeBy {F : Nat} {σ : St} {k t : Int} (h : 0 ≤ k ∧ k < 60) : f_X7_isWholeBy F 231 k t σ = some (if σ 243 k = 1 ∧ σ 244 k ≤ t then 1 else 0) := by
  apply TT.eq
  unfold f_X7_isWholeBy
  simp only [tt_gt, tt_sg, tt_ite, tt_ck, tt_lk, tt_ix, tt_bo, tt_by, tt_nz, tt_ob, tt_st, tt_cpk, tt_c1, tt_c2, tt_ca, tt_cb, tt_some, kd_231, kd_0, Nat.reduceAdd, true_and, and_true, true_implies, not_true_eq_false, false_implies, not_false_eq_true, ne_eq, true_or, or_true]
  refine ⟨by omega, fun q => ?_, fun q => ⟨by omega, fun q2 => ?_, fun q2 => ?_⟩⟩
  · rw [if_neg (fun z => q z.1)]
  · rw [if_neg (by omega)]
  · rw [if_pos (by omega)]
theorem e_baseAt {F : Nat} {σ : St} {t : Int} (hF : 100 ≤ F) (h : 0 ≤ σ 231 28 ∧ σ 231 28 ≤ 60) : f_X7_baseAt F 231 t σ = some (baseR σ t) := by
  have loop : ∀ (n m j : Nat), (j : Int) + m = σ 231 28 → m < n → f_X7_baseAt_L4 F 231 t σ n (dirR σ j t) j = some (dirR σ (j + m) t) := by
    intro n
    induction n with
    | zero => intro m j _ h; exact absurd h (Nat.not_lt_zero m)
    | succ n ih =>
      intro m j hm hn
      apply TT.eq
      have ew := e_isWholeBy (F := F) (σ := σ) (k := (j : Int)) (t := t)
      rw [f_X7_baseAt_L4]
      by_cases q : σ 231 28 ≤ (j : Int)
      · simp only [tt_gt, tt_sg, tt_ite, tt_ck, tt_lk, tt_ix, tt_bo, tt_by, tt_nz, tt_ob, tt_st, tt_cpk, tt_c1, tt_c2, tt_ca, tt_cb, tt_some, kd_231, kd_0, Nat.reduceAdd, true_and, and_true, true_implies, not_true_eq_false, false_implies, not_false_eq_true, ne_eq, true_or, or_true, q]
        rw [show m = 0 by omega, Nat.add_zero]
      · have e1 := ew ⟨by omega, by omega⟩
        simp only [tt_gt, tt_sg, tt_ite, tt_ck, tt_lk, tt_ix, tt_bo, tt_by, tt_nz, tt_ob, tt_st, tt_cpk, tt_c1, tt_c2, tt_ca, tt_cb, tt_some, kd_231, kd_0, Nat.reduceAdd, true_and, and_true, true_implies, not_true_eq_false, false_implies, not_false_eq_true, ne_eq, true_or, or_true, q, e1]
        have hi := ih (m - 1) (j + 1) (by omega) (by omega)
        rw [show j + 1 + (m - 1) = j + m by omega] at hi
        refine ⟨fun q2 => ?_, fun q2 => ?_⟩
        · repeat refine And.intro (by omega) ?_
          have h3 : ¬ (σ 243 j = 1 ∧ σ 244 j ≤ t) := fun z => by rw [if_pos z] at q2; exact absurd q2 (by decide)
          rw [dirR, if_neg h3] at hi
          rw [show (j : Int) + 1 = ((j + 1 : Nat) : Int) by omega, hi, tt_some]
        · repeat refine And.intro (by omega) ?_
          have h3 : σ 243 j = 1 ∧ σ 244 j ≤ t := Classical.byContradiction fun z => q2 (if_neg z)
          rw [dirR, if_pos h3] at hi
          rw [show (j : Int) + 1 = ((j + 1 : Nat) : Int) by omega, hi, tt_some]
  apply TT.eq
  unfold f_X7_baseAt
  simp only [tt_gt, tt_sg, tt_ite, tt_ck, tt_lk, tt_ix, tt_bo, tt_by, tt_nz, tt_ob, tt_st, tt_cpk, tt_c1, tt_c2, tt_ca, tt_cb, tt_some, kd_231, kd_0, Nat.reduceAdd, true_and, and_true, true_implies, not_true_eq_false, false_implies, not_false_eq_true, ne_eq, true_or, or_true]
  have h1 := loop F (σ 231 28).toNat 0 (by omega) (by omega)
  rw [Nat.zero_add] at h1
  exact ⟨_, h1, rfl⟩
theorem e_isDirtyAt {F : Nat} {σ : St} {c : Int} (hF : 100 ≤ F) (hc : 0 ≤ c ∧ c < 32) (t : Nat) (ht : t ≤ 60) (h : 0 ≤ σ 231 28 ∧ σ 231 28 ≤ 60) : TT (f_X7_isDirtyAt F 231 c t σ) (fun r => (r = 1 ∧ drt σ c t) ∨ (r = 0 ∧ ¬ drt σ c t)) := by
  unfold f_X7_isDirtyAt
  simp only [tt_gt, tt_sg, tt_ite, tt_ck, tt_lk, tt_ix, tt_bo, tt_by, tt_nz, tt_ob, tt_st, tt_cpk, tt_c1, tt_c2, tt_ca, tt_cb, tt_some, kd_231, kd_0, Nat.reduceAdd, true_and, and_true, true_implies, not_true_eq_false, false_implies, not_false_eq_true, ne_eq, true_or, or_true, e_latestAt hc t ht hF, e_baseAt hF h]
  refine ⟨fun q => ?_, fun q => ?_⟩
  · exact Or.inr (fun z => by unfold drt at z; omega)
  · exact Or.inl (by unfold drt; omega)
theorem e_isLeft {F : Nat} {σ : St} {c : Int} (hc : 0 ≤ c ∧ c < 32) (hk : 0 ≤ σ 231 29 ∧ σ 231 29 < 60) : TT (f_X7_isLeft F 231 (σ 231 29) c σ) (fun r => (r = 1 ∧ lft σ c) ∨ (r = 0 ∧ ¬ lft σ c)) := by
  unfold f_X7_isLeft
  simp only [tt_gt, tt_sg, tt_ite, tt_ck, tt_lk, tt_ix, tt_bo, tt_by, tt_nz, tt_ob, tt_st, tt_cpk, tt_c1, tt_c2, tt_ca, tt_cb, tt_some, kd_231, kd_0, Nat.reduceAdd, true_and, and_true, true_implies, not_true_eq_false, false_implies, not_false_eq_true, ne_eq, true_or, or_true]
  refine ⟨by omega, by omega, by omega, fun q => ?_, fun q => ⟨by omega, by omega, by omega, fun q2 => ?_, fun q2 => ?_⟩⟩
  · exact Or.inr (fun z => z.1 q)
  · exact Or.inr (fun z => q2 z.2)
  · exact Or.inl ⟨q, by omega⟩
theorem e_keep {F : Nat} {σ : St} {c e s : Int} (hc : 0 ≤ c ∧ c < 32) (hk : 0 ≤ σ 231 29 ∧ σ 231 29 < 60) (hs : s = 0 ∨ s = 1) (hz : 0 ≤ σ 245 (σ 231 29) ∧ σ 245 (σ 231 29) < 32) : f_X7_keep F 231 c e s σ = some (kpS c e s σ) := by
  apply TT.eq
  unfold f_X7_keep
  have u1 : ∀ (τ : St) (k : Nat) (j v : Int), k ≠ 231 → z_up τ k j v 231 = τ 231 := fun τ k j v h => up_ne (Ne.symm h)
  have u2 : ∀ (τ : St) (k : Nat) (j v : Int), k ≠ 245 → z_up τ k j v 245 = τ 245 := fun τ k j v h => up_ne (Ne.symm h)
  simp only [tt_gt, tt_sg, tt_ite, tt_ck, tt_lk, tt_ix, tt_bo, tt_by, tt_nz, tt_ob, tt_st, tt_cpk, tt_c1, tt_c2, tt_ca, tt_cb, tt_some, kd_231, kd_0, Nat.reduceAdd, true_and, and_true, true_implies, not_true_eq_false, false_implies, not_false_eq_true, ne_eq, true_or, or_true, u1 _ 248 _ _ (by decide), u1 _ 247 _ _ (by decide), u1 _ 249 _ _ (by decide), u2 _ 248 _ _ (by decide), u2 _ 247 _ _ (by decide), u2 _ 249 _ _ (by decide)]
  repeat refine And.intro (by omega) ?_
  rfl
theorem e_rankBy {F : Nat} {σ : St} {l c : Int} (hF : 100 ≤ F) (hc : 0 ≤ c ∧ c < 32) (e : Nat) (he : e ≤ 60) : f_X7_rankBy F 231 l c e σ = some (rkR l e σ c) := by
  have hl := latR_rng (σ 240) c e
  have ht : 0 ≤ c.tmod 2 ∧ c.tmod 2 ≤ 1 := by rw [Int.tmod_eq_emod_of_nonneg hc.1]; omega
  apply TT.eq
  unfold f_X7_rankBy
  simp only [tt_gt, tt_sg, tt_ite, tt_ck, tt_lk, tt_ix, tt_bo, tt_by, tt_nz, tt_ob, tt_st, tt_cpk, tt_c1, tt_c2, tt_ca, tt_cb, tt_some, kd_231, kd_0, Nat.reduceAdd, true_and, and_true, true_implies, not_true_eq_false, false_implies, not_false_eq_true, ne_eq, true_or, or_true, e_latestAt hc e he hF]
  unfold rkR
  refine ⟨fun q => ?_, fun q => ⟨fun q2 => ?_, fun q2 => ⟨fun q3 => ?_, fun q3 => ?_⟩⟩⟩
  · rw [if_pos q]
  · repeat refine And.intro (by omega) ?_
    rw [if_neg q, if_pos q2]
  · repeat refine And.intro (by omega) ?_
    rw [if_neg q, if_neg q2, if_pos q3]
  · rw [if_neg q, if_neg q2, if_neg q3]
    simp
    omega
