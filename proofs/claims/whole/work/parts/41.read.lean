def evN (w : Int → Int) : Int := w 3 + w 4
theorem e_bit {F : Nat} {a b : Int} {σ : St} : f_X7_bit F a b σ = some (z_and (z_shr a b) 1) := rfl
def Hd (w : Int → Int) : Prop := 0 ≤ w 0 ∧ w 0 ≤ 32 ∧ 0 ≤ w 1 ∧ w 1 ≤ 3 ∧ 0 ≤ w 2 ∧ w 2 ≤ 10 ∧ 0 ≤ w 3 ∧ w 3 ≤ 40 ∧ 0 ≤ w 4 ∧ w 4 ≤ 20 ∧ 0 ≤ w 5 ∧ w 5 ≤ 41
theorem e_events {F : Nat} {σ : St} (h : Hd (σ 232)) : f_X7_events F 231 σ = some (evN (σ 232)) := by
  obtain ⟨h1, h2, h3, h4, h5, h6, h7, h8, h9, h10, h11, h12⟩ := h
  apply TT.eq
  unfold f_X7_events
  simp only [tt_gt, tt_sg, tt_ite, tt_ck, tt_lk, tt_ix, tt_bo, tt_by, tt_nz, tt_ob, tt_st, tt_cpk, tt_c1, tt_c2, tt_ca, tt_cb, tt_some, kd_231, kd_0, Nat.reduceAdd, true_and, and_true, true_implies, not_true_eq_false, false_implies, not_false_eq_true, ne_eq, true_or, or_true]
  refine ⟨by decide, by decide, by omega, rfl⟩
theorem e_isStore {F : Nat} {σ : St} : f_X7_isStore F 231 σ = some (if 0 < σ 232 5 then 1 else 0) := by
  apply TT.eq
  unfold f_X7_isStore
  simp only [tt_gt, tt_sg, tt_ite, tt_ck, tt_lk, tt_ix, tt_bo, tt_by, tt_nz, tt_ob, tt_st, tt_cpk, tt_c1, tt_c2, tt_ca, tt_cb, tt_some, kd_231, kd_0, Nat.reduceAdd, true_and, and_true, true_implies, not_true_eq_false, false_implies, not_false_eq_true, ne_eq, true_or, or_true]
  refine ⟨by decide, fun h => ?_, fun h => ?_⟩
  · rw [if_neg (by omega)]
  · rw [if_pos (by omega)]
theorem e_isCell {F : Nat} {σ : St} (h : Hd (σ 232)) (c : Int) : f_X7_isCell F 231 c σ = some (if 0 ≤ c ∧ c < σ 232 0 then 1 else 0) := by
  obtain ⟨h1, h2, -⟩ := h
  apply TT.eq
  unfold f_X7_isCell
  simp only [tt_gt, tt_sg, tt_ite, tt_ck, tt_lk, tt_ix, tt_bo, tt_by, tt_nz, tt_ob, tt_st, tt_cpk, tt_c1, tt_c2, tt_ca, tt_cb, tt_some, kd_231, kd_0, Nat.reduceAdd, true_and, and_true, true_implies, not_true_eq_false, false_implies, not_false_eq_true, ne_eq, true_or, or_true, e_cells, e_in]
  refine ⟨by omega, ?_, ?_⟩
  · split <;> simp
  · congr 1
    apply propext
    omega
theorem e_isEvent {F : Nat} {σ : St} (h : Hd (σ 232)) (c : Int) : f_X7_isEvent F 231 c σ = some (if 0 ≤ c ∧ c < evN (σ 232) then 1 else 0) := by
  have he := e_events (F := F) h
  obtain ⟨h1, h2, h3, h4, h5, h6, h7, h8, h9, h10, h11, h12⟩ := h
  apply TT.eq
  unfold f_X7_isEvent
  simp only [tt_gt, tt_sg, tt_ite, tt_ck, tt_lk, tt_ix, tt_bo, tt_by, tt_nz, tt_ob, tt_st, tt_cpk, tt_c1, tt_c2, tt_ca, tt_cb, tt_some, kd_231, kd_0, Nat.reduceAdd, true_and, and_true, true_implies, not_true_eq_false, false_implies, not_false_eq_true, ne_eq, true_or, or_true, he, e_in]
  unfold evN
  refine ⟨by omega, ?_, ?_⟩
  · split <;> simp
  · congr 1
    apply propext
    omega
theorem e_isTold {F : Nat} {σ : St} (h : Hd (σ 232)) (c : Int) : f_X7_isTold F 231 c σ = some (if 0 ≤ c ∧ c < σ 232 3 then 1 else 0) := by
  obtain ⟨h1, h2, h3, h4, h5, h6, h7, h8, h9, h10, h11, h12⟩ := h
  apply TT.eq
  unfold f_X7_isTold
  simp only [tt_gt, tt_sg, tt_ite, tt_ck, tt_lk, tt_ix, tt_bo, tt_by, tt_nz, tt_ob, tt_st, tt_cpk, tt_c1, tt_c2, tt_ca, tt_cb, tt_some, kd_231, kd_0, Nat.reduceAdd, true_and, and_true, true_implies, not_true_eq_false, false_implies, not_false_eq_true, ne_eq, true_or, or_true, e_in]
  refine ⟨by decide, by omega, ?_, ?_⟩
  · split <;> simp
  · congr 1
    apply propext
    omega
theorem e_isTick {F : Nat} {σ : St} (h : Hd (σ 232)) (c : Int) : f_X7_isTick F 231 c σ = some (if 0 < σ 232 5 ∧ 0 ≤ c ∧ c ≤ evN (σ 232) then 1 else 0) := by
  have he := e_events (F := F) h
  apply TT.eq
  unfold f_X7_isTick
  simp only [tt_gt, tt_sg, tt_ite, tt_ck, tt_lk, tt_ix, tt_bo, tt_by, tt_nz, tt_ob, tt_st, tt_cpk, tt_c1, tt_c2, tt_ca, tt_cb, tt_some, kd_231, kd_0, Nat.reduceAdd, true_and, and_true, true_implies, not_true_eq_false, false_implies, not_false_eq_true, ne_eq, true_or, or_true, he, e_in, e_isStore]
  by_cases q1 : 0 < σ 232 5
  · by_cases q2 : 0 ≤ c ∧ c ≤ evN (σ 232)
    · simp [q1, q2]
    · simp [q1, q2]
  · simp [q1]
theorem e_kindOf {F : Nat} {σ : St} {e : Int} (h : 0 ≤ e ∧ e < 60) : f_X7_kindOf F 231 e σ = some (σ 232 (6 + 4 * e)) := by
  apply TT.eq
  unfold f_X7_kindOf
  simp only [tt_gt, tt_sg, tt_ite, tt_ck, tt_lk, tt_ix, tt_bo, tt_by, tt_nz, tt_ob, tt_st, tt_cpk, tt_c1, tt_c2, tt_ca, tt_cb, tt_some, kd_231, kd_0, Nat.reduceAdd, true_and, and_true, true_implies, not_true_eq_false, false_implies, not_false_eq_true, ne_eq, true_or, or_true]
  refine ⟨by omega, by omega, by omega, by omega⟩
theorem e_numberOf {F : Nat} {σ : St} {e j : Int} (h : 0 ≤ e ∧ e < 60) (hj : 0 ≤ j ∧ j < 3) : f_X7_numberOf F 231 e j σ = some (σ 232 (6 + 4 * e + 1 + j)) := by
  apply TT.eq
  unfold f_X7_numberOf
  simp only [tt_gt, tt_sg, tt_ite, tt_ck, tt_lk, tt_ix, tt_bo, tt_by, tt_nz, tt_ob, tt_st, tt_cpk, tt_c1, tt_c2, tt_ca, tt_cb, tt_some, kd_231, kd_0, Nat.reduceAdd, true_and, and_true, true_implies, not_true_eq_false, false_implies, not_false_eq_true, ne_eq, true_or, or_true]
  refine ⟨by omega, by omega, by omega, by omega, by omega, by omega⟩
theorem e_isCommand {F : Nat} {σ : St} {e : Int} (h : 0 ≤ e ∧ e < 60) : f_X7_isCommand F 231 e σ = some (if σ 232 (6 + 4 * e) < 4 then 1 else 0) := by
  apply TT.eq
  unfold f_X7_isCommand
  simp only [tt_gt, tt_sg, tt_ite, tt_ck, tt_lk, tt_ix, tt_bo, tt_by, tt_nz, tt_ob, tt_st, tt_cpk, tt_c1, tt_c2, tt_ca, tt_cb, tt_some, kd_231, kd_0, Nat.reduceAdd, true_and, and_true, true_implies, not_true_eq_false, false_implies, not_false_eq_true, ne_eq, true_or, or_true, e_kindOf h]
  refine ⟨fun q => ?_, fun q => ?_⟩
  · rw [if_neg (by omega)]
  · rw [if_pos (by omega)]
theorem e_valueAt {F : Nat} {σ : St} {c t : Int} (hc : 0 ≤ c ∧ c < 32) (ht : 0 ≤ t ∧ t ≤ 60) : f_X7_valueAt F 231 c t σ = some (σ 239 (32 * t + c)) := by
  apply TT.eq
  unfold f_X7_valueAt
  simp only [tt_gt, tt_sg, tt_ite, tt_ck, tt_lk, tt_ix, tt_bo, tt_by, tt_nz, tt_ob, tt_st, tt_cpk, tt_c1, tt_c2, tt_ca, tt_cb, tt_some, kd_231, kd_0, Nat.reduceAdd, true_and, and_true, true_implies, not_true_eq_false, false_implies, not_false_eq_true, ne_eq, true_or, or_true]
  refine ⟨by omega, by omega, by omega, by omega⟩
def latR (ch : Int → Int) (c : Int) : Nat → Int
  | 0 => -1
  | t + 1 => if ch (32 * t + c) = 0 then latR ch c t else t
theorem latR_rng (ch : Int → Int) (c : Int) : ∀ t : Nat, -1 ≤ latR ch c t ∧ latR ch c t < t
  | 0 => by simp [latR]
  | t + 1 => by
    have := latR_rng ch c t
    unfold latR
    split <;> omega
theorem e_latestAt {F : Nat} {σ : St} {c : Int} (hc : 0 ≤ c ∧ c < 32) (t : Nat) (ht : t ≤ 60) (hF : 100 ≤ F) : f_X7_latestAt F 231 c t σ = some (latR (σ 240) c t) := by
  have loop : ∀ (t n : Nat), t < n → t ≤ 60 → ∀ a2 : Int, f_X7_latestAt_L4 F 231 c a2 σ n ((t : Int) - 1) = some (latR (σ 240) c t) := by
    intro t
    induction t with
    | zero =>
      intro n hn _ a2
      obtain ⟨n, rfl⟩ : ∃ k, n = k + 1 := ⟨n - 1, by omega⟩
      rw [f_X7_latestAt_L4, if_pos (by simp)]
      rfl
    | succ t ih =>
      intro n hn ht a2
      obtain ⟨n, rfl⟩ : ∃ k, n = k + 1 := ⟨n - 1, by omega⟩
      apply TT.eq
      rw [f_X7_latestAt_L4]
      rw [show (((t + 1 : Nat) : Int) - 1) = (t : Int) by omega]
      simp only [tt_gt, tt_sg, tt_ite, tt_ck, tt_lk, tt_ix, tt_bo, tt_by, tt_nz, tt_ob, tt_st, tt_cpk, tt_c1, tt_c2, tt_ca, tt_cb, tt_some, kd_231, kd_0, Nat.reduceAdd, true_and, and_true, true_implies, not_true_eq_false, false_implies, not_false_eq_true, ne_eq, true_or, or_true]
      refine ⟨fun h => by omega, fun _ => ⟨by omega, by omega, by omega, fun h => ?_, fun h => ⟨by omega, ?_⟩⟩⟩
      · rw [latR, if_neg h]
      · rw [latR, if_pos (by omega)]
        rw [show (t : Int) + -1 = (t : Int) - 1 by omega, ih n (by omega) (by omega) a2, tt_some]
  apply TT.eq
  unfold f_X7_latestAt
  simp only [tt_gt, tt_sg, tt_ite, tt_ck, tt_lk, tt_ix, tt_bo, tt_by, tt_nz, tt_ob, tt_st, tt_cpk, tt_c1, tt_c2, tt_ca, tt_cb, tt_some, kd_231, kd_0, Nat.reduceAdd, true_and, and_true, true_implies, not_true_eq_false, false_implies, not_false_eq_true, ne_eq, true_or, or_true]
  refine ⟨by omega, ?_⟩
  rw [loop t F (by omega) ht, tt_some]
