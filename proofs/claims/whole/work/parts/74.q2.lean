def rgc (l i : Int) : Int := z_l2i (z_lshl (z_lshl 1 (z_shl 1 l) - 1) (z_shl i l))
theorem rg_all : ∀ l : Nat, l < 6 → z_shr 32 l = ((32 / 2 ^ l : Nat) : Int) ∧ ∀ i : Nat, i < 32 / 2 ^ l → (z_shl i l = ((i * 2 ^ l : Nat) : Int) ∧ z_shl ((i : Int) + 1) l = (((i + 1) * 2 ^ l : Nat) : Int) ∧ (i + 1) * 2 ^ l ≤ 32 ∧ (-9223372036854775808 ≤ z_lshl 1 (z_shl 1 l) - 1 ∧ z_lshl 1 (z_shl 1 l) - 1 < 9223372036854775808) ∧ ∀ c : Nat, c < 32 → (bt (rgc l i) c ↔ i * 2 ^ l ≤ c ∧ c < (i + 1) * 2 ^ l)) := by decide +kernel
theorem e6_hasLevel {F : Nat} {σ : St} {l : Int} : f_X6_hasLevel F l σ = some (if 0 ≤ l ∧ l ≤ 5 then 1 else 0) := by
  apply TT.eq
  unfold f_X6_hasLevel
  simp only [tt_gt, tt_sg, tt_ite, tt_ck, tt_lk, tt_ix, tt_bo, tt_by, tt_nz, tt_ob, tt_st, tt_cpk, tt_c1, tt_c2, tt_ca, tt_cb, tt_some, kd_231, kd_0, Nat.reduceAdd, true_and, and_true, true_implies, not_true_eq_false, false_implies, not_false_eq_true, true_or, or_true]
  refine ⟨fun q => ?_, fun q => ⟨fun q2 => ?_, fun q2 => ?_⟩⟩
  · rw [if_neg (by omega)]
  · rw [if_neg (by omega)]
  · rw [if_pos (by omega)]
theorem e6_rc {F : Nat} {σ : St} {l i : Nat} (hl : l < 6) (hi : i < 32 / 2 ^ l) : f_X6_regionCells F l i σ = some (rgc l i) := by
  have h1 := ((rg_all l hl).2 i hi).2.2.2.1
  apply TT.eq
  unfold f_X6_regionCells
  simp only [tt_gt, tt_sg, tt_ite, tt_ck, tt_lk, tt_ix, tt_bo, tt_by, tt_nz, tt_ob, tt_st, tt_cpk, tt_c1, tt_c2, tt_ca, tt_cb, tt_some, kd_231, kd_0, Nat.reduceAdd, true_and, and_true, true_implies, not_true_eq_false, false_implies, not_false_eq_true, true_or, or_true]
  exact ⟨h1, rfl⟩
theorem rg_zero {D : Int} {l i : Nat} (hl : l < 6) (hi : i < 32 / 2 ^ l) : z_and D (rgc l i) = 0 ↔ ∀ c : Nat, i * 2 ^ l ≤ c → c < (i + 1) * 2 ^ l → ¬ bt D c := by
  obtain ⟨-, -, h32, -, hb⟩ := (rg_all l hl).2 i hi
  constructor
  · intro h c c1 c2 z
    have h1 := (bt_and (a := D) (b := rgc l i) (c := (c : Int)) ⟨by omega, by omega⟩).mpr ⟨z, (hb c (by omega)).mpr ⟨c1, c2⟩⟩
    rw [h] at h1
    exact bt_zero ⟨by omega, by omega⟩ h1
  · intro h
    refine bt_nil iR_and (fun c c1 c2 z => ?_)
    obtain ⟨n, rfl⟩ : ∃ n : Nat, c = n := ⟨c.toNat, by omega⟩
    have h1 := (bt_and ⟨c1, c2⟩).mp z
    have h2 := (hb n (by omega)).mp h1.2
    exact h n h2.1 h2.2 h1.1
theorem sm_pos {P : Nat → Prop} {f : Nat → Int} (h1 : ∀ i, P i → f i = 1) (h2 : ∀ i, ¬ P i → f i = 0) : ∀ n : Nat, 0 ≤ sm f n ∧ (0 < sm f n ↔ ∃ i, i < n ∧ P i)
  | 0 => ⟨by simp [sm], ⟨fun h => by simp [sm] at h, fun ⟨i, h, _⟩ => absurd h (by omega)⟩⟩
  | n + 1 => by
    have ih := sm_pos h1 h2 n
    rw [sm]
    by_cases q : P n
    · rw [h1 n q]
      exact ⟨by omega, ⟨fun _ => ⟨n, by omega, q⟩, fun _ => by omega⟩⟩
    · rw [h2 n q]
      refine ⟨by omega, ⟨fun h => ?_, fun ⟨i, h, hp⟩ => ?_⟩⟩
      · obtain ⟨i, h3, h4⟩ := ih.2.mp (by omega)
        exact ⟨i, by omega, h4⟩
      · by_cases z : i = n
        · rw [z] at hp; exact absurd hp q
        · have := ih.2.mpr ⟨i, by omega, hp⟩
          omega
theorem dr_ok {F : Nat} {w : Int → Int} {T : Nat} {μ ν σ1 : St} (hF : 100 ≤ F) (X : Ctx F w T μ ν σ1) {l i : Nat} (hl : l < 6) (hi : i < 32 / 2 ^ l) : TT (f_X7_isDirtyRegion F 231 l i T ν) (fun r => (r = 1 ∧ ¬ z_and (σ1 12 2) (rgc l i) = 0) ∨ (r = 0 ∧ z_and (σ1 12 2) (rgc l i) = 0)) := by
  have h60 := X.wf.ev60
  have hle := X.le
  have hw0 : 0 ≤ w 0 ∧ w 0 ≤ 32 := ⟨X.wf.1.1, X.wf.1.2.1⟩
  obtain ⟨g1, g2, g3, -, -⟩ := (rg_all l hl).2 i hi
  have hz := rg_zero (D := σ1 12 2) hl hi
  have g4 : i * 2 ^ l ≤ (i + 1) * 2 ^ l := Nat.mul_le_mul_right _ (by omega)
  generalize hA : i * 2 ^ l = A at g1 hz g4
  generalize hB : (i + 1) * 2 ^ l = B at g2 g3 hz g4
  have hi32 : i < 32 := by
    have := Nat.div_le_self 32 (2 ^ l)
    omega
  unfold f_X7_isDirtyRegion
  simp only [tt_gt, tt_sg, tt_ite, tt_ck, tt_lk, tt_ix, tt_bo, tt_by, tt_nz, tt_ob, tt_st, tt_cpk, tt_c1, tt_c2, tt_ca, tt_cb, tt_some, kd_231, kd_0, Nat.reduceAdd, true_and, and_true, true_implies, not_true_eq_false, false_implies, not_false_eq_true, true_or, or_true, g1, g2]
  refine And.intro (by omega) ?_
  refine (dF_ok (F := F) (ν := ν) (lo := (A : Int)) (hi := (B : Int)) (T := T) hF X.w2 hw0 (by omega) (X.m2.n30 (by omega)) (by omega)).mono (fun r hr => ?_)
  have hp := sm_pos (P := fun j : Nat => baseR ν T ≤ latR (ν 240) ((A : Int) + j) T) (f := fun j : Nat => if baseR ν T ≤ latR (ν 240) ((A : Int) + j) T then 1 else 0) (fun j hj => if_pos hj) (fun j hj => if_neg hj) ((if (B : Int) ≤ w 0 then (B : Int) else w 0) - A).toNat
  rw [← hr] at hp
  refine ⟨fun z => Or.inr (hz.mpr (fun c c1 c2 y => ?_)), fun z => Or.inl (fun y => ?_)⟩
  · have h1 := (X.dt c (by omega) (by omega)).mp y
    have := hp.2.mpr ⟨c - A, by split <;> omega, by rw [show (A : Int) + ((c - A : Nat) : Int) = c by omega]; exact h1.2⟩
    omega
  · obtain ⟨j, j1, j2⟩ := hp.2.mp (by omega)
    have hjw : ((A + j : Nat) : Int) < w 0 ∧ A + j < B := by split at j1 <;> omega
    refine hz.mp y (A + j) (by omega) (by omega) ((X.dt _ (by omega) (by omega)).mpr ⟨hjw.1, ?_⟩)
    rw [show ((A + j : Nat) : Int) = (A : Int) + j by omega]
    exact j2
def rgs (D : Int) (l : Nat) : Int := sm (fun i => if z_and D (rgc l i) = 0 then 0 else 1) (32 / 2 ^ l)
theorem rgs_rng (D : Int) (l : Nat) : 0 ≤ rgs D l ∧ rgs D l ≤ 32 := by
  have h1 := sm_rng (f := fun i => if z_and D (rgc l i) = 0 then 0 else 1) (M := 1) (32 / 2 ^ l) (fun i _ => by split <;> omega)
  have := Nat.div_le_self 32 (2 ^ l)
  unfold rgs
  omega
theorem e6_dirtyRegions {F : Nat} {σ : St} {D : Int} {l : Nat} (hF : 100 ≤ F) (hl : l < 6) : f_X6_dirtyRegions F l D σ = some (rgs D l) := by
  have hs := (rg_all l hl).1
  have h32 := Nat.div_le_self 32 (2 ^ l)
  apply TT.eq
  unfold f_X6_dirtyRegions
  simp only [tt_gt, tt_sg, tt_ite, tt_ck, tt_lk, tt_ix, tt_bo, tt_by, tt_nz, tt_ob, tt_st, tt_cpk, tt_c1, tt_c2, tt_ca, tt_cb, tt_some, kd_231, kd_0, Nat.reduceAdd, true_and, and_true, true_implies, not_true_eq_false, false_implies, not_false_eq_true, true_or, or_true]
  refine cnt (L := fun n x i => f_X6_dirtyRegions_L4 F l D σ n x i) (32 / 2 ^ l) (fun i => if z_and D (rgc l i) = 0 then 0 else 1) (by omega) (fun n => ?_) (fun n i hi ht => ?_)
  · try dsimp only
    rw [f_X6_dirtyRegions_L4]
    simp only [tt_gt, tt_sg, tt_ite, tt_ck, tt_lk, tt_ix, tt_bo, tt_by, tt_nz, tt_ob, tt_st, tt_cpk, tt_c1, tt_c2, tt_ca, tt_cb, tt_some, kd_231, kd_0, Nat.reduceAdd, true_and, and_true, true_implies, not_true_eq_false, false_implies, not_false_eq_true, true_or, or_true, hs]
    exact ⟨fun _ => rfl, fun z => absurd z (by omega)⟩
  · have hr := sm_rng (f := fun i => if z_and D (rgc l i) = 0 then 0 else 1) (M := 1) i (fun i _ => by split <;> omega)
    try dsimp only at ht ⊢
    rw [f_X6_dirtyRegions_L4]
    simp only [tt_gt, tt_sg, tt_ite, tt_ck, tt_lk, tt_ix, tt_bo, tt_by, tt_nz, tt_ob, tt_st, tt_cpk, tt_c1, tt_c2, tt_ca, tt_cb, tt_some, kd_231, kd_0, Nat.reduceAdd, true_and, and_true, true_implies, not_true_eq_false, false_implies, not_false_eq_true, true_or, or_true, hs, e6_rc (F := F) (σ := σ) hl hi]
    refine ⟨fun z => absurd z (by omega), fun _ => ⟨fun z => And.intro (by omega) ?_, fun z => And.intro (by omega) (And.intro (by omega) ?_)⟩⟩
    · rw [if_pos z, Int.add_zero] at ht; exact ht
    · rw [if_neg z] at ht; exact ht
theorem ra_ok {F : Nat} {w : Int → Int} {T : Nat} {μ ν σ1 : St} (hF : 100 ≤ F) (X : Ctx F w T μ ν σ1) {l : Nat} (hl : l < 6) : TT (f_X7_regionsAt F 231 l T ν) (fun r => r = rgs (σ1 12 2) l) := by
  have hs := (rg_all l hl).1
  have h32 := Nat.div_le_self 32 (2 ^ l)
  unfold f_X7_regionsAt
  simp only [tt_gt, tt_sg, tt_ite, tt_ck, tt_lk, tt_ix, tt_bo, tt_by, tt_nz, tt_ob, tt_st, tt_cpk, tt_c1, tt_c2, tt_ca, tt_cb, tt_some, kd_231, kd_0, Nat.reduceAdd, true_and, and_true, true_implies, not_true_eq_false, false_implies, not_false_eq_true, true_or, or_true]
  refine cnt (L := fun n x i => f_X7_regionsAt_L5 F 231 l T ν n x i) (32 / 2 ^ l) (fun i => if z_and (σ1 12 2) (rgc l i) = 0 then 0 else 1) (by omega) (fun n => ?_) (fun n i hi ht => ?_)
  · try dsimp only
    rw [f_X7_regionsAt_L5]
    simp only [tt_gt, tt_sg, tt_ite, tt_ck, tt_lk, tt_ix, tt_bo, tt_by, tt_nz, tt_ob, tt_st, tt_cpk, tt_c1, tt_c2, tt_ca, tt_cb, tt_some, kd_231, kd_0, Nat.reduceAdd, true_and, and_true, true_implies, not_true_eq_false, false_implies, not_false_eq_true, true_or, or_true, hs]
    exact ⟨fun _ => rfl, fun z => absurd z (by omega)⟩
  · have hr := sm_rng (f := fun i => if z_and (σ1 12 2) (rgc l i) = 0 then 0 else 1) (M := 1) i (fun i _ => by split <;> omega)
    try dsimp only at ht ⊢
    rw [f_X7_regionsAt_L5]
    simp only [tt_gt, tt_sg, tt_ite, tt_ck, tt_lk, tt_ix, tt_bo, tt_by, tt_nz, tt_ob, tt_st, tt_cpk, tt_c1, tt_c2, tt_ca, tt_cb, tt_some, kd_231, kd_0, Nat.reduceAdd, true_and, and_true, true_implies, not_true_eq_false, false_implies, not_false_eq_true, true_or, or_true, hs]
    refine ⟨fun z => absurd z (by omega), fun _ => (dr_ok hF X hl hi).mono (fun r hr2 => ?_)⟩
    rcases hr2 with ⟨rfl, hr2⟩ | ⟨rfl, hr2⟩
    · rw [if_neg hr2] at ht
      exact ⟨fun z => absurd z (by decide), fun _ => And.intro (by omega) (And.intro (by omega) ht)⟩
    · rw [if_pos hr2] at ht
      exact ⟨fun _ => And.intro (by omega) (And.intro (by omega) ht), fun z => absurd rfl z⟩
theorem q_regions {F : Nat} {σ : St} {l t : Int} (hF : 100 ≤ F) (h : GI F σ) : PP F (f_X6_regions F 0 l t σ) (f_X7_regions F 231 l t) := by
  have h60 := h.wf.ev60
  have ht := e6_hasTick (F := F) (t := t) h.sc h.wf
  have hl := e6_hasLevel (F := F) (σ := σ) (l := l)
  unfold PP f_X6_regions
  by_cases q : 0 < σ 232 5 ∧ 0 ≤ t ∧ t ≤ evN (σ 232)
  · rw [if_pos q] at ht
    by_cases q2 : 0 ≤ l ∧ l ≤ 5
    · rw [if_pos q2] at hl
      simp only [tt_gt, tt_sg, tt_ite, tt_ck, tt_lk, tt_ix, tt_bo, tt_by, tt_nz, tt_ob, tt_st, tt_cpk, tt_c1, tt_c2, tt_ca, tt_cb, tt_some, kd_231, kd_0, Nat.reduceAdd, true_and, and_true, true_implies, not_true_eq_false, false_implies, not_false_eq_true, true_or, or_true, Nat.zero_add, ht, hl, one0]
      obtain ⟨T, rfl⟩ : ∃ T : Nat, t = T := ⟨t.toNat, by omega⟩
      obtain ⟨n, rfl⟩ : ∃ n : Nat, l = n := ⟨l.toNat, by omega⟩
      refine (h.play hF T q.2.2).mono (fun σ1 P1 => ?_)
      obtain ⟨⟨v, ν⟩, ha, hv, μ, X⟩ := P1.asksAt hF h (T : Int)
      dsimp only at hv X
      rw [if_pos q] at hv
      subst hv
      rw [e6_dirtyRegions hF (by omega), tt_some]
      unfold f_X7_regions
      simp only [tt_gt, tt_sg, tt_ite, tt_ck, tt_lk, tt_ix, tt_bo, tt_by, tt_nz, tt_ob, tt_st, tt_cpk, tt_c1, tt_c2, tt_ca, tt_cb, tt_some, kd_231, kd_0, Nat.reduceAdd, true_and, and_true, true_implies, not_true_eq_false, false_implies, not_false_eq_true, true_or, or_true, ha, one0, e_in, if_pos q2]
      exact (ra_ok hF X (by omega)).mono (fun r hr => ⟨hr.symm, X.gi⟩)
    · rw [if_neg q2] at hl
      simp only [tt_gt, tt_sg, tt_ite, tt_ck, tt_lk, tt_ix, tt_bo, tt_by, tt_nz, tt_ob, tt_st, tt_cpk, tt_c1, tt_c2, tt_ca, tt_cb, tt_some, kd_231, kd_0, Nat.reduceAdd, true_and, and_true, true_implies, not_true_eq_false, false_implies, not_false_eq_true, true_or, or_true, Nat.zero_add, ht, hl, one0, eq_self]
      obtain ⟨T0, P0⟩ := h.self
      obtain ⟨⟨v, ν⟩, ha, hv, μ, X⟩ := P0.asksAt hF h t
      dsimp only at hv X
      rw [if_pos q] at hv
      subst hv
      unfold f_X7_regions
      simp only [tt_gt, tt_sg, tt_ite, tt_ck, tt_lk, tt_ix, tt_bo, tt_by, tt_nz, tt_ob, tt_st, tt_cpk, tt_c1, tt_c2, tt_ca, tt_cb, tt_some, kd_231, kd_0, Nat.reduceAdd, true_and, and_true, true_implies, not_true_eq_false, false_implies, not_false_eq_true, true_or, or_true, ha, one0, e_in, if_neg q2, eq_self]
      exact X.gi
  · rw [if_neg q] at ht
    simp only [tt_gt, tt_sg, tt_ite, tt_ck, tt_lk, tt_ix, tt_bo, tt_by, tt_nz, tt_ob, tt_st, tt_cpk, tt_c1, tt_c2, tt_ca, tt_cb, tt_some, kd_231, kd_0, Nat.reduceAdd, true_and, and_true, true_implies, not_true_eq_false, false_implies, not_false_eq_true, true_or, or_true, Nat.zero_add, ht, eq_self]
    obtain ⟨T0, P0⟩ := h.self
    obtain ⟨⟨v, ν⟩, ha, hv, μ, X⟩ := P0.asksAt hF h t
    dsimp only at hv X
    rw [if_neg q] at hv
    subst hv
    unfold f_X7_regions
    simp only [tt_gt, tt_sg, tt_ite, tt_ck, tt_lk, tt_ix, tt_bo, tt_by, tt_nz, tt_ob, tt_st, tt_cpk, tt_c1, tt_c2, tt_ca, tt_cb, tt_some, kd_231, kd_0, Nat.reduceAdd, true_and, and_true, true_implies, not_true_eq_false, false_implies, not_false_eq_true, true_or, or_true, ha, eq_self]
    exact X.gi
theorem q_region {F : Nat} {σ : St} {l i t : Int} (hF : 100 ≤ F) (h : GI F σ) : PP F (f_X6_region F 0 l i t σ) (f_X7_region F 231 l i t) := by
  have h60 := h.wf.ev60
  have ht := e6_hasTick (F := F) (t := t) h.sc h.wf
  have hl := e6_hasLevel (F := F) (σ := σ) (l := l)
  have no : f_X6_region F 0 l i t σ = some (-2, σ) → (0 < σ 232 5 ∧ 0 ≤ t ∧ t ≤ evN (σ 232) → ¬ (0 ≤ l ∧ l ≤ 5) ∨ (0 ≤ l ∧ l ≤ 5) ∧ ¬ (0 ≤ i ∧ i < z_shr 32 l)) → PP F (f_X6_region F 0 l i t σ) (f_X7_region F 231 l i t) := by
    intro e hn
    unfold PP
    rw [e, tt_some]
    obtain ⟨T0, P0⟩ := h.self
    obtain ⟨⟨v, ν⟩, ha, hv, μ, X⟩ := P0.asksAt hF h t
    dsimp only at hv X
    unfold f_X7_region
    by_cases q : 0 < σ 232 5 ∧ 0 ≤ t ∧ t ≤ evN (σ 232)
    · rw [if_pos q] at hv
      subst hv
      rcases hn q with q2 | ⟨q2, q3⟩
      · simp only [tt_gt, tt_sg, tt_ite, tt_ck, tt_lk, tt_ix, tt_bo, tt_by, tt_nz, tt_ob, tt_st, tt_cpk, tt_c1, tt_c2, tt_ca, tt_cb, tt_some, kd_231, kd_0, Nat.reduceAdd, true_and, and_true, true_implies, not_true_eq_false, false_implies, not_false_eq_true, true_or, or_true, ha, one0, e_in, if_neg q2, eq_self]
        exact X.gi
      · obtain ⟨n, rfl⟩ : ∃ n : Nat, l = n := ⟨l.toNat, by omega⟩
        have hs := (rg_all n (by omega)).1
        have h32 := Nat.div_le_self 32 (2 ^ n)
        generalize 32 / 2 ^ n = Q at hs h32
        rw [hs] at q3
        simp only [tt_gt, tt_sg, tt_ite, tt_ck, tt_lk, tt_ix, tt_bo, tt_by, tt_nz, tt_ob, tt_st, tt_cpk, tt_c1, tt_c2, tt_ca, tt_cb, tt_some, kd_231, kd_0, Nat.reduceAdd, true_and, and_true, true_implies, not_true_eq_false, false_implies, not_false_eq_true, true_or, or_true, ha, one0, e_in, if_pos q2, hs]
        rw [if_neg (by omega)]
        refine And.intro (by omega) ?_
        simp only [tt_gt, tt_sg, tt_ite, tt_ck, tt_lk, tt_ix, tt_bo, tt_by, tt_nz, tt_ob, tt_st, tt_cpk, tt_c1, tt_c2, tt_ca, tt_cb, tt_some, kd_231, kd_0, Nat.reduceAdd, true_and, and_true, true_implies, not_true_eq_false, false_implies, not_false_eq_true, true_or, or_true, eq_self]
        exact X.gi
    · rw [if_neg q] at hv
      subst hv
      simp only [tt_gt, tt_sg, tt_ite, tt_ck, tt_lk, tt_ix, tt_bo, tt_by, tt_nz, tt_ob, tt_st, tt_cpk, tt_c1, tt_c2, tt_ca, tt_cb, tt_some, kd_231, kd_0, Nat.reduceAdd, true_and, and_true, true_implies, not_true_eq_false, false_implies, not_false_eq_true, true_or, or_true, ha, eq_self]
      exact X.gi
  by_cases q : 0 < σ 232 5 ∧ 0 ≤ t ∧ t ≤ evN (σ 232)
  · rw [if_pos q] at ht
    by_cases q2 : 0 ≤ l ∧ l ≤ 5
    · rw [if_pos q2] at hl
      by_cases q3 : 0 ≤ i ∧ i < z_shr 32 l
      · obtain ⟨T, rfl⟩ : ∃ T : Nat, t = T := ⟨t.toNat, by omega⟩
        obtain ⟨n, rfl⟩ : ∃ n : Nat, l = n := ⟨l.toNat, by omega⟩
        obtain ⟨j, rfl⟩ : ∃ j : Nat, i = j := ⟨i.toNat, by omega⟩
        have hs := (rg_all n (by omega)).1
        have h32 := Nat.div_le_self 32 (2 ^ n)
        rw [hs] at q3
        have hj : j < 32 / 2 ^ n := by omega
        unfold PP f_X6_region
        simp only [tt_gt, tt_sg, tt_ite, tt_ck, tt_lk, tt_ix, tt_bo, tt_by, tt_nz, tt_ob, tt_st, tt_cpk, tt_c1, tt_c2, tt_ca, tt_cb, tt_some, kd_231, kd_0, Nat.reduceAdd, true_and, and_true, true_implies, not_true_eq_false, false_implies, not_false_eq_true, true_or, or_true, Nat.zero_add, ht, hl, one0, hs]
        refine ⟨fun z => absurd z (by omega), fun _ => ⟨fun _ => ?_, fun z => absurd q3.2 z⟩⟩
        refine (h.play hF T q.2.2).mono (fun σ1 P1 => ?_)
        obtain ⟨⟨v, ν⟩, ha, hv, μ, X⟩ := P1.asksAt hF h (T : Int)
        dsimp only at hv X
        rw [if_pos q] at hv
        subst hv
        rw [e6_rc (by omega) hj, tt_some]
        have mo : ∀ a : Int, (a = 1 ∧ ¬ z_and (σ1 12 2) (rgc n j) = 0) ∨ (a = 0 ∧ z_and (σ1 12 2) (rgc n j) = 0) → TT (f_X7_region F 231 n j T σ1) (fun r' => a = r'.1 ∧ GI F r'.2) := by
          intro a hA
          unfold f_X7_region
          simp only [tt_gt, tt_sg, tt_ite, tt_ck, tt_lk, tt_ix, tt_bo, tt_by, tt_nz, tt_ob, tt_st, tt_cpk, tt_c1, tt_c2, tt_ca, tt_cb, tt_some, kd_231, kd_0, Nat.reduceAdd, true_and, and_true, true_implies, not_true_eq_false, false_implies, not_false_eq_true, true_or, or_true, ha, one0, e_in, if_pos q2, hs]
          rw [if_pos (by omega)]
          simp only [tt_gt, tt_sg, tt_ite, tt_ck, tt_lk, tt_ix, tt_bo, tt_by, tt_nz, tt_ob, tt_st, tt_cpk, tt_c1, tt_c2, tt_ca, tt_cb, tt_some, kd_231, kd_0, Nat.reduceAdd, true_and, and_true, true_implies, not_true_eq_false, false_implies, not_false_eq_true, true_or, or_true, one0]
          refine And.intro (by omega) ((dr_ok hF X (by omega) hj).mono (fun r hr => ?_))
          rcases hr with ⟨rfl, hr⟩ | ⟨rfl, hr⟩
          · have : a = 1 := by rcases hA with z | z; exact z.1; exact absurd z.2 hr
            exact ⟨fun z => absurd z (by decide), fun _ => ⟨this, X.gi⟩⟩
          · have : a = 0 := by rcases hA with z | z; exact absurd hr z.2; exact z.1
            exact ⟨fun _ => ⟨this, X.gi⟩, fun z => absurd rfl z⟩
        exact ⟨fun z => mo 0 (Or.inr ⟨rfl, z⟩), fun z => mo 1 (Or.inl ⟨rfl, z⟩)⟩
      · refine no ?_ (fun _ => Or.inr ⟨q2, q3⟩)
        apply TT.eq
        unfold f_X6_region
        simp only [tt_gt, tt_sg, tt_ite, tt_ck, tt_lk, tt_ix, tt_bo, tt_by, tt_nz, tt_ob, tt_st, tt_cpk, tt_c1, tt_c2, tt_ca, tt_cb, tt_some, kd_231, kd_0, Nat.reduceAdd, true_and, and_true, true_implies, not_true_eq_false, false_implies, not_false_eq_true, true_or, or_true, Nat.zero_add, ht, hl, one0]
        exact ⟨fun _ => trivial, fun z => ⟨fun z2 => absurd ⟨by omega, z2⟩ q3, fun _ => trivial⟩⟩
    · rw [if_neg q2] at hl
      refine no ?_ (fun _ => Or.inl q2)
      apply TT.eq
      unfold f_X6_region
      simp only [tt_gt, tt_sg, tt_ite, tt_ck, tt_lk, tt_ix, tt_bo, tt_by, tt_nz, tt_ob, tt_st, tt_cpk, tt_c1, tt_c2, tt_ca, tt_cb, tt_some, kd_231, kd_0, Nat.reduceAdd, true_and, and_true, true_implies, not_true_eq_false, false_implies, not_false_eq_true, true_or, or_true, Nat.zero_add, ht, hl, one0, eq_self]
  · rw [if_neg q] at ht
    refine no ?_ (fun z => absurd z q)
    apply TT.eq
    unfold f_X6_region
    simp only [tt_gt, tt_sg, tt_ite, tt_ck, tt_lk, tt_ix, tt_bo, tt_by, tt_nz, tt_ob, tt_st, tt_cpk, tt_c1, tt_c2, tt_ca, tt_cb, tt_some, kd_231, kd_0, Nat.reduceAdd, true_and, and_true, true_implies, not_true_eq_false, false_implies, not_false_eq_true, true_or, or_true, Nat.zero_add, ht, eq_self]
theorem q_looks {F : Nat} {σ : St} {t : Int} (hF : 100 ≤ F) (h : GI F σ) : PP F (f_X6_looks F 0 t σ) (f_X7_looks F 231 t) := by
  have h60 := h.wf.ev60
  have hw0 : 0 ≤ σ 232 0 ∧ σ 232 0 ≤ 32 := ⟨h.wf.1.1, h.wf.1.2.1⟩
  have ht := e6_hasTick (F := F) (t := t) h.sc h.wf
  unfold PP f_X6_looks
  by_cases q : 0 < σ 232 5 ∧ 0 ≤ t ∧ t ≤ evN (σ 232)
  · rw [if_pos q] at ht
    simp only [tt_gt, tt_sg, tt_ite, tt_ck, tt_lk, tt_ix, tt_bo, tt_by, tt_nz, tt_ob, tt_st, tt_cpk, tt_c1, tt_c2, tt_ca, tt_cb, tt_some, kd_231, kd_0, Nat.reduceAdd, true_and, and_true, true_implies, not_true_eq_false, false_implies, not_false_eq_true, true_or, or_true, Nat.zero_add, ht, one0]
    obtain ⟨T, rfl⟩ : ∃ T : Nat, t = T := ⟨t.toNat, by omega⟩
    refine (h.play hF T q.2.2).mono (fun σ1 P1 => ?_)
    obtain ⟨⟨v, ν⟩, ha, hv, μ, X⟩ := P1.asksAt hF h (T : Int)
    dsimp only at hv X
    rw [if_pos q] at hv
    subst hv
    have key : ∀ a : Int, a = 1 + 2 * sm (fun j => rgs (σ1 12 2) (j + 1)) 5 → TT (f_X7_looks F 231 T σ1) (fun r' => a = r'.1 ∧ GI F r'.2) := by
      intro a hA
      unfold f_X7_looks
      simp only [tt_gt, tt_sg, tt_ite, tt_ck, tt_lk, tt_ix, tt_bo, tt_by, tt_nz, tt_ob, tt_st, tt_cpk, tt_c1, tt_c2, tt_ca, tt_cb, tt_some, kd_231, kd_0, Nat.reduceAdd, true_and, and_true, true_implies, not_true_eq_false, false_implies, not_false_eq_true, true_or, or_true, ha, one0]
      refine lp_w (L := fun n (p : Int × Int) => f_X7_looks_L15 F 231 T n p.1 p.2 ν) (fun m p => ∃ j : Nat, p.2 = j + 1 ∧ j + m = 5 ∧ p.1 = 1 + 2 * sm (fun j => rgs (σ1 12 2) (j + 1)) j) (fun m n p hI ih => ?_) 5 F (1, 1) (by omega) ⟨0, rfl, rfl, rfl⟩
      obtain ⟨x, i⟩ := p
      dsimp only at hI ih ⊢
      obtain ⟨j, rfl, i2, i3⟩ := hI
      have hr := sm_rng (f := fun j => rgs (σ1 12 2) (j + 1)) (M := 32) j (fun i _ => rgs_rng _ _)
      have hr2 := rgs_rng (σ1 12 2) (j + 1)
      rw [f_X7_looks_L15]
      simp only [tt_gt, tt_sg, tt_ite, tt_ck, tt_lk, tt_ix, tt_bo, tt_by, tt_nz, tt_ob, tt_st, tt_cpk, tt_c1, tt_c2, tt_ca, tt_cb, tt_some, kd_231, kd_0, Nat.reduceAdd, true_and, and_true, true_implies, not_true_eq_false, false_implies, not_false_eq_true, true_or, or_true]
      refine ⟨fun z => ⟨by rw [hA, i3, show j = 5 by omega], X.gi⟩, fun z => ?_⟩
      rw [show (j : Int) + 1 = ((j + 1 : Nat) : Int) by omega]
      refine (ra_ok hF X (by omega)).mono (fun r hr3 => ?_)
      rw [hr3]
      refine And.intro (by omega) (And.intro (by omega) (And.intro (by omega) (ih (m - 1) (_, _) (by omega) ⟨j + 1, rfl, by omega, ?_⟩)))
      dsimp only
      rw [sm, i3]
      omega
    refine lp_w (L := fun n (p : Int × Int) => f_X6_looks_L20 F 0 T n p.1 p.2 σ1) (fun m p => ∃ j : Nat, p.2 = j + 1 ∧ j + m = 5 ∧ p.1 = 1 + 2 * sm (fun j => rgs (σ1 12 2) (j + 1)) j) (fun m n p hI ih => ?_) 5 F (1, 1) (by omega) ⟨0, rfl, rfl, rfl⟩
    obtain ⟨x, i⟩ := p
    dsimp only at hI ih ⊢
    obtain ⟨j, rfl, i2, i3⟩ := hI
    have hr := sm_rng (f := fun j => rgs (σ1 12 2) (j + 1)) (M := 32) j (fun i _ => rgs_rng _ _)
    have hr2 := rgs_rng (σ1 12 2) (j + 1)
    rw [f_X6_looks_L20]
    simp only [tt_gt, tt_sg, tt_ite, tt_ck, tt_lk, tt_ix, tt_bo, tt_by, tt_nz, tt_ob, tt_st, tt_cpk, tt_c1, tt_c2, tt_ca, tt_cb, tt_some, kd_231, kd_0, Nat.reduceAdd, true_and, and_true, true_implies, not_true_eq_false, false_implies, not_false_eq_true, true_or, or_true, Nat.zero_add]
    refine ⟨fun z => key _ (by rw [i3, show j = 5 by omega]), fun z => ?_⟩
    rw [show (j : Int) + 1 = ((j + 1 : Nat) : Int) by omega, e6_dirtyRegions hF (by omega), tt_some]
    refine And.intro (by omega) (And.intro (by omega) (And.intro (by omega) (ih (m - 1) (_, _) (by omega) ⟨j + 1, rfl, by omega, ?_⟩)))
    dsimp only
    rw [sm, i3]
    omega
  · rw [if_neg q] at ht
    simp only [tt_gt, tt_sg, tt_ite, tt_ck, tt_lk, tt_ix, tt_bo, tt_by, tt_nz, tt_ob, tt_st, tt_cpk, tt_c1, tt_c2, tt_ca, tt_cb, tt_some, kd_231, kd_0, Nat.reduceAdd, true_and, and_true, true_implies, not_true_eq_false, false_implies, not_false_eq_true, true_or, or_true, Nat.zero_add, ht, eq_self]
    obtain ⟨T0, P0⟩ := h.self
    obtain ⟨⟨v, ν⟩, ha, hv, μ, X⟩ := P0.asksAt hF h t
    dsimp only at hv X
    rw [if_neg q] at hv
    subst hv
    unfold f_X7_looks
    simp only [tt_gt, tt_sg, tt_ite, tt_ck, tt_lk, tt_ix, tt_bo, tt_by, tt_nz, tt_ob, tt_st, tt_cpk, tt_c1, tt_c2, tt_ca, tt_cb, tt_some, kd_231, kd_0, Nat.reduceAdd, true_and, and_true, true_implies, not_true_eq_false, false_implies, not_false_eq_true, true_or, or_true, ha, eq_self]
    exact X.gi
theorem sm_one : ∀ n : Nat, sm (fun _ => 1) n = n
  | 0 => rfl
  | n + 1 => by rw [sm, sm_one n]; omega
theorem q_copies {F : Nat} {σ : St} {t : Int} (hF : 100 ≤ F) (h : GI F σ) : PP F (f_X6_copies F 0 t σ) (f_X7_copies F 231 t) := by
  have h60 := h.wf.ev60
  have hw0 : 0 ≤ σ 232 0 ∧ σ 232 0 ≤ 32 := ⟨h.wf.1.1, h.wf.1.2.1⟩
  have ht := e6_hasTick (F := F) (t := t) h.sc h.wf
  unfold PP f_X6_copies
  by_cases q : 0 < σ 232 5 ∧ 0 ≤ t ∧ t ≤ evN (σ 232)
  · rw [if_pos q] at ht
    simp only [tt_gt, tt_sg, tt_ite, tt_ck, tt_lk, tt_ix, tt_bo, tt_by, tt_nz, tt_ob, tt_st, tt_cpk, tt_c1, tt_c2, tt_ca, tt_cb, tt_some, kd_231, kd_0, Nat.reduceAdd, true_and, and_true, true_implies, not_true_eq_false, false_implies, not_false_eq_true, true_or, or_true, Nat.zero_add, ht, one0]
    obtain ⟨T, rfl⟩ : ∃ T : Nat, t = T := ⟨t.toNat, by omega⟩
    refine (h.play hF T q.2.2).mono (fun σ1 P1 => ?_)
    obtain ⟨⟨v, ν⟩, ha, hv, μ, X⟩ := P1.asksAt hF h (T : Int)
    dsimp only at hv X
    rw [if_pos q] at hv
    subst hv
    have hh := X.hs.le
    have h0 := X.m1.c0
    have h30 := X.m2.n30 (by omega)
    have hS : sm (fun k => if (T : Int) ≤ ν 242 k then 0 else 1) (ν 231 28).toNat = σ1 12 3 := by
      rw [sm_ext (m := (μ 231 28).toNat) _ (by omega) (fun k k1 k2 => if_pos (X.hs.nw k (by omega) (by omega))), sm_congr (g := fun _ => 1) _ (fun k hk => ?_), sm_one, X.cr.cn]
      · omega
      · have h1 := (X.hs.fx k (by omega) (by omega)).2.1
        have h2 := (X.m1.cp k (by omega) (by omega)).mrk
        rw [h1, if_neg (by omega)]
    unfold f_X7_copies
    simp only [tt_gt, tt_sg, tt_ite, tt_ck, tt_lk, tt_ix, tt_bo, tt_by, tt_nz, tt_ob, tt_st, tt_cpk, tt_c1, tt_c2, tt_ca, tt_cb, tt_some, kd_231, kd_0, Nat.reduceAdd, true_and, and_true, true_implies, not_true_eq_false, false_implies, not_false_eq_true, true_or, or_true, ha, one0]
    rw [← hS]
    refine cnt (L := fun n x i => f_X7_copies_L15 F 231 (T : Int) n x i ν) (ν 231 28).toNat (fun k => if (T : Int) ≤ ν 242 k then 0 else 1) (by omega) (fun n => ?_) (fun n i hi ht2 => ?_)
    · try dsimp only
      rw [f_X7_copies_L15]
      simp only [tt_gt, tt_sg, tt_ite, tt_ck, tt_lk, tt_ix, tt_bo, tt_by, tt_nz, tt_ob, tt_st, tt_cpk, tt_c1, tt_c2, tt_ca, tt_cb, tt_some, kd_231, kd_0, Nat.reduceAdd, true_and, and_true, true_implies, not_true_eq_false, false_implies, not_false_eq_true, true_or, or_true]
      refine ⟨fun _ => ?_, fun z => absurd z (by omega)⟩
      first
        | exact X.gi
        | exact ⟨rfl, X.gi⟩
    · have hr := sm_rng (f := fun k => if (T : Int) ≤ ν 242 k then 0 else 1) (M := 1) i (fun i _ => by split <;> omega)
      try dsimp only at ht2 hr ⊢
      rw [f_X7_copies_L15]
      simp only [tt_gt, tt_sg, tt_ite, tt_ck, tt_lk, tt_ix, tt_bo, tt_by, tt_nz, tt_ob, tt_st, tt_cpk, tt_c1, tt_c2, tt_ca, tt_cb, tt_some, kd_231, kd_0, Nat.reduceAdd, true_and, and_true, true_implies, not_true_eq_false, false_implies, not_false_eq_true, true_or, or_true]
      refine ⟨fun z => absurd z (by omega), fun _ => And.intro (by omega) ⟨fun z => And.intro (by omega) (And.intro (by omega) ?_), fun z => And.intro (by omega) (And.intro (by omega) ?_)⟩⟩
      · rw [if_pos z] at ht2; exact ht2
      · rw [if_neg z] at ht2; exact ht2
  · rw [if_neg q] at ht
    simp only [tt_gt, tt_sg, tt_ite, tt_ck, tt_lk, tt_ix, tt_bo, tt_by, tt_nz, tt_ob, tt_st, tt_cpk, tt_c1, tt_c2, tt_ca, tt_cb, tt_some, kd_231, kd_0, Nat.reduceAdd, true_and, and_true, true_implies, not_true_eq_false, false_implies, not_false_eq_true, true_or, or_true, Nat.zero_add, ht, eq_self]
    obtain ⟨T0, P0⟩ := h.self
    obtain ⟨⟨v, ν⟩, ha, hv, μ, X⟩ := P0.asksAt hF h t
    dsimp only at hv X
    rw [if_neg q] at hv
    subst hv
    unfold f_X7_copies
    simp only [tt_gt, tt_sg, tt_ite, tt_ck, tt_lk, tt_ix, tt_bo, tt_by, tt_nz, tt_ob, tt_st, tt_cpk, tt_c1, tt_c2, tt_ca, tt_cb, tt_some, kd_231, kd_0, Nat.reduceAdd, true_and, and_true, true_implies, not_true_eq_false, false_implies, not_false_eq_true, true_or, or_true, ha, eq_self]
    exact X.gi
theorem openAt_ok {F : Nat} {w : Int → Int} {T : Nat} {μ ν σ1 : St} (hF : 100 ≤ F) (X : Ctx F w T μ ν σ1) : f_X7_openAt F 231 T ν = some (μ 231 29) := by
  have h60 := X.wf.ev60
  have hh := X.hs.le
  have h30 := X.m2.n30 (by omega)
  have h0 := X.m1.c0
  have ho := X.m1.op
  apply TT.eq
  unfold f_X7_openAt
  simp only [tt_gt, tt_sg, tt_ite, tt_ck, tt_lk, tt_ix, tt_bo, tt_by, tt_nz, tt_ob, tt_st, tt_cpk, tt_c1, tt_c2, tt_ca, tt_cb, tt_some, kd_231, kd_0, Nat.reduceAdd, true_and, and_true, true_implies, not_true_eq_false, false_implies, not_false_eq_true, true_or, or_true]
  refine lp_w (L := fun n (p : Int) => f_X7_openAt_L2 F 231 T ν n p) (fun m p => 0 ≤ p ∧ p + m = ν 231 28 ∧ (μ 231 29 = -1 ∨ p ≤ μ 231 29)) (fun m n p hI ih => ?_) (ν 231 28).toNat F 0 (by omega) ⟨by omega, by omega, by omega⟩
  obtain ⟨i1, i2, i3⟩ := hI
  rw [f_X7_openAt_L2]
  simp only [tt_gt, tt_sg, tt_ite, tt_ck, tt_lk, tt_ix, tt_bo, tt_by, tt_nz, tt_ob, tt_st, tt_cpk, tt_c1, tt_c2, tt_ca, tt_cb, tt_some, kd_231, kd_0, Nat.reduceAdd, true_and, and_true, true_implies, not_true_eq_false, false_implies, not_false_eq_true, true_or, or_true]
  refine ⟨fun z => by omega, fun z => And.intro (by omega) ⟨fun z2 => ?_, fun z2 => ?_⟩⟩
  · have : μ 231 28 ≤ p := Classical.byContradiction fun y => by
      have h1 := (X.hs.fx p i1 (by omega)).2.1
      have h2 := (X.m1.cp p i1 (by omega)).mrk
      omega
    exact And.intro (by omega) (ih (m - 1) (p + 1) (by omega) ⟨by omega, by omega, by omega⟩)
  · have hp : p < μ 231 28 := Classical.byContradiction fun y => by
      have := X.hs.nw p (by omega) (by omega)
      omega
    have c1 := X.m1.cp p i1 hp
    by_cases y : p = μ 231 29
    · have h3 := X.hs.opn (by omega)
      rw [← y] at h3
      refine And.intro (by omega) ⟨fun _ => y, fun z3 => And.intro (by omega) ⟨fun z4 => ?_, fun _ => y⟩⟩
      omega
    · have h3 := X.hs.cl p i1 hp y
      have h4 : 0 ≤ μ 242 p ∧ μ 242 p < μ 244 p ∧ μ 244 p ≤ T := by
        rcases c1.st with x | x
        · exact absurd x.1 y
        · have := c1.mrk
          omega
      rw [h3.2.1]
      refine And.intro (by omega) ⟨fun z3 => by omega, fun z3 => And.intro (by omega) ⟨fun z4 => And.intro (by omega) (ih (m - 1) (p + 1) (by omega) ⟨by omega, by omega, by omega⟩), fun z4 => by omega⟩⟩
theorem q_open {F : Nat} {σ : St} {t : Int} (hF : 100 ≤ F) (h : GI F σ) : PP F (f_X6_open F 0 t σ) (f_X7_open F 231 t) := by
  have h60 := h.wf.ev60
  have hw0 : 0 ≤ σ 232 0 ∧ σ 232 0 ≤ 32 := ⟨h.wf.1.1, h.wf.1.2.1⟩
  have ht := e6_hasTick (F := F) (t := t) h.sc h.wf
  unfold PP f_X6_open
  by_cases q : 0 < σ 232 5 ∧ 0 ≤ t ∧ t ≤ evN (σ 232)
  · rw [if_pos q] at ht
    simp only [tt_gt, tt_sg, tt_ite, tt_ck, tt_lk, tt_ix, tt_bo, tt_by, tt_nz, tt_ob, tt_st, tt_cpk, tt_c1, tt_c2, tt_ca, tt_cb, tt_some, kd_231, kd_0, Nat.reduceAdd, true_and, and_true, true_implies, not_true_eq_false, false_implies, not_false_eq_true, true_or, or_true, Nat.zero_add, ht, one0]
    obtain ⟨T, rfl⟩ : ∃ T : Nat, t = T := ⟨t.toNat, by omega⟩
    refine (h.play hF T q.2.2).mono (fun σ1 P1 => ?_)
    obtain ⟨⟨v, ν⟩, ha, hv, μ, X⟩ := P1.asksAt hF h (T : Int)
    dsimp only at hv X
    rw [if_pos q] at hv
    subst hv
    unfold f_X7_open
    simp only [tt_gt, tt_sg, tt_ite, tt_ck, tt_lk, tt_ix, tt_bo, tt_by, tt_nz, tt_ob, tt_st, tt_cpk, tt_c1, tt_c2, tt_ca, tt_cb, tt_some, kd_231, kd_0, Nat.reduceAdd, true_and, and_true, true_implies, not_true_eq_false, false_implies, not_false_eq_true, true_or, or_true, ha, one0]
    rw [openAt_ok hF X, tt_some]
    exact ⟨X.cr.op, X.gi⟩
  · rw [if_neg q] at ht
    simp only [tt_gt, tt_sg, tt_ite, tt_ck, tt_lk, tt_ix, tt_bo, tt_by, tt_nz, tt_ob, tt_st, tt_cpk, tt_c1, tt_c2, tt_ca, tt_cb, tt_some, kd_231, kd_0, Nat.reduceAdd, true_and, and_true, true_implies, not_true_eq_false, false_implies, not_false_eq_true, true_or, or_true, Nat.zero_add, ht, eq_self]
    obtain ⟨T0, P0⟩ := h.self
    obtain ⟨⟨v, ν⟩, ha, hv, μ, X⟩ := P0.asksAt hF h t
    dsimp only at hv X
    rw [if_neg q] at hv
    subst hv
    unfold f_X7_open
    simp only [tt_gt, tt_sg, tt_ite, tt_ck, tt_lk, tt_ix, tt_bo, tt_by, tt_nz, tt_ob, tt_st, tt_cpk, tt_c1, tt_c2, tt_ca, tt_cb, tt_some, kd_231, kd_0, Nat.reduceAdd, true_and, and_true, true_implies, not_true_eq_false, false_implies, not_false_eq_true, true_or, or_true, ha, eq_self]
    exact X.gi
