theorem MX.n {w : Int → Int} {T : Nat} {μ ν : St} (X : MX w T μ ν) : (0 ≤ μ 231 28 ∧ μ 231 28 ≤ 30) ∧ (0 ≤ ν 231 28 ∧ ν 231 28 ≤ 30) ∧ μ 231 28 ≤ ν 231 28 := by
  have h60 := X.wf.ev60
  have hle := X.le
  exact ⟨X.m1.n30 (by omega), X.m2.n30 (by omega), X.hs.le⟩
def wfP (μ : St) (i : Int) : Prop := i < μ 231 28 ∧ μ 243 i = 1 ∧ μ 241 i ≠ 0
theorem lk_iff {w : Int → Int} {T : Nat} {μ ν : St} (X : MX w T μ ν) {k : Int} (hk : 0 ≤ k) : lkP μ k ↔ (k < μ 231 28 ∧ μ 243 k = 1) ∧ (∃ i : Nat, (i : Int) ≤ k ∧ wfP μ i) ∧ ∀ i : Nat, wfP μ i → (i : Int) ≤ k := by
  have h0 := X.n.1.1
  rcases hdR_p μ (μ 231 28).toNat with h | ⟨h, h1, h2, h3, h4⟩
  · have e : hd μ = -1 := h.1
    constructor
    · intro z; exact absurd e z.2.1
    · rintro ⟨-, ⟨i, i1, i2⟩, -⟩
      exact absurd ⟨i2.2.1, i2.2.2⟩ (h.2 i (by have := i2.1; omega))
  · have e : hd μ = h := h1
    constructor
    · intro z
      have hz := z.2.2
      refine ⟨z.1, ⟨h, by omega, by omega, h3.1, h3.2⟩, fun i hi => ?_⟩
      apply Classical.byContradiction
      intro y
      exact h4 i (by omega) (by have := hi.1; omega) ⟨hi.2.1, hi.2.2⟩
    · rintro ⟨z1, -, z3⟩
      exact ⟨z1, by omega, by rw [e]; exact z3 h ⟨by omega, h3.1, h3.2⟩⟩
theorem il_ok {F : Nat} {w : Int → Int} {T : Nat} {μ ν : St} (hF : 100 ≤ F) (X : MX w T μ ν) {k : Int} (hk : 0 ≤ k ∧ k < ν 231 28) : TT (f_X7_isLinked F 231 k T ν) (fun r => (r = 1 ∧ lkP μ k) ∨ (r = 0 ∧ ¬ lkP μ k)) := by
  obtain ⟨⟨n1, n2⟩, ⟨n3, n4⟩, n5⟩ := X.n
  have hst : ∀ i : Int, 0 ≤ i → i < ν 231 28 → f_X7_isWholeBy F 231 i T ν = some (if i < μ 231 28 ∧ μ 243 i = 1 then 1 else 0) := fun i i1 i2 => by
    rw [e_isWholeBy ⟨i1, by omega⟩]
    have := X.st (k := i) ⟨i1, i2⟩ (Or.inl rfl)
    by_cases z : i < μ 231 28 ∧ μ 243 i = 1
    · rw [if_pos z, if_pos (this.mpr z)]
    · rw [if_neg z, if_neg (fun y => z (this.mp y))]
  have hfl : ∀ i : Int, 0 ≤ i → i < μ 231 28 → ν 241 i = μ 241 i := fun i i1 i2 => (X.hs.fx i i1 i2).1
  have hkl := lk_iff X hk.1
  have loop : ∀ x : Int, (x = 0 ∨ x = 1) → (x = 1 ↔ wfP μ k) → (k < μ 231 28 ∧ μ 243 k = 1) → TT (f_X7_isLinked_L30 F 231 k T ν F x 0) (fun r => (r = 1 ∧ lkP μ k) ∨ (r = 0 ∧ ¬ lkP μ k)) := by
    intro x hx hx1 hkw
    refine lp_w (L := fun n (p : Int × Int) => f_X7_isLinked_L30 F 231 k T ν n p.1 p.2) (fun m p => ∃ j : Nat, p.2 = j ∧ (j : Int) + m = ν 231 28 ∧ (p.1 = 0 ∨ p.1 = 1) ∧ (p.1 = 1 ↔ (wfP μ k ∨ ∃ i : Nat, i < j ∧ wfP μ i)) ∧ ∀ i : Nat, i < j → wfP μ i → (i : Int) ≤ k) (fun m n p hI ih => ?_) (ν 231 28).toNat F (x, 0) (by omega) ⟨0, rfl, by omega, hx, ⟨fun z => Or.inl (hx1.mp z), fun z => z.elim hx1.mpr (fun ⟨i, hi, _⟩ => absurd hi (Nat.not_lt_zero i))⟩, fun i hi => absurd hi (Nat.not_lt_zero i)⟩
    obtain ⟨y, i⟩ := p
    dsimp only at hI ih ⊢
    obtain ⟨j, rfl, i2, i3, i4, i5⟩ := hI
    rw [f_X7_isLinked_L30]
    simp only [tt_gt, tt_sg, tt_ite, tt_ck, tt_lk, tt_ix, tt_bo, tt_by, tt_nz, tt_ob, tt_st, tt_cpk, tt_c1, tt_c2, tt_ca, tt_cb, tt_some, kd_231, kd_0, Nat.reduceAdd, true_and, and_true, true_implies, not_true_eq_false, false_implies, not_false_eq_true, true_or, or_true]
    refine ⟨fun z => And.intro i3 ?_, fun z => ?_⟩
    · have all : ∀ i : Nat, wfP μ i → (i : Int) ≤ k := fun i hi => i5 i (by have := hi.1; omega) hi
      have key : lkP μ k ↔ y = 1 := by
        rw [hkl, i4]
        constructor
        · rintro ⟨-, ⟨i, i6, i7⟩, -⟩
          exact Or.inr ⟨i, by have := i7.1; omega, i7⟩
        · intro u
          refine ⟨hkw, ?_, all⟩
          rcases u with u | ⟨i, i6, i7⟩
          · exact ⟨k.toNat, by omega, by rw [show ((k.toNat : Nat) : Int) = k by omega]; exact u⟩
          · exact ⟨i, all i i7, i7⟩
      rcases i3 with u | u
      · exact Or.inr ⟨u, fun v => by have := key.mp v; omega⟩
      · exact Or.inl ⟨u, key.mpr u⟩
    · rw [hst j (by omega) (by omega), tt_some]
      have skip : ¬ wfP μ j → TT (f_X7_isLinked_L30 F 231 k T ν n y ((j : Int) + 1)) (fun r => (r = 1 ∧ lkP μ k) ∨ (r = 0 ∧ ¬ lkP μ k)) := by
        intro hn
        refine ih (m - 1) (y, (j : Int) + 1) (by omega) ⟨j + 1, by dsimp only; omega, by omega, i3, ?_, ?_⟩
        · rw [i4]
          constructor
          · rintro (u | ⟨i, u1, u2⟩)
            · exact Or.inl u
            · exact Or.inr ⟨i, by omega, u2⟩
          · rintro (u | ⟨i, u1, u2⟩)
            · exact Or.inl u
            · refine Or.inr ⟨i, ?_, u2⟩
              by_cases v : i = j
              · rw [v] at u2; exact absurd u2 hn
              · omega
        · intro i u1 u2
          by_cases v : i = j
          · rw [v] at u2; exact absurd u2 hn
          · exact i5 i (by omega) u2
      refine ⟨fun z2 => And.intro (by omega) (skip (fun u => ?_)), fun z2 => ?_⟩
      · rw [if_pos ⟨u.1, u.2.1⟩] at z2; exact absurd z2 (by decide)
      · have hw : (j : Int) < μ 231 28 ∧ μ 243 j = 1 := Classical.byContradiction fun u => z2 (if_neg u)
        rw [hfl j (by omega) hw.1]
        refine And.intro (by omega) ⟨fun z3 => ⟨fun z4 => And.intro (by omega) (ih (m - 1) (1, (j : Int) + 1) (by omega) ⟨j + 1, by dsimp only; omega, by omega, Or.inr rfl, ⟨fun _ => Or.inr ⟨j, by omega, hw.1, hw.2, z3⟩, fun _ => rfl⟩, fun i u1 u2 => ?_⟩), fun z4 => ?_⟩, fun z3 => And.intro (by omega) (skip (fun u => z3 u.2.2))⟩
        · by_cases v : i = j
          · omega
          · exact i5 i (by omega) u2
        · exact Or.inr (fun u => z4 ((hkl.mp u).2.2 j ⟨hw.1, hw.2, z3⟩))
  unfold f_X7_isLinked
  simp only [tt_gt, tt_sg, tt_ite, tt_ck, tt_lk, tt_ix, tt_bo, tt_by, tt_nz, tt_ob, tt_st, tt_cpk, tt_c1, tt_c2, tt_ca, tt_cb, tt_some, kd_231, kd_0, Nat.reduceAdd, true_and, and_true, true_implies, not_true_eq_false, false_implies, not_false_eq_true, true_or, or_true]
  rw [hst k hk.1 hk.2, tt_some]
  refine ⟨fun z => ?_, fun z => ?_⟩
  · have hkw : k < μ 231 28 ∧ μ 243 k = 1 := Classical.byContradiction fun u => z (if_neg u)
    have hf := (X.m1.cp k hk.1 hkw.1).fl
    rw [hfl k hk.1 hkw.1]
    refine And.intro (by omega) ⟨fun z2 => loop 0 (Or.inl rfl) ⟨fun u => absurd u (by decide), fun u => ?_⟩ hkw, fun z2 => loop 1 (Or.inr rfl) ⟨fun _ => ⟨hkw.1, hkw.2, ?_⟩, fun _ => rfl⟩ hkw⟩
    · have := u.2.2
      omega
    · omega
  · have hkw : ¬ (k < μ 231 28 ∧ μ 243 k = 1) := fun u => by rw [if_pos u] at z; exact z (by decide)
    exact Or.inr (fun u => hkw u.1)
theorem lkN_hi {w : Int → Int} {T : Nat} {μ ν : St} (X : MX w T μ ν) : lkN μ (ν 231 28).toNat = lkN μ (μ 231 28).toNat := by
  obtain ⟨⟨n1, n2⟩, ⟨n3, n4⟩, n5⟩ := X.n
  exact sm_ext (m := (μ 231 28).toNat) _ (by omega) (fun i i1 i2 => lki_0 (fun z => by have := z.1.1; omega))
theorem ca_ok {F : Nat} {w : Int → Int} {T : Nat} {μ ν : St} (hF : 100 ≤ F) (X : MX w T μ ν) : TT (f_X7_chainAt F 231 T ν) (fun r => r = lkN μ (μ 231 28).toNat) := by
  obtain ⟨⟨n1, n2⟩, ⟨n3, n4⟩, n5⟩ := X.n
  rw [← lkN_hi X]
  unfold f_X7_chainAt
  simp only [tt_gt, tt_sg, tt_ite, tt_ck, tt_lk, tt_ix, tt_bo, tt_by, tt_nz, tt_ob, tt_st, tt_cpk, tt_c1, tt_c2, tt_ca, tt_cb, tt_some, kd_231, kd_0, Nat.reduceAdd, true_and, and_true, true_implies, not_true_eq_false, false_implies, not_false_eq_true, true_or, or_true]
  refine cnt (L := fun n x i => f_X7_chainAt_L4 F 231 T ν n x i) (ν 231 28).toNat (lki μ) (by omega) (fun n => ?_) (fun n i hi ht => ?_)
  · try dsimp only
    rw [f_X7_chainAt_L4]
    simp only [tt_gt, tt_sg, tt_ite, tt_ck, tt_lk, tt_ix, tt_bo, tt_by, tt_nz, tt_ob, tt_st, tt_cpk, tt_c1, tt_c2, tt_ca, tt_cb, tt_some, kd_231, kd_0, Nat.reduceAdd, true_and, and_true, true_implies, not_true_eq_false, false_implies, not_false_eq_true, true_or, or_true]
    exact ⟨fun _ => rfl, fun z => absurd z (by omega)⟩
  · have hr := lkN_rng μ i
    unfold lkN at hr
    try dsimp only at ht hr ⊢
    rw [f_X7_chainAt_L4]
    simp only [tt_gt, tt_sg, tt_ite, tt_ck, tt_lk, tt_ix, tt_bo, tt_by, tt_nz, tt_ob, tt_st, tt_cpk, tt_c1, tt_c2, tt_ca, tt_cb, tt_some, kd_231, kd_0, Nat.reduceAdd, true_and, and_true, true_implies, not_true_eq_false, false_implies, not_false_eq_true, true_or, or_true]
    refine ⟨fun z => absurd z (by omega), fun _ => (il_ok hF X (k := (i : Int)) ⟨by omega, by omega⟩).mono (fun r hr2 => ?_)⟩
    rcases hr2 with ⟨rfl, hr2⟩ | ⟨rfl, hr2⟩
    · rw [lki_1 hr2] at ht
      exact ⟨fun z => absurd z (by decide), fun _ => And.intro (by omega) (And.intro (by omega) ht)⟩
    · rw [lki_0 hr2] at ht
      exact ⟨fun _ => And.intro (by omega) (And.intro (by omega) ht), fun z => absurd rfl z⟩
theorem la_ok {F : Nat} {w : Int → Int} {T : Nat} {μ ν : St} {i : Int} (hF : 100 ≤ F) (X : MX w T μ ν) (hi : 0 ≤ i) : TT (f_X7_linkedAt F 231 T i ν) (NT μ i) := by
  obtain ⟨⟨n1, n2⟩, ⟨n3, n4⟩, n5⟩ := X.n
  unfold f_X7_linkedAt
  simp only [tt_gt, tt_sg, tt_ite, tt_ck, tt_lk, tt_ix, tt_bo, tt_by, tt_nz, tt_ob, tt_st, tt_cpk, tt_c1, tt_c2, tt_ca, tt_cb, tt_some, kd_231, kd_0, Nat.reduceAdd, true_and, and_true, true_implies, not_true_eq_false, false_implies, not_false_eq_true, true_or, or_true]
  refine lp_w (L := fun n (p : Int × Int) => f_X7_linkedAt_L5 F 231 T i ν n p.1 p.2) (fun m p => ∃ j : Nat, p.2 = j ∧ (j : Int) + m = ν 231 28 ∧ p.1 = lkN μ j ∧ p.1 ≤ i) (fun m n p hI ih => ?_) (ν 231 28).toNat F (0, 0) (by omega) ⟨0, rfl, by omega, rfl, hi⟩
  obtain ⟨x, y⟩ := p
  dsimp only at hI ih ⊢
  obtain ⟨j, rfl, i2, i3, i4⟩ := hI
  have hr := lkN_rng μ j
  rw [f_X7_linkedAt_L5]
  simp only [tt_gt, tt_sg, tt_ite, tt_ck, tt_lk, tt_ix, tt_bo, tt_by, tt_nz, tt_ob, tt_st, tt_cpk, tt_c1, tt_c2, tt_ca, tt_cb, tt_some, kd_231, kd_0, Nat.reduceAdd, true_and, and_true, true_implies, not_true_eq_false, false_implies, not_false_eq_true, true_or, or_true]
  refine ⟨fun z => ?_, fun z => (il_ok hF X (k := (j : Int)) ⟨by omega, by omega⟩).mono (fun r hr2 => ?_)⟩
  · refine Or.inl ⟨rfl, fun k k1 k2 k3 => ?_⟩
    have h1 := lkN_mono (μ := μ) (a := k + 1) j (by omega)
    rw [lkN_s, lki_1 k2] at h1
    omega
  · rcases hr2 with ⟨rfl, hr2⟩ | ⟨rfl, hr2⟩
    · refine ⟨fun _ => ⟨fun z2 => And.intro (by omega) (And.intro (by omega) (ih (m - 1) (_, _) (by omega) ⟨j + 1, by omega, by omega, ?_, by omega⟩)), fun z2 => Or.inr ⟨j, rfl, hr2.1.1, hr2, by omega⟩⟩, fun z => absurd (by decide) z⟩
      show x + 1 = _
      rw [lkN_s, lki_1 hr2, i3]
    · refine ⟨fun z2 => absurd rfl z2, fun _ => And.intro (by omega) (ih (m - 1) (_, _) (by omega) ⟨j + 1, by omega, by omega, ?_, i4⟩)⟩
      show x = _
      rw [lkN_s, lki_0 hr2, i3]; omega
theorem lkN_0 {μ : St} (h0 : 0 ≤ μ 231 28) : lkN μ (μ 231 28).toNat = 0 ↔ hd μ = -1 := by
  constructor
  · intro h
    rcases hd_rng h0 with z | ⟨k, z1, z2, z3⟩
    · exact z
    · have h1 := lkN_mono (μ := μ) (a := k + 1) (μ 231 28).toNat (by omega)
      have h2 := lkN_rng μ k
      rw [lkN_s, lki_1 z3] at h1
      omega
  · intro h
    exact lkN_lo _ (Or.inl h)
theorem lkN_top {μ : St} {k : Nat} (hk : (k : Int) < μ 231 28) (h1 : lkP μ k) (h2 : ∀ i : Nat, k < i → (i : Int) < μ 231 28 → ¬ μ 243 i = 1) : lkN μ k = lkN μ (μ 231 28).toNat - 1 := by
  have e1 : lkN μ (μ 231 28).toNat = lkN μ (k + 1) := sm_ext (m := k + 1) _ (by omega) (fun i i1 i2 => lki_0 (fun z => h2 i (by omega) (by omega) z.1.2))
  rw [e1, lkN_s, lki_1 h1]
  omega
theorem rf_ok {F : Nat} {w : Int → Int} {T : Nat} {μ ν : St} (hF : 100 ≤ F) (X : MX w T μ ν) : TT (f_X7_replayFrom F 231 T ν) (fun r => r = mkR μ) := by
  obtain ⟨⟨n1, n2⟩, ⟨n3, n4⟩, n5⟩ := X.n
  have hr := lkN_rng μ (μ 231 28).toNat
  unfold f_X7_replayFrom
  simp only [tt_ob, kd_231, true_and, tt_c1]
  refine (ca_ok hF X).mono (fun r hr1 => ?_)
  subst hr1
  simp only [tt_gt, tt_sg, tt_ite, tt_ck, tt_lk, tt_ix, tt_bo, tt_by, tt_nz, tt_ob, tt_st, tt_cpk, tt_c1, tt_c2, tt_ca, tt_cb, tt_some, kd_231, kd_0, Nat.reduceAdd, true_and, and_true, true_implies, not_true_eq_false, false_implies, not_false_eq_true, true_or, or_true]
  refine ⟨fun z => And.intro (by omega) ?_, fun z => ?_⟩
  · have hh : hd μ ≠ -1 := fun y => z ((lkN_0 n1).mpr y)
    obtain ⟨k, k1, k2, k3, k4⟩ := lw_p n1 hh
    refine (la_ok hF X (i := lkN μ (μ 231 28).toNat - 1) (by omega)).mono (fun r hr2 => ?_)
    have e1 := hr2.one (r' := (k : Int)) (Or.inr ⟨k, rfl, k2, k3, lkN_top k2 k3 k4⟩)
    subst e1
    refine And.intro (by omega) ?_
    unfold mkR
    rw [if_neg hh, k1]
    exact (X.hs.fx k (by omega) k2).2.1
  · unfold mkR
    rw [if_pos ((lkN_0 n1).mp (Classical.byContradiction z))]
theorem q_chain {F : Nat} {σ : St} {t : Int} (hF : 100 ≤ F) (h : GI F σ) : PP F (f_X6_chain F 0 t σ) (f_X7_chain F 231 t) := by
  have h60 := h.wf.ev60
  have hw0 : 0 ≤ σ 232 0 ∧ σ 232 0 ≤ 32 := ⟨h.wf.1.1, h.wf.1.2.1⟩
  have ht := e6_hasTick (F := F) (t := t) h.sc h.wf
  unfold PP f_X6_chain
  by_cases q : 0 < σ 232 5 ∧ 0 ≤ t ∧ t ≤ evN (σ 232)
  · rw [if_pos q] at ht
    simp only [tt_gt, tt_sg, tt_ite, tt_ck, tt_lk, tt_ix, tt_bo, tt_by, tt_nz, tt_ob, tt_st, tt_cpk, tt_c1, tt_c2, tt_ca, tt_cb, tt_some, kd_231, kd_0, Nat.reduceAdd, true_and, and_true, true_implies, not_true_eq_false, false_implies, not_false_eq_true, true_or, or_true, Nat.zero_add, ht, one0]
    obtain ⟨T, rfl⟩ : ∃ T : Nat, t = T := ⟨t.toNat, by omega⟩
    refine (h.play hF T q.2.2).mono (fun σ1 P1 => ?_)
    obtain ⟨⟨v, ν⟩, ha, hv, μ, X⟩ := P1.asksAt hF h (T : Int)
    dsimp only at hv X
    rw [if_pos q] at hv
    subst hv
    have n30 := X.m1.n30 (by omega)
    rw [e3_links hF (Or.inl rfl) X.cr n30, tt_some]
    unfold f_X7_chain
    simp only [tt_gt, tt_sg, tt_ite, tt_ck, tt_lk, tt_ix, tt_bo, tt_by, tt_nz, tt_ob, tt_st, tt_cpk, tt_c1, tt_c2, tt_ca, tt_cb, tt_some, kd_231, kd_0, Nat.reduceAdd, true_and, and_true, true_implies, not_true_eq_false, false_implies, not_false_eq_true, true_or, or_true, ha, one0]
    exact (ca_ok hF X.mx).mono (fun r hr => ⟨hr.symm, X.gi⟩)
  · rw [if_neg q] at ht
    simp only [tt_gt, tt_sg, tt_ite, tt_ck, tt_lk, tt_ix, tt_bo, tt_by, tt_nz, tt_ob, tt_st, tt_cpk, tt_c1, tt_c2, tt_ca, tt_cb, tt_some, kd_231, kd_0, Nat.reduceAdd, true_and, and_true, true_implies, not_true_eq_false, false_implies, not_false_eq_true, true_or, or_true, Nat.zero_add, ht, eq_self]
    obtain ⟨T0, P0⟩ := h.self
    obtain ⟨⟨v, ν⟩, ha, hv, μ, X⟩ := P0.asksAt hF h t
    dsimp only at hv X
    rw [if_neg q] at hv
    subst hv
    unfold f_X7_chain
    simp only [tt_gt, tt_sg, tt_ite, tt_ck, tt_lk, tt_ix, tt_bo, tt_by, tt_nz, tt_ob, tt_st, tt_cpk, tt_c1, tt_c2, tt_ca, tt_cb, tt_some, kd_231, kd_0, Nat.reduceAdd, true_and, and_true, true_implies, not_true_eq_false, false_implies, not_false_eq_true, true_or, or_true, ha, eq_self]
    exact X.gi
theorem q_linked {F : Nat} {σ : St} {t i : Int} (hF : 100 ≤ F) (h : GI F σ) (hi : iR i) : PP F (f_X6_linked F 0 t i σ) (f_X7_linked F 231 t i) := by
  have h60 := h.wf.ev60
  have ht := e6_hasTick (F := F) (t := t) h.sc h.wf
  unfold PP f_X6_linked
  by_cases q : 0 < σ 232 5 ∧ 0 ≤ t ∧ t ≤ evN (σ 232)
  · rw [if_pos q] at ht
    by_cases q2 : 0 ≤ i
    · simp only [tt_gt, tt_sg, tt_ite, tt_ck, tt_lk, tt_ix, tt_bo, tt_by, tt_nz, tt_ob, tt_st, tt_cpk, tt_c1, tt_c2, tt_ca, tt_cb, tt_some, kd_231, kd_0, Nat.reduceAdd, true_and, and_true, true_implies, not_true_eq_false, false_implies, not_false_eq_true, true_or, or_true, Nat.zero_add, ht, one0, q2]
      obtain ⟨T, rfl⟩ : ∃ T : Nat, t = T := ⟨t.toNat, by omega⟩
      refine (h.play hF T q.2.2).mono (fun σ1 P1 => ?_)
      obtain ⟨⟨v, ν⟩, ha, hv, μ, X⟩ := P1.asksAt hF h (T : Int)
      dsimp only at hv X
      rw [if_pos q] at hv
      subst hv
      have n30 := X.m1.n30 (by omega)
      refine (e3_link (F := F) hF (Or.inl rfl) X.cr n30 ⟨q2, by have := hi.2; omega⟩).mono (fun r hr => ?_)
      unfold f_X7_linked
      simp only [tt_gt, tt_sg, tt_ite, tt_ck, tt_lk, tt_ix, tt_bo, tt_by, tt_nz, tt_ob, tt_st, tt_cpk, tt_c1, tt_c2, tt_ca, tt_cb, tt_some, kd_231, kd_0, Nat.reduceAdd, true_and, and_true, true_implies, not_true_eq_false, false_implies, not_false_eq_true, true_or, or_true, ha, one0]
      exact ⟨fun z => absurd z (by omega), fun _ => (la_ok hF X.mx q2).mono (fun r' hr' => ⟨hr.one hr', X.gi⟩)⟩
    · simp only [tt_gt, tt_sg, tt_ite, tt_ck, tt_lk, tt_ix, tt_bo, tt_by, tt_nz, tt_ob, tt_st, tt_cpk, tt_c1, tt_c2, tt_ca, tt_cb, tt_some, kd_231, kd_0, Nat.reduceAdd, true_and, and_true, true_implies, not_true_eq_false, false_implies, not_false_eq_true, true_or, or_true, Nat.zero_add, ht, one0, q2]
      obtain ⟨T0, P0⟩ := h.self
      obtain ⟨⟨v, ν⟩, ha, hv, μ, X⟩ := P0.asksAt hF h t
      dsimp only at hv X
      rw [if_pos q] at hv
      subst hv
      unfold f_X7_linked
      simp only [tt_gt, tt_sg, tt_ite, tt_ck, tt_lk, tt_ix, tt_bo, tt_by, tt_nz, tt_ob, tt_st, tt_cpk, tt_c1, tt_c2, tt_ca, tt_cb, tt_some, kd_231, kd_0, Nat.reduceAdd, true_and, and_true, true_implies, not_true_eq_false, false_implies, not_false_eq_true, true_or, or_true, ha, one0, show i < 0 by omega, eq_self]
      exact X.gi
  · rw [if_neg q] at ht
    simp only [tt_gt, tt_sg, tt_ite, tt_ck, tt_lk, tt_ix, tt_bo, tt_by, tt_nz, tt_ob, tt_st, tt_cpk, tt_c1, tt_c2, tt_ca, tt_cb, tt_some, kd_231, kd_0, Nat.reduceAdd, true_and, and_true, true_implies, not_true_eq_false, false_implies, not_false_eq_true, true_or, or_true, Nat.zero_add, ht, eq_self]
    obtain ⟨T0, P0⟩ := h.self
    obtain ⟨⟨v, ν⟩, ha, hv, μ, X⟩ := P0.asksAt hF h t
    dsimp only at hv X
    rw [if_neg q] at hv
    subst hv
    unfold f_X7_linked
    simp only [tt_gt, tt_sg, tt_ite, tt_ck, tt_lk, tt_ix, tt_bo, tt_by, tt_nz, tt_ob, tt_st, tt_cpk, tt_c1, tt_c2, tt_ca, tt_cb, tt_some, kd_231, kd_0, Nat.reduceAdd, true_and, and_true, true_implies, not_true_eq_false, false_implies, not_false_eq_true, true_or, or_true, ha, eq_self]
    exact X.gi
theorem q_age {F : Nat} {σ : St} {t : Int} (hF : 100 ≤ F) (h : GI F σ) : PP F (f_X6_age F 0 t σ) (f_X7_age F 231 t) := by
  have h60 := h.wf.ev60
  have hw0 : 0 ≤ σ 232 0 ∧ σ 232 0 ≤ 32 := ⟨h.wf.1.1, h.wf.1.2.1⟩
  have ht := e6_hasTick (F := F) (t := t) h.sc h.wf
  unfold PP f_X6_age
  by_cases q : 0 < σ 232 5 ∧ 0 ≤ t ∧ t ≤ evN (σ 232)
  · rw [if_pos q] at ht
    simp only [tt_gt, tt_sg, tt_ite, tt_ck, tt_lk, tt_ix, tt_bo, tt_by, tt_nz, tt_ob, tt_st, tt_cpk, tt_c1, tt_c2, tt_ca, tt_cb, tt_some, kd_231, kd_0, Nat.reduceAdd, true_and, and_true, true_implies, not_true_eq_false, false_implies, not_false_eq_true, true_or, or_true, Nat.zero_add, ht, one0]
    obtain ⟨T, rfl⟩ : ∃ T : Nat, t = T := ⟨t.toNat, by omega⟩
    refine (h.play hF T q.2.2).mono (fun σ1 P1 => ?_)
    obtain ⟨⟨v, ν⟩, ha, hv, μ, X⟩ := P1.asksAt hF h (T : Int)
    dsimp only at hv X
    rw [if_pos q] at hv
    subst hv
    have n30 := X.m1.n30 (by omega)
    have hm := mk_le X.m1
    rw [e3_mark hF (Or.inl rfl) X.cr n30, tt_some]
    refine And.intro (by omega) ?_
    unfold f_X7_age
    simp only [tt_gt, tt_sg, tt_ite, tt_ck, tt_lk, tt_ix, tt_bo, tt_by, tt_nz, tt_ob, tt_st, tt_cpk, tt_c1, tt_c2, tt_ca, tt_cb, tt_some, kd_231, kd_0, Nat.reduceAdd, true_and, and_true, true_implies, not_true_eq_false, false_implies, not_false_eq_true, true_or, or_true, ha, one0]
    refine (rf_ok hF X.mx).mono (fun r hr => ?_)
    rw [hr]
    exact ⟨by omega, rfl, X.gi⟩
  · rw [if_neg q] at ht
    simp only [tt_gt, tt_sg, tt_ite, tt_ck, tt_lk, tt_ix, tt_bo, tt_by, tt_nz, tt_ob, tt_st, tt_cpk, tt_c1, tt_c2, tt_ca, tt_cb, tt_some, kd_231, kd_0, Nat.reduceAdd, true_and, and_true, true_implies, not_true_eq_false, false_implies, not_false_eq_true, true_or, or_true, Nat.zero_add, ht, eq_self]
    obtain ⟨T0, P0⟩ := h.self
    obtain ⟨⟨v, ν⟩, ha, hv, μ, X⟩ := P0.asksAt hF h t
    dsimp only at hv X
    rw [if_neg q] at hv
    subst hv
    unfold f_X7_age
    simp only [tt_gt, tt_sg, tt_ite, tt_ck, tt_lk, tt_ix, tt_bo, tt_by, tt_nz, tt_ob, tt_st, tt_cpk, tt_c1, tt_c2, tt_ca, tt_cb, tt_some, kd_231, kd_0, Nat.reduceAdd, true_and, and_true, true_implies, not_true_eq_false, false_implies, not_false_eq_true, true_or, or_true, ha, eq_self]
    exact X.gi
def cmN (w : Int → Int) : Nat → Int := sm (fun e => if w (6 + 4 * (e : Int)) < 4 then 1 else 0)
theorem cmN_rng (w : Int → Int) (n : Nat) : 0 ≤ cmN w n ∧ cmN w n ≤ n := by
  have := sm_rng (f := fun e => if w (6 + 4 * (e : Int)) < 4 then 1 else 0) (M := 1) n (fun i _ => by split <;> omega)
  unfold cmN
  omega
theorem q_replays {F : Nat} {σ : St} {t : Int} (hF : 100 ≤ F) (h : GI F σ) : PP F (f_X6_replays F 0 t σ) (f_X7_replays F 231 t) := by
  have h60 := h.wf.ev60
  have hw0 : 0 ≤ σ 232 0 ∧ σ 232 0 ≤ 32 := ⟨h.wf.1.1, h.wf.1.2.1⟩
  have ht := e6_hasTick (F := F) (t := t) h.sc h.wf
  unfold PP f_X6_replays
  by_cases q : 0 < σ 232 5 ∧ 0 ≤ t ∧ t ≤ evN (σ 232)
  · rw [if_pos q] at ht
    simp only [tt_gt, tt_sg, tt_ite, tt_ck, tt_lk, tt_ix, tt_bo, tt_by, tt_nz, tt_ob, tt_st, tt_cpk, tt_c1, tt_c2, tt_ca, tt_cb, tt_some, kd_231, kd_0, Nat.reduceAdd, true_and, and_true, true_implies, not_true_eq_false, false_implies, not_false_eq_true, true_or, or_true, Nat.zero_add, ht, one0]
    obtain ⟨T, rfl⟩ : ∃ T : Nat, t = T := ⟨t.toNat, by omega⟩
    refine (h.play hF T q.2.2).mono (fun σ1 P1 => ?_)
    obtain ⟨⟨v, ν⟩, ha, hv, μ, X⟩ := P1.asksAt hF h (T : Int)
    dsimp only at hv X
    rw [if_pos q] at hv
    subst hv
    have n30 := X.m1.n30 (by omega)
    have hm := mk_le X.m1
    obtain ⟨a, ea⟩ : ∃ a : Nat, mkR μ = a := ⟨(mkR μ).toNat, by omega⟩
    rw [e3_mark hF (Or.inl rfl) X.cr n30, tt_some, ea]
    have mo : TT (f_X7_replays F 231 T σ1) (fun r' => cmN (σ 232) T - cmN (σ 232) a = r'.1 ∧ GI F r'.2) := by
      unfold f_X7_replays
      simp only [tt_gt, tt_sg, tt_ite, tt_ck, tt_lk, tt_ix, tt_bo, tt_by, tt_nz, tt_ob, tt_st, tt_cpk, tt_c1, tt_c2, tt_ca, tt_cb, tt_some, kd_231, kd_0, Nat.reduceAdd, true_and, and_true, true_implies, not_true_eq_false, false_implies, not_false_eq_true, true_or, or_true, ha, one0]
      refine (rf_ok hF X.mx).mono (fun r hr => ?_)
      rw [hr, ea]
      refine lp_w (L := fun n (p : Int × Int) => f_X7_replays_L19 F 231 T n p.1 p.2 ν) (fun m p => ∃ j : Nat, p.2 = j ∧ j + m = T ∧ p.1 = cmN (σ 232) j - cmN (σ 232) a) (fun m n p hI ih => ?_) (T - a) F (0, (a : Int)) (by omega) ⟨a, rfl, by omega, by dsimp only; omega⟩
      obtain ⟨x, y⟩ := p
      dsimp only at hI ih ⊢
      obtain ⟨j, rfl, i2, i3⟩ := hI
      have r1 := cmN_rng (σ 232) j
      have r2 := cmN_rng (σ 232) a
      rw [f_X7_replays_L19]
      simp only [tt_gt, tt_sg, tt_ite, tt_ck, tt_lk, tt_ix, tt_bo, tt_by, tt_nz, tt_ob, tt_st, tt_cpk, tt_c1, tt_c2, tt_ca, tt_cb, tt_some, kd_231, kd_0, Nat.reduceAdd, true_and, and_true, true_implies, not_true_eq_false, false_implies, not_false_eq_true, true_or, or_true]
      refine ⟨fun z => ⟨by rw [i3, show j = T by omega], X.gi⟩, fun z => ?_⟩
      rw [e_isCommand (F := F) (σ := ν) ⟨by omega, by omega⟩, tt_some, X.w2]
      refine ⟨fun z2 => And.intro (by omega) (And.intro (by omega) (ih (m - 1) (_, _) (by omega) ⟨j + 1, by omega, by omega, ?_⟩)), fun z2 => And.intro (by omega) (And.intro (by omega) (ih (m - 1) (_, _) (by omega) ⟨j + 1, by omega, by omega, ?_⟩))⟩
      · show x + 0 = sm _ (j + 1) - _
        rw [sm, z2, i3]
        unfold cmN
        omega
      · have : (if σ 232 (6 + 4 * (j : Int)) < 4 then (1 : Int) else 0) = 1 := by split at z2 <;> simp_all
        show x + 1 = sm _ (j + 1) - _
        rw [sm, this, i3]
        unfold cmN
        omega
    refine lp_w (L := fun n (p : Int × Int) => f_X6_replays_L26 F 0 T n p.1 p.2 σ1) (fun m p => ∃ j : Nat, p.2 = j ∧ j + m = T ∧ p.1 = cmN (σ 232) j - cmN (σ 232) a) (fun m n p hI ih => ?_) (T - a) F (0, (a : Int)) (by omega) ⟨a, rfl, by omega, by dsimp only; omega⟩
    obtain ⟨x, y⟩ := p
    dsimp only at hI ih ⊢
    obtain ⟨j, rfl, i2, i3⟩ := hI
    have r1 := cmN_rng (σ 232) j
    have r2 := cmN_rng (σ 232) a
    rw [f_X6_replays_L26]
    simp only [tt_gt, tt_sg, tt_ite, tt_ck, tt_lk, tt_ix, tt_bo, tt_by, tt_nz, tt_ob, tt_st, tt_cpk, tt_c1, tt_c2, tt_ca, tt_cb, tt_some, kd_231, kd_0, Nat.reduceAdd, true_and, and_true, true_implies, not_true_eq_false, false_implies, not_false_eq_true, true_or, or_true, Nat.zero_add]
    refine ⟨fun z => by rw [i3, show j = T by omega]; exact mo, fun z => ?_⟩
    rw [e4_isCommand (F := F) (s := 4) (e := (j : Int)) rfl X.sr X.wf ⟨by omega, by omega⟩, tt_some]
    refine ⟨fun z2 => And.intro (by omega) (ih (m - 1) (_, _) (by omega) ⟨j + 1, by omega, by omega, ?_⟩), fun z2 => And.intro (by omega) (And.intro (by omega) (ih (m - 1) (_, _) (by omega) ⟨j + 1, by omega, by omega, ?_⟩))⟩
    · show x = sm _ (j + 1) - _
      rw [sm, z2, i3]
      unfold cmN
      omega
    · have : (if σ 232 (6 + 4 * (j : Int)) < 4 then (1 : Int) else 0) = 1 := by split at z2 <;> simp_all
      show x + 1 = sm _ (j + 1) - _
      rw [sm, this, i3]
      unfold cmN
      omega
  · rw [if_neg q] at ht
    simp only [tt_gt, tt_sg, tt_ite, tt_ck, tt_lk, tt_ix, tt_bo, tt_by, tt_nz, tt_ob, tt_st, tt_cpk, tt_c1, tt_c2, tt_ca, tt_cb, tt_some, kd_231, kd_0, Nat.reduceAdd, true_and, and_true, true_implies, not_true_eq_false, false_implies, not_false_eq_true, true_or, or_true, Nat.zero_add, ht, eq_self]
    obtain ⟨T0, P0⟩ := h.self
    obtain ⟨⟨v, ν⟩, ha, hv, μ, X⟩ := P0.asksAt hF h t
    dsimp only at hv X
    rw [if_neg q] at hv
    subst hv
    unfold f_X7_replays
    simp only [tt_gt, tt_sg, tt_ite, tt_ck, tt_lk, tt_ix, tt_bo, tt_by, tt_nz, tt_ob, tt_st, tt_cpk, tt_c1, tt_c2, tt_ca, tt_cb, tt_some, kd_231, kd_0, Nat.reduceAdd, true_and, and_true, true_implies, not_true_eq_false, false_implies, not_false_eq_true, true_or, or_true, ha, eq_self]
    exact X.gi
