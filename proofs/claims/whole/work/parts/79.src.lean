abbrev inP (μ : St) (c : Int) (k : Nat) : Prop := lkP μ k ∧ μ 248 (32 * (k : Int) + c) ≠ -1
def scR (μ : St) (c : Int) : Nat → Int
  | 0 => -1
  | m + 1 => if inP μ c m then m else scR μ c m
def soR (μ : St) (c : Int) : Int := scR μ c (μ 231 28).toNat
theorem scR_p (μ : St) (c : Int) : ∀ m : Nat, (scR μ c m = -1 ∧ ∀ i : Nat, i < m → ¬ inP μ c i) ∨ (∃ h : Nat, scR μ c m = h ∧ h < m ∧ inP μ c h ∧ ∀ i : Nat, h < i → i < m → ¬ inP μ c i)
  | 0 => Or.inl ⟨rfl, fun i h => absurd h (Nat.not_lt_zero i)⟩
  | m + 1 => by
    rw [scR]
    by_cases q : inP μ c m
    · rw [if_pos q]
      exact Or.inr ⟨m, rfl, by omega, q, fun i h1 h2 => absurd h2 (by omega)⟩
    · rw [if_neg q]
      rcases scR_p μ c m with h | ⟨h, h1, h2, h3, h4⟩
      · refine Or.inl ⟨h.1, fun i hi => ?_⟩
        by_cases z : i = m
        · rw [z]; exact q
        · exact h.2 i (by omega)
      · refine Or.inr ⟨h, h1, by omega, h3, fun i i1 i2 => ?_⟩
        by_cases z : i = m
        · rw [z]; exact q
        · exact h4 i i1 (by omega)
theorem scR_gap {μ : St} {c : Int} {a : Nat} : ∀ m : Nat, a ≤ m → (∀ k : Nat, a ≤ k → k < m → ¬ inP μ c k) → scR μ c m = scR μ c a
  | 0, h, _ => by rw [show a = 0 by omega]
  | m + 1, h, h2 => by
    by_cases q : a = m + 1
    · rw [q]
    · rw [scR, if_neg (h2 m (by omega) (by omega))]
      exact scR_gap m (by omega) (fun k k1 k2 => h2 k k1 (by omega))
theorem e3_source {F b : Nat} {w0 l : Int} {t : Nat} {μ σ1 : St} {c : Int} (hF : 100 ≤ F) (hb : b = 12 ∨ b = 110) (hC : RunR b w0 l t μ σ1) (h30 : 0 ≤ μ 231 28 ∧ μ 231 28 ≤ 30) (hc : 0 ≤ c ∧ c < 32) : f_X3_sourceOf F b c σ1 = some (soR μ c) := by
  have hcn := hC.cn
  have lo : ∀ m : Nat, (hd μ = -1 ∨ (m : Int) ≤ hd μ) → scR μ c m = -1 := fun m hm => scR_gap (a := 0) m (by omega) (fun k _ k2 z => by have := z.1.2; omega)
  have loop : ∀ (m n : Nat), m < n → (m : Int) ≤ μ 231 28 → f_X3_sourceOf_L12 F b c σ1 n (hd μ) ((m : Int) - 1) = some (scR μ c m) := by
    intro m
    induction m with
    | zero =>
      intro n hn _
      obtain ⟨n, rfl⟩ : ∃ k, n = k + 1 := ⟨n - 1, by omega⟩
      apply TT.eq
      rw [f_X3_sourceOf_L12]
      simp only [tt_gt, tt_sg, tt_ite, tt_ck, tt_lk, tt_ix, tt_bo, tt_by, tt_nz, tt_ob, tt_st, tt_cpk, tt_c1, tt_c2, tt_ca, tt_cb, tt_some, kd_231, kd_0, Nat.reduceAdd, true_and, and_true, true_implies, not_true_eq_false, false_implies, not_false_eq_true, true_or, or_true]
      refine ⟨fun _ => rfl, fun z => ⟨fun _ => rfl, fun z2 => absurd ?_ z2⟩⟩
      rcases hd_rng h30.1 with y | ⟨k, y1, y2, y3⟩
      · exact absurd y z
      · omega
    | succ m ih =>
      intro n hn hm
      obtain ⟨n, rfl⟩ : ∃ k, n = k + 1 := ⟨n - 1, by omega⟩
      have e1 := ih n (by omega) (by omega)
      have e2 := (hC.cc m (by omega) (by omega)).hd c hc.1 hc.2
      rw [Int.toNat_natCast] at e2
      apply TT.eq
      rw [f_X3_sourceOf_L12, show ((m + 1 : Nat) : Int) - 1 = (m : Int) by omega]
      simp only [tt_gt, tt_sg, tt_ite, tt_ck, tt_lk, tt_ix, tt_bo, tt_by, tt_nz, tt_ob, tt_st, tt_cpk, tt_c1, tt_c2, tt_ca, tt_cb, tt_some, kd_231, kd_0, Nat.reduceAdd, true_and, and_true, true_implies, not_true_eq_false, false_implies, not_false_eq_true, true_or, or_true, e3_isWhole (F := F) (k := (m : Int)) hb hC h30.2 ⟨by omega, by omega⟩, Int.toNat_natCast, e6_holds]
      have back : ¬ inP μ c m → TT (f_X3_sourceOf_L12 F b c σ1 n (hd μ) ((m : Int) + -1)) (fun x => x = scR μ c (m + 1)) := fun y => by
        rw [show (m : Int) + -1 = (m : Int) - 1 by omega, e1, tt_some, scR, if_neg y]
      refine ⟨fun z => (lo _ (Or.inl z)).symm, fun z => ⟨fun z2 => (lo (m + 1) (Or.inr (by omega))).symm, fun z2 => ⟨fun z3 => And.intro (by omega) (back (fun y => ?_)), fun z3 => And.intro (by omega) ⟨fun z4 => And.intro (by omega) (back (fun y => ?_)), fun z4 => ?_⟩⟩⟩⟩
      · rw [if_pos y.1.1.2] at z3; exact absurd z3 (by decide)
      · rw [if_pos (e2.mpr y.2)] at z4; exact absurd z4 (by decide)
      · have h1 : μ 243 m = 1 := Classical.byContradiction fun y => z3 (if_neg y)
        have h2 : bt (σ1 (b + 7 + 1 + 3 * m) 5) c := Classical.byContradiction fun y => z4 (if_neg y)
        rw [scR, if_pos ⟨(lk_wh z (by omega) (by omega)).mpr h1, e2.mp h2⟩]
  apply TT.eq
  unfold f_X3_sourceOf
  simp only [tt_gt, tt_sg, tt_ite, tt_ck, tt_lk, tt_ix, tt_bo, tt_by, tt_nz, tt_ob, tt_st, tt_cpk, tt_c1, tt_c2, tt_ca, tt_cb, tt_some, kd_231, kd_0, Nat.reduceAdd, true_and, and_true, true_implies, not_true_eq_false, false_implies, not_false_eq_true, true_or, or_true, (kd_run hb).1, e3_head hF hb hC h30, hcn]
  refine And.intro (by omega) ?_
  have := loop (μ 231 28).toNat F (by omega) (by omega)
  rw [show (((μ 231 28).toNat : Nat) : Int) = μ 231 28 by omega] at this
  rw [this, tt_some]
  rfl
theorem lk_kb {w : Int → Int} {T : Nat} {μ ν : St} (X : MX w T μ ν) {k : Nat} (hk : lkP μ k) {c : Int} (hc : 0 ≤ c ∧ c < 32) : ν 248 (32 * (k : Int) + c) = μ 248 (32 * (k : Int) + c) := by
  rcases X.hs.kb k (by omega) hk.1.1 c hc.1 hc.2 with z | z
  · exact z.1
  · rcases (X.m1.cp k (by omega) hk.1.1).st with y | y
    · have := hk.1.2
      omega
    · exact absurd z.2.1 y.1
theorem lkN_ex {μ : St} {i : Int} (hi : 0 ≤ i) : ∀ m : Nat, i < lkN μ m → ∃ k : Nat, k < m ∧ lkP μ k ∧ lkN μ k = i
  | 0, h => by have : lkN μ 0 = 0 := rfl; omega
  | m + 1, h => by
    by_cases q : i < lkN μ m
    · obtain ⟨k, k1, k2, k3⟩ := lkN_ex hi m q
      exact ⟨k, by omega, k2, k3⟩
    · rw [lkN_s] at h
      by_cases z : lkP μ m
      · rw [lki_1 z] at h
        exact ⟨m, by omega, z, by omega⟩
      · rw [lki_0 z] at h
        omega
theorem sa_ok {F : Nat} {w : Int → Int} {T : Nat} {μ ν : St} {c : Int} (hF : 100 ≤ F) (X : MX w T μ ν) (hc : 0 ≤ c ∧ c < 32) : TT (f_X7_sourceAt F 231 c T ν) (fun r => r = soR μ c) := by
  obtain ⟨⟨n1, n2⟩, ⟨n3, n4⟩, n5⟩ := X.n
  have hr := lkN_rng μ (μ 231 28).toNat
  unfold f_X7_sourceAt
  simp only [tt_ob, kd_231, true_and, tt_c1]
  refine (ca_ok hF X).mono (fun r hr1 => ?_)
  subst hr1
  simp only [tt_gt, tt_sg, tt_ite, tt_ck, tt_lk, tt_ix, tt_bo, tt_by, tt_nz, tt_ob, tt_st, tt_cpk, tt_c1, tt_c2, tt_ca, tt_cb, tt_some, kd_231, kd_0, Nat.reduceAdd, true_and, and_true, true_implies, not_true_eq_false, false_implies, not_false_eq_true, true_or, or_true]
  refine And.intro (by omega) ?_
  refine lp_w (L := fun n (p : Int) => f_X7_sourceAt_L8 F 231 c T ν n p) (fun m p => p + 1 = m ∧ ∃ a : Nat, (a : Int) ≤ μ 231 28 ∧ lkN μ a = p + 1 ∧ soR μ c = scR μ c a) (fun m n p hI ih => ?_) (lkN μ (μ 231 28).toNat).toNat F (lkN μ (μ 231 28).toNat - 1) (by omega) ⟨by omega, (μ 231 28).toNat, by omega, by omega, rfl⟩
  obtain ⟨i1, a, i2, i3, i4⟩ := hI
  rw [f_X7_sourceAt_L8]
  simp only [tt_gt, tt_sg, tt_ite, tt_ck, tt_lk, tt_ix, tt_bo, tt_by, tt_nz, tt_ob, tt_st, tt_cpk, tt_c1, tt_c2, tt_ca, tt_cb, tt_some, kd_231, kd_0, Nat.reduceAdd, true_and, and_true, true_implies, not_true_eq_false, false_implies, not_false_eq_true, true_or, or_true]
  refine ⟨fun z => ?_, fun z => (la_ok hF X (i := p) (by omega)).mono (fun r hr2 => ?_)⟩
  · rw [i4]
    refine (scR_gap (a := 0) a (by omega) (fun k _ k2 y => ?_)).symm
    have h1 := lkN_mono (μ := μ) (a := k + 1) a (by omega)
    have h2 := lkN_rng μ k
    rw [lkN_s, lki_1 y.1] at h1
    omega
  · obtain ⟨k, k1, k2, k3⟩ := lkN_ex (μ := μ) (i := p) (by omega) a (by omega)
    have e1 := hr2.one (r' := (k : Int)) (Or.inr ⟨k, rfl, k2.1.1, k2, k3⟩)
    subst e1
    have hk30 := k2.1.1
    have hkr := lkN_rng μ k
    have gap : scR μ c a = scR μ c (k + 1) := scR_gap a (by omega) (fun j j1 j2 y => by
      have h1 := lkN_mono (μ := μ) (a := k + 1) j (by omega)
      have h2 := lkN_mono (μ := μ) (a := j + 1) a (by omega)
      rw [lkN_s, lki_1 k2] at h1
      rw [lkN_s, lki_1 y.1] at h2
      omega)
    rw [lk_kb X k2 hc]
    refine And.intro (by omega) (And.intro (by omega) (And.intro (by omega) ⟨fun z2 => And.intro (by omega) (ih (m - 1) (p + -1) (by omega) ⟨by omega, k, by omega, by omega, ?_⟩), fun z2 => ?_⟩))
    · rw [i4, gap, scR, if_neg (fun y => y.2 z2)]
    · rw [i4, gap, scR, if_pos ⟨k2, z2⟩]
theorem q_source {F : Nat} {σ : St} {c t : Int} (hF : 100 ≤ F) (h : GI F σ) : PP F (f_X6_source F 0 c t σ) (f_X7_source F 231 c t) := by
  have h60 := h.wf.ev60
  have hw0 : 0 ≤ σ 232 0 ∧ σ 232 0 ≤ 32 := ⟨h.wf.1.1, h.wf.1.2.1⟩
  have hc := e6_hasCell (F := F) (c := c) h.sc
  have ht := e6_hasTick (F := F) (t := t) h.sc h.wf
  unfold PP f_X6_source
  by_cases q : (0 ≤ c ∧ c < σ 232 0) ∧ 0 < σ 232 5 ∧ 0 ≤ t ∧ t ≤ evN (σ 232)
  · rw [if_pos q.1] at hc
    rw [if_pos q.2] at ht
    simp only [tt_gt, tt_sg, tt_ite, tt_ck, tt_lk, tt_ix, tt_bo, tt_by, tt_nz, tt_ob, tt_st, tt_cpk, tt_c1, tt_c2, tt_ca, tt_cb, tt_some, kd_231, kd_0, Nat.reduceAdd, true_and, and_true, true_implies, not_true_eq_false, false_implies, not_false_eq_true, true_or, or_true, Nat.zero_add, hc, ht, one0]
    obtain ⟨T, rfl⟩ : ∃ T : Nat, t = T := ⟨t.toNat, by omega⟩
    refine (h.play hF T q.2.2.2).mono (fun σ1 P1 => ?_)
    obtain ⟨⟨v, ν⟩, ha, hv, μ, X⟩ := P1.asksCell hF h c (T : Int)
    dsimp only at hv X
    rw [if_pos q] at hv
    subst hv
    have qc := q.1
    have n30 := X.m1.n30 (by omega)
    rw [e3_source hF (Or.inl rfl) X.cr n30 ⟨qc.1, by omega⟩, tt_some]
    unfold f_X7_source
    simp only [tt_gt, tt_sg, tt_ite, tt_ck, tt_lk, tt_ix, tt_bo, tt_by, tt_nz, tt_ob, tt_st, tt_cpk, tt_c1, tt_c2, tt_ca, tt_cb, tt_some, kd_231, kd_0, Nat.reduceAdd, true_and, and_true, true_implies, not_true_eq_false, false_implies, not_false_eq_true, true_or, or_true, ha, one0]
    exact (sa_ok hF X.mx ⟨qc.1, by omega⟩).mono (fun r hr => ⟨hr.symm, X.gi⟩)
  · by_cases q1 : 0 ≤ c ∧ c < σ 232 0
    · rw [if_pos q1] at hc
      rw [if_neg (fun z => q ⟨q1, z⟩)] at ht
      simp only [tt_gt, tt_sg, tt_ite, tt_ck, tt_lk, tt_ix, tt_bo, tt_by, tt_nz, tt_ob, tt_st, tt_cpk, tt_c1, tt_c2, tt_ca, tt_cb, tt_some, kd_231, kd_0, Nat.reduceAdd, true_and, and_true, true_implies, not_true_eq_false, false_implies, not_false_eq_true, true_or, or_true, Nat.zero_add, hc, ht, one0, eq_self]
      obtain ⟨T0, P0⟩ := h.self
      obtain ⟨⟨v, ν⟩, ha, hv, μ, X⟩ := P0.asksCell hF h c t
      dsimp only at hv X
      rw [if_neg q] at hv
      subst hv
      unfold f_X7_source
      simp only [tt_gt, tt_sg, tt_ite, tt_ck, tt_lk, tt_ix, tt_bo, tt_by, tt_nz, tt_ob, tt_st, tt_cpk, tt_c1, tt_c2, tt_ca, tt_cb, tt_some, kd_231, kd_0, Nat.reduceAdd, true_and, and_true, true_implies, not_true_eq_false, false_implies, not_false_eq_true, true_or, or_true, ha, eq_self]
      exact X.gi
    · rw [if_neg q1] at hc
      simp only [tt_gt, tt_sg, tt_ite, tt_ck, tt_lk, tt_ix, tt_bo, tt_by, tt_nz, tt_ob, tt_st, tt_cpk, tt_c1, tt_c2, tt_ca, tt_cb, tt_some, kd_231, kd_0, Nat.reduceAdd, true_and, and_true, true_implies, not_true_eq_false, false_implies, not_false_eq_true, true_or, or_true, Nat.zero_add, hc, eq_self]
      obtain ⟨T0, P0⟩ := h.self
      obtain ⟨⟨v, ν⟩, ha, hv, μ, X⟩ := P0.asksCell hF h c t
      dsimp only at hv X
      rw [if_neg q] at hv
      subst hv
      unfold f_X7_source
      simp only [tt_gt, tt_sg, tt_ite, tt_ck, tt_lk, tt_ix, tt_bo, tt_by, tt_nz, tt_ob, tt_st, tt_cpk, tt_c1, tt_c2, tt_ca, tt_cb, tt_some, kd_231, kd_0, Nat.reduceAdd, true_and, and_true, true_implies, not_true_eq_false, false_implies, not_false_eq_true, true_or, or_true, ha, eq_self]
      exact X.gi
def rsR (μ : St) (c : Int) : Int := if soR μ c = -1 then 0 else μ 239 (32 * μ 242 (soR μ c) + c)
theorem so_p {μ : St} {c : Int} (h0 : 0 ≤ μ 231 28) (h : soR μ c ≠ -1) : ∃ k : Nat, soR μ c = k ∧ (k : Int) < μ 231 28 ∧ inP μ c k := by
  rcases scR_p μ c (μ 231 28).toNat with z | ⟨k, z1, z2, z3, z4⟩
  · exact absurd z.1 h
  · exact ⟨k, z1, by omega, z3⟩
theorem e3_raised {F b : Nat} {w0 l : Int} {t : Nat} {μ σ1 : St} {c : Int} (hF : 100 ≤ F) (hb : b = 12 ∨ b = 110) (hC : RunR b w0 l t μ σ1) (h30 : 0 ≤ μ 231 28 ∧ μ 231 28 ≤ 30) (hc : 0 ≤ c ∧ c < 32) : f_X3_raisedCell F b c σ1 = some (rsR μ c) := by
  have hcn := hC.cn
  apply TT.eq
  unfold f_X3_raisedCell rsR
  simp only [tt_gt, tt_sg, tt_ite, tt_ck, tt_lk, tt_ix, tt_bo, tt_by, tt_nz, tt_ob, tt_st, tt_cpk, tt_c1, tt_c2, tt_ca, tt_cb, tt_some, kd_231, kd_0, Nat.reduceAdd, true_and, and_true, true_implies, not_true_eq_false, false_implies, not_false_eq_true, true_or, or_true, (kd_run hb).1, e3_source hF hb hC h30 hc]
  by_cases q : soR μ c = -1
  · rw [q, copyOf_no (F := F) (b := b) (σ := σ1) (k := -1) (kd_run hb).1 (by omega), tt_some]
    dsimp only
    rw [if_pos rfl]
  · obtain ⟨k, k1, k2, k3⟩ := so_p h30.1 q
    have hK := kd_cpb hb (k := (k : Int)) ⟨by omega, by omega⟩
    have e1 := (hC.cc k (by omega) k2).ct c hc.1 hc.2 k3.2
    rw [if_neg q, k1, copyOf_ok (F := F) (b := b) (σ := σ1) (k := (k : Int)) (kd_run hb).1 (by omega) (by omega), tt_some]
    dsimp only
    unfold f_X1_contentOf
    simp only [tt_gt, tt_sg, tt_ite, tt_ck, tt_lk, tt_ix, tt_bo, tt_by, tt_nz, tt_ob, tt_st, tt_cpk, tt_c1, tt_c2, tt_ca, tt_cb, tt_some, kd_231, kd_0, Nat.reduceAdd, true_and, and_true, true_implies, not_true_eq_false, false_implies, not_false_eq_true, true_or, or_true, hK]
    refine ⟨fun z => absurd z (by omega), fun _ => ⟨fun z => absurd z (by omega), fun _ => And.intro (by omega) e1⟩⟩
theorem rs_val {w : Int → Int} {T : Nat} {μ ν : St} (X : MX w T μ ν) {c : Int} (hc : 0 ≤ c ∧ c < 32) : 0 ≤ rsR μ c ∧ rsR μ c ≤ 255 := by
  have n1 := X.n.1
  unfold rsR
  by_cases q : soR μ c = -1
  · rw [if_pos q]; omega
  · obtain ⟨k, k1, k2, k3⟩ := so_p n1.1 q
    have hm := (X.m1.cp k (by omega) k2).mrk
    have hle := X.le
    rw [if_neg q, k1, ← X.hs.v9, show μ 242 (k : Int) = (((μ 242 k).toNat : Nat) : Int) by omega, X.kn.v9 _ c (by omega) hc.1 hc.2]
    exact val_255 X.wf _ (by omega) c hc.1 hc.2
theorem rd_ok {F : Nat} {w : Int → Int} {T : Nat} {μ ν : St} {c : Int} (hF : 100 ≤ F) (X : MX w T μ ν) (hc : 0 ≤ c ∧ c < 32) : TT (f_X7_raisedAt F 231 c T ν) (fun r => r = rsR μ c) := by
  obtain ⟨⟨n1, n2⟩, ⟨n3, n4⟩, n5⟩ := X.n
  have h60 := X.wf.ev60
  have hle := X.le
  unfold f_X7_raisedAt
  simp only [tt_ob, kd_231, true_and, tt_c1]
  refine (sa_ok hF X hc).mono (fun r hr1 => ?_)
  subst hr1
  unfold rsR
  simp only [tt_gt, tt_sg, tt_ite, tt_ck, tt_lk, tt_ix, tt_bo, tt_by, tt_nz, tt_ob, tt_st, tt_cpk, tt_c1, tt_c2, tt_ca, tt_cb, tt_some, kd_231, kd_0, Nat.reduceAdd, true_and, and_true, true_implies, not_true_eq_false, false_implies, not_false_eq_true, true_or, or_true]
  refine ⟨fun z => ?_, fun z => ?_⟩
  · obtain ⟨k, k1, k2, k3⟩ := so_p n1 z
    have hm := (X.m1.cp k (by omega) k2).mrk
    have e1 := (X.hs.fx k (by omega) k2).2.1
    rw [if_neg z, k1, e1, e_valueAt (F := F) (σ := ν) hc ⟨hm.1, by omega⟩, tt_some, X.hs.v9]
    exact ⟨by omega, rfl⟩
  · rw [if_pos (Classical.byContradiction z)]
theorem q_raised {F : Nat} {σ : St} {c t : Int} (hF : 100 ≤ F) (h : GI F σ) : PP F (f_X6_raised F 0 c t σ) (f_X7_raised F 231 c t) := by
  have h60 := h.wf.ev60
  have hw0 : 0 ≤ σ 232 0 ∧ σ 232 0 ≤ 32 := ⟨h.wf.1.1, h.wf.1.2.1⟩
  have hc := e6_hasCell (F := F) (c := c) h.sc
  have ht := e6_hasTick (F := F) (t := t) h.sc h.wf
  unfold PP f_X6_raised
  by_cases q : (0 ≤ c ∧ c < σ 232 0) ∧ 0 < σ 232 5 ∧ 0 ≤ t ∧ t ≤ evN (σ 232)
  · rw [if_pos q.1] at hc
    rw [if_pos q.2] at ht
    simp only [tt_gt, tt_sg, tt_ite, tt_ck, tt_lk, tt_ix, tt_bo, tt_by, tt_nz, tt_ob, tt_st, tt_cpk, tt_c1, tt_c2, tt_ca, tt_cb, tt_some, kd_231, kd_0, Nat.reduceAdd, true_and, and_true, true_implies, not_true_eq_false, false_implies, not_false_eq_true, true_or, or_true, Nat.zero_add, hc, ht, one0]
    obtain ⟨T, rfl⟩ : ∃ T : Nat, t = T := ⟨t.toNat, by omega⟩
    refine (h.play hF T q.2.2.2).mono (fun σ1 P1 => ?_)
    obtain ⟨⟨v, ν⟩, ha, hv, μ, X⟩ := P1.asksCell hF h c (T : Int)
    dsimp only at hv X
    rw [if_pos q] at hv
    subst hv
    have qc := q.1
    have n30 := X.m1.n30 (by omega)
    rw [e3_raised hF (Or.inl rfl) X.cr n30 ⟨qc.1, by omega⟩, tt_some]
    unfold f_X7_raised
    simp only [tt_gt, tt_sg, tt_ite, tt_ck, tt_lk, tt_ix, tt_bo, tt_by, tt_nz, tt_ob, tt_st, tt_cpk, tt_c1, tt_c2, tt_ca, tt_cb, tt_some, kd_231, kd_0, Nat.reduceAdd, true_and, and_true, true_implies, not_true_eq_false, false_implies, not_false_eq_true, true_or, or_true, ha, one0]
    exact (rd_ok hF X.mx ⟨qc.1, by omega⟩).mono (fun r hr => ⟨hr.symm, X.gi⟩)
  · by_cases q1 : 0 ≤ c ∧ c < σ 232 0
    · rw [if_pos q1] at hc
      rw [if_neg (fun z => q ⟨q1, z⟩)] at ht
      simp only [tt_gt, tt_sg, tt_ite, tt_ck, tt_lk, tt_ix, tt_bo, tt_by, tt_nz, tt_ob, tt_st, tt_cpk, tt_c1, tt_c2, tt_ca, tt_cb, tt_some, kd_231, kd_0, Nat.reduceAdd, true_and, and_true, true_implies, not_true_eq_false, false_implies, not_false_eq_true, true_or, or_true, Nat.zero_add, hc, ht, one0, eq_self]
      obtain ⟨T0, P0⟩ := h.self
      obtain ⟨⟨v, ν⟩, ha, hv, μ, X⟩ := P0.asksCell hF h c t
      dsimp only at hv X
      rw [if_neg q] at hv
      subst hv
      unfold f_X7_raised
      simp only [tt_gt, tt_sg, tt_ite, tt_ck, tt_lk, tt_ix, tt_bo, tt_by, tt_nz, tt_ob, tt_st, tt_cpk, tt_c1, tt_c2, tt_ca, tt_cb, tt_some, kd_231, kd_0, Nat.reduceAdd, true_and, and_true, true_implies, not_true_eq_false, false_implies, not_false_eq_true, true_or, or_true, ha, eq_self]
      exact X.gi
    · rw [if_neg q1] at hc
      simp only [tt_gt, tt_sg, tt_ite, tt_ck, tt_lk, tt_ix, tt_bo, tt_by, tt_nz, tt_ob, tt_st, tt_cpk, tt_c1, tt_c2, tt_ca, tt_cb, tt_some, kd_231, kd_0, Nat.reduceAdd, true_and, and_true, true_implies, not_true_eq_false, false_implies, not_false_eq_true, true_or, or_true, Nat.zero_add, hc, eq_self]
      obtain ⟨T0, P0⟩ := h.self
      obtain ⟨⟨v, ν⟩, ha, hv, μ, X⟩ := P0.asksCell hF h c t
      dsimp only at hv X
      rw [if_neg q] at hv
      subst hv
      unfold f_X7_raised
      simp only [tt_gt, tt_sg, tt_ite, tt_ck, tt_lk, tt_ix, tt_bo, tt_by, tt_nz, tt_ob, tt_st, tt_cpk, tt_c1, tt_c2, tt_ca, tt_cb, tt_some, kd_231, kd_0, Nat.reduceAdd, true_and, and_true, true_implies, not_true_eq_false, false_implies, not_false_eq_true, true_or, or_true, ha, eq_self]
      exact X.gi
def dbl (μ : St) (k c : Nat) : Int := if inP μ c k ∧ soR μ c ≠ k then 1 else 0
theorem dbl_rng (μ : St) (k c : Nat) : 0 ≤ dbl μ k c ∧ dbl μ k c ≤ 1 := by
  unfold dbl
  split <;> omega
theorem so_ne {μ : St} {c : Int} {k : Nat} (hk : (k : Int) < μ 231 28) (h : inP μ c k) : soR μ c ≠ k ↔ ∃ j : Nat, k < j ∧ (j : Int) < μ 231 28 ∧ inP μ c j := by
  rcases scR_p μ c (μ 231 28).toNat with z | ⟨j, z1, z2, z3, z4⟩
  · exact absurd h (z.2 k (by omega))
  · have e : soR μ c = j := z1
    rw [e]
    constructor
    · intro y
      refine ⟨j, ?_, by omega, z3⟩
      apply Classical.byContradiction
      intro u
      exact z4 k (by omega) (by omega) h
    · rintro ⟨i, i1, i2, i3⟩ y
      exact z4 i (by omega) (by omega) i3
theorem e3_again {F b : Nat} {w0 l : Int} {t : Nat} {μ σ1 : St} (hF : 100 ≤ F) (hb : b = 12 ∨ b = 110) (hw : 0 ≤ w0 ∧ w0 ≤ 32) (hC : RunR b w0 l t μ σ1) (hM : MI0 w0 t μ) (h30 : 0 ≤ μ 231 28 ∧ μ 231 28 ≤ 30) : TT (f_X3_keptAgain F b σ1) (fun r => r = sm (fun k => sm (fun c => dbl μ k c) w0.toNat) (μ 231 28).toNat) := by
  have hcn := hC.cn
  have rD : ∀ k : Nat, 0 ≤ sm (fun c => dbl μ k c) w0.toNat ∧ sm (fun c => dbl μ k c) w0.toNat ≤ 32 := fun k => by
    have := sm_rng (f := fun c => dbl μ k c) (M := 1) w0.toNat (fun i _ => dbl_rng μ k i)
    omega
  have rS : ∀ m : Nat, 0 ≤ sm (fun k => sm (fun c => dbl μ k c) w0.toNat) m ∧ sm (fun k => sm (fun c => dbl μ k c) w0.toNat) m ≤ 32 * m := fun m => sm_rng (M := 32) m (fun i _ => rD i)
  have D0 : ∀ k : Nat, ¬ lkP μ k → sm (fun c => dbl μ k c) w0.toNat = 0 := fun k hk => sm_zero _ (fun c _ => if_neg (fun z => hk z.1.1))
  unfold f_X3_keptAgain
  simp only [tt_gt, tt_sg, tt_ite, tt_ck, tt_lk, tt_ix, tt_bo, tt_by, tt_nz, tt_ob, tt_st, tt_cpk, tt_c1, tt_c2, tt_ca, tt_cb, tt_some, kd_231, kd_0, Nat.reduceAdd, true_and, and_true, true_implies, not_true_eq_false, false_implies, not_false_eq_true, true_or, or_true, (kd_run hb).1, e3_head hF hb hC h30, hcn]
  refine And.intro (by omega) ?_
  refine lp_w (L := fun n (p : Int × Int × Int) => f_X3_keptAgain_L17 F b σ1 n (hd μ) p.1 p.2.1 p.2.2) (fun m p => p.2.2 + 1 = m ∧ (m : Int) ≤ μ 231 28 ∧ p.2.1 + sm (fun k => sm (fun c => dbl μ k c) w0.toNat) m = sm (fun k => sm (fun c => dbl μ k c) w0.toNat) (μ 231 28).toNat ∧ 0 ≤ p.2.1 ∧ ∀ c : Nat, c < 32 → (bt p.1 c ↔ ∃ k : Nat, m ≤ k ∧ (k : Int) < μ 231 28 ∧ inP μ c k)) (fun m n p hI ih => ?_) (μ 231 28).toNat F (0, 0, μ 231 28 - 1) (by omega) ⟨by dsimp only; omega, by omega, by dsimp only; omega, by dsimp only; omega, fun c hc => ⟨fun z => absurd z (bt_zero ⟨by omega, by omega⟩), fun ⟨k, k1, k2, _⟩ => absurd k2 (by omega)⟩⟩
  obtain ⟨x, y, i⟩ := p
  dsimp only at hI ih ⊢
  obtain ⟨i1, i2, i3, i4, i5⟩ := hI
  have r1 := rS m
  have r2 := rS (μ 231 28).toNat
  rw [f_X3_keptAgain_L17]
  simp only [tt_gt, tt_sg, tt_ite, tt_ck, tt_lk, tt_ix, tt_bo, tt_by, tt_nz, tt_ob, tt_st, tt_cpk, tt_c1, tt_c2, tt_ca, tt_cb, tt_some, kd_231, kd_0, Nat.reduceAdd, true_and, and_true, true_implies, not_true_eq_false, false_implies, not_false_eq_true, true_or, or_true]
  have fin : (hd μ = -1 ∨ i < hd μ) → y = sm (fun k => sm (fun c => dbl μ k c) w0.toNat) (μ 231 28).toNat := fun z => by
    rw [← i3, sm_zero m (fun k hk => D0 k (fun u => by have := u.2; omega))]
    omega
  refine ⟨fun z => fin (Or.inl z), fun z => ⟨fun z2 => fin (Or.inr z2), fun z2 => ?_⟩⟩
  have hh := hd_rng (μ := μ) h30.1
  have hh0 : 0 ≤ hd μ := by
    rcases hh with u | ⟨u, u1, -, -⟩
    · exact absurd u z
    · omega
  clear hh
  obtain ⟨j, rfl⟩ : ∃ j : Nat, m = j + 1 := ⟨m - 1, by omega⟩
  have ei : i = j := by omega
  subst ei
  rw [sm] at i3
  rw [e3_isWhole (F := F) (k := (j : Int)) hb hC h30.2 ⟨by omega, by omega⟩, tt_some]
  have hl := lk_wh (μ := μ) (k := j) z (by omega) (by omega)
  refine ⟨fun z3 => And.intro (by omega) (ih j (x, y, (j : Int) + -1) (by omega) ⟨by dsimp only; omega, by omega, ?_, i4, fun c hc => ?_⟩), fun z3 => ?_⟩
  · have h1 : ¬ lkP μ j := fun u => by rw [if_pos (hl.mp u)] at z3; exact absurd z3 (by decide)
    rw [D0 j h1] at i3
    dsimp only
    omega
  · have h1 : ¬ lkP μ j := fun u => by rw [if_pos (hl.mp u)] at z3; exact absurd z3 (by decide)
    rw [i5 c hc]
    constructor
    · rintro ⟨k, k1, k2, k3⟩
      exact ⟨k, by omega, k2, k3⟩
    · rintro ⟨k, k1, k2, k3⟩
      refine ⟨k, ?_, k2, k3⟩
      by_cases u : k = j
      · rw [u] at k3; exact absurd k3.1 h1
      · omega
  · have h1 : lkP μ j := hl.mpr (Classical.byContradiction fun u => z3 (if_neg u))
    have Cj := hC.cc j (by omega) (by omega)
    have Mj := hM.cp j (by omega) (by omega)
    have hhd := Cj.hd
    rw [Int.toNat_natCast] at hhd
    simp only [Int.toNat_natCast]
    rw [bitc_ok, tt_some]
    have hbc : bc (z_and (σ1 (b + 7 + 1 + 3 * j) 5) x) 32 = sm (fun c => dbl μ j c) w0.toNat := by
      refine bc_eq (by omega) (fun c hc => ?_) (fun c c1 c2 u => ?_)
      · have a1 := hhd c (by omega) (by omega)
        have a2 := i5 c (by omega)
        have a3 := bt_and (a := σ1 (b + 7 + 1 + 3 * j) 5) (b := x) (c := (c : Int)) ⟨by omega, by omega⟩
        unfold dbl
        by_cases u : inP μ c j ∧ soR μ c ≠ j
        · rw [if_pos u]
          obtain ⟨k, k1, k2, k3⟩ := (so_ne (c := (c : Int)) (by omega) u.1).mp u.2
          rw [if_pos (a3.mpr ⟨a1.mpr u.1.2, a2.mpr ⟨k, by omega, k2, k3⟩⟩)]
        · rw [if_neg u]
          refine if_neg (fun v => u ?_)
          have v1 := a3.mp v
          have v2 : inP μ c j := ⟨h1, a1.mp v1.1⟩
          refine ⟨v2, (so_ne (by omega) v2).mpr ?_⟩
          obtain ⟨k, k1, k2, k3⟩ := a2.mp v1.2
          exact ⟨k, by omega, k2, k3⟩
      · have a1 := hhd c (by omega) (by omega)
        have u1 := a1.mp ((bt_and ⟨by omega, by omega⟩).mp u).1
        rcases Mj.kb c (by omega) (by omega) with v | v
        · exact u1 v.1
        · have := (Mj.wt c (by omega) (by omega)).2 v.2.2.1
          clear a1 u
          omega
    rw [hbc]
    have r3 := rD j
    have r4 := rS j
    refine And.intro (by omega) (And.intro (by omega) (And.intro (by omega) (And.intro (by omega) (ih j (z_or x (σ1 (b + 7 + 1 + 3 * j) 5), y + sm (fun c => dbl μ j c) w0.toNat, (j : Int) + -1) (by omega) ⟨by dsimp only; omega, by omega, by dsimp only; omega, by dsimp only; omega, fun c hc => ?_⟩))))
    dsimp only
    rw [bt_or ⟨by omega, by omega⟩, i5 c hc, hhd c (by omega) (by omega)]
    constructor
    · rintro (⟨k, k1, k2, k3⟩ | u)
      · exact ⟨k, by omega, k2, k3⟩
      · exact ⟨j, by omega, by omega, h1, u⟩
    · rintro ⟨k, k1, k2, k3⟩
      by_cases u : k = j
      · rw [u] at k3; exact Or.inr k3.2
      · exact Or.inl ⟨k, by omega, k2, k3⟩
theorem dbl_in {F : Nat} {w : Int → Int} {T : Nat} {μ ν : St} {k : Nat} {x : Int} {K : Int → Int → St → Option (Int × St)} {P : Int × St → Prop} (hF : 100 ≤ F) (X : MX w T μ ν) (hk : (k : Int) < ν 231 28) (hx : 0 ≤ x ∧ x ≤ 2000) (h : TT (K (x + sm (fun c => dbl μ k c) (w 0).toNat) ((k : Int) + 1) ν) P) : TT (f_X7_doubled_L26 F 231 T K F x k 0 ν) P := by
  obtain ⟨⟨n1, n2⟩, ⟨n3, n4⟩, n5⟩ := X.n
  have hw0 : 0 ≤ w 0 ∧ w 0 ≤ 32 := ⟨X.wf.1.1, X.wf.1.2.1⟩
  refine lp_w (L := fun n (p : Int × Int) => f_X7_doubled_L26 F 231 T K n p.1 k p.2 ν) (fun m p => ∃ j : Nat, p.2 = j ∧ (j : Int) + m = w 0 ∧ p.1 = x + sm (fun c => dbl μ k c) j) (fun m n p hI ih => ?_) (w 0).toNat F (x, 0) (by omega) ⟨0, rfl, by omega, by rw [sm, Int.add_zero]⟩
  obtain ⟨y, i⟩ := p
  dsimp only at hI ih ⊢
  obtain ⟨j, rfl, i2, i3⟩ := hI
  have hr := sm_rng (f := fun c => dbl μ k c) (M := 1) j (fun i _ => dbl_rng μ k i)
  rw [f_X7_doubled_L26]
  simp only [tt_gt, tt_sg, tt_ite, tt_ck, tt_lk, tt_ix, tt_bo, tt_by, tt_nz, tt_ob, tt_st, tt_cpk, tt_c1, tt_c2, tt_ca, tt_cb, tt_some, kd_231, kd_0, Nat.reduceAdd, true_and, and_true, true_implies, not_true_eq_false, false_implies, not_false_eq_true, true_or, or_true, e_cells, X.w2]
  have go : ∀ v : Int, (j : Int) < w 0 → v = dbl μ k j → TT (f_X7_doubled_L26 F 231 T K n (y + v) k ((j : Int) + 1) ν) P := by
    intro v hj hv
    refine ih (m - 1) (y + v, (j : Int) + 1) (by omega) ⟨j + 1, by dsimp only; omega, by omega, ?_⟩
    dsimp only
    rw [sm, i3, hv]
    omega
  refine ⟨fun z => And.intro (by omega) ?_, fun z => (il_ok hF X (k := (k : Int)) ⟨by omega, hk⟩).mono (fun r hr2 => ?_)⟩
  · rw [i3, show j = (w 0).toNat by omega]
    exact h
  · rcases hr2 with ⟨rfl, hr2⟩ | ⟨rfl, hr2⟩
    · rw [lk_kb X hr2 ⟨by omega, by omega⟩]
      refine ⟨fun u => absurd u (by decide), fun _ => And.intro (by omega) (And.intro (by omega) (And.intro (by omega) ⟨fun z2 => And.intro (by omega) (And.intro (by omega) (go 0 (by omega) ?_)), fun z2 => (sa_ok hF X ⟨by omega, by omega⟩).mono (fun s hs => ?_)⟩))⟩
      · exact (if_neg (fun u => u.1.2 z2)).symm
      · rw [hs]
        refine ⟨fun z3 => And.intro (by omega) (And.intro (by omega) (go 0 (by omega) ?_)), fun z3 => And.intro (by omega) (And.intro (by omega) (go 1 (by omega) ?_))⟩
        · exact (if_neg (fun u => u.2 z3)).symm
        · exact (if_pos ⟨⟨hr2, z2⟩, z3⟩).symm
    · refine ⟨fun _ => And.intro (by omega) (And.intro (by omega) (go 0 (by omega) ?_)), fun u => absurd rfl u⟩
      exact (if_neg (fun u => hr2 u.1.1)).symm
theorem q_doubled {F : Nat} {σ : St} {t : Int} (hF : 100 ≤ F) (h : GI F σ) : PP F (f_X6_doubled F 0 t σ) (f_X7_doubled F 231 t) := by
  have h60 := h.wf.ev60
  have hw0 : 0 ≤ σ 232 0 ∧ σ 232 0 ≤ 32 := ⟨h.wf.1.1, h.wf.1.2.1⟩
  have ht := e6_hasTick (F := F) (t := t) h.sc h.wf
  unfold PP f_X6_doubled
  by_cases q : 0 < σ 232 5 ∧ 0 ≤ t ∧ t ≤ evN (σ 232)
  · rw [if_pos q] at ht
    simp only [tt_gt, tt_sg, tt_ite, tt_ck, tt_lk, tt_ix, tt_bo, tt_by, tt_nz, tt_ob, tt_st, tt_cpk, tt_c1, tt_c2, tt_ca, tt_cb, tt_some, kd_231, kd_0, Nat.reduceAdd, true_and, and_true, true_implies, not_true_eq_false, false_implies, not_false_eq_true, true_or, or_true, Nat.zero_add, ht, one0]
    obtain ⟨T, rfl⟩ : ∃ T : Nat, t = T := ⟨t.toNat, by omega⟩
    refine (h.play hF T q.2.2).mono (fun σ1 P1 => ?_)
    obtain ⟨⟨v, ν⟩, ha, hv, μ, X⟩ := P1.asksAt hF h (T : Int)
    dsimp only at hv X
    rw [if_pos q] at hv
    subst hv
    have n30 := X.m1.n30 (by omega)
    have n31 := X.m2.n30 (by omega)
    have hh := X.hs.le
    refine (e3_again hF (Or.inl rfl) hw0 X.cr X.m1 n30).mono (fun r hr => ?_)
    have e1 : r = sm (fun k => sm (fun c => dbl μ k c) (σ 232 0).toNat) (ν 231 28).toNat := by
      rw [hr]
      refine (sm_ext (m := (μ 231 28).toNat) _ (by omega) (fun i i1 i2 => sm_zero _ (fun c _ => if_neg (fun z => ?_)))).symm
      have := z.1.1.1.1
      omega
    rw [e1]
    have rS : ∀ k : Nat, 0 ≤ sm (fun c => dbl μ k c) (σ 232 0).toNat ∧ sm (fun c => dbl μ k c) (σ 232 0).toNat ≤ 32 := fun k => by
      have := sm_rng (f := fun c => dbl μ k c) (M := 1) (σ 232 0).toNat (fun i _ => dbl_rng μ k i)
      omega
    unfold f_X7_doubled
    simp only [tt_gt, tt_sg, tt_ite, tt_ck, tt_lk, tt_ix, tt_bo, tt_by, tt_nz, tt_ob, tt_st, tt_cpk, tt_c1, tt_c2, tt_ca, tt_cb, tt_some, kd_231, kd_0, Nat.reduceAdd, true_and, and_true, true_implies, not_true_eq_false, false_implies, not_false_eq_true, true_or, or_true, ha, one0]
    refine cnt (L := fun n x i => f_X7_doubled_L15 F 231 (T : Int) n x i ν) (ν 231 28).toNat (fun k => sm (fun c => dbl μ k c) (σ 232 0).toNat) (by omega) (fun n => ?_) (fun n i hi ht2 => ?_)
    · try dsimp only
      rw [f_X7_doubled_L15]
      simp only [tt_gt, tt_sg, tt_ite, tt_ck, tt_lk, tt_ix, tt_bo, tt_by, tt_nz, tt_ob, tt_st, tt_cpk, tt_c1, tt_c2, tt_ca, tt_cb, tt_some, kd_231, kd_0, Nat.reduceAdd, true_and, and_true, true_implies, not_true_eq_false, false_implies, not_false_eq_true, true_or, or_true]
      refine ⟨fun _ => ?_, fun z => absurd z (by omega)⟩
      first
        | exact X.gi
        | exact ⟨rfl, X.gi⟩
    · have hr := sm_rng (f := fun k => sm (fun c => dbl μ k c) (σ 232 0).toNat) (M := 32) i (fun j _ => rS j)
      try dsimp only at ht2 hr ⊢
      rw [f_X7_doubled_L15]
      simp only [tt_gt, tt_sg, tt_ite, tt_ck, tt_lk, tt_ix, tt_bo, tt_by, tt_nz, tt_ob, tt_st, tt_cpk, tt_c1, tt_c2, tt_ca, tt_cb, tt_some, kd_231, kd_0, Nat.reduceAdd, true_and, and_true, true_implies, not_true_eq_false, false_implies, not_false_eq_true, true_or, or_true]
      exact ⟨fun z => absurd z (by omega), fun _ => dbl_in hF X.mx (by omega) (by omega) ht2⟩
  · rw [if_neg q] at ht
    simp only [tt_gt, tt_sg, tt_ite, tt_ck, tt_lk, tt_ix, tt_bo, tt_by, tt_nz, tt_ob, tt_st, tt_cpk, tt_c1, tt_c2, tt_ca, tt_cb, tt_some, kd_231, kd_0, Nat.reduceAdd, true_and, and_true, true_implies, not_true_eq_false, false_implies, not_false_eq_true, true_or, or_true, Nat.zero_add, ht, eq_self]
    obtain ⟨T0, P0⟩ := h.self
    obtain ⟨⟨v, ν⟩, ha, hv, μ, X⟩ := P0.asksAt hF h t
    dsimp only at hv X
    rw [if_neg q] at hv
    subst hv
    unfold f_X7_doubled
    simp only [tt_gt, tt_sg, tt_ite, tt_ck, tt_lk, tt_ix, tt_bo, tt_by, tt_nz, tt_ob, tt_st, tt_cpk, tt_c1, tt_c2, tt_ca, tt_cb, tt_some, kd_231, kd_0, Nat.reduceAdd, true_and, and_true, true_implies, not_true_eq_false, false_implies, not_false_eq_true, true_or, or_true, ha, eq_self]
    exact X.gi
