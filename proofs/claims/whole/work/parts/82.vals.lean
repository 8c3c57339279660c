def QB (σ σ' : St) : Prop := ∀ x, (x < 208 ∨ 213 < x) → σ' x = σ x
theorem QB.rf {σ : St} : QB σ σ := fun _ _ => rfl
theorem QB.tr {a b c : St} (h : QB a b) (h2 : QB b c) : QB a c := fun x q => (h2 x q).trans (h x q)
theorem OB.qb {b : Nat} {σ σ' : St} (h : OB b σ σ') (hb : 208 ≤ b ∧ b + 1 ≤ 213) : QB σ σ' := fun x q => h x (by omega) (by omega)
theorem SR.qb {σ σ' : St} {w : Int → Int} (h : SR 4 σ w) (hq : QB σ σ') : SR 4 σ' w := h.mv (hq 4 (by omega)) (hq 5 (by omega)) (hq 6 (by omega))
theorem GI.qb {F : Nat} {σ τ : St} (h : GI F σ) (hF : 100 ≤ F) (hq : QB σ τ) : ∃ T, Pl F σ T τ := by
  obtain ⟨T, hp⟩ := h.self
  exact ⟨T, hp.fr hF h (fun x x1 x2 => hq x (by omega)) (fun x hx => hq x (by omega))⟩
theorem lOut_0 {T : Int} (hT : T ≤ 60) : lOut 0 (fun _ => 0) T := fun e e1 e2 => ⟨fun z => absurd z (lbt_zero ⟨e1, by omega⟩), fun z => absurd rfl z⟩
def sgl (e0 : Int) : Int → Int := fun e => if e = e0 then 1 else 0
theorem lOut_1 {T e0 : Int} (hT : T ≤ 60) (h0 : 0 ≤ e0 ∧ e0 < 60) : lOut (z_lshl 1 e0) (sgl e0) T := fun e e1 e2 => by
  rw [lbt_one ⟨e1, by omega⟩ ⟨h0.1, by omega⟩]
  unfold sgl
  by_cases z : e = e0
  · rw [if_pos z]; exact ⟨fun _ => by decide, fun _ => z⟩
  · rw [if_neg z]; exact ⟨fun y => absurd y z, fun y => absurd rfl y⟩
def dfN (w g : Int → Int) (t : Nat) (g' : Int → Int) (u : Nat) : Int := sm (fun c => if Val w g t c = Val w g' u c then 0 else 1) (w 0).toNat
theorem dfN_rng (w g : Int → Int) (t : Nat) (g' : Int → Int) (u : Nat) (hw : 0 ≤ w 0 ∧ w 0 ≤ 32) : 0 ≤ dfN w g t g' u ∧ dfN w g t g' u ≤ 32 := by
  have := sm_rng (f := fun c => if Val w g t c = Val w g' u c then 0 else 1) (M := 1) (w 0).toNat (fun i _ => by split <;> omega)
  unfold dfN
  omega
theorem dfN_sym (w g : Int → Int) (t : Nat) (g' : Int → Int) (u : Nat) : dfN w g t g' u = dfN w g' u g t := by
  unfold dfN
  refine sm_congr _ (fun i _ => ?_)
  by_cases z : Val w g t i = Val w g' u i
  · rw [if_pos z, if_pos z.symm]
  · rw [if_neg z, if_neg (fun y => z y.symm)]
theorem sm_nil {f : Nat → Int} : ∀ n : Nat, (∀ i, i < n → 0 ≤ f i) → sm f n = 0 → ∀ i, i < n → f i = 0
  | 0, _, _, i, h => absurd h (Nat.not_lt_zero i)
  | n + 1, h0, h, i, hi => by
    have h1 : 0 ≤ sm f n := by
      have : ∀ m : Nat, m ≤ n → 0 ≤ sm f m := by
        intro m
        induction m with
        | zero => intro _; exact Int.le_refl 0
        | succ m ih =>
          intro hm
          have := ih (by omega)
          have := h0 m (by omega)
          rw [sm]
          omega
      exact this n (Nat.le_refl n)
    have h2 := h0 n (by omega)
    rw [sm] at h
    by_cases q : i = n
    · rw [q]; omega
    · exact sm_nil n (fun j hj => h0 j (by omega)) (by omega) i (by omega)
theorem dfN_0 {w g g' : Int → Int} {t u : Nat} (hw : WF w) (ht : (t : Int) ≤ evN w) (hu : (u : Int) ≤ evN w) : dfN w g t g' u = 0 ↔ ∀ c, 0 ≤ c → c < 32 → Val w g t c = Val w g' u c := by
  constructor
  · intro h c c1 c2
    by_cases q : c < w 0
    · have := sm_nil (w 0).toNat (fun i _ => by split <;> omega) h c.toNat (by omega)
      rw [show ((c.toNat : Nat) : Int) = c by omega] at this
      apply Classical.byContradiction
      intro z
      rw [if_neg z] at this
      exact absurd this (by decide)
    · rw [val_hi hw t c ht (by omega), val_hi hw u c hu (by omega)]
  · intro h
    have := hw.1.2.1
    exact sm_zero _ (fun i hi => if_pos (h i (by omega) (by omega)))
theorem df_ok {F : Nat} {w g : Int → Int} {ν : St} {t u : Nat} (hF : 100 ≤ F) (hw : WF w) (h2 : ν 232 = w) (ht : (t : Int) ≤ evN w) (hu : (u : Int) ≤ evN w) (hv : ∀ (s : Nat) (c : Int), (s : Int) ≤ evN w → 0 ≤ c → c < 32 → ν 239 (32 * s + c) = Val w g s c) : f_X7_differAt F 231 t u ν = some (dfN w g t g u) := by
  have h60 := hw.ev60
  have hw0 : 0 ≤ w 0 ∧ w 0 ≤ 32 := ⟨hw.1.1, hw.1.2.1⟩
  apply TT.eq
  unfold f_X7_differAt
  simp only [tt_gt, tt_sg, tt_ite, tt_ck, tt_lk, tt_ix, tt_bo, tt_by, tt_nz, tt_ob, tt_st, tt_cpk, tt_c1, tt_c2, tt_ca, tt_cb, tt_some, kd_231, kd_0, Nat.reduceAdd, true_and, and_true, true_implies, not_true_eq_false, false_implies, not_false_eq_true, true_or, or_true]
  refine cnt (L := fun n x i => f_X7_differAt_L5 F 231 t u ν n x i) (w 0).toNat (fun c => if Val w g t c = Val w g u c then 0 else 1) (by omega) (fun n => ?_) (fun n i hi ht2 => ?_)
  · try dsimp only
    rw [f_X7_differAt_L5]
    simp only [tt_gt, tt_sg, tt_ite, tt_ck, tt_lk, tt_ix, tt_bo, tt_by, tt_nz, tt_ob, tt_st, tt_cpk, tt_c1, tt_c2, tt_ca, tt_cb, tt_some, kd_231, kd_0, Nat.reduceAdd, true_and, and_true, true_implies, not_true_eq_false, false_implies, not_false_eq_true, true_or, or_true, e_cells, h2]
    exact ⟨fun _ => rfl, fun z => absurd z (by omega)⟩
  · have hr := sm_rng (f := fun c => if Val w g t c = Val w g u c then 0 else 1) (M := 1) i (fun i _ => by split <;> omega)
    try dsimp only at ht2 hr ⊢
    rw [f_X7_differAt_L5]
    simp only [tt_gt, tt_sg, tt_ite, tt_ck, tt_lk, tt_ix, tt_bo, tt_by, tt_nz, tt_ob, tt_st, tt_cpk, tt_c1, tt_c2, tt_ca, tt_cb, tt_some, kd_231, kd_0, Nat.reduceAdd, true_and, and_true, true_implies, not_true_eq_false, false_implies, not_false_eq_true, true_or, or_true, e_cells, h2, e_valueAt (F := F) (σ := ν) (c := (i : Int)) (t := (t : Int)) ⟨by omega, by omega⟩ ⟨by omega, by omega⟩, e_valueAt (F := F) (σ := ν) (c := (i : Int)) (t := (u : Int)) ⟨by omega, by omega⟩ ⟨by omega, by omega⟩, hv t i ht (by omega) (by omega), hv u i hu (by omega) (by omega)]
    refine ⟨fun z => absurd z (by omega), fun _ => ⟨fun z => And.intro (by omega) (And.intro (by omega) ?_), fun z => And.intro (by omega) (And.intro (by omega) ?_)⟩⟩
    · rw [if_pos z] at ht2; exact ht2
    · rw [if_neg z] at ht2; exact ht2
theorem q_differ {F : Nat} {σ : St} {t u : Int} (hF : 100 ≤ F) (h : GI F σ) : PP F (f_X6_differ F 0 t u σ) (f_X7_differ F 231 t u) := by
  have h60 := h.wf.ev60
  have hw0 : 0 ≤ σ 232 0 ∧ σ 232 0 ≤ 32 := ⟨h.wf.1.1, h.wf.1.2.1⟩
  have ht := e6_hasTick (F := F) (t := t) h.sc h.wf
  have hu := e6_hasTick (F := F) (t := u) h.sc h.wf
  unfold PP f_X6_differ
  by_cases q : 0 < σ 232 5 ∧ 0 ≤ t ∧ t ≤ evN (σ 232)
  · rw [if_pos q] at ht
    by_cases q2 : 0 < σ 232 5 ∧ 0 ≤ u ∧ u ≤ evN (σ 232)
    · rw [if_pos q2] at hu
      simp only [tt_gt, tt_sg, tt_ite, tt_ck, tt_lk, tt_ix, tt_bo, tt_by, tt_nz, tt_ob, tt_st, tt_cpk, tt_c1, tt_c2, tt_ca, tt_cb, tt_some, kd_231, kd_0, Nat.reduceAdd, true_and, and_true, true_implies, not_true_eq_false, false_implies, not_false_eq_true, true_or, or_true, Nat.zero_add, ht, hu, one0]
      obtain ⟨T, rfl⟩ : ∃ T : Nat, t = T := ⟨t.toNat, by omega⟩
      obtain ⟨U, rfl⟩ : ∃ U : Nat, u = U := ⟨u.toNat, by omega⟩
      refine (play_ok (F := F) (b := 208) (s := 4) (T := (T : Int)) hF rfl rfl rfl rfl (Or.inl (by decide)) h.sc h.wf ⟨by omega, q.2.2⟩ (lOut_0 (by omega))).mono (fun σ1 h1 => ?_)
      have S1 := h.sc.qb (h1.1.qb (by omega))
      refine (play_ok (F := F) (b := 210) (s := 4) (T := (U : Int)) hF rfl rfl rfl rfl (Or.inl (by decide)) S1 h.wf ⟨by omega, q2.2.2⟩ (lOut_0 (by omega))).mono (fun σ2 h2 => ?_)
      rw [Int.toNat_natCast] at h1 h2
      have B1 : BR 208 σ2 (σ 232 0) (Val (σ 232) (fun _ => 0) T) := ⟨by rw [h2.1 208 (by decide) (by decide)]; exact h1.2.1, fun c c1 c2 => by rw [h2.1 (208 + 1) (by decide) (by decide)]; exact h1.2.2 c c1 c2⟩
      rw [unlike_ok (F := F) (b := 208) (d := 210) hF rfl rfl hw0 B1 h2.2, tt_some]
      obtain ⟨T0, P0⟩ := h.qb hF ((h1.1.qb (by omega)).tr (h2.1.qb (by omega)))
      obtain ⟨⟨v, ν⟩, ha, hv, μ, X⟩ := P0.asksAt hF h (T : Int)
      dsimp only at hv X
      rw [if_pos q] at hv
      subst hv
      have et := e_isTick (F := F) (σ := ν) (by rw [X.w2]; exact X.wf.1) (U : Int)
      rw [X.w2, if_pos q2] at et
      unfold f_X7_differ
      simp only [tt_gt, tt_sg, tt_ite, tt_ck, tt_lk, tt_ix, tt_bo, tt_by, tt_nz, tt_ob, tt_st, tt_cpk, tt_c1, tt_c2, tt_ca, tt_cb, tt_some, kd_231, kd_0, Nat.reduceAdd, true_and, and_true, true_implies, not_true_eq_false, false_implies, not_false_eq_true, true_or, or_true, ha, one0, et, df_ok hF h.wf X.w2 q.2.2 q2.2.2 X.kn.v9]
      exact ⟨rfl, X.gi⟩
    · rw [if_neg q2] at hu
      simp only [tt_gt, tt_sg, tt_ite, tt_ck, tt_lk, tt_ix, tt_bo, tt_by, tt_nz, tt_ob, tt_st, tt_cpk, tt_c1, tt_c2, tt_ca, tt_cb, tt_some, kd_231, kd_0, Nat.reduceAdd, true_and, and_true, true_implies, not_true_eq_false, false_implies, not_false_eq_true, true_or, or_true, Nat.zero_add, ht, hu, one0, eq_self]
      obtain ⟨T0, P0⟩ := h.self
      obtain ⟨⟨v, ν⟩, ha, hv, μ, X⟩ := P0.asksAt hF h t
      dsimp only at hv X
      rw [if_pos q] at hv
      subst hv
      have et := e_isTick (F := F) (σ := ν) (by rw [X.w2]; exact X.wf.1) u
      rw [X.w2, if_neg q2] at et
      unfold f_X7_differ
      simp only [tt_gt, tt_sg, tt_ite, tt_ck, tt_lk, tt_ix, tt_bo, tt_by, tt_nz, tt_ob, tt_st, tt_cpk, tt_c1, tt_c2, tt_ca, tt_cb, tt_some, kd_231, kd_0, Nat.reduceAdd, true_and, and_true, true_implies, not_true_eq_false, false_implies, not_false_eq_true, true_or, or_true, ha, one0, et, eq_self]
      exact X.gi
  · rw [if_neg q] at ht
    simp only [tt_gt, tt_sg, tt_ite, tt_ck, tt_lk, tt_ix, tt_bo, tt_by, tt_nz, tt_ob, tt_st, tt_cpk, tt_c1, tt_c2, tt_ca, tt_cb, tt_some, kd_231, kd_0, Nat.reduceAdd, true_and, and_true, true_implies, not_true_eq_false, false_implies, not_false_eq_true, true_or, or_true, Nat.zero_add, ht, eq_self]
    obtain ⟨T0, P0⟩ := h.self
    obtain ⟨⟨v, ν⟩, ha, hv, μ, X⟩ := P0.asksAt hF h t
    dsimp only at hv X
    rw [if_neg q] at hv
    subst hv
    unfold f_X7_differ
    simp only [tt_gt, tt_sg, tt_ite, tt_ck, tt_lk, tt_ix, tt_bo, tt_by, tt_nz, tt_ob, tt_st, tt_cpk, tt_c1, tt_c2, tt_ca, tt_cb, tt_some, kd_231, kd_0, Nat.reduceAdd, true_and, and_true, true_implies, not_true_eq_false, false_implies, not_false_eq_true, true_or, or_true, ha, eq_self]
    exact X.gi
theorem fst_ex {P : Nat → Prop} : ∀ T : Nat, P T → ∃ u, u ≤ T ∧ P u ∧ ∀ v, v < u → ¬ P v
  | 0, h => ⟨0, Nat.le_refl 0, h, fun v hv => absurd hv (Nat.not_lt_zero v)⟩
  | T + 1, h => by
    by_cases q : ∃ v, v ≤ T ∧ P v
    · obtain ⟨v, v1, v2⟩ := q
      obtain ⟨u, u1, u2, u3⟩ := fst_ex v v2
      exact ⟨u, by omega, u2, u3⟩
    · exact ⟨T + 1, Nat.le_refl _, h, fun v hv z => q ⟨v, by omega, z⟩⟩
  termination_by T => T
theorem q_same {F : Nat} {σ : St} {t : Int} (hF : 100 ≤ F) (h : GI F σ) : PP F (f_X6_same F 0 t σ) (f_X7_same F 231 t) := by
  have h60 := h.wf.ev60
  have hw0 : 0 ≤ σ 232 0 ∧ σ 232 0 ≤ 32 := ⟨h.wf.1.1, h.wf.1.2.1⟩
  have ht := e6_hasTick (F := F) (t := t) h.sc h.wf
  unfold PP f_X6_same
  by_cases q : 0 < σ 232 5 ∧ 0 ≤ t ∧ t ≤ evN (σ 232)
  · rw [if_pos q] at ht
    simp only [tt_gt, tt_sg, tt_ite, tt_ck, tt_lk, tt_ix, tt_bo, tt_by, tt_nz, tt_ob, tt_st, tt_cpk, tt_c1, tt_c2, tt_ca, tt_cb, tt_some, kd_231, kd_0, Nat.reduceAdd, true_and, and_true, true_implies, not_true_eq_false, false_implies, not_false_eq_true, true_or, or_true, Nat.zero_add, ht, one0]
    obtain ⟨T, rfl⟩ : ∃ T : Nat, t = T := ⟨t.toNat, by omega⟩
    obtain ⟨u0, u1, u2, u3⟩ := fst_ex (P := fun u => dfN (σ 232) (fun _ => 0) u (fun _ => 0) T = 0) T ((dfN_0 h.wf q.2.2 q.2.2).mpr (fun _ _ _ => rfl))
    refine (play_ok (F := F) (b := 208) (s := 4) (T := (T : Int)) hF rfl rfl rfl rfl (Or.inl (by decide)) h.sc h.wf ⟨by omega, q.2.2⟩ (lOut_0 (by omega))).mono (fun σ1 h1 => ?_)
    rw [Int.toNat_natCast] at h1
    have S1 := h.sc.qb (h1.1.qb (by omega))
    have e0 := S1.1 0 (by decide) (by decide)
    rw [e0]
    refine (clear_ok (F := F) (b := 210) hF rfl rfl rfl hw0).mono (fun σ2 h2 => ?_)
    have B1 : BR 208 σ2 (σ 232 0) (Val (σ 232) (fun _ => 0) T) := ⟨by rw [h2.1 208 (by decide) (by decide)]; exact h1.2.1, fun c c1 c2 => by rw [h2.1 (208 + 1) (by decide) (by decide)]; exact h1.2.2 c c1 c2⟩
    have key : ∀ τ : St, QB σ τ → TT (f_X7_same F 231 T τ) (fun r' => (u0 : Int) = r'.1 ∧ GI F r'.2) := by
      intro τ hq
      obtain ⟨T0, P0⟩ := h.qb hF hq
      obtain ⟨⟨v, ν⟩, ha, hv, μ, X⟩ := P0.asksAt hF h (T : Int)
      dsimp only at hv X
      rw [if_pos q] at hv
      subst hv
      unfold f_X7_same
      simp only [tt_gt, tt_sg, tt_ite, tt_ck, tt_lk, tt_ix, tt_bo, tt_by, tt_nz, tt_ob, tt_st, tt_cpk, tt_c1, tt_c2, tt_ca, tt_cb, tt_some, kd_231, kd_0, Nat.reduceAdd, true_and, and_true, true_implies, not_true_eq_false, false_implies, not_false_eq_true, true_or, or_true, ha, one0]
      refine lp_w (L := fun n (p : Int) => f_X7_same_L13 F 231 T n p ν) (fun m p => ∃ j : Nat, p = j ∧ j + m = u0) (fun m n p hI ih => ?_) u0 F 0 (by omega) ⟨0, rfl, by omega⟩
      obtain ⟨j, rfl, i2⟩ := hI
      have r1 := dfN_rng (σ 232) (fun _ => 0) j (fun _ => 0) T hw0
      rw [f_X7_same_L13]
      simp only [tt_gt, tt_sg, tt_ite, tt_ck, tt_lk, tt_ix, tt_bo, tt_by, tt_nz, tt_ob, tt_st, tt_cpk, tt_c1, tt_c2, tt_ca, tt_cb, tt_some, kd_231, kd_0, Nat.reduceAdd, true_and, and_true, true_implies, not_true_eq_false, false_implies, not_false_eq_true, true_or, or_true, df_ok hF h.wf X.w2 q.2.2 (show ((j : Nat) : Int) ≤ evN (σ 232) by omega) X.kn.v9]
      rw [dfN_sym]
      refine ⟨fun z => ⟨?_, X.gi⟩, fun z => And.intro (by omega) (ih (m - 1) ((j : Int) + 1) ?_ ⟨j + 1, by omega, ?_⟩)⟩
      · apply Classical.byContradiction
        intro y
        exact u3 j (by omega) (by omega)
      · apply Classical.byContradiction
        intro y
        rw [show j = u0 by omega] at z
        omega
      · by_cases y : m = 0
        · rw [show j = u0 by omega] at z
          omega
        · omega
    refine lp_w (L := fun n (p : Int × St) => f_X6_same_L40 F 0 T n p.1 p.2) (fun m p => ∃ j : Nat, p.1 = j ∧ j + m = T ∧ j ≤ u0 ∧ QB σ p.2 ∧ BR 208 p.2 (σ 232 0) (Val (σ 232) (fun _ => 0) T) ∧ BR 210 p.2 (σ 232 0) (Val (σ 232) (fun _ => 0) j)) (fun m n p hI ih => ?_) T F (0, σ2) (by omega) ⟨0, rfl, by omega, by omega, (h1.1.qb (by omega)).tr (h2.1.qb (by omega)), B1, h2.2⟩
    obtain ⟨i, τ⟩ := p
    dsimp only at hI ih ⊢
    obtain ⟨j, rfl, i2, i3, i4, i5, i6⟩ := hI
    rw [f_X6_same_L40]
    simp only [tt_gt, tt_sg, tt_ite, tt_ck, tt_lk, tt_ix, tt_bo, tt_by, tt_nz, tt_ob, tt_st, tt_cpk, tt_c1, tt_c2, tt_ca, tt_cb, tt_some, kd_231, kd_0, Nat.reduceAdd, true_and, and_true, true_implies, not_true_eq_false, false_implies, not_false_eq_true, true_or, or_true, Nat.zero_add]
    refine ⟨fun z => ?_, fun z => ?_⟩
    · rw [show ((T : Nat) : Int) = (u0 : Int) by omega]
      have := key τ i4
      rw [show ((T : Nat) : Int) = (u0 : Int) by omega] at this
      exact this
    · rw [unlike_ok (F := F) (b := 210) (d := 208) hF rfl rfl hw0 i6 i5, tt_some]
      have e1 : sm (fun c => if Val (σ 232) (fun _ => 0) j c = Val (σ 232) (fun _ => 0) T c then 0 else 1) (σ 232 0).toNat = dfN (σ 232) (fun _ => 0) j (fun _ => 0) T := rfl
      rw [e1]
      refine ⟨fun z2 => ?_, fun z2 => ?_⟩
      · refine (e0_apply (F := F) (b := 210) (s := 4) (e := (j : Int)) hF rfl rfl (h.sc.qb i4) h.wf ⟨by omega, by omega⟩ i6.1 (i6.b255 h.wf (by omega))).mono (fun r hr => And.intro (by omega) (ih (m - 1) ((j : Int) + 1, r.2) (by omega) ⟨j + 1, by dsimp only; omega, by omega, ?_, i4.tr (fun x hx => hr.1 x (by omega)), ⟨by rw [hr.1 208 (by decide)]; exact i5.1, fun c c1 c2 => by rw [hr.1 (208 + 1) (by decide)]; exact i5.2 c c1 c2⟩, ap_val (r := r) h.wf (by omega) i6 rfl hr⟩))
        apply Classical.byContradiction
        intro y
        rw [show j = u0 by omega] at z2
        exact z2 u2
      · have z3 := Classical.byContradiction z2
        have : j = u0 := by
          apply Classical.byContradiction
          intro y
          exact u3 j (by omega) z3
        rw [this]
        exact key τ i4
  · rw [if_neg q] at ht
    simp only [tt_gt, tt_sg, tt_ite, tt_ck, tt_lk, tt_ix, tt_bo, tt_by, tt_nz, tt_ob, tt_st, tt_cpk, tt_c1, tt_c2, tt_ca, tt_cb, tt_some, kd_231, kd_0, Nat.reduceAdd, true_and, and_true, true_implies, not_true_eq_false, false_implies, not_false_eq_true, true_or, or_true, Nat.zero_add, ht, eq_self]
    obtain ⟨T0, P0⟩ := h.self
    obtain ⟨⟨v, ν⟩, ha, hv, μ, X⟩ := P0.asksAt hF h t
    dsimp only at hv X
    rw [if_neg q] at hv
    subst hv
    unfold f_X7_same
    simp only [tt_gt, tt_sg, tt_ite, tt_ck, tt_lk, tt_ix, tt_bo, tt_by, tt_nz, tt_ob, tt_st, tt_cpk, tt_c1, tt_c2, tt_ca, tt_cb, tt_some, kd_231, kd_0, Nat.reduceAdd, true_and, and_true, true_implies, not_true_eq_false, false_implies, not_false_eq_true, true_or, or_true, ha, eq_self]
    exact X.gi
