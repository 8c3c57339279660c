def DD (τ : St) (κ : St) : Prop := (τ 1 1 = κ 231 12) ∧ (τ 1 2 = κ 231 13) ∧ (¬ κ 231 12 = 0)
theorem DD.k1 {τ : St} {κ : St} (h : DD τ κ) : τ 1 1 = κ 231 12 := h.1
theorem DD.k2 {τ : St} {κ : St} (h : DD τ κ) : τ 1 2 = κ 231 13 := h.2.1
theorem DD.kn {τ : St} {κ : St} (h : DD τ κ) : ¬ κ 231 12 = 0 := h.2.2
def B6 (τ τ' : St) : Prop := ∀ x, x ≠ 1 → τ' x = τ x
def B7 (κ κ' : St) : Prop := (∀ x, x ≠ 231 → κ' x = κ x) ∧ ∀ j, j < 8 ∨ 13 < j → κ' 231 j = κ 231 j
theorem A6.b {τ τ' : St} (h : A6 τ τ') : B6 τ τ' := h.1
theorem A7.b {κ κ' : St} (h : A7 κ κ') : B7 κ κ' := ⟨h.1, fun j hj => h.2 j (by omega) (by omega) (by omega) (by omega)⟩
theorem dead_errs {F : Nat} {κ : St} {a : Int} (h : ¬ κ 231 12 = 0) : f_X7_errs F 231 a κ = some κ := by
  apply TT.eq
  unfold f_X7_errs
  simp only [tt_gt, tt_sg, tt_ite, tt_ck, tt_lk, tt_ix, tt_bo, tt_by, tt_nz, tt_ob, tt_st, tt_cpk, tt_c1, tt_c2, tt_ca, tt_cb, tt_some, kd_231, kd_0, Nat.reduceAdd, true_and, and_true, true_implies, not_true_eq_false, false_implies, not_false_eq_true, true_or, or_true, e_good7, if_neg h] <;> first
    | exact ⟨fun y => absurd rfl y, fun _ => rfl⟩
    | exact ⟨fun y => absurd rfl y, fun _ => trivial⟩
def erS (a : Int) (κ : St) : St := z_up (z_up κ 231 12 a) 231 13 (κ 231 9)
theorem live_errs {F : Nat} {κ : St} {a : Int} (h : κ 231 12 = 0) : f_X7_errs F 231 a κ = some (erS a κ) := by
  apply TT.eq
  have e : z_up κ 231 12 a 231 9 = κ 231 9 := by rw [up_eq]; exact if_neg (by decide)
  unfold f_X7_errs
  simp only [tt_gt, tt_sg, tt_ite, tt_ck, tt_lk, tt_ix, tt_bo, tt_by, tt_nz, tt_ob, tt_st, tt_cpk, tt_c1, tt_c2, tt_ca, tt_cb, tt_some, kd_231, kd_0, Nat.reduceAdd, true_and, and_true, true_implies, not_true_eq_false, false_implies, not_false_eq_true, true_or, or_true, e_good7, if_pos h, e] <;> first
    | exact ⟨fun _ => rfl, fun y => absurd (by decide) y⟩
    | exact ⟨fun _ => trivial, fun y => absurd (by decide) y⟩
theorem erS_b (a : Int) (κ : St) : B7 κ (erS a κ) := by
  unfold erS
  refine ⟨fun x hx => by rw [up_ne hx, up_ne hx], fun j hj => ?_⟩
  rw [up_eq]
  dsimp only
  rw [if_neg (by omega), up_eq]
  exact if_neg (by omega)
theorem erS_12 (a : Int) (κ : St) : erS a κ 231 12 = a := by
  unfold erS
  rw [up_eq]
  dsimp only
  rw [if_neg (by decide), up_eq]
  exact if_pos rfl
theorem erS_13 (a : Int) (κ : St) : erS a κ 231 13 = κ 231 9 := by
  unfold erS
  rw [up_eq]
  exact if_pos rfl
def flS (a : Int) (τ : St) : St := z_up (z_up τ 1 1 a) 1 2 (τ 1 6)
theorem e_fail {F : Nat} {τ : St} {a : Int} : f_X2_fail F 1 a τ = some (0, flS a τ) := by
  apply TT.eq
  have e : z_up τ 1 1 a 1 6 = τ 1 6 := by rw [up_eq]; exact if_neg (by decide)
  unfold f_X2_fail
  simp only [tt_gt, tt_sg, tt_ite, tt_ck, tt_lk, tt_ix, tt_bo, tt_by, tt_nz, tt_ob, tt_st, tt_cpk, tt_c1, tt_c2, tt_ca, tt_cb, tt_some, kd_231, kd_0, Nat.reduceAdd, true_and, and_true, true_implies, not_true_eq_false, false_implies, not_false_eq_true, true_or, or_true, show kdX 1 = 2 from rfl, e] <;> first
    | rfl
    | trivial
theorem flS_b (a : Int) (τ : St) : B6 τ (flS a τ) := fun x hx => by
  unfold flS
  rw [up_ne hx, up_ne hx]
theorem JT.fl {T : Int → Int} {L a : Int} {τ κ : St} (h : JT T L τ κ) (ha : a ≠ 0) : DD (flS a τ) (erS a κ) := by
  refine ⟨?_, ?_, ?_⟩
  · rw [erS_12]
    unfold flS
    rw [up_eq]
    dsimp only
    rw [if_neg (by decide), up_eq]
    exact if_pos rfl
  · rw [erS_13, ← h.st]
    unfold flS
    rw [up_eq]
    exact if_pos rfl
  · rw [erS_12]
    exact ha
theorem dead_is {F wd : Nat} {κ : St} (hF : 1000 ≤ F) (hw : wd < 13) (h : ¬ κ 231 12 = 0) : f_X7_is F 231 wd κ = some 0 := by
  have hl := wl_r wd hw
  apply TT.eq
  have z0 : TT (f_X7_is_L39 F 231 wd κ F 0 0) (fun b => b = 0) := by
    obtain ⟨f, rfl⟩ : ∃ f, F = f + 1 := ⟨F - 1, by omega⟩
    rw [f_X7_is_L39]
    simp only [tt_gt, tt_sg, tt_ite, tt_ck, tt_lk, tt_ix, tt_bo, tt_by, tt_nz, tt_ob, tt_st, tt_cpk, tt_c1, tt_c2, tt_ca, tt_cb, tt_some, kd_231, kd_0, Nat.reduceAdd, true_and, and_true, true_implies, not_true_eq_false, false_implies, not_false_eq_true, true_or, or_true, e_len (F := f + 1) (σ := κ) hw] <;> first
      | exact ⟨fun y => absurd y (by omega), fun _ => trivial⟩
      | exact ⟨fun _ => trivial, fun _ => trivial⟩
      | trivial
  unfold f_X7_is
  simp only [tt_gt, tt_sg, tt_ite, tt_ck, tt_lk, tt_ix, tt_bo, tt_by, tt_nz, tt_ob, tt_st, tt_cpk, tt_c1, tt_c2, tt_ca, tt_cb, tt_some, kd_231, kd_0, Nat.reduceAdd, true_and, and_true, true_implies, not_true_eq_false, false_implies, not_false_eq_true, true_or, or_true, hw, e_good7, if_neg h]
  first
    | exact z0
    | exact ⟨fun _ => z0, fun y => absurd rfl y⟩
theorem dead_exp {F wd : Nat} {κ : St} (hF : 1000 ≤ F) (hw : wd < 13) (h : ¬ κ 231 12 = 0) : f_X7_expects F 231 wd κ = some κ := by
  apply TT.eq
  unfold f_X7_expects
  simp only [tt_gt, tt_sg, tt_ite, tt_ck, tt_lk, tt_ix, tt_bo, tt_by, tt_nz, tt_ob, tt_st, tt_cpk, tt_c1, tt_c2, tt_ca, tt_cb, tt_some, kd_231, kd_0, Nat.reduceAdd, true_and, and_true, true_implies, not_true_eq_false, false_implies, not_false_eq_true, true_or, or_true, hw, dead_is hF hw h, dead_errs h] <;> first
    | exact ⟨fun _ => rfl, fun y => absurd rfl y⟩
    | exact ⟨fun _ => trivial, fun y => absurd rfl y⟩
theorem dead_num {F : Nat} {κ : St} {a b : Int} (h : ¬ κ 231 12 = 0) : f_X7_number F 231 a b κ = some (0, κ) := by
  apply TT.eq
  unfold f_X7_number f_X7_number_J20 f_X7_number_J47
  simp only [tt_gt, tt_sg, tt_ite, tt_ck, tt_lk, tt_ix, tt_bo, tt_by, tt_nz, tt_ob, tt_st, tt_cpk, tt_c1, tt_c2, tt_ca, tt_cb, tt_some, kd_231, kd_0, Nat.reduceAdd, true_and, and_true, true_implies, not_true_eq_false, false_implies, not_false_eq_true, true_or, or_true, e_good7, if_neg h] <;> first
    | exact ⟨fun _ => ⟨fun _ => ⟨fun y => absurd rfl y, fun _ => rfl⟩, fun y => absurd rfl y⟩, fun y => absurd rfl y⟩
    | exact ⟨fun _ => ⟨fun _ => ⟨fun y => absurd rfl y, fun _ => trivial⟩, fun y => absurd rfl y⟩, fun y => absurd rfl y⟩
theorem dead_told {F wd : Nat} {κ : St} {a b : Int} (hF : 1000 ≤ F) (hw : wd < 13) (h : ¬ κ 231 12 = 0) : f_X7_toldBy F 231 wd a b κ = some (0, κ) := by
  apply TT.eq
  unfold f_X7_toldBy
  simp only [tt_gt, tt_sg, tt_ite, tt_ck, tt_lk, tt_ix, tt_bo, tt_by, tt_nz, tt_ob, tt_st, tt_cpk, tt_c1, tt_c2, tt_ca, tt_cb, tt_some, kd_231, kd_0, Nat.reduceAdd, true_and, and_true, true_implies, not_true_eq_false, false_implies, not_false_eq_true, true_or, or_true, hw, dead_exp hF hw h, dead_num h]
def Oc (T : Int → Int) (L : Int) (r : Int × St) (κ' : St) : Prop := (r.1 = 1 ∧ JT T L r.2 κ') ∨ (r.1 = 0 ∧ DD r.2 κ')
theorem JT.word {F wd : Nat} {T : Int → Int} {L : Int} {τ κ : St} (hF : 1000 ≤ F) (h : JT T L τ κ) (hw : wd < 13) : TT (f_X2_passWord F 1 wd τ) (fun r => TT (f_X7_expects F 231 wd κ) (fun κ' => Oc T L r κ' ∧ B6 τ r.2 ∧ B7 κ κ')) := by
  unfold f_X2_passWord f_X7_expects
  simp only [tt_gt, tt_sg, tt_ite, tt_ck, tt_lk, tt_ix, tt_bo, tt_by, tt_nz, tt_ob, tt_st, tt_cpk, tt_c1, tt_c2, tt_ca, tt_cb, tt_some, kd_231, kd_0, Nat.reduceAdd, true_and, and_true, true_implies, not_true_eq_false, false_implies, not_false_eq_true, true_or, or_true, show kdX 1 = 2 from rfl, hw, e_fail]
  refine (h.is6 hF hw).mono (fun b hb => ⟨fun z => ?_, fun z => ?_⟩)
  · have hb' : WdP T (κ 231 10) (κ 231 9) (κ 231 8) wd := by
      rcases hb with y | y
      · exact y.2
      · omega
    refine (h.jp.adv hF).mono (fun τ' h1 => ?_)
    refine (h.is7 hF hw).mono (fun c hc => ⟨fun z2 => ?_, fun _ => h1.mono (fun κ' h2 => ⟨Or.inl ⟨rfl, h2.1⟩, h2.2.1.b, h2.2.2.b⟩)⟩)
    rcases hc with y | y
    · omega
    · exact absurd hb' y.2
  · have hb' : ¬ WdP T (κ 231 10) (κ 231 9) (κ 231 8) wd := by
      rcases hb with y | y
      · omega
      · exact y.2
    refine (h.is7 hF hw).mono (fun c hc => ⟨fun _ => ?_, fun z2 => ?_⟩)
    · rw [live_errs h.jp.g1, tt_some]
      exact ⟨Or.inr ⟨rfl, h.fl (by decide)⟩, flS_b _ _, erS_b _ _⟩
    · rcases hc with y | y
      · exact absurd y.2 hb'
      · omega
theorem JT.num {F : Nat} {T : Int → Int} {L lo hi : Int} {τ κ : St} (hF : 1000 ≤ F) (h : JT T L τ κ) (hh : hi ≤ 255) : TT (f_X2_passNumber F 1 lo hi τ) (fun r => TT (f_X7_number F 231 lo hi κ) (fun r' => Oc T L r r'.2 ∧ B6 τ r.2 ∧ B7 κ r'.2 ∧ (r.1 = 1 → r.2 1 9 = r'.1 ∧ lo ≤ r'.1 ∧ r'.1 ≤ hi))) := by
  have dn : ∀ κ', ¬ κ' 231 12 = 0 → f_X7_number_J20 F 231 lo hi κ' = some (0, κ') ∧ f_X7_number_J47 F 231 lo hi κ' = some (0, κ') := fun κ' hk => by
    have j47 : f_X7_number_J47 F 231 lo hi κ' = some (0, κ') := by
      apply TT.eq
      unfold f_X7_number_J47
      simp only [tt_gt, tt_sg, tt_ite, tt_ck, tt_lk, tt_ix, tt_bo, tt_by, tt_nz, tt_ob, tt_st, tt_cpk, tt_c1, tt_c2, tt_ca, tt_cb, tt_some, kd_231, kd_0, Nat.reduceAdd, true_and, and_true, true_implies, not_true_eq_false, false_implies, not_false_eq_true, true_or, or_true, e_good7, if_neg hk] <;> first
        | exact ⟨fun y => absurd rfl y, fun _ => rfl⟩
        | exact ⟨fun y => absurd rfl y, fun _ => trivial⟩
    refine ⟨?_, j47⟩
    apply TT.eq
    unfold f_X7_number_J20
    simp only [tt_gt, tt_sg, tt_ite, tt_ck, tt_lk, tt_ix, tt_bo, tt_by, tt_nz, tt_ob, tt_st, tt_cpk, tt_c1, tt_c2, tt_ca, tt_cb, tt_some, kd_231, kd_0, Nat.reduceAdd, true_and, and_true, true_implies, not_true_eq_false, false_implies, not_false_eq_true, true_or, or_true, e_good7, if_neg hk, j47]
  have g1 := h.jp.g1
  have bad : ∀ a : Int, a ≠ 0 → Oc T L (0, flS a τ) (erS a κ) ∧ B6 τ (flS a τ) ∧ B7 κ (erS a κ) ∧ ((0 : Int) = 1 → flS a τ 1 9 = 0 ∧ lo ≤ 0 ∧ 0 ≤ hi) := fun a ha => ⟨Or.inr ⟨rfl, h.fl ha⟩, flS_b _ _, erS_b _ _, fun y => absurd y (by decide)⟩
  have e1 : ∀ a : Int, a ≠ 0 → ¬ erS a κ 231 12 = 0 := fun a ha => by rw [erS_12]; exact ha
  have o2 : κ 231 10 = 2 → ¬ (lo ≤ τ 1 8 ∧ τ 1 8 ≤ hi) → TT (f_X7_number F 231 lo hi κ) (fun r' => Oc T L (0, flS 2 τ) r'.2 ∧ B6 τ (flS 2 τ) ∧ B7 κ r'.2 ∧ ((0 : Int) = 1 → flS 2 τ 1 9 = r'.1 ∧ lo ≤ r'.1 ∧ r'.1 ≤ hi)) := fun y1 y2 => by
    have nu := h.nu y1
    unfold f_X7_number
    unfold f_X7_number_J20
    simp only [tt_gt, tt_sg, tt_ite, tt_ck, tt_lk, tt_ix, tt_bo, tt_by, tt_nz, tt_ob, tt_st, tt_cpk, tt_c1, tt_c2, tt_ca, tt_cb, tt_some, kd_231, kd_0, Nat.reduceAdd, true_and, and_true, true_implies, not_true_eq_false, false_implies, not_false_eq_true, true_or, or_true, e_good7, if_pos g1, e_in, live_errs g1, (dn _ (e1 2 (by decide))).2]
    rw [if_neg (show ¬ (lo ≤ κ 231 11 ∧ κ 231 11 ≤ hi) by omega)]
    refine ⟨fun y => absurd y (by decide), fun _ => ⟨fun _ => ⟨fun y => absurd y (by decide), fun _ => ⟨fun y => absurd rfl y, fun _ => bad 2 (by decide)⟩⟩, fun y => absurd y1 y⟩⟩
  unfold f_X2_passNumber
  simp only [tt_gt, tt_sg, tt_ite, tt_ck, tt_lk, tt_ix, tt_bo, tt_by, tt_nz, tt_ob, tt_st, tt_cpk, tt_c1, tt_c2, tt_ca, tt_cb, tt_some, kd_231, kd_0, Nat.reduceAdd, true_and, and_true, true_implies, not_true_eq_false, false_implies, not_false_eq_true, true_or, or_true, show kdX 1 = 2 from rfl, h.ty, e_fail]
  refine ⟨fun z => ⟨fun z1 => o2 z (by omega), fun z1 => ⟨fun z2 => ?_, fun z2 => o2 z (by omega)⟩⟩, fun z => ?_⟩
  · have nu := h.nu z
    have jp' : JP T L (z_up τ 1 9 (τ 1 8)) κ := by
      have u : ∀ j, j ≠ 9 → z_up τ 1 9 (τ 1 8) 1 j = τ 1 j := fun j hj => by rw [up_eq]; exact if_neg hj
      refine ⟨h.jp.l0, by rw [u 0 (by decide)]; exact h.jp.c0, h.jp.m0, fun i i1 i2 => by rw [up_ne (by decide)]; exact h.jp.tp i i1 i2, by rw [u 7 (by decide)]; exact h.jp.en, h.jp.rg, by rw [u 1 (by decide)]; exact h.jp.f1, by rw [u 2 (by decide)]; exact h.jp.f2, h.jp.g1, h.jp.g2⟩
    have eq9 : ∀ τ' : St, A6 (z_up τ 1 9 (τ 1 8)) τ' → τ' 1 9 = κ 231 11 := fun τ' ha => by
      rw [ha.2 9 (by decide) (by decide) (by decide) (by decide), up_eq]
      dsimp only
      rw [if_pos rfl]
      omega
    refine (jp'.adv hF).mono (fun τ' h1 => ?_)
    unfold f_X7_number
    unfold f_X7_number_J20 f_X7_number_J47
    simp only [tt_gt, tt_sg, tt_ite, tt_ck, tt_lk, tt_ix, tt_bo, tt_by, tt_nz, tt_ob, tt_st, tt_cpk, tt_c1, tt_c2, tt_ca, tt_cb, tt_some, kd_231, kd_0, Nat.reduceAdd, true_and, and_true, true_implies, not_true_eq_false, false_implies, not_false_eq_true, true_or, or_true, e_good7, if_pos g1, e_in]
    rw [if_pos (show lo ≤ κ 231 11 ∧ κ 231 11 ≤ hi by omega)]
    refine ⟨fun y => absurd y (by decide), fun _ => ⟨fun _ => ⟨fun y => absurd y (by decide), fun _ => ⟨fun _ => ⟨fun _ => h1.mono (fun κ' h2 => ⟨Or.inl ⟨rfl, h2.1⟩, fun x hx => (h2.2.1.1 x hx).trans (up_ne hx), h2.2.2.b, ⟨eq9 τ' h2.2.1, by omega, by omega⟩⟩), fun y => absurd (by decide) y⟩, fun y => absurd (by decide) y⟩⟩, fun y => absurd z y⟩⟩
  · unfold f_X7_number
    simp only [tt_gt, tt_sg, tt_ite, tt_ck, tt_lk, tt_ix, tt_bo, tt_by, tt_nz, tt_ob, tt_st, tt_cpk, tt_c1, tt_c2, tt_ca, tt_cb, tt_some, kd_231, kd_0, Nat.reduceAdd, true_and, and_true, true_implies, not_true_eq_false, false_implies, not_false_eq_true, true_or, or_true, e_good7, if_pos g1, live_errs g1, (dn _ (e1 1 (by decide))).1]
    exact ⟨fun y => absurd y (by decide), fun _ => ⟨fun y => absurd y z, fun _ => bad 1 (by decide)⟩⟩
