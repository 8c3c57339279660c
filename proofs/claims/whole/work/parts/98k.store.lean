def SIn (σ : St) (κ : St) : Prop := (κ 231 5 = σ 231 5) ∧ (κ 235 = σ 235)
theorem SIn.i5 {σ : St} {κ : St} (h : SIn σ κ) : κ 231 5 = σ 231 5 := h.1
theorem SIn.i2 {σ : St} {κ : St} (h : SIn σ κ) : κ 235 = σ 235 := h.2
def SmP (F : Nat) (κ : St) (r : Int × St) : Prop := ∃ κ', RdQ r κ' ∧ (∀ x, x ≠ 231 → x ≠ 237 → κ' x = κ x) ∧ κ' 231 5 = 0 ∧ ∀ P, EnP F P κ' → TT (f_X7_store F 231 κ) P
theorem read_J {F : Nat} {σ κ : St} (hF : 1000 ≤ F) (h : GI F σ) (hi : SIn σ κ) : TT (f_X2_read F 1 7 σ) (fun r => SmP F κ r ∧ C6 σ r.2) := by
  have hl := h.tl
  generalize hL : σ 231 5 = L at hl
  have c0 : σ 1 0 = L := h.t0.trans hL
  generalize hκ : z_up (z_up (z_up (z_up (z_up κ 231 7 L) 231 5 0) 231 8 0) 231 12 0) 231 13 (-1) = κ0
  have oκ : ∀ x, x ≠ 231 → κ0 x = κ x := fun x hx => by rw [← hκ, up_ne hx, up_ne hx, up_ne hx, up_ne hx, up_ne hx]
  have cκ : ∀ j, κ0 231 j = if j = 13 then -1 else if j = 12 then 0 else if j = 8 then 0 else if j = 5 then 0 else if j = 7 then L else κ 231 j := fun j => by
    rw [← hκ]
    simp only [up_eq]
  have zr : ∃ κ1, (∀ x, x ≠ 237 → κ1 x = κ0 x) ∧ (∀ j, 0 ≤ j → j < 246 → κ1 237 j = 0) ∧ ∀ P, TT (f_X7_advance F 231 κ1) (fun κ2 => TT (f_X7_store_L54 F 231 F κ2) P) → TT (f_X7_store F 231 κ) P := by
    have lp : ∀ (m : Nat) (i : Int) (N : Nat) (κa : St), 0 ≤ i → i + m = 246 → m < N → (∀ x, x ≠ 237 → κa x = κ0 x) → (∀ j, 0 ≤ j → j < i → κa 237 j = 0) → ∃ κ1, (∀ x, x ≠ 237 → κ1 x = κ0 x) ∧ (∀ j, 0 ≤ j → j < 246 → κ1 237 j = 0) ∧ ∀ P, TT (f_X7_advance F 231 κ1) (fun κ2 => TT (f_X7_store_L54 F 231 F κ2) P) → TT (f_X7_store_L30 F 231 N i κa) P := by
      intro m
      induction m with
      | zero =>
        intro i N κa i1 i2 hN g1 g2
        obtain ⟨N, rfl⟩ : ∃ c, N = c + 1 := ⟨N - 1, by omega⟩
        refine ⟨κa, g1, fun j j1 j2 => g2 j j1 (by omega), fun P hP => ?_⟩
        rw [f_X7_store_L30]
        simp only [tt_gt, tt_sg, tt_ite, tt_ck, tt_lk, tt_ix, tt_bo, tt_by, tt_nz, tt_ob, tt_st, tt_cpk, tt_c1, tt_c2, tt_ca, tt_cb, tt_some, kd_231, kd_0, Nat.reduceAdd, true_and, and_true, true_implies, not_true_eq_false, false_implies, not_false_eq_true, true_or, or_true]
        exact ⟨fun _ => hP, fun y => absurd (show 246 ≤ i by omega) y⟩
      | succ m ih =>
        intro i N κa i1 i2 hN g1 g2
        obtain ⟨N, rfl⟩ : ∃ c, N = c + 1 := ⟨N - 1, by omega⟩
        obtain ⟨κ1, a1, a2, a3⟩ := ih (i + 1) N (z_up κa 237 i 0) (by omega) (by omega) (by omega) (fun x hx => (up_ne hx).trans (g1 x hx)) (fun j j1 j2 => by
          rw [up_eq]
          dsimp only
          by_cases u : j = i
          · rw [if_pos u]
          · rw [if_neg u]; exact g2 j j1 (by omega))
        refine ⟨κ1, a1, a2, fun P hP => ?_⟩
        rw [f_X7_store_L30]
        simp only [tt_gt, tt_sg, tt_ite, tt_ck, tt_lk, tt_ix, tt_bo, tt_by, tt_nz, tt_ob, tt_st, tt_cpk, tt_c1, tt_c2, tt_ca, tt_cb, tt_some, kd_231, kd_0, Nat.reduceAdd, true_and, and_true, true_implies, not_true_eq_false, false_implies, not_false_eq_true, true_or, or_true]
        exact ⟨fun y => absurd y (by omega), fun _ => And.intro (by omega) (And.intro (by omega) (a3 P hP))⟩
    obtain ⟨κ1, a1, a2, a3⟩ := lp 246 0 F κ0 (by omega) (by omega) (by omega) (fun _ _ => rfl) (fun j j1 j2 => absurd j2 (by omega))
    refine ⟨κ1, a1, a2, fun P hP => ?_⟩
    unfold f_X7_store
    simp only [tt_gt, tt_sg, tt_ite, tt_ck, tt_lk, tt_ix, tt_bo, tt_by, tt_nz, tt_ob, tt_st, tt_cpk, tt_c1, tt_c2, tt_ca, tt_cb, tt_some, kd_231, kd_0, Nat.reduceAdd, true_and, and_true, true_implies, not_true_eq_false, false_implies, not_false_eq_true, true_or, or_true, hi.i5, hL, hκ]
    exact a3 P hP
  obtain ⟨κ1, a1, a2, a3⟩ := zr
  have d31 : κ1 231 = κ0 231 := a1 231 (by decide)
  unfold f_X2_read f_X4_clear
  simp only [tt_gt, tt_sg, tt_ite, tt_ck, tt_lk, tt_ix, tt_bo, tt_by, tt_nz, tt_ob, tt_st, tt_cpk, tt_c1, tt_c2, tt_ca, tt_cb, tt_some, kd_231, kd_0, Nat.reduceAdd, true_and, and_true, true_implies, not_true_eq_false, false_implies, not_false_eq_true, true_or, or_true, show kdX 1 = 2 from rfl, show kdX 7 = 4 from rfl]
  generalize hτ : z_up (z_up (z_up (z_up (z_up (z_up (z_up (z_up σ 1 1 0) 1 2 (-1)) 1 7 0) 7 0 0) 7 1 0) 7 2 0) 7 3 0) 7 4 0 = τ
  have oτ : ∀ x, x ≠ 1 → x ≠ 7 → τ x = σ x := fun x x1 x2 => by rw [← hτ, up_ne x2, up_ne x2, up_ne x2, up_ne x2, up_ne x2, up_ne x1, up_ne x1, up_ne x1]
  have c1 : ∀ j, τ 1 j = if j = 7 then 0 else if j = 2 then -1 else if j = 1 then 0 else σ 1 j := fun j => by
    rw [← hτ, up_ne (by decide), up_ne (by decide), up_ne (by decide), up_ne (by decide), up_ne (by decide)]
    simp only [up_eq]
  have c7 : ∀ j, 0 ≤ j → j < 5 → τ 7 j = 0 := fun j j1 j2 => by
    rw [← hτ]
    simp only [up_eq]
    have : j = 0 ∨ j = 1 ∨ j = 2 ∨ j = 3 ∨ j = 4 := by omega
    rcases this with y | y | y | y | y <;> subst y <;> rfl
  have cτ : C6 σ τ := ⟨fun x x1 _ x3 _ _ => oτ x x1 x3, fun y => by rw [oτ 8 (by decide) (by decide)]; exact y⟩
  have jp : JP (fun i => σ 2 i) L τ κ1 := by
    refine ⟨hl, ?_, ?_, fun i i1 i2 => ?_, ?_, ?_, ?_, ?_, ?_, ?_⟩
    · rw [c1, if_neg (by decide), if_neg (by decide), if_neg (by decide)]; exact c0
    · rw [d31, cκ]; rfl
    · have := h.tp i i1 (by omega)
      rw [oτ 2 (by decide) (by decide), a1 235 (by decide), oκ 235 (by decide), hi.i2]
      exact ⟨rfl, this.1.symm, this.2⟩
    · rw [c1, if_pos rfl, d31, cκ]; rfl
    · rw [d31, cκ]
      exact ⟨show (0 : Int) ≤ 0 by decide, show (0 : Int) ≤ L from hl.1⟩
    · rw [c1]; rfl
    · rw [c1]; rfl
    · rw [d31, cκ]; rfl
    · rw [d31, cκ]; rfl
  refine (jp.adv hF).mono (fun τ1 h1 => ?_)
  obtain ⟨κ2, ea, j1, a6, a7⟩ := h1
  have z2 : ∀ j, 0 ≤ j → j < 246 → κ2 237 j = 0 := fun j k1 k2 => by rw [a7.1 237 (by decide)]; exact a2 j k1 k2
  have t7 : ∀ j, 0 ≤ j → j < 5 → τ1 7 j = 0 := fun j k1 k2 => by rw [a6.1 7 (by decide)]; exact c7 j k1 k2
  have t8 : ∀ e, 0 ≤ e → e < 60 → 0 ≤ τ1 8 e ∧ τ1 8 e ≤ 8 := by rw [a6.1 8 (by decide), oτ 8 (by decide) (by decide)]; exact h.sp
  have C1 : C6 σ τ1 := cτ.tr a6.b.c
  have out : ∀ κ' : St, C7 κ2 κ' → (∀ x, x ≠ 231 → x ≠ 237 → κ' x = κ x) ∧ κ' 231 5 = 0 := fun κ' hc => by
    refine ⟨fun x x1 x2 => by rw [hc.1 x x1 x2, a7.1 x x1, a1 x x2, oκ x x1], ?_⟩
    rw [hc.2 5 (by omega), a7.2 5 (by decide) (by decide) (by decide) (by decide), d31, cκ]
    rfl
  obtain ⟨f, hf⟩ : ∃ f, F = f + 1 := ⟨F - 1, by omega⟩
  rw [j1.ty]
  by_cases q : κ2 231 10 = 0
  · refine ⟨fun y => absurd q y, fun _ => ?_⟩
    have wz : WF (κ2 237) := by
      refine ⟨?_, Or.inl ⟨z2 5 (by decide) (by decide), z2⟩, fun e e1 e2 => ?_⟩
      · unfold Hd
        rw [z2 0 (by decide) (by decide), z2 1 (by decide) (by decide), z2 2 (by decide) (by decide), z2 3 (by decide) (by decide), z2 4 (by decide) (by decide), z2 5 (by decide) (by decide)]
        decide
      · unfold evN at e2
        rw [z2 3 (by decide) (by decide), z2 4 (by decide) (by decide)] at e2
        omega
    have sz : SR 7 τ1 (κ2 237) := by
      refine ⟨fun j k1 k2 => by rw [t7 j k1 k2, z2 j k1 (by omega)], t8, fun e e1 e2 => ?_⟩
      unfold evN at e2
      rw [z2 3 (by decide) (by decide), z2 4 (by decide) (by decide)] at e2
      omega
    have o := out κ2 C7.rf
    have fin : SmP F κ (1, τ1) := ⟨κ2, Or.inl ⟨rfl, ⟨j1.jp.g1, j1.jp.g2, j1.jp.f1, j1.jp.f2⟩, wz, sz⟩, o.1, o.2, fun P hP => a3 P ⟨κ2, ea, by rw [hf] at hP ⊢; exact l54_end (Or.inr q) hP⟩⟩
    first
      | exact ⟨fin, C1⟩
      | exact ⟨by omega, fin, C1⟩
  refine ⟨fun _ => ?_, fun y => absurd q y⟩
  refine (head_J hF j1 z2 t7 t8).mono (fun r hr => ?_)
  obtain ⟨κ3, et, tq⟩ := hr
  rcases tq.oc with oc | oc
  · have ok := tq.ok oc.1
    rw [oc.1]
    refine (loop_J hF 40 0 F (F - 1) r.2 κ3 (by omega) (by omega) (by omega) (by omega) oc.2 ok.1 ok.2.1 ok.2.2.2.1 ok.2.2.1 ok.2.2.2.2).mono (fun r' hr' => ?_)
    obtain ⟨κ4, rq, c6, c7', hP⟩ := hr'
    have o := out κ4 (tq.c7.tr c7')
    refine ⟨⟨κ4, rq, o.1, o.2, fun P hp => a3 P ⟨κ2, ea, ?_⟩⟩, (C1.tr tq.c6).tr c6⟩
    dsimp only
    rw [show f_X7_store_L54 F 231 F κ2 = f_X7_store_L54 F 231 (F - 1 + 1) κ2 from congrArg (fun x => f_X7_store_L54 F 231 x κ2) (by omega)]
    exact l54_go j1.jp.g1 q ⟨κ3, et, hP P hp⟩
  · have o := out κ3 tq.c7
    have fin : SmP F κ (0, r.2) := by
      refine ⟨κ3, Or.inr ⟨rfl, oc.2⟩, o.1, o.2, fun P hp => a3 P ⟨κ2, ea, ?_⟩⟩
      dsimp only
      rw [show f_X7_store_L54 F 231 F κ2 = f_X7_store_L54 F 231 (F - 2 + 1 + 1) κ2 from congrArg (fun x => f_X7_store_L54 F 231 x κ2) (by omega)]
      exact l54_go j1.jp.g1 q ⟨κ3, et, l54_end (Or.inl oc.2.kn) hp⟩
    rw [show f_X2_read_L40 F 1 7 F r.1 0 r.2 = f_X2_read_L40 F 1 7 (F - 1 + 1) r.1 0 r.2 from congrArg (fun x => f_X2_read_L40 F 1 7 x r.1 0 r.2) (by omega), f_X2_read_L40]
    simp only [tt_gt, tt_sg, tt_ite, tt_ck, tt_lk, tt_ix, tt_bo, tt_by, tt_nz, tt_ob, tt_st, tt_cpk, tt_c1, tt_c2, tt_ca, tt_cb, tt_some, kd_231, kd_0, Nat.reduceAdd, true_and, and_true, true_implies, not_true_eq_false, false_implies, not_false_eq_true, true_or, or_true, oc.1]
    refine ⟨fun y => absurd y (by decide), fun _ => ?_⟩
    first
      | exact ⟨fin, C1.tr tq.c6⟩
      | exact ⟨fun _ => ⟨fin, C1.tr tq.c6⟩, fun y => absurd rfl y⟩
