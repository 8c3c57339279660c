def QCl (σ σ' : St) : Prop := ∀ x, (x < 12 ∨ 213 < x) → σ' x = σ x
theorem QCl.rf {σ : St} : QCl σ σ := fun _ _ => rfl
theorem QCl.tr {a b c : St} (h : QCl a b) (h2 : QCl b c) : QCl a c := fun x q => (h2 x q).trans (h x q)
def QM (σ σ' : St) : Prop := (∀ x, x < 231 → σ' x = σ x) ∧ (∀ x, x = 232 ∨ x = 233 ∨ x = 234 ∨ x = 235 ∨ x = 255 ∨ x = 256 ∨ x = 257 → σ' x = σ x) ∧ (∀ j, j = 5 ∨ j = 12 ∨ j = 13 → σ' 231 j = σ 231 j) ∧ (B255 (σ 251) → B255 (σ' 251))
theorem QM.lo {σ σ' : St} (h : QM σ σ') : ∀ x, x < 231 → σ' x = σ x := h.1
theorem QM.hi {σ σ' : St} (h : QM σ σ') : ∀ x, x = 232 ∨ x = 233 ∨ x = 234 ∨ x = 235 ∨ x = 255 ∨ x = 256 ∨ x = 257 → σ' x = σ x := h.2.1
theorem QM.sl {σ σ' : St} (h : QM σ σ') : ∀ j, j = 5 ∨ j = 12 ∨ j = 13 → σ' 231 j = σ 231 j := h.2.2.1
theorem QM.ag {σ σ' : St} (h : QM σ σ') : B255 (σ 251) → B255 (σ' 251) := h.2.2.2
theorem QM.rf {σ : St} : QM σ σ := ⟨fun _ _ => rfl, fun _ _ => rfl, fun _ _ => rfl, id⟩
theorem QM.tr {a b c : St} (h : QM a b) (h2 : QM b c) : QM a c := ⟨fun x q => (h2.lo x q).trans (h.lo x q), fun x q => (h2.hi x q).trans (h.hi x q), fun j q => (h2.sl j q).trans (h.sl j q), fun q => h2.ag (h.ag q)⟩
theorem RunR.fr {b : Nat} {w0 l : Int} {t : Nat} {μ σ σ' : St} (h : RunR b w0 l t μ σ) (h30 : μ 231 28 ≤ 30) (he : ∀ x, b ≤ x → x ≤ b + 97 → σ' x = σ x) : RunR b w0 l t μ σ' := by
  refine ⟨⟨by rw [he _ (by omega) (by omega)]; exact h.bd.1, by rw [he _ (by omega) (by omega)]; exact h.bd.2⟩, by rw [he _ (by omega) (by omega)]; exact h.n8, by rw [he _ (by omega) (by omega)]; exact h.n9, by rw [he _ (by omega) (by omega)]; exact h.cn, by rw [he _ (by omega) (by omega)]; exact h.op, by rw [he _ (by omega) (by omega)]; exact h.aw, by rw [he _ (by omega) (by omega)]; exact h.dr, by rw [he _ (by omega) (by omega)]; exact h.dt, by rw [he _ (by omega) (by omega)]; exact h.la, by rw [he _ (by omega) (by omega)]; exact h.cb, fun k k1 k2 => (h.cc k k1 k2).mv (he _ (by omega) (by omega)) (he _ (by omega) (by omega)) (he _ (by omega) (by omega)), fun k k1 k2 => (h.cd k k1 k2).mv (fun i _ _ => by rw [he _ (by omega) (by omega)])⟩
theorem MI0.n30 {w0 : Int} {t : Nat} {μ : St} (h : MI0 w0 t μ) (ht : t ≤ 60) : 0 ≤ μ 231 28 ∧ μ 231 28 ≤ 30 := by
  have h1 := h.c0
  have h2 := h.c2
  split at h2 <;> omega
theorem RIt.fr {F : Nat} {w : Int → Int} {t : Nat} {σ σ' : St} (hF : 100 ≤ F) (hw : WF w) (h : RIt F w t σ) (he : ∀ x, 12 ≤ x → x ≤ 109 → σ' x = σ x) : RIt F w t σ' := by
  have h60 := hw.ev60
  obtain ⟨h1, h2, h3, h4⟩ := h
  have e12 := he 12 (by decide) (by decide)
  refine ⟨h1, by rw [e12]; exact h2, fun α hA => (h3 α hA).fr ((hA.it hF).1.n30 (by omega)).2 (fun x x1 x2 => he x x1 x2), fun e q α hA => ?_⟩
  have h5 := h4 e q α hA
  exact ⟨by rw [e12]; exact h5.s5, by rw [e12]; exact h5.r6, by rw [e12]; exact h5.c6, by rw [e12]; exact h5.r7, by rw [e12]; exact h5.c7⟩
theorem RI.fr {F : Nat} {w : Int → Int} {σ σ' : St} (hF : 100 ≤ F) (hw : WF w) (h : RI F w σ) (he : ∀ x, 12 ≤ x → x ≤ 109 → σ' x = σ x) : RI F w σ' := by
  obtain ⟨t, h⟩ := h
  exact ⟨t, h.fr hF hw he⟩
def SlP (σ : St) (c : Nat) (s : Int) : Prop := (σ c 0 = 1 ∧ σ 255 s = σ c 2 ∧ 0 ≤ σ c 2 ∧ σ c 2 ≤ 60 ∧ σ 256 s = σ c 1 ∧ 0 ≤ σ c 1 ∧ σ c 1 ≤ 3 ∧ ∀ i, 0 ≤ i → i < 60 → σ (c + 1) i = σ 257 (60 * s + i)) ∨ (σ c 0 = 0 ∧ σ 255 s = -1)
theorem SlP.mv {σ σ' : St} {c : Nat} {s : Int} (h : SlP σ c s) (h0 : σ' c = σ c) (h1 : σ' (c + 1) = σ (c + 1)) (h2 : σ' 255 = σ 255) (h3 : σ' 256 = σ 256) (h4 : σ' 257 = σ 257) : SlP σ' c s := by
  unfold SlP
  rw [h0, h1, h2, h3, h4]
  exact h
def GI (F : Nat) (σ : St) : Prop := (WF (σ 232)) ∧ (SR 4 σ (σ 232)) ∧ (RI F (σ 232) σ) ∧ (∀ e, 0 ≤ e → e < 60 → 0 ≤ σ 8 e ∧ σ 8 e ≤ 8) ∧ (∀ k : Nat, k < 3 → SR (214 + 3 * k) σ (fun j => σ 233 (246 * k + j)) ∧ WF (fun j => σ 233 (246 * k + j))) ∧ (∀ k : Nat, k < 3 → σ (214 + 3 * k) 5 = σ 234 k) ∧ (0 ≤ σ 231 5 ∧ σ 231 5 ≤ 700) ∧ (σ 1 0 = σ 231 5) ∧ (∀ i, 0 ≤ i → i < σ 231 5 → σ 2 i = σ 235 i ∧ -128 ≤ σ 2 i ∧ σ 2 i < 128) ∧ (σ 1 1 = σ 231 12) ∧ (σ 1 2 = σ 231 13) ∧ (∀ s : Nat, s < 4 → SlP σ (223 + 2 * s) s) ∧ (B255 (σ 251))
theorem GI.wf {F : Nat} {σ : St} (h : GI F σ) : WF (σ 232) := h.1
theorem GI.sc {F : Nat} {σ : St} (h : GI F σ) : SR 4 σ (σ 232) := h.2.1
theorem GI.rn {F : Nat} {σ : St} (h : GI F σ) : RI F (σ 232) σ := h.2.2.1
theorem GI.sp {F : Nat} {σ : St} (h : GI F σ) : ∀ e, 0 ≤ e → e < 60 → 0 ≤ σ 8 e ∧ σ 8 e ≤ 8 := h.2.2.2.1
theorem GI.im {F : Nat} {σ : St} (h : GI F σ) : ∀ k : Nat, k < 3 → SR (214 + 3 * k) σ (fun j => σ 233 (246 * k + j)) ∧ WF (fun j => σ 233 (246 * k + j)) := h.2.2.2.2.1
theorem GI.it {F : Nat} {σ : St} (h : GI F σ) : ∀ k : Nat, k < 3 → σ (214 + 3 * k) 5 = σ 234 k := h.2.2.2.2.2.1
theorem GI.tl {F : Nat} {σ : St} (h : GI F σ) : 0 ≤ σ 231 5 ∧ σ 231 5 ≤ 700 := h.2.2.2.2.2.2.1
theorem GI.t0 {F : Nat} {σ : St} (h : GI F σ) : σ 1 0 = σ 231 5 := h.2.2.2.2.2.2.2.1
theorem GI.tp {F : Nat} {σ : St} (h : GI F σ) : ∀ i, 0 ≤ i → i < σ 231 5 → σ 2 i = σ 235 i ∧ -128 ≤ σ 2 i ∧ σ 2 i < 128 := h.2.2.2.2.2.2.2.2.1
theorem GI.fk {F : Nat} {σ : St} (h : GI F σ) : σ 1 1 = σ 231 12 := h.2.2.2.2.2.2.2.2.2.1
theorem GI.fp {F : Nat} {σ : St} (h : GI F σ) : σ 1 2 = σ 231 13 := h.2.2.2.2.2.2.2.2.2.2.1
theorem GI.sl {F : Nat} {σ : St} (h : GI F σ) : ∀ s : Nat, s < 4 → SlP σ (223 + 2 * s) s := h.2.2.2.2.2.2.2.2.2.2.2.1
theorem GI.ag {F : Nat} {σ : St} (h : GI F σ) : B255 (σ 251) := h.2.2.2.2.2.2.2.2.2.2.2.2
theorem GI.q {F : Nat} {σ σ1 σ2 : St} (h : GI F σ) (hF : 100 ≤ F) (hc : QCl σ σ1) (hr : RI F (σ 232) σ1) (hm : QM σ1 σ2) : GI F σ2 := by
  have e : ∀ x, (x < 12 ∨ (213 < x ∧ x < 231) ∨ x = 232 ∨ x = 233 ∨ x = 234 ∨ x = 235 ∨ x = 255 ∨ x = 256 ∨ x = 257) → σ2 x = σ x := fun x q => by
    by_cases z : x < 231
    · rw [hm.lo x z, hc x (by omega)]
    · rw [hm.hi x (by omega), hc x (by omega)]
  have e31 : ∀ j, j = 5 ∨ j = 12 ∨ j = 13 → σ2 231 j = σ 231 j := fun j q => by rw [hm.sl j q, hc 231 (by omega)]
  have e32 := e 232 (by omega)
  refine ⟨by rw [e32]; exact h.wf, ?_, ?_, by rw [e 8 (by omega)]; exact h.sp, fun k hk => ?_, fun k hk => ?_, by rw [e31 5 (by omega)]; exact h.tl, by rw [e 1 (by omega), e31 5 (by omega)]; exact h.t0, by rw [e 2 (by omega), e 235 (by omega), e31 5 (by omega)]; exact h.tp, by rw [e 1 (by omega), e31 12 (by omega)]; exact h.fk, by rw [e 1 (by omega), e31 13 (by omega)]; exact h.fp, fun s hs => ?_, hm.ag (by rw [hc 251 (by omega)]; exact h.ag)⟩
  · rw [e32]
    exact h.sc.mv (e 4 (by omega)) (e 5 (by omega)) (e 6 (by omega))
  · rw [e32]
    exact hr.fr hF h.wf (fun x x1 x2 => hm.lo x (by omega))
  · rw [e 233 (by omega)]
    exact ⟨(h.im k hk).1.mv (e _ (by omega)) (e _ (by omega)) (e _ (by omega)), (h.im k hk).2⟩
  · rw [e _ (by omega), e 234 (by omega)]
    exact h.it k hk
  · exact (h.sl s hs).mv (e _ (by omega)) (e _ (by omega)) (e 255 (by omega)) (e 256 (by omega)) (e 257 (by omega))
def PP (F : Nat) (fc : Option (Int × St)) (fm : St → Option (Int × St)) : Prop := TT fc (fun r => TT (fm r.2) (fun r' => r.1 = r'.1 ∧ GI F r'.2))
def tk (w : Int → Int) (t : Int) : Prop := 0 < w 5 ∧ 0 ≤ t ∧ t ≤ evN w
theorem one0 : ((1 : Int) = 0) = False := by simp
theorem e6_hasCell {F : Nat} {σ : St} {w : Int → Int} {c : Int} (h : SR 4 σ w) : f_X6_hasCell F 0 c σ = some (if 0 ≤ c ∧ c < w 0 then 1 else 0) := by
  have h0 := h.1 0 (by decide) (by decide)
  apply TT.eq
  unfold f_X6_hasCell
  simp only [tt_gt, tt_sg, tt_ite, tt_ck, tt_lk, tt_ix, tt_bo, tt_by, tt_nz, tt_ob, tt_st, tt_cpk, tt_c1, tt_c2, tt_ca, tt_cb, tt_some, kd_231, kd_0, Nat.reduceAdd, true_and, and_true, true_implies, not_true_eq_false, false_implies, not_false_eq_true, true_or, or_true, Nat.zero_add, h0]
  refine ⟨fun q => ?_, fun q => ⟨fun q2 => ?_, fun q2 => ?_⟩⟩
  · rw [if_neg (by omega)]
  · rw [if_neg (by omega)]
  · rw [if_pos (by omega)]
theorem e6_hasTick {F : Nat} {σ : St} {w : Int → Int} {t : Int} (h : SR 4 σ w) (hw : WF w) : f_X6_hasTick F 0 t σ = some (if 0 < w 5 ∧ 0 ≤ t ∧ t ≤ evN w then 1 else 0) := by
  have h0 := h.1 0 (by decide) (by decide)
  have hs := hw.st
  apply TT.eq
  unfold f_X6_hasTick
  simp only [tt_gt, tt_sg, tt_ite, tt_ck, tt_lk, tt_ix, tt_bo, tt_by, tt_nz, tt_ob, tt_st, tt_cpk, tt_c1, tt_c2, tt_ca, tt_cb, tt_some, kd_231, kd_0, Nat.reduceAdd, true_and, and_true, true_implies, not_true_eq_false, false_implies, not_false_eq_true, true_or, or_true, Nat.zero_add, e4_exists (F := F) (s := 4) (σ := σ) rfl, e4_size (F := F) (s := 4) rfl h hw, h0]
  by_cases q : 0 < w 0
  · rw [if_pos q]
    refine ⟨fun z => absurd z (by decide), fun _ => ⟨fun z => ?_, fun z => ⟨fun z2 => ?_, fun z2 => ?_⟩⟩⟩
    · rw [if_neg (by omega)]
    · rw [if_neg (by omega)]
    · rw [if_pos (by omega)]
  · rw [if_neg q, if_neg (by omega)]
    exact ⟨fun _ => rfl, fun z => absurd rfl z⟩
theorem e6_hasEvent {F : Nat} {σ : St} {w : Int → Int} {t : Int} (h : SR 4 σ w) (hw : WF w) : f_X6_hasEvent F 0 t σ = some (if 0 ≤ t ∧ t < evN w then 1 else 0) := by
  apply TT.eq
  unfold f_X6_hasEvent
  simp only [tt_gt, tt_sg, tt_ite, tt_ck, tt_lk, tt_ix, tt_bo, tt_by, tt_nz, tt_ob, tt_st, tt_cpk, tt_c1, tt_c2, tt_ca, tt_cb, tt_some, kd_231, kd_0, Nat.reduceAdd, true_and, and_true, true_implies, not_true_eq_false, false_implies, not_false_eq_true, true_or, or_true, Nat.zero_add, e4_size (F := F) (s := 4) rfl h hw]
  refine ⟨fun z => ?_, fun z => ⟨fun z2 => ?_, fun z2 => ?_⟩⟩
  · rw [if_neg (by omega)]
  · rw [if_neg (by omega)]
  · rw [if_pos (by omega)]
theorem e6_isTold {F : Nat} {σ : St} {w : Int → Int} {t : Int} (h : SR 4 σ w) : f_X6_isTold F 0 t σ = some (if 0 ≤ t ∧ t < w 3 then 1 else 0) := by
  have h0 := h.1 3 (by decide) (by decide)
  apply TT.eq
  unfold f_X6_isTold
  simp only [tt_gt, tt_sg, tt_ite, tt_ck, tt_lk, tt_ix, tt_bo, tt_by, tt_nz, tt_ob, tt_st, tt_cpk, tt_c1, tt_c2, tt_ca, tt_cb, tt_some, kd_231, kd_0, Nat.reduceAdd, true_and, and_true, true_implies, not_true_eq_false, false_implies, not_false_eq_true, true_or, or_true, Nat.zero_add, h0]
  refine ⟨fun z => ?_, fun z => ⟨fun z2 => ?_, fun z2 => ?_⟩⟩
  · rw [if_neg (by omega)]
  · rw [if_neg (by omega)]
  · rw [if_pos (by omega)]
theorem ng_ok {F : Nat} {σ : St} (hF : 100 ≤ F) : TT (f_X7_nothingGone F 231 σ) (fun σ' => (∀ k, k ≠ 238 → σ' k = σ k) ∧ ∀ e, 0 ≤ e → e < 60 → σ' 238 e = 0) := by
  unfold f_X7_nothingGone
  simp only [tt_gt, tt_sg, tt_ite, tt_ck, tt_lk, tt_ix, tt_bo, tt_by, tt_nz, tt_ob, tt_st, tt_cpk, tt_c1, tt_c2, tt_ca, tt_cb, tt_some, kd_231, kd_0, Nat.reduceAdd, true_and, and_true, true_implies, not_true_eq_false, false_implies, not_false_eq_true, true_or, or_true]
  refine lp_w (L := fun n (p : Int × St) => f_X7_nothingGone_L2 F 231 n p.1 p.2) (fun m p => 0 ≤ p.1 ∧ p.1 + m = 60 ∧ (∀ k, k ≠ 238 → p.2 k = σ k) ∧ ∀ e, 0 ≤ e → e < p.1 → p.2 238 e = 0) (fun m n p hI ih => ?_) 60 F (0, σ) (by omega) ⟨by dsimp only; omega, by dsimp only; omega, fun _ _ => rfl, fun e e1 e2 => by dsimp only at e2; omega⟩
  obtain ⟨i, τ⟩ := p
  dsimp only at hI ih ⊢
  obtain ⟨i1, i2, i3, i4⟩ := hI
  rw [f_X7_nothingGone_L2]
  simp only [tt_gt, tt_sg, tt_ite, tt_ck, tt_lk, tt_ix, tt_bo, tt_by, tt_nz, tt_ob, tt_st, tt_cpk, tt_c1, tt_c2, tt_ca, tt_cb, tt_some, kd_231, kd_0, Nat.reduceAdd, true_and, and_true, true_implies, not_true_eq_false, false_implies, not_false_eq_true, true_or, or_true]
  refine ⟨fun q => ⟨i3, fun e e1 e2 => i4 e e1 (by omega)⟩, fun q => And.intro (by omega) (And.intro (by omega) (ih (m - 1) (i + 1, z_up τ 238 i 0) (by omega) ⟨by dsimp only; omega, by dsimp only; omega, fun k hk => (up_ne hk).trans (i3 k hk), fun e e1 e2 => ?_⟩))⟩
  dsimp only at e2 ⊢
  rw [up_eq]
  dsimp only
  by_cases y : e = i
  · rw [if_pos y]
  · rw [if_neg y]
    exact i4 e e1 (by omega)
theorem val_cg {w g g' : Int → Int} : ∀ t : Nat, (∀ e, 0 ≤ e → e < (t : Int) → g e = g' e) → Val w g t = Val w g' t
  | 0, _ => rfl
  | t + 1, h => by
    funext c
    rw [Val, Val, val_cg t (fun e e1 e2 => h e e1 (by omega)), h t (by omega) (by omega)]
theorem chg_cg {w g g' : Int → Int} {t : Nat} {c : Int} (h : ∀ e, 0 ≤ e → e < (t : Int) + 1 → g e = g' e) : chg w g t c = chg w g' t c := by
  unfold chg
  rw [val_cg (g := g) (g' := g') t (fun e e1 e2 => h e e1 (by omega)), val_cg (g := g) (g' := g') (t + 1) (fun e e1 e2 => h e e1 (by omega))]
def Laid (F : Nat) (w g : Int → Int) (l : Int) (τ ν : St) : Prop := (∃ α, Gd w g (evN w).toNat α ∧ ν = ItG F l (evN w).toNat α) ∧ (QM τ ν) ∧ (∀ k, (250 < k ∨ k = 236 ∨ k = 237 ∨ k = 238) → ν k = τ k) ∧ (∀ j, j ≠ 28 → j ≠ 29 → ν 231 j = τ 231 j)
theorem Laid.ex {F : Nat} {w g : Int → Int} {l : Int} {τ ν : St} (h : Laid F w g l τ ν) : ∃ α, Gd w g (evN w).toNat α ∧ ν = ItG F l (evN w).toNat α := h.1
theorem Laid.qm {F : Nat} {w g : Int → Int} {l : Int} {τ ν : St} (h : Laid F w g l τ ν) : QM τ ν := h.2.1
theorem Laid.ot {F : Nat} {w g : Int → Int} {l : Int} {τ ν : St} (h : Laid F w g l τ ν) : ∀ k, (250 < k ∨ k = 236 ∨ k = 237 ∨ k = 238) → ν k = τ k := h.2.2.1
theorem Laid.os {F : Nat} {w g : Int → Int} {l : Int} {τ ν : St} (h : Laid F w g l τ ν) : ∀ j, j ≠ 28 → j ≠ 29 → ν 231 j = τ 231 j := h.2.2.2
theorem layAll_Laid {F : Nat} {w g : Int → Int} {l : Int} {τ : St} (hF : 100 ≤ F) (hw : WF w) (h2 : τ 232 = w) (hg : ∀ e, 0 ≤ e → e < evN w → τ 238 e = g e) : TT (f_X7_layAll F 231 l τ) (Laid F w g l τ) := by
  have h60 := hw.ev60
  refine (layAll_ok (F := F) (σ := τ) (l := l) hF (by rw [h2]; exact hw)).mono (fun ν h => ?_)
  obtain ⟨α, a1, a2, a3, a4, a5, a6⟩ := h
  rw [h2] at a5 a6
  have e32 : α 232 = w := (a1 232 (by decide) (by decide) (by decide)).trans h2
  have e38 : α 238 = τ 238 := a1 238 (by decide) (by decide) (by decide)
  have hG : Gd w g (evN w).toNat α := ⟨by rw [e32]; exact hw, by rw [e32]; omega, a3, a4, by rw [e32, e38]; exact a5, by rw [e32], fun j _ _ => by rw [e32], fun e e1 e2 => by rw [e38]; exact hg e e1 (by omega)⟩
  have fr := (It_ok (F := F) (l := l) hF hG.wf a3 a4 (evN w).toNat (by rw [e32]; omega)).2
  rw [← a6] at fr
  refine ⟨⟨α, hG, a6⟩, ⟨fun x hx => ?_, fun x hx => ?_, fun j hj => ?_, fun hb => ?_⟩, fun k hk => ?_, fun j j1 j2 => ?_⟩
  · rw [fr.1 x (by omega) (by omega), a1 x (by omega) (by omega) (by omega)]
  · rw [fr.1 x (by omega) (by omega), a1 x (by omega) (by omega) (by omega)]
  · rw [fr.2 j (by omega) (by omega), a2 j (by omega) (by omega)]
  · rw [fr.1 251 (by omega) (by omega), a1 251 (by omega) (by omega) (by omega)]; exact hb
  · rw [fr.1 k (by omega) (by omega), a1 k (by omega) (by omega) (by omega)]
  · rw [fr.2 j j1 j2, a2 j j1 j2]
def Kn (w g : Int → Int) (ν : St) : Prop := (MI0 (w 0) (evN w).toNat ν) ∧ (∀ (s : Nat) (c : Int), (s : Int) ≤ evN w → 0 ≤ c → c < 32 → ν 239 (32 * s + c) = Val w g s c) ∧ (∀ (s : Nat) (c : Int), (s : Int) < evN w → 0 ≤ c → c < 32 → ν 240 (32 * s + c) = chg w g s c)
theorem Kn.mi {w g : Int → Int} {ν : St} (h : Kn w g ν) : MI0 (w 0) (evN w).toNat ν := h.1
theorem Kn.v9 {w g : Int → Int} {ν : St} (h : Kn w g ν) : ∀ (s : Nat) (c : Int), (s : Int) ≤ evN w → 0 ≤ c → c < 32 → ν 239 (32 * s + c) = Val w g s c := h.2.1
theorem Kn.v0 {w g : Int → Int} {ν : St} (h : Kn w g ν) : ∀ (s : Nat) (c : Int), (s : Int) < evN w → 0 ≤ c → c < 32 → ν 240 (32 * s + c) = chg w g s c := h.2.2
theorem Gd.v9 {w g : Int → Int} {t : Nat} {α : St} (h : Gd w g t α) (hw : α 232 = w) (s : Nat) (c : Int) (hs : s ≤ t) (c1 : 0 ≤ c) (c2 : c < 32) : α 239 (32 * s + c) = Val w g s c := by
  rw [h.vl.1 s c hs c1 c2, hw, val_cg (g' := g) s (fun e e1 e2 => h.go e e1 (by omega))]
theorem Gd.v0 {w g : Int → Int} {t : Nat} {α : St} (h : Gd w g t α) (hw : α 232 = w) (s : Nat) (c : Int) (hs : s < t) (c1 : 0 ≤ c) (c2 : c < 32) : α 240 (32 * s + c) = chg w g s c := by
  rw [h.vl.2 s c hs c1 c2, hw]
  exact chg_cg (fun e e1 e2 => h.go e e1 (by omega))
theorem Laid.kn {F : Nat} {w g : Int → Int} {l : Int} {τ ν : St} (hF : 100 ≤ F) (hw : WF w) (h2 : τ 232 = w) (h : Laid F w g l τ ν) : Kn w g ν := by
  have h60 := hw.ev60
  obtain ⟨α, hG, e⟩ := h.ex
  have fr := (It_ok (F := F) (l := l) hF hG.wf hG.n0 hG.o0 (evN w).toNat hG.le).2
  have e32 : α 232 = w := by
    have := fr.1 232 (by decide) (by omega)
    rw [← this, ← e, h.qm.hi 232 (by omega), h2]
  have e39 : ν 239 = α 239 := by rw [e]; exact fr.1 239 (by decide) (by omega)
  have e40 : ν 240 = α 240 := by rw [e]; exact fr.1 240 (by decide) (by omega)
  refine ⟨by rw [e]; exact (hG.it hF).1, fun s c s1 c1 c2 => ?_, fun s c s1 c1 c2 => ?_⟩
  · rw [e39]; exact hG.v9 e32 s c (by omega) c1 c2
  · rw [e40]; exact hG.v0 e32 s c (by omega) c1 c2
theorem asks_ok {F : Nat} {w : Int → Int} {τ : St} (hF : 100 ≤ F) (hw : WF w) (h2 : τ 232 = w) : TT (f_X7_asks F 231 τ) (fun r => r.1 = (if 0 < w 5 then 1 else 0) ∧ Kn w (fun _ => 0) r.2 ∧ QM τ r.2 ∧ (∀ e, 0 ≤ e → e < 60 → r.2 238 e = 0) ∧ ∃ α, Gd w (fun _ => 0) (evN w).toNat α ∧ r.2 = ItG F (w 1) (evN w).toNat α) := by
  have h60 := hw.ev60
  unfold f_X7_asks
  simp only [tt_ob, kd_231, true_and, tt_c1]
  refine (ng_ok hF).mono (fun τ1 h1 => ?_)
  have e1 : τ1 232 = w := (h1.1 232 (by decide)).trans h2
  simp only [tt_gt, tt_sg, tt_ite, tt_ck, tt_lk, tt_ix, tt_bo, tt_by, tt_nz, tt_ob, tt_st, tt_cpk, tt_c1, tt_c2, tt_ca, tt_cb, tt_some, kd_231, kd_0, Nat.reduceAdd, true_and, and_true, true_implies, not_true_eq_false, false_implies, not_false_eq_true, true_or, or_true, e1]
  refine And.intro (by omega) ?_
  refine (layAll_Laid (g := fun _ => 0) hF hw e1 (fun e e1 e2 => h1.2 e e1 (by omega))).mono (fun ν h3 => ?_)
  have e3 : ν 232 = w := (h3.qm.hi 232 (by omega)).trans e1
  have q1 : QM τ τ1 := ⟨fun x hx => h1.1 x (by omega), fun x hx => h1.1 x (by omega), fun j hj => by rw [h1.1 231 (by decide)], fun hb => by rw [h1.1 251 (by decide)]; exact hb⟩
  rw [e_isStore, tt_some, e3]
  refine ⟨by split <;> simp, rfl, h3.kn hF hw e1, q1.tr h3.qm, fun e e1 e2 => ?_, h3.ex⟩
  rw [h3.ot 238 (by omega)]
  exact h1.2 e e1 e2
