theorem tt_all {ι β : Type} {f : Option β} {A : ι → Prop} {P : ι → β → Prop} {Q : β → Prop} (hne : ∃ i, A i) (h : ∀ i, A i → TT f (fun o => P i o ∧ Q o)) : TT f (fun o => (∀ i, A i → P i o) ∧ Q o) := by
  obtain ⟨i, hi⟩ := hne
  obtain ⟨o, h1, h2⟩ := h i hi
  refine ⟨o, h1, fun j hj => ?_, h2.2⟩
  obtain ⟨o', h3, h4⟩ := h j hj
  rw [h1] at h3
  cases h3
  exact h4.1
theorem gd_ex {w g : Int → Int} (hw : WF w) (t : Nat) (ht : (t : Int) ≤ evN w) : ∃ α, Gd w g t α := by
  refine ⟨fun k j => if k = 231 then (if j = 29 then -1 else 0) else if k = 232 then w j else if k = 238 then g j else if k = 239 then Val w g (j / 32).toNat (j % 32) else if k = 240 then chg w g (j / 32).toNat (j % 32) else 0, hw, ht, rfl, rfl, ⟨fun s c _ c1 c2 => ?_, fun s c _ c1 c2 => ?_⟩, rfl, fun _ _ _ => rfl, fun _ _ _ => rfl⟩
  · show Val w g ((32 * (s : Int) + c) / 32).toNat ((32 * (s : Int) + c) % 32) = Val w g s c
    rw [show ((32 * (s : Int) + c) / 32).toNat = s by omega, show (32 * (s : Int) + c) % 32 = c by omega]
  · show chg w g ((32 * (s : Int) + c) / 32).toNat ((32 * (s : Int) + c) % 32) = chg w g s c
    rw [show ((32 * (s : Int) + c) / 32).toNat = s by omega, show (32 * (s : Int) + c) % 32 = c by omega]
theorem rclear_ok {F b : Nat} {w g : Int → Int} {l : Int} {σ : St} (hF : 100 ≤ F) (hb : b = 12 ∨ b = 110) (hw : WF w) : TT (f_X3_clear F b (w 0) l σ) (fun σ' => (∀ α, Gd w g 0 α → RunR b (w 0) l 0 (ItG F l 0 α) σ') ∧ Fb b σ σ' ∧ σ' b 1 = 0) := by
  have kr := kd_run hb
  have hw2 : 0 ≤ w 0 ∧ w 0 ≤ 32 := ⟨hw.1.1, hw.1.2.1⟩
  have hm : z_max 0 (z_min (w 0) 32) = w 0 := by unfold z_max z_min; split <;> split <;> omega
  unfold f_X3_clear
  simp only [tt_gt, tt_sg, tt_ite, tt_ck, tt_lk, tt_ix, tt_bo, tt_by, tt_nz, tt_ob, tt_st, tt_cpk, tt_c1, tt_c2, tt_ca, tt_cb, tt_some, kd_231, kd_0, Nat.reduceAdd, true_and, and_true, true_implies, not_true_eq_false, false_implies, not_false_eq_true, true_or, or_true, kr.1, hm]
  have n8 : z_up (z_up σ b 8 (w 0)) b 9 l b 8 = w 0 := by simp only [up_eq]; rfl
  rw [n8]
  refine (clear_ok (F := F) hF kr.2.1 kr.2.2.1 kr.2.2.2.1 hw2).mono (fun σ3 h3 => ?_)
  generalize hσ11 : z_up (z_up (z_up (z_up (z_up (z_up (z_up (z_up σ3 b 1 0) b 2 0) b 3 0) b 4 (-1)) b 10 0) b 5 0) b 6 0) b 7 0 = σ11
  have a0 : ∀ x, x ≠ b → σ11 x = σ3 x := fun x hx => by rw [← hσ11, up_ne hx, up_ne hx, up_ne hx, up_ne hx, up_ne hx, up_ne hx, up_ne hx, up_ne hx]
  have a3 : σ3 b = z_up (z_up σ b 8 (w 0)) b 9 l b := h3.1 b (by omega) (by omega)
  have ab : σ11 b 1 = 0 ∧ σ11 b 2 = 0 ∧ σ11 b 3 = 0 ∧ σ11 b 4 = -1 ∧ σ11 b 8 = w 0 ∧ σ11 b 9 = l ∧ σ11 b 10 = 0 := by
    rw [← hσ11]
    simp only [up_eq, a3]
    exact ⟨rfl, rfl, rfl, rfl, rfl, rfl, rfl⟩
  refine (fill_ok (F := F) (k := b + 5) kr.2.2.2.2.2.2.2.1 (by rw [kr.2.2.2.2.2.2.2.2.1]; omega) (by rw [kr.2.2.2.2.2.2.2.2.1]; omega)).mono (fun σ12 h12 => ?_)
  refine (fill_ok (F := F) (k := b + 6) kr.2.2.2.2.2.2.2.2.2.1 (by rw [kr.2.2.2.2.2.2.2.2.2.2]; omega) (by rw [kr.2.2.2.2.2.2.2.2.2.2]; omega)).mono (fun σ13 h13 => ?_)
  have c0 : ∀ x, x ≠ b + 5 → x ≠ b + 6 → σ13 x = σ11 x := fun x x1 x2 => by rw [h13.1 x x2, h12.1 x x1]
  have cb : σ13 b = σ11 b := c0 b (by omega) (by omega)
  refine ⟨fun α hA => ?_, fun x hx => ?_, by rw [cb]; exact ab.1⟩
  · have h1 := hA.n0
    refine ⟨⟨?_, fun c c1 c2 => ?_⟩, by rw [cb]; exact ab.2.2.2.2.1, by rw [cb]; exact ab.2.2.2.2.2.1, by rw [cb, ab.2.2.1]; exact h1.symm, by rw [cb, ab.2.2.2.1]; exact hA.o0.symm, Or.inr ⟨by rw [cb]; exact ab.2.2.2.2.2.2, ?_⟩, by rw [cb, ab.2.1]; exact iR_0, fun c c1 c2 => ?_, fun c c1 c2 => ?_, fun e e1 e2 c c1 c2 => ?_, fun k k1 k2 => ?_, fun k k1 k2 => ?_⟩
    · rw [c0 _ (by omega) (by omega), a0 _ (by omega)]; exact h3.2.1
    · rw [c0 _ (by omega) (by omega), a0 _ (by omega), h3.2.2 c c1 c2]
      exact (hA.vl.1 0 c (by omega) c1 c2).symm
    · show ¬ hwR α (α 231 28).toNat
      rw [h1]
      exact fun z => z
    · rw [cb, ab.2.1]
      refine ⟨fun y => absurd y (bt_zero ⟨c1, c2⟩), fun y => ?_⟩
      have : baseR α 0 ≤ latR (α 240) c 0 := y.2
      unfold baseR at this
      rw [h1] at this
      unfold latR at this
      have h9 : dirR α (0 : Int).toNat 0 = 0 := rfl
      omega
    · rw [h13.1 _ (by omega), h12.2, kr.2.2.2.2.2.2.2.2.1, if_pos (by omega)]
      rfl
    · rw [h13.2, kr.2.2.2.2.2.2.2.2.2.2, if_pos (by omega)]
      exact ⟨fun y => absurd y (bt_zero ⟨c1, c2⟩), fun y => by have := y.1; omega⟩
    · have : k < α 231 28 := k2
      omega
    · have : k < α 231 28 := k2
      omega
  · rw [c0 x (by omega) (by omega), a0 x (by omega), h3.1 x (by omega) (by omega), up_ne (by omega), up_ne (by omega)]
def LEv (b : Nat) (e : Nat) (μ σ : St) : Prop := (σ b 5 = μ 250 e) ∧ (iR (σ b 6)) ∧ (∀ c, 0 ≤ c → c < 32 → (bt (σ b 6) c ↔ μ 240 (32 * e + c) ≠ 0)) ∧ (iR (σ b 7)) ∧ (∀ c, 0 ≤ c → c < 32 → (bt (σ b 7) c ↔ ∃ k, 0 ≤ k ∧ k < μ 231 28 ∧ μ 247 (32 * k + c) ≠ 0 ∧ μ 248 (32 * k + c) = e))
theorem LEv.s5 {b : Nat} {e : Nat} {μ σ : St} (h : LEv b e μ σ) : σ b 5 = μ 250 e := h.1
theorem LEv.r6 {b : Nat} {e : Nat} {μ σ : St} (h : LEv b e μ σ) : iR (σ b 6) := h.2.1
theorem LEv.c6 {b : Nat} {e : Nat} {μ σ : St} (h : LEv b e μ σ) : ∀ c, 0 ≤ c → c < 32 → (bt (σ b 6) c ↔ μ 240 (32 * e + c) ≠ 0) := h.2.2.1
theorem LEv.r7 {b : Nat} {e : Nat} {μ σ : St} (h : LEv b e μ σ) : iR (σ b 7) := h.2.2.2.1
theorem LEv.c7 {b : Nat} {e : Nat} {μ σ : St} (h : LEv b e μ σ) : ∀ c, 0 ≤ c → c < 32 → (bt (σ b 7) c ↔ ∃ k, 0 ≤ k ∧ k < μ 231 28 ∧ μ 247 (32 * k + c) ≠ 0 ∧ μ 248 (32 * k + c) = e) := h.2.2.2.2
def RIt (F : Nat) (w : Int → Int) (t : Nat) (σ : St) : Prop := (t : Int) ≤ evN w ∧ σ 12 1 = t ∧ (∀ α, Gd w (fun _ => 0) t α → RunR 12 (w 0) (w 1) t (ItG F (w 1) t α) σ) ∧ ∀ e : Nat, t = e + 1 → ∀ α, Gd w (fun _ => 0) t α → LEv 12 e (ItG F (w 1) t α) σ
def RI (F : Nat) (w : Int → Int) (σ : St) : Prop := ∃ t : Nat, RIt F w t σ
theorem SR.fb {b : Nat} {σ σ' : St} {w : Int → Int} (h : SR 4 σ w) (hb : b = 12 ∨ b = 110) (hf : Fb b σ σ') : SR 4 σ' w := h.mv (hf 4 (by omega)) (hf 5 (by omega)) (hf 6 (by omega))
theorem anew_ok {F : Nat} {w : Int → Int} {σ : St} (hF : 100 ≤ F) (hw : WF w) (hSR : SR 4 σ w) : TT (f_X6_playAnew F 0 σ) (fun σ' => RIt F w 0 σ' ∧ Fb 12 σ σ') := by
  have h0 := hSR.1 0 (by decide) (by decide)
  have h1 := hSR.1 1 (by decide) (by decide)
  have h60 := hw.ev60
  unfold f_X6_playAnew
  simp only [tt_gt, tt_sg, tt_ite, tt_ck, tt_lk, tt_ix, tt_bo, tt_by, tt_nz, tt_ob, tt_st, tt_cpk, tt_c1, tt_c2, tt_ca, tt_cb, tt_some, kd_231, kd_0, Nat.reduceAdd, true_and, and_true, true_implies, not_true_eq_false, false_implies, not_false_eq_true, true_or, or_true, Nat.zero_add, h0, h1]
  refine (rclear_ok (F := F) (b := 12) (g := fun _ => 0) hF (Or.inl rfl) hw).mono (fun σ' h => ⟨⟨by omega, h.2.2, h.1, fun e he => absurd he (by omega)⟩, h.2.1⟩)
theorem playTo_ok {F : Nat} {w : Int → Int} {σ : St} {T : Int} (hF : 100 ≤ F) (hw : WF w) (hSR : SR 4 σ w) (hR : RI F w σ) (hT : 0 ≤ T ∧ T ≤ evN w) : TT (f_X6_playTo F 0 T σ) (fun σ' => RIt F w T.toNat σ' ∧ Fb 12 σ σ') := by
  have h60 := hw.ev60
  have hl : 0 ≤ w 1 ∧ w 1 ≤ 3 := ⟨hw.1.2.2.1, hw.1.2.2.2.1⟩
  have loop : ∀ (τ : St) (t : Nat), (t : Int) ≤ T → Fb 12 σ τ → RIt F w t τ → TT (f_X6_playTo_L23 F 0 T F t τ) (fun σ' => RIt F w T.toNat σ' ∧ Fb 12 σ σ') := by
    intro τ t ht hfb hr
    refine lp_w (L := fun n (p : Int × St) => f_X6_playTo_L23 F 0 T n p.1 p.2) (fun m p => 0 ≤ p.1 ∧ p.1 + m = T ∧ Fb 12 σ p.2 ∧ RIt F w p.1.toNat p.2) (fun m n p hI ih => ?_) (T - t).toNat F ((t : Int), τ) (by omega) ⟨by dsimp only; omega, by dsimp only; omega, hfb, hr⟩
    obtain ⟨i, τ⟩ := p
    dsimp only at hI ih ⊢
    obtain ⟨i1, i2, i3, i4⟩ := hI
    rw [f_X6_playTo_L23]
    simp only [tt_gt, tt_sg, tt_ite, tt_ck, tt_lk, tt_ix, tt_bo, tt_by, tt_nz, tt_ob, tt_st, tt_cpk, tt_c1, tt_c2, tt_ca, tt_cb, tt_some, kd_231, kd_0, Nat.reduceAdd, true_and, and_true, true_implies, not_true_eq_false, false_implies, not_false_eq_true, true_or, or_true, Nat.zero_add]
    refine ⟨fun q => ⟨by rw [show T = i by omega]; exact i4, i3⟩, fun q => ⟨fun q2 => absurd q2 (by omega), fun _ => ?_⟩⟩
    obtain ⟨s, rfl⟩ : ∃ s : Nat, i = s := ⟨i.toNat, by omega⟩
    rw [Int.toNat_natCast] at i4
    have hst := tt_all (f := f_X3_step F 12 4 s τ) (A := fun α => Gd w (fun _ => 0) (s + 1) α) (P := fun α σ' => StP 12 (w 0) (w 1) s (ItG F (w 1) (s + 1) α) τ σ') (Q := fun _ => True) (gd_ex hw (s + 1) (by omega)) (fun α hA => (step_ok (F := F) (g := fun _ => 0) hF (Or.inl rfl) hw (hSR.fb (Or.inl rfl) i3) (by omega) rfl hl hA (i4.2.2.1 α (hA.dn (by omega)))).mono (fun σ' z => ⟨z, trivial⟩))
    refine hst.mono (fun σ' h1 => And.intro (by omega) (ih (m - 1) ((s : Int) + 1, σ') (by omega) ?_))
    obtain ⟨α, hα⟩ := gd_ex (g := fun _ => 0) hw (s + 1) (by omega)
    have h2 := h1.1 α hα
    dsimp only
    refine ⟨by omega, by omega, i3.tr h2.fb, ?_⟩
    rw [show ((s : Int) + 1).toNat = s + 1 by omega]
    refine ⟨by omega, by rw [h2.s1]; omega, fun β hβ => (h1.1 β hβ).cr, fun e he β hβ => ?_⟩
    have h3 := h1.1 β hβ
    have hes : e = s := by omega
    subst hes
    exact ⟨h3.s5, h3.r6, h3.c6, h3.r7, h3.c7⟩
  obtain ⟨t, hr⟩ := hR
  unfold f_X6_playTo
  simp only [tt_gt, tt_sg, tt_ite, tt_ck, tt_lk, tt_ix, tt_bo, tt_by, tt_nz, tt_ob, tt_st, tt_cpk, tt_c1, tt_c2, tt_ca, tt_cb, tt_some, kd_231, kd_0, Nat.reduceAdd, true_and, and_true, true_implies, not_true_eq_false, false_implies, not_false_eq_true, true_or, or_true, Nat.zero_add, hr.2.1]
  refine ⟨fun q => loop σ t q Fb.rf hr, fun q => ?_⟩
  refine (anew_ok hF hw hSR).mono (fun σ1 h1 => ?_)
  rw [h1.1.2.1]
  exact loop σ1 0 (by omega) h1.2 h1.1
theorem trial_ok {F : Nat} {w g : Int → Int} {σ : St} {l o : Int} (hF : 100 ≤ F) (hw : WF w) (hSR : SR 4 σ w) (hl : 0 ≤ l ∧ l ≤ 3) (ho : lOut o g (evN w)) : TT (f_X3_play F 110 4 l o σ) (fun σ' => (∀ α, Gd w g (evN w).toNat α → RunR 110 (w 0) l (evN w).toNat (ItG F l (evN w).toNat α) σ') ∧ Fb 110 σ σ') := by
  have h60 := hw.ev60
  have h0 := hSR.1 0 (by decide) (by decide)
  unfold f_X3_play
  simp only [tt_gt, tt_sg, tt_ite, tt_ck, tt_lk, tt_ix, tt_bo, tt_by, tt_nz, tt_ob, tt_st, tt_cpk, tt_c1, tt_c2, tt_ca, tt_cb, tt_some, kd_231, kd_0, Nat.reduceAdd, true_and, and_true, true_implies, not_true_eq_false, false_implies, not_false_eq_true, true_or, or_true, show kdX 110 = 3 from rfl, show kdX 4 = 4 from rfl, h0]
  refine (rclear_ok (F := F) (b := 110) (g := g) (l := l) hF (Or.inr rfl) hw).mono (fun σ1 h1 => ?_)
  refine lp_w (L := fun n (p : Int × St) => f_X3_play_L12 F 110 4 l o n p.1 p.2) (fun m p => 0 ≤ p.1 ∧ p.1 + m = evN w ∧ Fb 110 σ p.2 ∧ ∀ α, Gd w g p.1.toNat α → RunR 110 (w 0) l p.1.toNat (ItG F l p.1.toNat α) p.2) (fun m n p hI ih => ?_) (evN w).toNat F (0, σ1) (by omega) ⟨by dsimp only; omega, by dsimp only; omega, h1.2.1, h1.1⟩
  obtain ⟨i, τ⟩ := p
  dsimp only at hI ih ⊢
  obtain ⟨i1, i2, i3, i4⟩ := hI
  rw [f_X3_play_L12]
  simp only [tt_gt, tt_sg, tt_ite, tt_ck, tt_lk, tt_ix, tt_bo, tt_by, tt_nz, tt_ob, tt_st, tt_cpk, tt_c1, tt_c2, tt_ca, tt_cb, tt_some, kd_231, kd_0, Nat.reduceAdd, true_and, and_true, true_implies, not_true_eq_false, false_implies, not_false_eq_true, true_or, or_true, e4_size (F := F) (s := 4) rfl (hSR.fb (Or.inr rfl) i3) hw]
  refine ⟨fun q => ⟨by rw [show evN w = i by omega]; exact i4, i3⟩, fun q => ⟨fun q2 => absurd q2 (by omega), fun _ => ?_⟩⟩
  obtain ⟨s, rfl⟩ : ∃ s : Nat, i = s := ⟨i.toNat, by omega⟩
  rw [Int.toNat_natCast] at i4
  have hos := ho s (by omega) (by omega)
  have e1 : ((s : Int) + 1).toNat = s + 1 := by omega
  refine (e6_isOut (F := F)).mono (fun r hr => ?_)
  rcases hr with ⟨rfl, hr⟩ | ⟨rfl, hr⟩
  · have hg := hos.mp hr
    refine ⟨fun _ => And.intro (by omega) (ih (m - 1) ((s : Int) + 1, τ) (by omega) ⟨by dsimp only; omega, by dsimp only; omega, i3, fun α hA => ?_⟩), fun z => absurd (by decide) z⟩
    dsimp only at hA ⊢
    rw [e1] at hA ⊢
    have hA0 := hA.dn (s := s) (by omega)
    have hle := hA.le
    obtain ⟨k1, k2, -⟩ := hA0.it (F := F) (l := l) hF
    obtain ⟨g1, fr⟩ := It_ok (F := F) (l := l) hF hA.wf hA.n0 hA.o0 s (by omega)
    have e38 : ItG F l s α 238 = α 238 := fr.1 238 (by decide) (by omega)
    have e39 : ItG F l s α 239 = α 239 := fr.1 239 (by decide) (by omega)
    have e40 : ItG F l s α 240 = α 240 := fr.1 240 (by decide) (by omega)
    have hg2 : α 238 s ≠ 0 := by rw [hA.go s (by omega) (by omega)]; exact hg
    have eS : ItG F l (s + 1) α = ItG F l s α := by rw [ItG, goG, e38, if_neg hg2]
    rw [eS]
    have hcr := i4 α hA0
    refine hcr.adv k1 hw.1.2.1 (fun c c1 c2 _ => ?_) (fun c c1 c2 => ?_) rfl rfl rfl (fun _ _ => rfl) (fun _ _ => Iff.rfl) (fun _ _ _ => rfl) hcr.cc hcr.cd
    · rw [e39, hA.vl.1 s c (by omega) c1 c2, hA.vl.1 (s + 1) c (by omega) c1 c2, val_out hg2]
    · rw [e40, hA.vl.2 s c (by omega) c1 c2]
      exact chg_non (Or.inl hg2)
  · have hg : g s = 0 := Classical.byContradiction fun z => hr (hos.mpr z)
    refine ⟨fun z => absurd rfl z, fun _ => ?_⟩
    have hst := tt_all (f := f_X3_step F 110 4 s τ) (A := fun α => Gd w g (s + 1) α) (P := fun α σ' => StP 110 (w 0) l s (ItG F l (s + 1) α) τ σ') (Q := fun _ => True) (gd_ex hw (s + 1) (by omega)) (fun α hA => (step_ok (F := F) (g := g) hF (Or.inr rfl) hw (hSR.fb (Or.inr rfl) i3) (by omega) hg hl hA (i4 α (hA.dn (by omega)))).mono (fun σ' z => ⟨z, trivial⟩))
    refine hst.mono (fun σ' h1 => And.intro (by omega) (ih (m - 1) ((s : Int) + 1, σ') (by omega) ?_))
    obtain ⟨α, hα⟩ := gd_ex (g := g) hw (s + 1) (by omega)
    have h2 := h1.1 α hα
    dsimp only
    refine ⟨by omega, by omega, i3.tr h2.fb, ?_⟩
    rw [e1]
    exact fun β hβ => (h1.1 β hβ).cr
