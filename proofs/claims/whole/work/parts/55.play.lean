theorem fill_ok {F k : Nat} {v : Int} {σ : St} (hk : kdX k = 9) (hF : lnX k < F) (hl : lnX k ≤ 2000) : TT (f_J7_fill_53178 F k v σ) (fun σ' => (∀ k', k' ≠ k → σ' k' = σ k') ∧ ∀ j, σ' k j = if 0 ≤ j ∧ j < lnX k then v else σ k j) := by
  unfold f_J7_fill_53178
  simp only [tt_gt, tt_sg, tt_ite, tt_ck, tt_lk, tt_ix, tt_bo, tt_by, tt_nz, tt_ob, tt_st, tt_cpk, tt_c1, tt_c2, tt_ca, tt_cb, tt_some, kd_231, kd_0, Nat.reduceAdd, true_and, and_true, true_implies, not_true_eq_false, false_implies, not_false_eq_true, true_or, or_true, hk]
  refine lp_w (L := fun n (p : Int × St) => f_J7_fill_53178_L5 F k v n p.1 (lnX k) p.2) (fun m p => 0 ≤ p.1 ∧ p.1 + m = lnX k ∧ (∀ k', k' ≠ k → p.2 k' = σ k') ∧ ∀ j, p.2 k j = if 0 ≤ j ∧ j < p.1 then v else σ k j) (fun m n p hI ih => ?_) (lnX k) F (0, σ) hF ⟨by dsimp only; omega, by dsimp only; omega, fun _ _ => rfl, fun j => by dsimp only; rw [if_neg (by omega)]⟩
  obtain ⟨i, τ⟩ := p
  dsimp only at hI ih ⊢
  obtain ⟨i1, i2, i3, i4⟩ := hI
  rw [f_J7_fill_53178_L5]
  simp only [tt_gt, tt_sg, tt_ite, tt_ck, tt_lk, tt_ix, tt_bo, tt_by, tt_nz, tt_ob, tt_st, tt_cpk, tt_c1, tt_c2, tt_ca, tt_cb, tt_some, kd_231, kd_0, Nat.reduceAdd, true_and, and_true, true_implies, not_true_eq_false, false_implies, not_false_eq_true, true_or, or_true]
  refine ⟨fun q => ⟨i3, fun j => ?_⟩, fun q => And.intro (by omega) (And.intro (by omega) (ih (m - 1) (i + 1, z_up τ k i v) (by omega) ⟨by dsimp only; omega, by dsimp only; omega, fun k' h => (up_ne h).trans (i3 k' h), fun j => ?_⟩))⟩
  · rw [i4, show i = ((lnX k : Nat) : Int) by omega]
  · dsimp only
    rw [up_eq]
    dsimp only
    rw [i4]
    by_cases y : j = i
    · rw [if_pos y, if_pos (by omega)]
    · rw [if_neg y]
      by_cases y2 : 0 ≤ j ∧ j < i
      · rw [if_pos y2, if_pos (by omega)]
      · rw [if_neg y2, if_neg (by omega)]
def BR (b : Nat) (σ : St) (n : Int) (f : Int → Int) : Prop := σ b 0 = n ∧ ∀ c, 0 ≤ c → c < 32 → σ (b + 1) c = f c
def OB (b : Nat) (σ σ' : St) : Prop := ∀ k, k ≠ b → k ≠ b + 1 → σ' k = σ k
theorem OB.rf {b : Nat} {σ : St} : OB b σ σ := fun _ _ _ => rfl
theorem OB.tr {b : Nat} {σ σ' σ'' : St} (h : OB b σ σ') (h2 : OB b σ' σ'') : OB b σ σ'' := fun k a c => (h2 k a c).trans (h k a c)
theorem clear_ok {F b : Nat} {σ : St} {n : Int} (hF : 100 ≤ F) (hk : kdX b = 0) (hk1 : kdX (b + 1) = 9) (hl : lnX (b + 1) = 32) (hn : 0 ≤ n ∧ n ≤ 32) : TT (f_X0_clear F b n σ) (fun σ' => OB b σ σ' ∧ BR b σ' n (fun _ => 0)) := by
  unfold f_X0_clear
  simp only [tt_gt, tt_sg, tt_ite, tt_ck, tt_lk, tt_ix, tt_bo, tt_by, tt_nz, tt_ob, tt_st, tt_cpk, tt_c1, tt_c2, tt_ca, tt_cb, tt_some, kd_231, kd_0, Nat.reduceAdd, true_and, and_true, true_implies, not_true_eq_false, false_implies, not_false_eq_true, true_or, or_true, hk]
  refine (fill_ok hk1 (by omega) (by omega)).mono (fun σ' h => ⟨fun k k1 k2 => ?_, ?_, fun c c1 c2 => ?_⟩)
  · rw [h.1 k k2, up_ne k1]
  · rw [h.1 b (by omega), up_eq]
    dsimp only
    rw [if_pos rfl]
    unfold z_max z_min
    split <;> split <;> omega
  · rw [h.2, if_pos (by omega)]
def lOut (o : Int) (g : Int → Int) (n : Int) : Prop := ∀ e, 0 ≤ e → e < n → (lbt o e ↔ g e ≠ 0)
theorem e6_isOut {F : Nat} {σ : St} {o e : Int} : TT (f_X6_isOut F o e σ) (fun r => (r = 1 ∧ lbt o e) ∨ (r = 0 ∧ ¬ lbt o e)) := by
  unfold f_X6_isOut
  simp only [tt_gt, tt_sg, tt_ite, tt_ck, tt_lk, tt_ix, tt_bo, tt_by, tt_nz, tt_ob, tt_st, tt_cpk, tt_c1, tt_c2, tt_ca, tt_cb, tt_some, kd_231, kd_0, Nat.reduceAdd, true_and, and_true, true_implies, not_true_eq_false, false_implies, not_false_eq_true, true_or, or_true]
  have hc : z_cmp (z_land (z_lshr o e) 1) 0 = 0 ↔ z_land (z_lshr o e) 1 = 0 := by
    unfold z_cmp
    split
    · exact ⟨fun z => absurd z (by decide), fun z => by omega⟩
    · split
      · exact ⟨fun _ => by assumption, fun _ => rfl⟩
      · exact ⟨fun z => absurd z (by decide), fun z => by omega⟩
  rw [hc]
  exact ⟨fun q => Or.inr (fun z => z q), fun q => Or.inl q⟩
theorem e6_holds {F : Nat} {σ : St} {x c : Int} : f_X6_holds F x c σ = some (if bt x c then 1 else 0) := by
  apply TT.eq
  unfold f_X6_holds
  simp only [tt_gt, tt_sg, tt_ite, tt_ck, tt_lk, tt_ix, tt_bo, tt_by, tt_nz, tt_ob, tt_st, tt_cpk, tt_c1, tt_c2, tt_ca, tt_cb, tt_some, kd_231, kd_0, Nat.reduceAdd, true_and, and_true, true_implies, not_true_eq_false, false_implies, not_false_eq_true, true_or, or_true]
  exact ⟨fun q => by rw [if_neg (fun z => z q)], fun q => by rw [if_pos (show bt x c from q)]⟩
theorem SR.ob {s b : Nat} {σ σ' : St} {w : Int → Int} (h : SR s σ w) (ho : OB b σ σ') (hb : s + 2 < b ∨ b + 1 < s) : SR s σ' w := h.mv (ho s (by omega) (by omega)) (ho (s + 1) (by omega) (by omega)) (ho (s + 2) (by omega) (by omega))
theorem ap_val {b : Nat} {w g : Int → Int} {t : Nat} {σ : St} {r : Int × St} (hw : WF w) (ht : (t : Int) < evN w) (hB : BR b σ (w 0) (Val w g t)) (hg : g t = 0) (h : Ap b w t σ r) : BR b r.2 (w 0) (Val w g (t + 1)) := by
  refine ⟨by rw [h.1 b (by omega)]; exact hB.1, fun c c1 c2 => ?_⟩
  rw [h.2.1 c c1 c2, Val]
  by_cases q : w (6 + 4 * (t : Int)) < 4
  · rw [if_pos q, if_pos ⟨hg, q⟩]
    exact apE_congr hw.1.2.1 (hw.2.2 t (by omega) ht) q hB.2 ⟨c1, c2⟩
  · rw [if_neg q, if_neg (fun z => q z.2), hB.2 c c1 c2]
theorem val_out {w g : Int → Int} {t : Nat} (hg : g t ≠ 0) (c : Int) : Val w g (t + 1) c = Val w g t c := by
  rw [Val, if_neg (fun z => hg z.1)]
theorem BR.b255 {b : Nat} {w g : Int → Int} {t : Nat} {σ : St} {n : Int} (hw : WF w) (ht : (t : Int) ≤ evN w) (hB : BR b σ n (Val w g t)) : B255 (σ (b + 1)) := fun c c1 c2 => by
  rw [hB.2 c c1 c2]
  exact val_255 hw t ht c c1 c2
theorem play_ok {F b s : Nat} {σ : St} {w g : Int → Int} {T o : Int} (hF : 100 ≤ F) (hk : kdX b = 0) (hk1 : kdX (b + 1) = 9) (hl : lnX (b + 1) = 32) (hs : kdX s = 4) (hb : s + 2 < b ∨ b + 1 < s) (h : SR s σ w) (hw : WF w) (hT : 0 ≤ T ∧ T ≤ evN w) (ho : lOut o g T) : TT (f_X0_play F b s T o σ) (fun σ' => OB b σ σ' ∧ BR b σ' (w 0) (Val w g T.toNat)) := by
  have h60 := hw.ev60
  have h0 := h.1 0 (by decide) (by decide)
  unfold f_X0_play
  simp only [tt_gt, tt_sg, tt_ite, tt_ck, tt_lk, tt_ix, tt_bo, tt_by, tt_nz, tt_ob, tt_st, tt_cpk, tt_c1, tt_c2, tt_ca, tt_cb, tt_some, kd_231, kd_0, Nat.reduceAdd, true_and, and_true, true_implies, not_true_eq_false, false_implies, not_false_eq_true, true_or, or_true, hk, hs, h0]
  refine (clear_ok hF hk hk1 hl ⟨hw.1.1, hw.1.2.1⟩).mono (fun σ1 h1 => ?_)
  refine lp_w (L := fun n (p : Int × St) => f_X0_play_L11 F b s T o n p.1 p.2) (fun m p => 0 ≤ p.1 ∧ p.1 + m = T ∧ OB b σ p.2 ∧ BR b p.2 (w 0) (Val w g p.1.toNat)) (fun m n p hI ih => ?_) T.toNat F (0, σ1) (by omega) ⟨by dsimp only; omega, by dsimp only; omega, h1.1, ⟨h1.2.1, fun c c1 c2 => h1.2.2 c c1 c2⟩⟩
  obtain ⟨i, τ⟩ := p
  dsimp only at hI ih ⊢
  obtain ⟨i1, i2, i3, i4⟩ := hI
  rw [f_X0_play_L11]
  simp only [tt_gt, tt_sg, tt_ite, tt_ck, tt_lk, tt_ix, tt_bo, tt_by, tt_nz, tt_ob, tt_st, tt_cpk, tt_c1, tt_c2, tt_ca, tt_cb, tt_some, kd_231, kd_0, Nat.reduceAdd, true_and, and_true, true_implies, not_true_eq_false, false_implies, not_false_eq_true, true_or, or_true]
  refine ⟨fun q => ⟨i3, by rw [show T = i by omega]; exact i4⟩, fun q => ⟨fun q => absurd q (by omega), fun q2 => ?_⟩⟩
  refine (e6_isOut (F := F)).mono (fun r hr => ?_)
  have hoi := ho i (by omega) (by omega)
  obtain ⟨t, rfl⟩ : ∃ t : Nat, i = t := ⟨i.toNat, by omega⟩
  rw [Int.toNat_natCast] at i4
  have e1 : ((t : Int) + 1).toNat = t + 1 := by omega
  rcases hr with ⟨rfl, hr⟩ | ⟨rfl, hr⟩
  · refine ⟨fun _ => And.intro (by omega) (ih (m - 1) ((t : Int) + 1, τ) (by omega) ⟨by dsimp only; omega, by dsimp only; omega, i3, ?_⟩), fun z => absurd (by decide) z⟩
    dsimp only
    rw [e1]
    exact ⟨i4.1, fun c c1 c2 => by rw [val_out (hoi.mp hr), i4.2 c c1 c2]⟩
  · refine ⟨fun z => absurd rfl z, fun _ => ?_⟩
    refine (e0_apply hF hk hs (h.ob i3 hb) hw ⟨by omega, by omega⟩ i4.1 (i4.b255 hw (by omega))).mono (fun r hr2 => ?_)
    have hg : g t = 0 := Classical.byContradiction fun z => hr (hoi.mpr z)
    refine And.intro (by omega) (ih (m - 1) ((t : Int) + 1, r.2) (by omega) ⟨by dsimp only; omega, by dsimp only; omega, i3.tr (fun k k1 k2 => hr2.1 k k2), ?_⟩)
    dsimp only
    rw [e1]
    exact ap_val hw (by omega) i4 hg hr2
theorem total_ok {F b : Nat} {σ : St} {n : Int} {f : Int → Int} (hF : 100 ≤ F) (hk : kdX b = 0) (hn : 0 ≤ n ∧ n ≤ 32) (hB : BR b σ n f) (hf : B255 f) : f_X0_total F b σ = some (sm (fun c => f c) n.toNat) := by
  apply TT.eq
  unfold f_X0_total
  simp only [tt_gt, tt_sg, tt_ite, tt_ck, tt_lk, tt_ix, tt_bo, tt_by, tt_nz, tt_ob, tt_st, tt_cpk, tt_c1, tt_c2, tt_ca, tt_cb, tt_some, kd_231, kd_0, Nat.reduceAdd, true_and, and_true, true_implies, not_true_eq_false, false_implies, not_false_eq_true, true_or, or_true, hk]
  refine lp_c n.toNat (sm (fun c => f c)) (by omega) (fun m => ?_) (fun m i hi ht => ?_)
  · rw [f_X0_total_L4]
    simp only [tt_gt, tt_sg, tt_ite, tt_ck, tt_lk, tt_ix, tt_bo, tt_by, tt_nz, tt_ob, tt_st, tt_cpk, tt_c1, tt_c2, tt_ca, tt_cb, tt_some, kd_231, kd_0, Nat.reduceAdd, true_and, and_true, true_implies, not_true_eq_false, false_implies, not_false_eq_true, true_or, or_true, hB.1]
    exact ⟨fun _ => trivial, fun q => absurd q (by omega)⟩
  · have hr := sm_rng (f := fun c => f c) (M := 255) i (fun i _ => hf i (by omega) (by omega))
    have hi2 := hf i (by omega) (by omega)
    rw [f_X0_total_L4]
    simp only [tt_gt, tt_sg, tt_ite, tt_ck, tt_lk, tt_ix, tt_bo, tt_by, tt_nz, tt_ob, tt_st, tt_cpk, tt_c1, tt_c2, tt_ca, tt_cb, tt_some, kd_231, kd_0, Nat.reduceAdd, true_and, and_true, true_implies, not_true_eq_false, false_implies, not_false_eq_true, true_or, or_true, hB.1, hB.2 i (by omega) (by omega)]
    exact ⟨fun q => absurd q (by omega), fun q => And.intro (by omega) (And.intro (by omega) (And.intro (by omega) ht))⟩
theorem zeros_ok {F b : Nat} {σ : St} {n : Int} {f : Int → Int} (hF : 100 ≤ F) (hk : kdX b = 0) (hn : 0 ≤ n ∧ n ≤ 32) (hB : BR b σ n f) : f_X0_zeros F b σ = some (sm (fun c => if f c = 0 then 1 else 0) n.toNat) := by
  apply TT.eq
  unfold f_X0_zeros
  simp only [tt_gt, tt_sg, tt_ite, tt_ck, tt_lk, tt_ix, tt_bo, tt_by, tt_nz, tt_ob, tt_st, tt_cpk, tt_c1, tt_c2, tt_ca, tt_cb, tt_some, kd_231, kd_0, Nat.reduceAdd, true_and, and_true, true_implies, not_true_eq_false, false_implies, not_false_eq_true, true_or, or_true, hk]
  refine lp_c n.toNat (sm (fun c => if f c = 0 then 1 else 0)) (by omega) (fun m => ?_) (fun m i hi ht => ?_)
  · rw [f_X0_zeros_L4]
    simp only [tt_gt, tt_sg, tt_ite, tt_ck, tt_lk, tt_ix, tt_bo, tt_by, tt_nz, tt_ob, tt_st, tt_cpk, tt_c1, tt_c2, tt_ca, tt_cb, tt_some, kd_231, kd_0, Nat.reduceAdd, true_and, and_true, true_implies, not_true_eq_false, false_implies, not_false_eq_true, true_or, or_true, hB.1]
    exact ⟨fun _ => trivial, fun q => absurd q (by omega)⟩
  · have hr := sm_rng (f := fun c => if f c = 0 then 1 else 0) (M := 1) i (fun i _ => by split <;> omega)
    rw [f_X0_zeros_L4]
    simp only [tt_gt, tt_sg, tt_ite, tt_ck, tt_lk, tt_ix, tt_bo, tt_by, tt_nz, tt_ob, tt_st, tt_cpk, tt_c1, tt_c2, tt_ca, tt_cb, tt_some, kd_231, kd_0, Nat.reduceAdd, true_and, and_true, true_implies, not_true_eq_false, false_implies, not_false_eq_true, true_or, or_true, hB.1, hB.2 i (by omega) (by omega)]
    rw [sm] at ht
    refine ⟨fun q => absurd q (by omega), fun q => And.intro (by omega) ⟨fun q2 => And.intro (by omega) ?_, fun q2 => And.intro (by omega) (And.intro (by omega) ?_)⟩⟩
    · rw [if_neg q2, Int.add_zero] at ht
      exact ht
    · rw [if_pos (Classical.byContradiction q2)] at ht
      exact ht
theorem unlike_ok {F b d : Nat} {σ : St} {n n' : Int} {f f' : Int → Int} (hF : 100 ≤ F) (hk : kdX b = 0) (hd : kdX d = 0) (hn : 0 ≤ n ∧ n ≤ 32) (hB : BR b σ n f) (hD : BR d σ n' f') : f_X0_unlike F b d σ = some (sm (fun c => if f c = f' c then 0 else 1) n.toNat) := by
  apply TT.eq
  unfold f_X0_unlike
  simp only [tt_gt, tt_sg, tt_ite, tt_ck, tt_lk, tt_ix, tt_bo, tt_by, tt_nz, tt_ob, tt_st, tt_cpk, tt_c1, tt_c2, tt_ca, tt_cb, tt_some, kd_231, kd_0, Nat.reduceAdd, true_and, and_true, true_implies, not_true_eq_false, false_implies, not_false_eq_true, true_or, or_true, hk, hd]
  refine lp_c n.toNat (sm (fun c => if f c = f' c then 0 else 1)) (by omega) (fun m => ?_) (fun m i hi ht => ?_)
  · rw [f_X0_unlike_L4]
    simp only [tt_gt, tt_sg, tt_ite, tt_ck, tt_lk, tt_ix, tt_bo, tt_by, tt_nz, tt_ob, tt_st, tt_cpk, tt_c1, tt_c2, tt_ca, tt_cb, tt_some, kd_231, kd_0, Nat.reduceAdd, true_and, and_true, true_implies, not_true_eq_false, false_implies, not_false_eq_true, true_or, or_true, hB.1]
    exact ⟨fun _ => trivial, fun q => absurd q (by omega)⟩
  · have hr := sm_rng (f := fun c => if f c = f' c then 0 else 1) (M := 1) i (fun i _ => by split <;> omega)
    rw [f_X0_unlike_L4]
    simp only [tt_gt, tt_sg, tt_ite, tt_ck, tt_lk, tt_ix, tt_bo, tt_by, tt_nz, tt_ob, tt_st, tt_cpk, tt_c1, tt_c2, tt_ca, tt_cb, tt_some, kd_231, kd_0, Nat.reduceAdd, true_and, and_true, true_implies, not_true_eq_false, false_implies, not_false_eq_true, true_or, or_true, hB.1, hB.2 i (by omega) (by omega), hD.2 i (by omega) (by omega)]
    rw [sm] at ht
    refine ⟨fun q => absurd q (by omega), fun q => And.intro (by omega) (And.intro (by omega) ⟨fun q2 => And.intro (by omega) ?_, fun q2 => And.intro (by omega) (And.intro (by omega) ?_)⟩)⟩
    · rw [if_pos q2, Int.add_zero] at ht
      exact ht
    · rw [if_neg q2] at ht
      exact ht
theorem become_ok {F b d : Nat} {σ : St} {n : Int} {f : Int → Int} (hk : kdX b = 0) (hd : kdX d = 0) (hbd : d ≠ b ∧ d + 1 ≠ b ∧ d ≠ b + 1) (hD : BR d σ n f) : TT (f_X0_becomeCells F b d σ) (fun σ' => OB b σ σ' ∧ BR b σ' n f) := by
  unfold f_X0_becomeCells
  simp only [tt_gt, tt_sg, tt_ite, tt_ck, tt_lk, tt_ix, tt_bo, tt_by, tt_nz, tt_ob, tt_st, tt_cpk, tt_c1, tt_c2, tt_ca, tt_cb, tt_some, kd_231, kd_0, Nat.reduceAdd, true_and, and_true, true_implies, not_true_eq_false, false_implies, not_false_eq_true, true_or, or_true, hk, hd]
  refine And.intro (by omega) ⟨fun k k1 k2 => ?_, ?_, fun c c1 c2 => ?_⟩
  · funext j
    unfold z_cp
    rw [if_neg (fun z => k2 z.1), up_ne k1]
  · unfold z_cp
    rw [if_neg (by omega), up_eq]
    dsimp only
    rw [if_pos rfl, hD.1]
  · unfold z_cp
    rw [if_pos ⟨rfl, by omega, by omega⟩, up_ne (by omega)]
    rw [show (0 : Int) + (c - 0) = c by omega]
    exact hD.2 c c1 c2
