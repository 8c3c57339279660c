theorem Ev.cg {w w' : Int → Int} {e : Int} (h : Ev w e) (h0 : w' 0 = w 0) (k0 : w' (6 + 4 * e) = w (6 + 4 * e)) (k1 : w' (6 + 4 * e + 1 + 0) = w (6 + 4 * e + 1 + 0)) (k2 : w' (6 + 4 * e + 1 + 1) = w (6 + 4 * e + 1 + 1)) (k3 : w' (6 + 4 * e + 1 + 2) = w (6 + 4 * e + 1 + 2)) : Ev w' e := by
  unfold Ev
  rw [h0, k0, k1, k2, k3]
  exact h
theorem WF.cg {w w' : Int → Int} (h : WF w) (e : ∀ j, 0 ≤ j → j < 246 → w' j = w j) : WF w' := by
  have h60 := h.ev60
  have en : evN w' = evN w := by unfold evN; rw [e 3 (by decide) (by decide), e 4 (by decide) (by decide)]
  refine ⟨?_, ?_, fun i i1 i2 => ?_⟩
  · unfold Hd
    rw [e 0 (by decide) (by decide), e 1 (by decide) (by decide), e 2 (by decide) (by decide), e 3 (by decide) (by decide), e 4 (by decide) (by decide), e 5 (by decide) (by decide)]
    exact h.1
  · rw [e 0 (by decide) (by decide), e 3 (by decide) (by decide), e 5 (by decide) (by decide)]
    rcases h.2.1 with z | z
    · exact Or.inl ⟨z.1, fun j j1 j2 => (e j j1 j2).trans (z.2 j j1 j2)⟩
    · exact Or.inr z
  · rw [en] at i2
    exact (h.2.2 i i1 i2).cg (e _ (by omega) (by omega)) (e _ (by omega) (by omega)) (e _ (by omega) (by omega)) (e _ (by omega) (by omega)) (e _ (by omega) (by omega))
theorem nk_rng {k : Int} (h : 0 ≤ k) (h2 : k ≤ 8) : 0 ≤ z_nk k ∧ z_nk k ≤ 3 := by
  rw [nk_v h h2]
  split
  · omega
  · split
    · omega
    · split <;> omega
theorem SR.cg {s : Nat} {σ : St} {w w' : Int → Int} (h : SR s σ w) (hw : WF w) (e : ∀ j, 0 ≤ j → j < 246 → w' j = w j) : SR s σ w' := by
  have h60 := hw.ev60
  have en : evN w' = evN w := by unfold evN; rw [e 3 (by decide) (by decide), e 4 (by decide) (by decide)]
  refine ⟨fun j j1 j2 => by rw [e j j1 (by omega)]; exact h.1 j j1 j2, h.2.1, fun i i1 i2 => ?_⟩
  rw [en] at i2
  have hk := hw.2.2 i i1 i2
  have hn := nk_rng hk.1 hk.2.1
  rw [e (6 + 4 * i) (by omega) (by omega)]
  refine ⟨(h.2.2 i i1 i2).1, fun j j1 j2 => ?_⟩
  rw [e (6 + 4 * i + 1 + j) (by omega) (by omega)]
  exact (h.2.2 i i1 i2).2 j j1 j2
theorem Gd.ext {w w' g : Int → Int} {t : Nat} {α : St} (h : Gd w' g t α) (e0 : w' 0 = w 0) (e : ∀ j, 6 ≤ j → j < 6 + 4 * (t : Int) → w' j = w j) : Gd w g t α := ⟨h.wf, h.le, h.n0, h.o0, h.vl, h.w0.trans e0, fun j j1 j2 => (h.ev j j1 j2).trans (e j j1 j2), h.go⟩
theorem RIt.ext {F : Nat} {w w' : Int → Int} {t : Nat} {σ : St} (h : RIt F w t σ) (e0 : w' 0 = w 0) (e1 : w' 1 = w 1) (e : ∀ j, 6 ≤ j → j < 6 + 4 * (t : Int) → w' j = w j) (ht : (t : Int) ≤ evN w') : RIt F w' t σ := by
  refine ⟨ht, h.2.1, fun α hα => ?_, fun i hi α hα => ?_⟩
  · rw [e0, e1]
    exact h.2.2.1 α (hα.ext e0 e)
  · rw [e1]
    exact h.2.2.2 i hi α (hα.ext e0 e)
theorem gi_new {F : Nat} {σ σ' : St} (h : GI F σ) (hw : WF (σ' 232)) (hs : SR 4 σ' (σ' 232)) (hr : RI F (σ' 232) σ') (e : ∀ x, x < 4 ∨ (7 ≤ x ∧ x < 12) ∨ (213 < x ∧ x ≠ 232) → σ' x = σ x) : GI F σ' :=
  gi_mk ⟨hw, hs, hr⟩ (by rw [e 8 (by omega)]; exact h.sp) (h.i_fr (fun x hx => e x (by omega))) (h.t_fr (by rw [e 1 (by omega)]) (e 2 (by omega)) (e 235 (by omega)) (by rw [e 231 (by omega)])) (by rw [e 1 (by omega), e 231 (by omega)]; exact h.fk) (by rw [e 1 (by omega), e 231 (by omega)]; exact h.fp) (h.s_fr (fun x hx => e x (by omega))) (by rw [e 251 (by omega)]; exact h.ag)
def s4 (w : Int → Int) (v : Int) : Int → Int := fun j => if j = 4 then v else w j
theorem s4_e (w : Int → Int) (v : Int) : s4 w v 4 = v := if_pos rfl
theorem s4_n {w : Int → Int} {v j : Int} (h : j ≠ 4) : s4 w v j = w j := if_neg h
theorem s4_ev (w : Int → Int) (v : Int) : evN (s4 w v) = w 3 + v := by unfold evN; rw [s4_e, s4_n (by decide)]
theorem WF.s4 {w : Int → Int} {v : Int} (h : WF w) (h5 : 0 < w 5) (h1 : 0 ≤ v) (h2 : v ≤ w 4) : WF (s4 w v) := by
  have hd := h.1
  unfold Hd at hd
  refine ⟨?_, Or.inr ?_, fun e e1 e2 => ?_⟩
  · unfold Hd
    rw [s4_e, s4_n (by decide), s4_n (by decide), s4_n (by decide), s4_n (by decide), s4_n (by decide)]
    omega
  · rw [s4_n (by decide), s4_n (by decide), s4_n (by decide)]
    rcases h.2.1 with z | z
    · omega
    · exact z
  · rw [s4_ev] at e2
    refine (h.2.2 e e1 (by unfold evN; omega)).cg (s4_n (by decide)) (s4_n (by omega)) (s4_n (by omega)) (s4_n (by omega)) (s4_n (by omega))
theorem shr_ok {F : Nat} {σ : St} {v : Int} (hF : 100 ≤ F) (h : GI F σ) (h5 : 0 < σ 232 5) (h1 : 0 ≤ v) (h2 : v ≤ σ 232 4) : TT (f_X6_playAnew F 0 (z_up σ 4 4 v)) (fun σ2 => σ2 4 4 = v ∧ σ2 232 = σ 232 ∧ GI F (z_up σ2 232 4 v)) := by
  have hw := h.wf.s4 h5 h1 h2
  have hs : SR 4 (z_up σ 4 4 v) (s4 (σ 232) v) := by
    refine ⟨fun j j1 j2 => ?_, ?_, fun e e1 e2 => ?_⟩
    · rw [up_eq]
      dsimp only
      by_cases z : j = 4
      · rw [if_pos z, z, s4_e]
      · rw [if_neg z, s4_n z]; exact h.sc.1 j j1 j2
    · rw [up_ne (by decide)]; exact h.sc.2.1
    · rw [s4_ev] at e2
      have := h.sc.2.2 e e1 (by unfold evN; omega)
      rw [up_ne (by decide), up_ne (by decide), s4_n (by omega)]
      refine ⟨this.1, fun j j1 j2 => ?_⟩
      rw [s4_n (by omega)]
      exact this.2 j j1 j2
  refine (anew_ok hF hw hs).mono (fun σ2 h3 => ?_)
  have o : ∀ x, x ≠ 4 → (x < 12 ∨ 109 < x) → σ2 x = σ x := fun x x1 x2 => (h3.2 x (by omega)).trans (up_ne x1)
  have e4 : σ2 4 = z_up σ 4 4 v 4 := h3.2 4 (by omega)
  refine ⟨by rw [e4, up_eq]; exact if_pos rfl, o 232 (by decide) (by omega), ?_⟩
  have ew : z_up σ2 232 4 v 232 = s4 (σ 232) v := by rw [up_eq, o 232 (by decide) (by omega)]; rfl
  refine gi_new h (by rw [ew]; exact hw) ?_ ⟨0, ?_⟩ (fun x hx => (up_ne (by omega)).trans (o x (by omega) (by omega)))
  · rw [ew]
    exact hs.mv (by rw [up_ne (by decide)]; exact e4) (by rw [up_ne (by decide)]; exact h3.2 5 (by omega)) (by rw [up_ne (by decide)]; exact h3.2 6 (by omega))
  · rw [ew]
    exact h3.1.fr hF hw (fun x x1 x2 => up_ne (by omega))
theorem q_undo {F : Nat} {σ : St} (hF : 100 ≤ F) (h : GI F σ) : PP F (f_X6_undo F 0 σ) (f_X7_undo F 231) := by
  have hx := e4_exists (F := F) (s := 4) (σ := σ) rfl
  have e0 := h.sc.1 0 (by decide) (by decide)
  have e4 := h.sc.1 4 (by decide) (by decide)
  have hd := h.wf.1
  have hst := h.wf.st
  unfold Hd at hd
  rw [e0] at hx
  have no : ∀ σ', GI F σ' → σ' 232 = σ 232 → ¬ 0 < σ 232 5 → TT (f_X7_undo F 231 σ') (fun r' => -2 = r'.1 ∧ GI F r'.2) := fun σ' g1 g2 g3 => by
    unfold f_X7_undo
    simp only [tt_gt, tt_sg, tt_ite, tt_ck, tt_lk, tt_ix, tt_bo, tt_by, tt_nz, tt_ob, tt_st, tt_cpk, tt_c1, tt_c2, tt_ca, tt_cb, tt_some, kd_231, kd_0, Nat.reduceAdd, true_and, and_true, true_implies, not_true_eq_false, false_implies, not_false_eq_true, true_or, or_true, e_isStore, g2, if_neg g3, eq_self]
    exact g1
  unfold PP f_X6_undo
  simp only [tt_gt, tt_sg, tt_ite, tt_ck, tt_lk, tt_ix, tt_bo, tt_by, tt_nz, tt_ob, tt_st, tt_cpk, tt_c1, tt_c2, tt_ca, tt_cb, tt_some, kd_231, kd_0, Nat.reduceAdd, true_and, and_true, true_implies, not_true_eq_false, false_implies, not_false_eq_true, true_or, or_true, Nat.zero_add, hx, e4]
  by_cases q : 0 < σ 232 0
  · rw [if_pos q]
    refine ⟨fun _ => ⟨fun z => And.intro (by omega) ?_, fun z => ?_⟩, fun y => absurd (by decide) y⟩
    · refine (shr_ok (v := σ 232 4 - 1) hF h (hst.1 q) (by omega) (by omega)).mono (fun σ2 h2 => ?_)
      unfold f_X7_undo
      simp only [tt_gt, tt_sg, tt_ite, tt_ck, tt_lk, tt_ix, tt_bo, tt_by, tt_nz, tt_ob, tt_st, tt_cpk, tt_c1, tt_c2, tt_ca, tt_cb, tt_some, kd_231, kd_0, Nat.reduceAdd, true_and, and_true, true_implies, not_true_eq_false, false_implies, not_false_eq_true, true_or, or_true, e_isStore, h2.1, h2.2.1, if_pos (hst.1 q), one0]
      refine And.intro (by omega) ?_
      first
        | exact ⟨z, And.intro (by omega) (And.intro (by omega) (by rw [up_eq]; exact ⟨(if_pos rfl).symm, h2.2.2⟩))⟩
        | exact ⟨fun _ => And.intro (by omega) (And.intro (by omega) (And.intro (by omega) (And.intro (by omega) (by rw [up_eq]; exact ⟨(if_pos rfl).symm, h2.2.2⟩)))), fun y => absurd z y⟩
    · unfold f_X7_undo
      simp only [tt_gt, tt_sg, tt_ite, tt_ck, tt_lk, tt_ix, tt_bo, tt_by, tt_nz, tt_ob, tt_st, tt_cpk, tt_c1, tt_c2, tt_ca, tt_cb, tt_some, kd_231, kd_0, Nat.reduceAdd, true_and, and_true, true_implies, not_true_eq_false, false_implies, not_false_eq_true, true_or, or_true, e_isStore, if_pos (hst.1 q), one0]
      exact And.intro (by omega) ⟨fun y => absurd y z, fun _ => h⟩
  · rw [if_neg q]
    exact ⟨fun y => absurd rfl y, fun _ => no σ h rfl (fun y => q (hst.2 y))⟩
theorem q_anew {F : Nat} {σ : St} (hF : 100 ≤ F) (h : GI F σ) : PP F (f_X6_anew F 0 σ) (f_X7_anew F 231) := by
  have hx := e4_exists (F := F) (s := 4) (σ := σ) rfl
  have e0 := h.sc.1 0 (by decide) (by decide)
  have e4 := h.sc.1 4 (by decide) (by decide)
  have hd := h.wf.1
  have hst := h.wf.st
  unfold Hd at hd
  rw [e0] at hx
  unfold PP f_X6_anew
  simp only [tt_gt, tt_sg, tt_ite, tt_ck, tt_lk, tt_ix, tt_bo, tt_by, tt_nz, tt_ob, tt_st, tt_cpk, tt_c1, tt_c2, tt_ca, tt_cb, tt_some, kd_231, kd_0, Nat.reduceAdd, true_and, and_true, true_implies, not_true_eq_false, false_implies, not_false_eq_true, true_or, or_true, Nat.zero_add, hx, e4]
  by_cases q : 0 < σ 232 0
  · rw [if_pos q]
    refine ⟨fun _ => ?_, fun y => absurd (by decide) y⟩
    refine (shr_ok (v := 0) hF h (hst.1 q) (by omega) (by omega)).mono (fun σ2 h2 => ?_)
    unfold f_X7_anew
    simp only [tt_gt, tt_sg, tt_ite, tt_ck, tt_lk, tt_ix, tt_bo, tt_by, tt_nz, tt_ob, tt_st, tt_cpk, tt_c1, tt_c2, tt_ca, tt_cb, tt_some, kd_231, kd_0, Nat.reduceAdd, true_and, and_true, true_implies, not_true_eq_false, false_implies, not_false_eq_true, true_or, or_true, e_isStore, h2.2.1, if_pos (hst.1 q), one0, eq_self]
    exact And.intro (by omega) (And.intro (by omega) h2.2.2)
  · rw [if_neg q]
    refine ⟨fun y => absurd rfl y, fun _ => ?_⟩
    unfold f_X7_anew
    simp only [tt_gt, tt_sg, tt_ite, tt_ck, tt_lk, tt_ix, tt_bo, tt_by, tt_nz, tt_ob, tt_st, tt_cpk, tt_c1, tt_c2, tt_ca, tt_cb, tt_some, kd_231, kd_0, Nat.reduceAdd, true_and, and_true, true_implies, not_true_eq_false, false_implies, not_false_eq_true, true_or, or_true, e_isStore, if_neg (fun y => q (hst.2 y)), eq_self]
    exact h
