def zrN (w g : Int → Int) : Int := sm (fun c => if Val w g (evN w).toNat c = 0 then 1 else 0) (w 0).toNat
theorem zrN_rng {w : Int → Int} (g : Int → Int) (hw : 0 ≤ w 0 ∧ w 0 ≤ 32) : 0 ≤ zrN w g ∧ zrN w g ≤ 32 := by
  have := sm_rng (f := fun c => if Val w g (evN w).toNat c = 0 then 1 else 0) (M := 1) (w 0).toNat (fun i _ => by split <;> omega)
  unfold zrN
  omega
theorem zr_ok {F : Nat} {w g : Int → Int} {ν : St} (hF : 100 ≤ F) (hw : WF w) (h2 : ν 232 = w) (hv : ∀ (s : Nat) (c : Int), (s : Int) ≤ evN w → 0 ≤ c → c < 32 → ν 239 (32 * s + c) = Val w g s c) : f_X7_zeros F 231 ν = some (zrN w g) := by
  have h60 := hw.ev60
  have hw0 : 0 ≤ w 0 ∧ w 0 ≤ 32 := ⟨hw.1.1, hw.1.2.1⟩
  have ee := e_events (F := F) (σ := ν) (by rw [h2]; exact hw.1)
  rw [h2] at ee
  obtain ⟨N, eN⟩ : ∃ N : Nat, evN w = N := ⟨(evN w).toNat, by omega⟩
  apply TT.eq
  unfold f_X7_zeros zrN
  rw [eN] at ee hv h60 ⊢
  rw [Int.toNat_natCast]
  simp only [tt_gt, tt_sg, tt_ite, tt_ck, tt_lk, tt_ix, tt_bo, tt_by, tt_nz, tt_ob, tt_st, tt_cpk, tt_c1, tt_c2, tt_ca, tt_cb, tt_some, kd_231, kd_0, Nat.reduceAdd, true_and, and_true, true_implies, not_true_eq_false, false_implies, not_false_eq_true, true_or, or_true]
  refine cnt (L := fun n x i => f_X7_zeros_L4 F 231 ν n x i) (w 0).toNat (fun c => if Val w g N c = 0 then 1 else 0) (by omega) (fun n => ?_) (fun n i hi ht2 => ?_)
  · try dsimp only
    rw [f_X7_zeros_L4]
    simp only [tt_gt, tt_sg, tt_ite, tt_ck, tt_lk, tt_ix, tt_bo, tt_by, tt_nz, tt_ob, tt_st, tt_cpk, tt_c1, tt_c2, tt_ca, tt_cb, tt_some, kd_231, kd_0, Nat.reduceAdd, true_and, and_true, true_implies, not_true_eq_false, false_implies, not_false_eq_true, true_or, or_true, e_cells, h2]
    exact ⟨fun _ => trivial, fun z => absurd z (by omega)⟩
  · have hr := sm_rng (f := fun c => if Val w g N c = 0 then 1 else 0) (M := 1) i (fun i _ => by split <;> omega)
    try dsimp only at ht2 hr ⊢
    rw [f_X7_zeros_L4]
    simp only [tt_gt, tt_sg, tt_ite, tt_ck, tt_lk, tt_ix, tt_bo, tt_by, tt_nz, tt_ob, tt_st, tt_cpk, tt_c1, tt_c2, tt_ca, tt_cb, tt_some, kd_231, kd_0, Nat.reduceAdd, true_and, and_true, true_implies, not_true_eq_false, false_implies, not_false_eq_true, true_or, or_true, e_cells, h2, ee, e_valueAt (F := F) (σ := ν) (c := (i : Int)) (t := (N : Int)) ⟨by omega, by omega⟩ ⟨by omega, by omega⟩, hv N i (by omega) (by omega) (by omega)]
    refine ⟨fun z => absurd z (by omega), fun _ => ⟨fun z => And.intro (by omega) (And.intro (by omega) ?_), fun z => And.intro (by omega) (And.intro (by omega) ?_)⟩⟩
    · rw [if_neg z] at ht2; exact ht2
    · rw [if_pos (Classical.byContradiction z)] at ht2; exact ht2
theorem lw_ok {F : Nat} {w : Int → Int} {τ : St} {e0 : Nat} (hF : 100 ≤ F) (hw : WF w) (h2 : τ 232 = w) (he : e0 < 60) (hg : ∀ e, 0 ≤ e → e < 60 → τ 238 e = 0) : TT (f_X7_layWithout F 231 e0 τ) (fun τ' => (∀ k, k ≠ 238 → k ≠ 239 → k ≠ 240 → τ' k = τ k) ∧ (∀ e, 0 ≤ e → e < 60 → τ' 238 e = 0) ∧ ∀ (s : Nat) (c : Int), (s : Int) ≤ evN w → 0 ≤ c → c < 32 → τ' 239 (32 * s + c) = Val w (sgl e0) s c) := by
  have h60 := hw.ev60
  have e1 : z_up τ 238 e0 1 232 = w := (up_ne (by decide)).trans h2
  unfold f_X7_layWithout
  simp only [tt_gt, tt_sg, tt_ite, tt_ck, tt_lk, tt_ix, tt_bo, tt_by, tt_nz, tt_ob, tt_st, tt_cpk, tt_c1, tt_c2, tt_ca, tt_cb, tt_some, kd_231, kd_0, Nat.reduceAdd, true_and, and_true, true_implies, not_true_eq_false, false_implies, not_false_eq_true, true_or, or_true]
  refine And.intro (by omega) ?_
  refine (layValues_ok (F := F) (σ := z_up τ 238 e0 1) hF (by rw [e1]; exact hw)).mono (fun σ2 h3 => And.intro (by omega) ⟨fun k k1 k2 k3 => ?_, fun e e1 e2 => ?_, fun s c s1 c1 c2 => ?_⟩)
  · rw [up_ne k1, h3.1 k k2 k3, up_ne k1]
  · rw [up_eq]
    dsimp only
    by_cases z : e = e0
    · rw [if_pos z]
    · rw [if_neg z, h3.1 238 (by decide) (by decide), up_eq]
      dsimp only
      rw [if_neg z]
      exact hg e e1 e2
  · rw [up_ne (by decide), (h3.2).1 s c (by rw [e1]; omega) c1 c2, e1]
    rw [val_cg (g' := sgl e0) s (fun e e1 e2 => ?_)]
    rw [up_eq]
    dsimp only
    unfold sgl
    by_cases z : e = e0
    · rw [if_pos z, if_pos z]
    · rw [if_neg z, if_neg z]
      exact hg e e1 (by omega)
def WM (ν τ : St) : Prop := (∀ k, k ≠ 238 → k ≠ 239 → k ≠ 240 → k ≠ 253 → τ k = ν k) ∧ ∀ e, 0 ≤ e → e < 60 → τ 238 e = 0
theorem WM.gi {F : Nat} {ν τ : St} (hF : 100 ≤ F) (h : WM ν τ) (hg : GI F ν) : GI F τ := hg.q hF QCl.rf hg.rn ⟨fun x hx => h.1 x (by omega) (by omega) (by omega) (by omega), fun x hx => h.1 x (by omega) (by omega) (by omega) (by omega), fun j hj => by rw [h.1 231 (by decide) (by decide) (by decide) (by decide)], fun hb => by rw [h.1 251 (by decide) (by decide) (by decide) (by decide)]; exact hb⟩
def bmR (w : Int → Int) : Nat → Int × Int
  | 0 => (zrN w (fun _ => 0), -1)
  | i + 1 => if zrN w (sgl i) ≤ (bmR w i).1 then bmR w i else (zrN w (sgl i), (i : Int))
theorem q_blame {F : Nat} {σ : St} (hF : 100 ≤ F) (h : GI F σ) : PP F (f_X6_blame F 0 σ) (f_X7_blame F 231) := by
  have h60 := h.wf.ev60
  have hw0 : 0 ≤ σ 232 0 ∧ σ 232 0 ≤ 32 := ⟨h.wf.1.1, h.wf.1.2.1⟩
  have h0 := h.sc.1 0 (by decide) (by decide)
  have hst := h.wf.st
  have h3b : 0 ≤ σ 232 3 ∧ σ 232 3 ≤ 40 ∧ σ 232 3 ≤ evN (σ 232) := by
    have := h.wf.1
    unfold Hd at this
    unfold evN
    omega
  unfold PP f_X6_blame
  simp only [tt_ob, kd_0, true_and, tt_c1, Nat.zero_add, e4_exists (F := F) (s := 4) (σ := σ) rfl, h0, tt_some, tt_ite]
  by_cases q : 0 < σ 232 0
  · rw [if_pos q]
    simp only [tt_gt, tt_sg, tt_ite, tt_ck, tt_lk, tt_ix, tt_bo, tt_by, tt_nz, tt_ob, tt_st, tt_cpk, tt_c1, tt_c2, tt_ca, tt_cb, tt_some, kd_231, kd_0, Nat.reduceAdd, true_and, and_true, true_implies, not_true_eq_false, false_implies, not_false_eq_true, true_or, or_true, one0, e4_size (F := F) (s := 4) rfl h.sc h.wf]
    have ply : ∀ (τ : St) (o : Int) (g : Int → Int), QB σ τ → lOut o g (evN (σ 232)) → TT (f_X0_play F 208 4 (evN (σ 232)) o τ) (fun σ2 => QB σ σ2 ∧ f_X0_zeros F 208 σ2 = some (zrN (σ 232) g)) := by
      intro τ o g hq ho
      refine (play_ok (F := F) (b := 208) (s := 4) hF rfl rfl rfl rfl (Or.inl (by decide)) (h.sc.qb hq) h.wf ⟨by omega, Int.le_refl _⟩ ho).mono (fun σ2 h2 => ⟨hq.tr (h2.1.qb (by omega)), ?_⟩)
      rw [zeros_ok hF rfl hw0 h2.2]
      rfl
    refine (ply σ 0 (fun _ => 0) QB.rf (lOut_0 (by omega))).mono (fun σ1 h1 => ?_)
    rw [h1.2, tt_some]
    have key : ∀ τ : St, QB σ τ → TT (f_X7_blame F 231 τ) (fun r' => (bmR (σ 232) (σ 232 3).toNat).2 = r'.1 ∧ GI F r'.2) := by
      intro τ hq
      obtain ⟨T0, P0⟩ := h.qb hF hq
      obtain ⟨⟨v, ν⟩, ha, hv, μ, X⟩ := P0.asks hF h
      dsimp only at hv X
      rw [if_pos (by omega)] at hv
      subst hv
      unfold f_X7_blame
      simp only [tt_gt, tt_sg, tt_ite, tt_ck, tt_lk, tt_ix, tt_bo, tt_by, tt_nz, tt_ob, tt_st, tt_cpk, tt_c1, tt_c2, tt_ca, tt_cb, tt_some, kd_231, kd_0, Nat.reduceAdd, true_and, and_true, true_implies, not_true_eq_false, false_implies, not_false_eq_true, true_or, or_true, ha, one0, zr_ok hF h.wf X.w2 X.kn.v9]
      refine lp_w (L := fun n (p : Int × Int × Int × St) => f_X7_blame_L19 F 231 n p.1 p.2.1 p.2.2.1 p.2.2.2) (fun m p => ∃ j : Nat, p.2.2.1 = j ∧ (j : Int) + m = σ 232 3 ∧ (p.1, p.2.1) = bmR (σ 232) j ∧ WM ν p.2.2.2) (fun m n p hI ih => ?_) (σ 232 3).toNat F (_, -1, 0, ν) (by omega) ⟨0, rfl, by omega, rfl, fun _ _ _ _ _ => rfl, X.go⟩
      obtain ⟨x, y, z, τ⟩ := p
      dsimp only at hI ih ⊢
      obtain ⟨j, rfl, i2, i3, i4⟩ := hI
      have e32 : τ 232 = σ 232 := (i4.1 232 (by decide) (by decide) (by decide) (by decide)).trans X.w2
      rw [f_X7_blame_L19]
      simp only [tt_gt, tt_sg, tt_ite, tt_ck, tt_lk, tt_ix, tt_bo, tt_by, tt_nz, tt_ob, tt_st, tt_cpk, tt_c1, tt_c2, tt_ca, tt_cb, tt_some, kd_231, kd_0, Nat.reduceAdd, true_and, and_true, true_implies, not_true_eq_false, false_implies, not_false_eq_true, true_or, or_true, e32]
      refine And.intro (by omega) ⟨fun z => ⟨by rw [show (σ 232 3).toNat = j by omega, ← i3], i4.gi hF X.gi⟩, fun z => ?_⟩
      refine (lw_ok hF h.wf e32 (by omega) i4.2).mono (fun τ2 h2 => ?_)
      have W2 : WM ν τ2 := ⟨fun k k1 k2 k3 k4 => (h2.1 k k1 k2 k3).trans (i4.1 k k1 k2 k3 k4), h2.2.1⟩
      simp only [zr_ok (g := sgl j) hF h.wf ((W2.1 232 (by decide) (by decide) (by decide) (by decide)).trans X.w2) h2.2.2, tt_some]
      refine ⟨fun u => And.intro (by omega) (ih (m - 1) (zrN (σ 232) (sgl j), (j : Int), (j : Int) + 1, τ2) (by omega) ⟨j + 1, by dsimp only; omega, by omega, ?_, W2⟩), fun u => And.intro (by omega) (ih (m - 1) (x, y, (j : Int) + 1, τ2) (by omega) ⟨j + 1, by dsimp only; omega, by omega, ?_, W2⟩)⟩
      · rw [bmR, if_neg (by rw [← i3]; dsimp only; omega)]
      · rw [bmR, if_pos (by rw [← i3]; dsimp only; omega)]
        exact i3
    refine lp_w (L := fun n (p : Int × Int × Int × St) => f_X6_blame_L44 F 0 n p.1 p.2.1 p.2.2.1 p.2.2.2) (fun m p => ∃ j : Nat, p.2.2.1 = j ∧ (j : Int) + m = σ 232 3 ∧ (p.1, p.2.1) = bmR (σ 232) j ∧ QB σ p.2.2.2) (fun m n p hI ih => ?_) (σ 232 3).toNat F (_, -1, 0, σ1) (by omega) ⟨0, rfl, by omega, rfl, h1.1⟩
    obtain ⟨x, y, z, τ⟩ := p
    dsimp only at hI ih ⊢
    obtain ⟨j, rfl, i2, i3, i4⟩ := hI
    have e3 := (h.sc.qb i4).1 3 (by decide) (by decide)
    rw [f_X6_blame_L44]
    simp only [tt_gt, tt_sg, tt_ite, tt_ck, tt_lk, tt_ix, tt_bo, tt_by, tt_nz, tt_ob, tt_st, tt_cpk, tt_c1, tt_c2, tt_ca, tt_cb, tt_some, kd_231, kd_0, Nat.reduceAdd, true_and, and_true, true_implies, not_true_eq_false, false_implies, not_false_eq_true, true_or, or_true, Nat.zero_add, e3, e4_size (F := F) (s := 4) rfl (h.sc.qb i4) h.wf]
    refine ⟨fun z => ?_, fun z => ?_⟩
    · have := key τ i4
      rw [show (σ 232 3).toNat = j by omega, ← i3] at this
      exact this
    · refine (ply τ (z_lshl 1 j) (sgl j) i4 (lOut_1 (by omega) (by omega))).mono (fun σ2 h2 => ?_)
      simp only [h2.2, tt_some]
      refine ⟨fun u => And.intro (by omega) (ih (m - 1) (x, y, (j : Int) + 1, σ2) (by omega) ⟨j + 1, by dsimp only; omega, by omega, ?_, h2.1⟩), fun u => And.intro (by omega) (ih (m - 1) (zrN (σ 232) (sgl j), (j : Int), (j : Int) + 1, σ2) (by omega) ⟨j + 1, by dsimp only; omega, by omega, ?_, h2.1⟩)⟩
      · rw [bmR, if_pos (by rw [← i3]; dsimp only; omega)]
        exact i3
      · rw [bmR, if_neg (by rw [← i3]; dsimp only; omega)]
  · rw [if_neg q]
    simp only [tt_gt, tt_sg, tt_ite, tt_ck, tt_lk, tt_ix, tt_bo, tt_by, tt_nz, tt_ob, tt_st, tt_cpk, tt_c1, tt_c2, tt_ca, tt_cb, tt_some, kd_231, kd_0, Nat.reduceAdd, true_and, and_true, true_implies, not_true_eq_false, false_implies, not_false_eq_true, true_or, or_true, eq_self]
    obtain ⟨T0, P0⟩ := h.self
    obtain ⟨⟨v, ν⟩, ha, hv, μ, X⟩ := P0.asks hF h
    dsimp only at hv X
    rw [if_neg (by omega)] at hv
    subst hv
    unfold f_X7_blame
    simp only [tt_gt, tt_sg, tt_ite, tt_ck, tt_lk, tt_ix, tt_bo, tt_by, tt_nz, tt_ob, tt_st, tt_cpk, tt_c1, tt_c2, tt_ca, tt_cb, tt_some, kd_231, kd_0, Nat.reduceAdd, true_and, and_true, true_implies, not_true_eq_false, false_implies, not_false_eq_true, true_or, or_true, ha, eq_self]
    exact X.gi
def Fst (P : Nat → Prop) (n : Nat) (r : Int) : Prop := (r = -1 ∧ ∀ i, i < n → ¬ P i) ∨ ∃ i : Nat, i < n ∧ r = i ∧ P i ∧ ∀ j, j < i → ¬ P j
theorem Fst.one {P : Nat → Prop} {n : Nat} {r r' : Int} (h : Fst P n r) (h' : Fst P n r') : r = r' := by
  rcases h with ⟨h1, h2⟩ | ⟨i, h1, h2, h3, h4⟩
  · rcases h' with ⟨g1, g2⟩ | ⟨i', g1, g2, g3, g4⟩
    · omega
    · exact absurd g3 (h2 i' g1)
  · rcases h' with ⟨g1, g2⟩ | ⟨i', g1, g2, g3, g4⟩
    · exact absurd h3 (g2 i h1)
    · by_cases a : i < i'
      · exact absurd h3 (g4 i a)
      · by_cases b : i' < i
        · exact absurd g3 (h4 i' b)
        · omega
def idP (w : Int → Int) (i : Nat) : Prop := w (6 + 4 * (i : Int)) < 4 ∧ dfN w (sgl i) (evN w).toNat (fun _ => 0) (evN w).toNat = 0
theorem idle_in {F : Nat} {w : Int → Int} {ν : St} {x : Int} {K : Int → St → Option (Int × St)} {P : Int × St → Prop} (hF : 100 ≤ F) (hw : WF w) (h2 : ν 232 = w) (hx : 0 ≤ x ∧ x < 60) {V U : Int → Int} (he : ∀ c, 0 ≤ c → c < 32 → ν 253 c = V c) (hu : ∀ c, 0 ≤ c → c < 32 → ν 239 (32 * evN w + c) = U c) (h1 : (∀ c, 0 ≤ c → c < 32 → V c = U c) → P (x, ν)) (h3 : ¬ (∀ c, 0 ≤ c → c < 32 → V c = U c) → TT (K (x + 1) ν) P) : TT (f_X7_idle_L71 F 231 K F x 1 0 ν) P := by
  have h60 := hw.ev60
  have ee := e_events (F := F) (σ := ν) (by rw [h2]; exact hw.1)
  rw [h2] at ee
  refine lp_w (L := fun n (p : Int × Int) => f_X7_idle_L71 F 231 K n x p.1 p.2 ν) (fun m p => 0 ≤ p.2 ∧ p.2 + m = 32 ∧ ((p.1 = 1 ∧ ∀ c, 0 ≤ c → c < p.2 → V c = U c) ∨ (p.1 = 0 ∧ ¬ ∀ c, 0 ≤ c → c < 32 → V c = U c))) (fun m n p hI ih => ?_) 32 F (1, 0) (by omega) ⟨by dsimp only; omega, by dsimp only; omega, Or.inl ⟨rfl, fun c c1 c2 => by dsimp only at c2; omega⟩⟩
  obtain ⟨y, i⟩ := p
  dsimp only at hI ih ⊢
  obtain ⟨i1, i2, i3⟩ := hI
  rw [f_X7_idle_L71]
  simp only [tt_gt, tt_sg, tt_ite, tt_ck, tt_lk, tt_ix, tt_bo, tt_by, tt_nz, tt_ob, tt_st, tt_cpk, tt_c1, tt_c2, tt_ca, tt_cb, tt_some, kd_231, kd_0, Nat.reduceAdd, true_and, and_true, true_implies, not_true_eq_false, false_implies, not_false_eq_true, true_or, or_true, ee]
  refine ⟨fun z => ⟨fun u => And.intro (by omega) (h3 ?_), fun u => h1 ?_⟩, fun z => ⟨fun u => And.intro (by omega) (ih (m - 1) (0, i + 1) (by omega) ⟨by dsimp only; omega, by dsimp only; omega, Or.inr ⟨rfl, ?_⟩⟩), fun u => And.intro (by omega) ?_⟩⟩
  · rcases i3 with v | v
    · omega
    · exact v.2
  · rcases i3 with v | v
    · exact fun c c1 c2 => v.2 c c1 (by omega)
    · exact absurd v.1 u
  · rcases i3 with v | v
    · omega
    · exact v.2
  · rw [e_valueAt (F := F) (σ := ν) ⟨i1, by omega⟩ ⟨by omega, by omega⟩, tt_some, he i i1 (by omega), hu i i1 (by omega)]
    rcases i3 with v | v
    · refine ⟨fun a => And.intro (by omega) (ih (m - 1) (0, i + 1) (by omega) ⟨by dsimp only; omega, by dsimp only; omega, Or.inr ⟨rfl, fun b => a (b i i1 (by omega))⟩⟩), fun a => And.intro (by omega) (ih (m - 1) (1, i + 1) (by omega) ⟨by dsimp only; omega, by dsimp only; omega, Or.inl ⟨rfl, fun c c1 c2 => ?_⟩⟩)⟩
      dsimp only at c2
      by_cases b : c = i
      · rw [b]; exact Classical.byContradiction a
      · exact v.2 c c1 (by omega)
    · exact absurd v.1 u
theorem q_idle {F : Nat} {σ : St} (hF : 100 ≤ F) (h : GI F σ) : PP F (f_X6_idle F 0 σ) (f_X7_idle F 231) := by
  have h60 := h.wf.ev60
  have hw0 : 0 ≤ σ 232 0 ∧ σ 232 0 ≤ 32 := ⟨h.wf.1.1, h.wf.1.2.1⟩
  have h0 := h.sc.1 0 (by decide) (by decide)
  have hst := h.wf.st
  have h3b : 0 ≤ σ 232 3 ∧ σ 232 3 ≤ 40 ∧ σ 232 3 ≤ evN (σ 232) := by
    have := h.wf.1
    unfold Hd at this
    unfold evN
    omega
  have hN : (((evN (σ 232)).toNat : Nat) : Int) = evN (σ 232) := by omega
  unfold PP f_X6_idle
  simp only [tt_ob, kd_0, true_and, tt_c1, Nat.zero_add, e4_exists (F := F) (s := 4) (σ := σ) rfl, h0, tt_some, tt_ite]
  by_cases q : 0 < σ 232 0
  · rw [if_pos q]
    simp only [tt_gt, tt_sg, tt_ite, tt_ck, tt_lk, tt_ix, tt_bo, tt_by, tt_nz, tt_ob, tt_st, tt_cpk, tt_c1, tt_c2, tt_ca, tt_cb, tt_some, kd_231, kd_0, Nat.reduceAdd, true_and, and_true, true_implies, not_true_eq_false, false_implies, not_false_eq_true, true_or, or_true, one0, e4_size (F := F) (s := 4) rfl h.sc h.wf]
    have key : ∀ (τ : St) (a : Int), QB σ τ → Fst (idP (σ 232)) (σ 232 3).toNat a → TT (f_X7_idle F 231 τ) (fun r' => a = r'.1 ∧ GI F r'.2) := by
      intro τ a hq hA
      obtain ⟨T0, P0⟩ := h.qb hF hq
      obtain ⟨⟨v, ν⟩, ha, hv, μ, X⟩ := P0.asks hF h
      dsimp only at hv X
      rw [if_pos (by omega)] at hv
      subst hv
      unfold f_X7_idle
      simp only [tt_gt, tt_sg, tt_ite, tt_ck, tt_lk, tt_ix, tt_bo, tt_by, tt_nz, tt_ob, tt_st, tt_cpk, tt_c1, tt_c2, tt_ca, tt_cb, tt_some, kd_231, kd_0, Nat.reduceAdd, true_and, and_true, true_implies, not_true_eq_false, false_implies, not_false_eq_true, true_or, or_true, ha, one0]
      have second : ∀ τ : St, WM ν τ → (∀ c, 0 ≤ c → c < 32 → τ 253 c = Val (σ 232) (fun _ => 0) (evN (σ 232)).toNat c) → TT (f_X7_idle_L41 F 231 F 0 τ) (fun r' => a = r'.1 ∧ GI F r'.2) := by
        intro τ hW hE
        refine lp_w (L := fun n (p : Int × St) => f_X7_idle_L41 F 231 n p.1 p.2) (fun m p => ∃ j : Nat, p.1 = j ∧ (j : Int) + m = σ 232 3 ∧ (∀ i, i < j → ¬ idP (σ 232) i) ∧ WM ν p.2 ∧ ∀ c, 0 ≤ c → c < 32 → p.2 253 c = Val (σ 232) (fun _ => 0) (evN (σ 232)).toNat c) (fun m n p hI ih => ?_) (σ 232 3).toNat F (0, τ) (by omega) ⟨0, rfl, by omega, fun i hi => absurd hi (Nat.not_lt_zero i), hW, hE⟩
        obtain ⟨z, τ⟩ := p
        dsimp only at hI ih ⊢
        obtain ⟨j, rfl, i2, i3, i4, i5⟩ := hI
        have e32 : τ 232 = σ 232 := (i4.1 232 (by decide) (by decide) (by decide) (by decide)).trans X.w2
        rw [f_X7_idle_L41]
        simp only [tt_gt, tt_sg, tt_ite, tt_ck, tt_lk, tt_ix, tt_bo, tt_by, tt_nz, tt_ob, tt_st, tt_cpk, tt_c1, tt_c2, tt_ca, tt_cb, tt_some, kd_231, kd_0, Nat.reduceAdd, true_and, and_true, true_implies, not_true_eq_false, false_implies, not_false_eq_true, true_or, or_true, e32]
        refine And.intro (by omega) ⟨fun z => ⟨hA.one (Or.inl ⟨rfl, fun i hi => i3 i (by omega)⟩), i4.gi hF X.gi⟩, fun z => ?_⟩
        rw [e_isCommand (F := F) (σ := τ) ⟨by omega, by omega⟩, tt_some, e32]
        by_cases u : σ 232 (6 + 4 * (j : Int)) < 4
        · rw [if_pos u]
          refine ⟨fun _ => ?_, fun v => absurd (by decide) v⟩
          refine (lw_ok hF h.wf e32 (by omega) i4.2).mono (fun τ2 h2 => ?_)
          have W2 : WM ν τ2 := ⟨fun k k1 k2 k3 k4 => (h2.1 k k1 k2 k3).trans (i4.1 k k1 k2 k3 k4), h2.2.1⟩
          have E2 : ∀ c, 0 ≤ c → c < 32 → τ2 253 c = Val (σ 232) (fun _ => 0) (evN (σ 232)).toNat c := fun c c1 c2 => by rw [h2.1 253 (by decide) (by decide) (by decide)]; exact i5 c c1 c2
          have dd := dfN_0 (g := sgl j) (g' := fun _ => 0) h.wf (show (((evN (σ 232)).toNat : Nat) : Int) ≤ evN (σ 232) by omega) (show (((evN (σ 232)).toNat : Nat) : Int) ≤ evN (σ 232) by omega)
          refine idle_in (w := σ 232) (U := Val (σ 232) (sgl j) (evN (σ 232)).toNat) hF h.wf ((W2.1 232 (by decide) (by decide) (by decide) (by decide)).trans X.w2) (by omega) E2 (fun c c1 c2 => by have := h2.2.2 (evN (σ 232)).toNat c (by omega) c1 c2; rw [hN] at this; exact this) (fun hy => ⟨hA.one (Or.inr ⟨j, by omega, rfl, ⟨u, dd.mpr (fun c c1 c2 => (hy c c1 c2).symm)⟩, i3⟩), W2.gi hF X.gi⟩) (fun hn => ih (m - 1) ((j : Int) + 1, τ2) (by omega) ⟨j + 1, by dsimp only; omega, by omega, fun i hi y => ?_, W2, E2⟩)
          by_cases b : i = j
          · rw [b] at y
            exact hn (fun c c1 c2 => (dd.mp y.2 c c1 c2).symm)
          · exact i3 i (by omega) y
        · rw [if_neg u]
          refine ⟨fun v => absurd rfl v, fun _ => And.intro (by omega) (ih (m - 1) ((j : Int) + 1, τ) (by omega) ⟨j + 1, by dsimp only; omega, by omega, fun i hi y => ?_, i4, i5⟩)⟩
          by_cases b : i = j
          · rw [b] at y
            exact u y.1
          · exact i3 i (by omega) y
      refine lp_w (L := fun n (p : Int × St) => f_X7_idle_L12 F 231 n p.1 p.2) (fun m p => 0 ≤ p.1 ∧ p.1 + m = 32 ∧ (∀ k, k ≠ 253 → p.2 k = ν k) ∧ ∀ c, 0 ≤ c → c < p.1 → p.2 253 c = Val (σ 232) (fun _ => 0) (evN (σ 232)).toNat c) (fun m n p hI ih => ?_) 32 F (0, ν) (by omega) ⟨by dsimp only; omega, by dsimp only; omega, fun _ _ => rfl, fun c c1 c2 => by dsimp only at c2; omega⟩
      obtain ⟨i, τ⟩ := p
      dsimp only at hI ih ⊢
      obtain ⟨i1, i2, i3, i4⟩ := hI
      have ee := e_events (F := F) (σ := τ) (by rw [i3 232 (by decide), X.w2]; exact X.wf.1)
      rw [i3 232 (by decide), X.w2] at ee
      rw [f_X7_idle_L12]
      simp only [tt_gt, tt_sg, tt_ite, tt_ck, tt_lk, tt_ix, tt_bo, tt_by, tt_nz, tt_ob, tt_st, tt_cpk, tt_c1, tt_c2, tt_ca, tt_cb, tt_some, kd_231, kd_0, Nat.reduceAdd, true_and, and_true, true_implies, not_true_eq_false, false_implies, not_false_eq_true, true_or, or_true, ee]
      refine ⟨fun z => second τ ⟨fun k k1 k2 k3 k4 => i3 k k4, fun e e1 e2 => by rw [i3 238 (by decide)]; exact X.go e e1 e2⟩ (fun c c1 c2 => i4 c c1 (by omega)), fun z => ?_⟩
      rw [e_valueAt (F := F) (σ := τ) ⟨i1, by omega⟩ ⟨by omega, by omega⟩, tt_some, i3 239 (by decide)]
      have hvv := X.kn.v9 (evN (σ 232)).toNat i (by omega) i1 (by omega)
      rw [hN] at hvv
      rw [hvv]
      refine And.intro (by omega) (And.intro (by omega) (ih (m - 1) (i + 1, z_up τ 253 i (Val (σ 232) (fun _ => 0) (evN (σ 232)).toNat i)) (by omega) ⟨by dsimp only; omega, by dsimp only; omega, fun k hk => (up_ne hk).trans (i3 k hk), fun c c1 c2 => ?_⟩))
      dsimp only at c2 ⊢
      rw [up_eq]
      dsimp only
      by_cases b : c = i
      · rw [if_pos b, b]
      · rw [if_neg b]; exact i4 c c1 (by omega)
    refine (play_ok (F := F) (b := 210) (s := 4) hF rfl rfl rfl rfl (Or.inl (by decide)) h.sc h.wf ⟨by omega, Int.le_refl _⟩ (lOut_0 (by omega))).mono (fun σ1 h1 => ?_)
    refine lp_w (L := fun n (p : Int × St) => f_X6_idle_L34 F 0 n p.1 p.2) (fun m p => ∃ j : Nat, p.1 = j ∧ (j : Int) + m = σ 232 3 ∧ (∀ i, i < j → ¬ idP (σ 232) i) ∧ QB σ p.2 ∧ BR 210 p.2 (σ 232 0) (Val (σ 232) (fun _ => 0) (evN (σ 232)).toNat)) (fun m n p hI ih => ?_) (σ 232 3).toNat F (0, σ1) (by omega) ⟨0, rfl, by omega, fun i hi => absurd hi (Nat.not_lt_zero i), h1.1.qb (by omega), h1.2⟩
    obtain ⟨z, τ⟩ := p
    dsimp only at hI ih ⊢
    obtain ⟨j, rfl, i2, i3, i4, i5⟩ := hI
    have S2 := h.sc.qb i4
    have e3 := S2.1 3 (by decide) (by decide)
    rw [f_X6_idle_L34]
    simp only [tt_gt, tt_sg, tt_ite, tt_ck, tt_lk, tt_ix, tt_bo, tt_by, tt_nz, tt_ob, tt_st, tt_cpk, tt_c1, tt_c2, tt_ca, tt_cb, tt_some, kd_231, kd_0, Nat.reduceAdd, true_and, and_true, true_implies, not_true_eq_false, false_implies, not_false_eq_true, true_or, or_true, Nat.zero_add, e3, e4_size (F := F) (s := 4) rfl S2 h.wf]
    refine ⟨fun z => key τ _ i4 (Or.inl ⟨rfl, fun i hi => i3 i (by omega)⟩), fun z => ?_⟩
    rw [e4_isCommand (F := F) (s := 4) (e := (j : Int)) rfl S2 h.wf ⟨by omega, by omega⟩, tt_some]
    by_cases u : σ 232 (6 + 4 * (j : Int)) < 4
    · rw [if_pos u]
      refine ⟨fun v => absurd v (by decide), fun _ => ?_⟩
      refine (play_ok (F := F) (b := 208) (s := 4) hF rfl rfl rfl rfl (Or.inl (by decide)) S2 h.wf ⟨by omega, Int.le_refl _⟩ (lOut_1 (e0 := (j : Int)) (by omega) (by omega))).mono (fun σ2 h2 => ?_)
      have B2 : BR 210 σ2 (σ 232 0) (Val (σ 232) (fun _ => 0) (evN (σ 232)).toNat) := ⟨by rw [h2.1 210 (by decide) (by decide)]; exact i5.1, fun c c1 c2 => by rw [h2.1 (210 + 1) (by decide) (by decide)]; exact i5.2 c c1 c2⟩
      have Q2 : QB σ σ2 := i4.tr (h2.1.qb (by omega))
      rw [unlike_ok (F := F) (b := 208) (d := 210) hF rfl rfl hw0 h2.2 B2, tt_some]
      have e1 : sm (fun c => if Val (σ 232) (sgl j) (evN (σ 232)).toNat c = Val (σ 232) (fun _ => 0) (evN (σ 232)).toNat c then 0 else 1) (σ 232 0).toNat = dfN (σ 232) (sgl j) (evN (σ 232)).toNat (fun _ => 0) (evN (σ 232)).toNat := rfl
      rw [e1]
      refine ⟨fun z2 => And.intro (by omega) (ih (m - 1) ((j : Int) + 1, σ2) (by omega) ⟨j + 1, by dsimp only; omega, by omega, fun i hi y => ?_, Q2, B2⟩), fun z2 => key σ2 _ Q2 (Or.inr ⟨j, by omega, rfl, ⟨u, Classical.byContradiction z2⟩, i3⟩)⟩
      by_cases b : i = j
      · rw [b] at y
        exact z2 y.2
      · exact i3 i (by omega) y
    · rw [if_neg u]
      refine ⟨fun _ => And.intro (by omega) (ih (m - 1) ((j : Int) + 1, τ) (by omega) ⟨j + 1, by dsimp only; omega, by omega, fun i hi y => ?_, i4, i5⟩), fun v => absurd rfl v⟩
      by_cases b : i = j
      · rw [b] at y
        exact u y.1
      · exact i3 i (by omega) y
  · rw [if_neg q]
    simp only [tt_gt, tt_sg, tt_ite, tt_ck, tt_lk, tt_ix, tt_bo, tt_by, tt_nz, tt_ob, tt_st, tt_cpk, tt_c1, tt_c2, tt_ca, tt_cb, tt_some, kd_231, kd_0, Nat.reduceAdd, true_and, and_true, true_implies, not_true_eq_false, false_implies, not_false_eq_true, true_or, or_true, eq_self]
    obtain ⟨T0, P0⟩ := h.self
    obtain ⟨⟨v, ν⟩, ha, hv, μ, X⟩ := P0.asks hF h
    dsimp only at hv X
    rw [if_neg (by omega)] at hv
    subst hv
    unfold f_X7_idle
    simp only [tt_gt, tt_sg, tt_ite, tt_ck, tt_lk, tt_ix, tt_bo, tt_by, tt_nz, tt_ob, tt_st, tt_cpk, tt_c1, tt_c2, tt_ca, tt_cb, tt_some, kd_231, kd_0, Nat.reduceAdd, true_and, and_true, true_implies, not_true_eq_false, false_implies, not_false_eq_true, true_or, or_true, ha, eq_self]
    exact X.gi
