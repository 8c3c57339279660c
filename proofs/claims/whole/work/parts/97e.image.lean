theorem cp_ne {σ : St} {a b k' : Nat} {sp dp n : Int} (h : k' ≠ b) : z_cp σ a b sp dp n k' = σ k' := funext fun j => if_neg (fun y => h y.1)
theorem cp_eq {σ : St} {a b : Nat} {sp dp n : Int} : z_cp σ a b sp dp n b = fun j => if dp ≤ j ∧ j < dp + n then σ a (sp + (j - dp)) else σ b j := funext fun j => by
  unfold z_cp
  by_cases z : dp ≤ j ∧ j < dp + n
  · rw [if_pos ⟨rfl, z⟩, if_pos z]
  · rw [if_neg (fun y => z y.2), if_neg z]
def BcP (d s : Nat) (σ σ' : St) : Prop := (∀ x, x ≠ d → x ≠ d + 1 → x ≠ d + 2 → σ' x = σ x) ∧ (∀ j, 0 ≤ j → j < 5 → σ' d j = σ s j) ∧ (∀ j, 5 ≤ j → σ' d j = σ d j) ∧ (∀ j, 0 ≤ j → j < 60 → σ' (d + 1) j = σ (s + 1) j) ∧ ∀ j, 0 ≤ j → j < 180 → σ' (d + 2) j = σ (s + 2) j
theorem scbe_ok {F d s : Nat} {σ : St} (hd : kdX d = 4) (hs : kdX s = 4) (hn : d + 2 < s ∨ s + 2 < d) : TT (f_X4_become F d s σ) (BcP d s σ) := by
  have n0 : s ≠ d := by omega
  unfold f_X4_become
  simp only [tt_gt, tt_sg, tt_ite, tt_ck, tt_lk, tt_ix, tt_bo, tt_by, tt_nz, tt_ob, tt_st, tt_cpk, tt_c1, tt_c2, tt_ca, tt_cb, tt_some, kd_231, kd_0, Nat.reduceAdd, true_and, and_true, true_implies, not_true_eq_false, false_implies, not_false_eq_true, true_or, or_true, hd, hs, up_ne n0]
  refine And.intro (by omega) (And.intro (by omega) ?_)
  generalize hτ : z_up (z_up (z_up (z_up (z_up σ d 0 (σ s 0)) d 1 (σ s 1)) d 2 (σ s 2)) d 3 (σ s 3)) d 4 (σ s 4) = τ
  have o : ∀ x, x ≠ d → τ x = σ x := fun x hx => by rw [← hτ, up_ne hx, up_ne hx, up_ne hx, up_ne hx, up_ne hx]
  have td : ∀ j, τ d j = if j = 4 then σ s 4 else if j = 3 then σ s 3 else if j = 2 then σ s 2 else if j = 1 then σ s 1 else if j = 0 then σ s 0 else σ d j := fun j => by rw [← hτ]; simp only [up_eq]
  refine ⟨fun x x1 x2 x3 => by rw [cp_ne x3, cp_ne x2, o x x1], fun j j1 j2 => ?_, fun j j1 => ?_, fun j j1 j2 => ?_, fun j j1 j2 => ?_⟩
  · rw [cp_ne (by omega), cp_ne (by omega), td]
    have : j = 0 ∨ j = 1 ∨ j = 2 ∨ j = 3 ∨ j = 4 := by omega
    rcases this with z | z | z | z | z <;> subst z <;> rfl
  · rw [cp_ne (by omega), cp_ne (by omega), td, if_neg (by omega), if_neg (by omega), if_neg (by omega), if_neg (by omega), if_neg (by omega)]
  · rw [cp_ne (by omega), cp_eq]
    dsimp only
    rw [if_pos (by omega), o _ (by omega), show 0 + (j - 0) = j by omega]
  · rw [cp_eq]
    dsimp only
    rw [if_pos (by omega), cp_ne (by omega), o _ (by omega), show 0 + (j - 0) = j by omega]
theorem SR.bc {d s : Nat} {σ σ' : St} {w : Int → Int} (h : SR s σ w) (hw : WF w) (b0 : ∀ j, 0 ≤ j → j < 5 → σ' d j = σ s j) (b1 : ∀ j, 0 ≤ j → j < 60 → σ' (d + 1) j = σ (s + 1) j) (b2 : ∀ j, 0 ≤ j → j < 180 → σ' (d + 2) j = σ (s + 2) j) : SR d σ' w := by
  have h60 := hw.ev60
  refine ⟨fun j j1 j2 => (b0 j j1 j2).trans (h.1 j j1 j2), fun e e1 e2 => ?_, fun e e1 e2 => ?_⟩
  · rw [b1 e e1 e2]; exact h.2.1 e e1 e2
  · rw [b1 e e1 (by omega)]
    have hk := hw.2.2 e e1 e2
    have nr := nk_rng hk.1 hk.2.1
    refine ⟨(h.2.2 e e1 e2).1, fun j j1 j2 => ?_⟩
    rw [b2 _ (by omega) (by omega)]
    exact (h.2.2 e e1 e2).2 j j1 j2
theorem kd_im {k : Nat} (h : k < 3) : kdX (214 + 3 * k) = 4 := by
  have : k = 0 ∨ k = 1 ∨ k = 2 := by omega
  rcases this with z | z | z <;> subst z <;> rfl
theorem q_image {F : Nat} {σ : St} {a : Int} (hF : 1000 ≤ F) (h : GI F σ) : PP F (f_X6_image F 0 a σ) (f_X7_image F 231 a) := by
  have no : ¬ (0 ≤ a ∧ a ≤ 2) → TT (f_X7_image F 231 a σ) (fun r' => -2 = r'.1 ∧ GI F r'.2) := fun q => by
    unfold f_X7_image
    simp only [tt_gt, tt_sg, tt_ite, tt_ck, tt_lk, tt_ix, tt_bo, tt_by, tt_nz, tt_ob, tt_st, tt_cpk, tt_c1, tt_c2, tt_ca, tt_cb, tt_some, kd_231, kd_0, Nat.reduceAdd, true_and, and_true, true_implies, not_true_eq_false, false_implies, not_false_eq_true, true_or, or_true, e_in, if_neg q, eq_self]
    exact h
  unfold PP f_X6_image
  simp only [tt_gt, tt_sg, tt_ite, tt_ck, tt_lk, tt_ix, tt_bo, tt_by, tt_nz, tt_ob, tt_st, tt_cpk, tt_c1, tt_c2, tt_ca, tt_cb, tt_some, kd_231, kd_0, Nat.reduceAdd, true_and, and_true, true_implies, not_true_eq_false, false_implies, not_false_eq_true, true_or, or_true, Nat.zero_add]
  refine ⟨fun z => no (by omega), fun z => ⟨fun z2 => ?_, fun z2 => no (by omega)⟩⟩
  obtain ⟨k, rfl⟩ : ∃ k : Nat, a = k := ⟨a.toNat, by omega⟩
  rw [Int.toNat_natCast]
  have k3 : k < 3 := by omega
  refine And.intro (by omega) ?_
  refine (scbe_ok (d := 214 + 3 * k) (s := 4) (kd_im k3) rfl (by omega)).mono (fun σ1 h1 => ?_)
  obtain ⟨b0, b1, b2, b3, b4⟩ := h1
  refine And.intro (by omega) ?_
  generalize hτ : z_up σ1 (214 + 3 * k) 5 1 = τ
  have o : ∀ x, x ≠ 214 + 3 * k → x ≠ 214 + 3 * k + 1 → x ≠ 214 + 3 * k + 2 → τ x = σ x := fun x x1 x2 x3 => by rw [← hτ, up_ne x1, b0 x x1 x2 x3]
  have t0 : ∀ j, 0 ≤ j → j < 5 → τ (214 + 3 * k) j = σ 4 j := fun j j1 j2 => by rw [← hτ, up_eq]; exact (if_neg (by omega)).trans (b1 j j1 j2)
  have t5 : τ (214 + 3 * k) 5 = 1 := by rw [← hτ, up_eq]; exact if_pos rfl
  have t1 : ∀ j, 0 ≤ j → j < 60 → τ (214 + 3 * k + 1) j = σ (4 + 1) j := fun j j1 j2 => by rw [← hτ, up_ne (by omega)]; exact b3 j j1 j2
  have t2 : ∀ j, 0 ≤ j → j < 180 → τ (214 + 3 * k + 2) j = σ (4 + 2) j := fun j j1 j2 => by rw [← hτ, up_ne (by omega)]; exact b4 j j1 j2
  unfold f_X7_image
  simp only [tt_gt, tt_sg, tt_ite, tt_ck, tt_lk, tt_ix, tt_bo, tt_by, tt_nz, tt_ob, tt_st, tt_cpk, tt_c1, tt_c2, tt_ca, tt_cb, tt_some, kd_231, kd_0, Nat.reduceAdd, true_and, and_true, true_implies, not_true_eq_false, false_implies, not_false_eq_true, true_or, or_true, e_in]
  rw [if_pos (by omega)]
  refine ⟨fun _ => ?_, fun y => absurd (by decide) y⟩
  refine lp_w (L := fun n (p : Int × St) => f_X7_image_L17 F 231 k n p.1 p.2) (fun m p => ∃ i : Nat, p.1 = i ∧ i + m = 246 ∧ (∀ x, x ≠ 233 → p.2 x = τ x) ∧ ∀ j, p.2 233 j = if 246 * (k : Int) ≤ j ∧ j < 246 * (k : Int) + i then τ 232 (j - 246 * k) else τ 233 j) (fun m n p hI ih => ?_) 246 F (0, τ) (by omega) ⟨0, rfl, rfl, fun _ _ => rfl, fun i => by dsimp only; rw [if_neg (by omega)]⟩
  obtain ⟨x, κ⟩ := p
  dsimp only at hI ih ⊢
  obtain ⟨i, rfl, i2, i3, i4⟩ := hI
  rw [f_X7_image_L17]
  simp only [tt_gt, tt_sg, tt_ite, tt_ck, tt_lk, tt_ix, tt_bo, tt_by, tt_nz, tt_ob, tt_st, tt_cpk, tt_c1, tt_c2, tt_ca, tt_cb, tt_some, kd_231, kd_0, Nat.reduceAdd, true_and, and_true, true_implies, not_true_eq_false, false_implies, not_false_eq_true, true_or, or_true]
  refine ⟨fun z => And.intro (by omega) ?_, fun z => And.intro (by omega) (And.intro (by omega) (And.intro (by omega) (And.intro (by omega) (And.intro (by omega) (ih (m - 1) ((i : Int) + 1, z_up κ 233 (246 * k + i) (κ 232 i)) (by omega) ⟨i + 1, by dsimp only; omega, by omega, fun x hx => (up_ne hx).trans (i3 x hx), fun j => ?_⟩)))))⟩
  · have : i = 246 := by omega
    subst this
    generalize hω : z_up κ 234 k 1 = ω
    have oo : ∀ x, x ≠ 233 → x ≠ 234 → ω x = τ x := fun x x1 x2 => by rw [← hω, up_ne x2, i3 x x1]
    have ow : ∀ x, x ≠ 214 + 3 * k → x ≠ 214 + 3 * k + 1 → x ≠ 214 + 3 * k + 2 → x ≠ 233 → x ≠ 234 → ω x = σ x := fun x x1 x2 x3 x4 x5 => (oo x x4 x5).trans (o x x1 x2 x3)
    have w33 : ∀ j, ω 233 j = if 246 * (k : Int) ≤ j ∧ j < 246 * (k : Int) + 246 then σ 232 (j - 246 * k) else σ 233 j := fun j => by
      rw [← hω, up_ne (by decide), i4, o 232 (by omega) (by omega) (by omega), o 233 (by omega) (by omega) (by omega)]
      rfl
    have w34 : ∀ j, ω 234 j = if j = k then 1 else σ 234 j := fun j => by rw [← hω, up_eq]; dsimp only; rw [i3 234 (by decide), o 234 (by omega) (by omega) (by omega)]
    have gi : GI F ω := by
      refine gi_mk (h.w_fr (by omega) (fun x hx => ow x (by omega) (by omega) (by omega) (by omega) (by omega))) (by rw [ow 8 (by omega) (by omega) (by omega) (by omega) (by omega)]; exact h.sp) ⟨fun k' hk => ?_, fun k' hk => ?_⟩ (h.t_fr (by rw [ow 1 (by omega) (by omega) (by omega) (by omega) (by omega)]) (ow 2 (by omega) (by omega) (by omega) (by omega) (by omega)) (ow 235 (by omega) (by omega) (by omega) (by omega) (by omega)) (by rw [ow 231 (by omega) (by omega) (by omega) (by omega) (by omega)])) (by rw [ow 1 (by omega) (by omega) (by omega) (by omega) (by omega), ow 231 (by omega) (by omega) (by omega) (by omega) (by omega)]; exact h.fk) (by rw [ow 1 (by omega) (by omega) (by omega) (by omega) (by omega), ow 231 (by omega) (by omega) (by omega) (by omega) (by omega)]; exact h.fp) (h.s_fr (fun x hx => ow x (by omega) (by omega) (by omega) (by omega) (by omega))) (by rw [ow 251 (by omega) (by omega) (by omega) (by omega) (by omega)]; exact h.ag)
      · by_cases y : k' = k
        · subst y
          have ex : ∀ j, 0 ≤ j → j < 246 → (fun j => ω 233 (246 * (k' : Int) + j)) j = σ 232 j := fun j j1 j2 => by
            dsimp only
            rw [w33, if_pos (by omega)]
            congr 1
            omega
          refine ⟨?_, h.wf.cg ex⟩
          refine SR.cg ?_ h.wf ex
          exact h.sc.bc h.wf (fun j j1 j2 => by rw [oo _ (by omega) (by omega)]; exact t0 j j1 j2) (fun j j1 j2 => by rw [oo _ (by omega) (by omega)]; exact t1 j j1 j2) (fun j j1 j2 => by rw [oo _ (by omega) (by omega)]; exact t2 j j1 j2)
        · have ex : ∀ j, 0 ≤ j → j < 246 → (fun j => ω 233 (246 * (k' : Int) + j)) j = (fun j => σ 233 (246 * (k' : Int) + j)) j := fun j j1 j2 => by
            dsimp only
            rw [w33, if_neg (by omega)]
          refine ⟨SR.cg ?_ (h.im k' hk).2 ex, (h.im k' hk).2.cg ex⟩
          exact (h.im k' hk).1.mv (ow _ (by omega) (by omega) (by omega) (by omega) (by omega)) (ow _ (by omega) (by omega) (by omega) (by omega) (by omega)) (ow _ (by omega) (by omega) (by omega) (by omega) (by omega))
      · rw [w34]
        by_cases y : k' = k
        · subst y
          rw [if_pos rfl, oo _ (by omega) (by omega), t5]
        · rw [if_neg (by omega), ow _ (by omega) (by omega) (by omega) (by omega) (by omega)]
          exact h.it k' hk
    first
      | exact gi
      | exact ⟨rfl, gi⟩
      | exact And.intro (by omega) gi
  · dsimp only
    rw [up_eq]
    dsimp only
    by_cases y : j = 246 * (k : Int) + i
    · rw [if_pos y, if_pos (by omega), i3 232 (by decide)]
      congr 1
      omega
    · rw [if_neg y, i4]
      by_cases y2 : 246 * (k : Int) ≤ j ∧ j < 246 * (k : Int) + i
      · rw [if_pos y2, if_pos (by omega)]
      · rw [if_neg y2, if_neg (by omega)]
theorem q_back {F : Nat} {σ : St} {a : Int} (hF : 1000 ≤ F) (h : GI F σ) : PP F (f_X6_back F 0 a σ) (f_X7_back F 231 a) := by
  have no : ¬ (0 ≤ a ∧ a ≤ 2) → TT (f_X7_back F 231 a σ) (fun r' => -2 = r'.1 ∧ GI F r'.2) := fun q => by
    unfold f_X7_back
    simp only [tt_gt, tt_sg, tt_ite, tt_ck, tt_lk, tt_ix, tt_bo, tt_by, tt_nz, tt_ob, tt_st, tt_cpk, tt_c1, tt_c2, tt_ca, tt_cb, tt_some, kd_231, kd_0, Nat.reduceAdd, true_and, and_true, true_implies, not_true_eq_false, false_implies, not_false_eq_true, true_or, or_true, e_in, if_neg q, eq_self]
    exact h
  unfold PP f_X6_back
  simp only [tt_gt, tt_sg, tt_ite, tt_ck, tt_lk, tt_ix, tt_bo, tt_by, tt_nz, tt_ob, tt_st, tt_cpk, tt_c1, tt_c2, tt_ca, tt_cb, tt_some, kd_231, kd_0, Nat.reduceAdd, true_and, and_true, true_implies, not_true_eq_false, false_implies, not_false_eq_true, true_or, or_true, Nat.zero_add]
  refine ⟨fun z => no (by omega), fun z => ⟨fun z2 => And.intro (by omega) ?_, fun z2 => no (by omega)⟩⟩
  obtain ⟨k, rfl⟩ : ∃ k : Nat, a = k := ⟨a.toNat, by omega⟩
  rw [Int.toNat_natCast]
  have k3 : k < 3 := by omega
  rw [h.it k k3]
  by_cases q : σ 234 k = 0
  · refine ⟨fun y => absurd q y, fun _ => ?_⟩
    unfold f_X7_back
    simp only [tt_gt, tt_sg, tt_ite, tt_ck, tt_lk, tt_ix, tt_bo, tt_by, tt_nz, tt_ob, tt_st, tt_cpk, tt_c1, tt_c2, tt_ca, tt_cb, tt_some, kd_231, kd_0, Nat.reduceAdd, true_and, and_true, true_implies, not_true_eq_false, false_implies, not_false_eq_true, true_or, or_true, e_in]
    rw [if_pos (by omega)]
    exact ⟨fun _ => And.intro (by omega) ⟨fun y => absurd q y, fun _ => h⟩, fun y => absurd (by decide) y⟩
  refine ⟨fun _ => And.intro (by omega) ?_, fun y => absurd q y⟩
  refine (scbe_ok (d := 4) (s := 214 + 3 * k) rfl (kd_im k3) (by omega)).mono (fun σ1 h1 => ?_)
  obtain ⟨b0, b1, b2, b3, b4⟩ := h1
  have hw := (h.im k k3).2
  have hs : SR 4 σ1 (fun j => σ 233 (246 * k + j)) := (h.im k k3).1.bc hw b1 b3 b4
  refine (anew_ok (by omega) hw hs).mono (fun σ2 h2 => ?_)
  have o : ∀ x, x ≠ 4 → x ≠ 5 → x ≠ 6 → (x < 12 ∨ 109 < x) → σ2 x = σ x := fun x x1 x2 x3 x4 => (h2.2 x (by omega)).trans (b0 x x1 x2 x3)
  unfold f_X7_back
  simp only [tt_gt, tt_sg, tt_ite, tt_ck, tt_lk, tt_ix, tt_bo, tt_by, tt_nz, tt_ob, tt_st, tt_cpk, tt_c1, tt_c2, tt_ca, tt_cb, tt_some, kd_231, kd_0, Nat.reduceAdd, true_and, and_true, true_implies, not_true_eq_false, false_implies, not_false_eq_true, true_or, or_true, e_in]
  rw [if_pos (by omega), o 234 (by decide) (by decide) (by decide) (by omega)]
  refine ⟨fun _ => And.intro (by omega) ⟨fun _ => ?_, fun y => absurd q y⟩, fun y => absurd (by decide) y⟩
  refine lp_w (L := fun n (p : Int × St) => f_X7_back_L29 F 231 k n p.1 p.2) (fun m p => ∃ i : Nat, p.1 = i ∧ i + m = 246 ∧ (∀ x, x ≠ 232 → p.2 x = σ2 x) ∧ ∀ j : Int, 0 ≤ j → j < i → p.2 232 j = σ 233 (246 * k + j)) (fun m n p hI ih => ?_) 246 F (0, σ2) (by omega) ⟨0, rfl, rfl, fun _ _ => rfl, fun i i1 i2 => absurd i2 (by omega)⟩
  obtain ⟨x, κ⟩ := p
  dsimp only at hI ih ⊢
  obtain ⟨i, rfl, i2, i3, i4⟩ := hI
  rw [f_X7_back_L29]
  simp only [tt_gt, tt_sg, tt_ite, tt_ck, tt_lk, tt_ix, tt_bo, tt_by, tt_nz, tt_ob, tt_st, tt_cpk, tt_c1, tt_c2, tt_ca, tt_cb, tt_some, kd_231, kd_0, Nat.reduceAdd, true_and, and_true, true_implies, not_true_eq_false, false_implies, not_false_eq_true, true_or, or_true]
  refine ⟨fun z => ?_, fun z => And.intro (by omega) (And.intro (by omega) (And.intro (by omega) (And.intro (by omega) (And.intro (by omega) (ih (m - 1) ((i : Int) + 1, z_up κ 232 i (κ 233 (246 * k + i))) (by omega) ⟨i + 1, by dsimp only; omega, by omega, fun x hx => (up_ne hx).trans (i3 x hx), fun j j1 j2 => ?_⟩)))))⟩
  · have : i = 246 := by omega
    subst this
    have ex : ∀ j, 0 ≤ j → j < 246 → κ 232 j = (fun j => σ 233 (246 * (k : Int) + j)) j := fun j j1 j2 => i4 j j1 (by omega)
    have hw' := hw.cg ex
    have h60 := hw'.ev60
    refine gi_new h hw' ?_ ⟨0, ?_⟩ (fun x hx => by rw [i3 x (by omega), o x (by omega) (by omega) (by omega) (by omega)])
    · refine SR.cg ?_ hw ex
      exact hs.mv (by rw [i3 4 (by decide)]; exact h2.2 4 (by omega)) (by rw [i3 5 (by decide)]; exact h2.2 5 (by omega)) (by rw [i3 6 (by decide)]; exact h2.2 6 (by omega))
    · exact RIt.fr (by omega) hw' (h2.1.ext (ex 0 (by decide) (by decide)) (ex 1 (by decide) (by decide)) (fun j j1 j2 => absurd j2 (by omega)) (by omega)) (fun x x1 x2 => i3 x (by omega))
  · dsimp only
    rw [up_eq]
    dsimp only
    by_cases y : j = i
    · rw [if_pos y, i3 233 (by decide), o 233 (by decide) (by decide) (by decide) (by omega), y]
    · rw [if_neg y]
      exact i4 j j1 (by omega)
