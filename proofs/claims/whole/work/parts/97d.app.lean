def yN (n k a : Int) : Int := if n ≤ k then -1 else a
def dw (w : Int → Int) (n a1 a2 a3 a4 : Int) : Int → Int := fun i => if i = 4 then w 4 + 1 else if i = 6 + 4 * evN w + 3 then yN n 2 a4 else if i = 6 + 4 * evN w + 2 then yN n 1 a3 else if i = 6 + 4 * evN w + 1 then yN n 0 a2 else if i = 6 + 4 * evN w then a1 else w i
theorem dw_4 {w : Int → Int} {n a1 a2 a3 a4 : Int} : dw w n a1 a2 a3 a4 4 = w 4 + 1 := if_pos rfl
theorem dw_n {w : Int → Int} {n a1 a2 a3 a4 i : Int} (h : i ≠ 4) (h2 : i < 6 + 4 * evN w) : dw w n a1 a2 a3 a4 i = w i := by
  unfold dw
  rw [if_neg h, if_neg (by omega), if_neg (by omega), if_neg (by omega), if_neg (by omega)]
theorem dw_k {w : Int → Int} {n a1 a2 a3 a4 : Int} (h : 0 ≤ evN w) : dw w n a1 a2 a3 a4 (6 + 4 * evN w) = a1 := by
  unfold dw
  rw [if_neg (by omega), if_neg (by omega), if_neg (by omega), if_neg (by omega), if_pos rfl]
theorem dw_1 {w : Int → Int} {n a1 a2 a3 a4 : Int} (h : 0 ≤ evN w) : dw w n a1 a2 a3 a4 (6 + 4 * evN w + 1 + 0) = yN n 0 a2 := by
  unfold dw
  rw [if_neg (by omega), if_neg (by omega), if_neg (by omega), if_pos (by omega)]
theorem dw_2 {w : Int → Int} {n a1 a2 a3 a4 : Int} (h : 0 ≤ evN w) : dw w n a1 a2 a3 a4 (6 + 4 * evN w + 1 + 1) = yN n 1 a3 := by
  unfold dw
  rw [if_neg (by omega), if_neg (by omega), if_pos (by omega)]
theorem dw_3 {w : Int → Int} {n a1 a2 a3 a4 : Int} (h : 0 ≤ evN w) : dw w n a1 a2 a3 a4 (6 + 4 * evN w + 1 + 2) = yN n 2 a4 := by
  unfold dw
  rw [if_neg (by omega), if_pos (by omega)]
theorem dw_ev {w : Int → Int} {n a1 a2 a3 a4 : Int} (h : 0 ≤ evN w) : evN (dw w n a1 a2 a3 a4) = evN w + 1 := by
  show dw w n a1 a2 a3 a4 3 + dw w n a1 a2 a3 a4 4 = w 3 + w 4 + 1
  rw [dw_4, dw_n (by decide) (by omega)]
  omega
theorem dw_wf {w : Int → Int} {a1 a2 a3 a4 : Int} (hw : WF w) (h5 : 0 < w 5) (h20 : w 4 < 20) (h1 : 0 ≤ a1) (h2 : a1 ≤ 8) (hg : gP (w 0) a1 a2 a3 a4) : WF (dw w (z_nk a1) a1 a2 a3 a4) := by
  have h60 := hw.ev60
  have hd := hw.1
  unfold Hd at hd
  refine ⟨?_, Or.inr ?_, fun e e1 e2 => ?_⟩
  · unfold Hd
    rw [dw_4, dw_n (by decide) (by omega), dw_n (by decide) (by omega), dw_n (by decide) (by omega), dw_n (by decide) (by omega), dw_n (by decide) (by omega)]
    omega
  · rw [dw_n (by decide) (by omega), dw_n (by decide) (by omega), dw_n (by decide) (by omega)]
    rcases hw.2.1 with z | z
    · omega
    · exact z
  · rw [dw_ev h60.1] at e2
    by_cases z : e = evN w
    · subst z
      unfold Ev
      rw [dw_k h60.1, dw_1 h60.1, dw_2 h60.1, dw_3 h60.1, dw_n (by decide) (by omega)]
      unfold gP at hg
      unfold yN
      rw [nk_v h1 h2]
      have : a1 = 0 ∨ a1 = 1 ∨ a1 = 2 ∨ a1 = 3 ∨ a1 = 4 ∨ a1 = 5 ∨ a1 = 6 ∨ a1 = 7 ∨ a1 = 8 := by omega
      clear hw hd
      rcases this with z | z | z | z | z | z | z | z | z <;> subst z <;> simp only [Int.reduceLT, Int.reduceEq, Int.reduceLE, reduceIte, if_true, if_false, true_and, and_true, true_implies, false_implies, implies_true, not_true_eq_false, not_false_eq_true, false_and, and_false, or_false, false_or, or_true, true_or, Int.reduceNeg, Int.reduceSub, ne_eq] at hg ⊢ <;> omega
    · exact (hw.2.2 e e1 (by omega)).cg (dw_n (by decide) (by omega)) (dw_n (by omega) (by omega)) (dw_n (by omega) (by omega)) (dw_n (by omega) (by omega)) (dw_n (by omega) (by omega))
theorem q_does {F : Nat} {σ : St} {a1 a2 a3 a4 : Int} (hF : 100 ≤ F) (h : GI F σ) : PP F (f_X6_does F 0 a1 a2 a3 a4 σ) (f_X7_does F 231 a1 a2 a3 a4) := by
  have hx := e4_exists (F := F) (s := 4) (σ := σ) rfl
  have e0 := h.sc.1 0 (by decide) (by decide)
  have e3 := h.sc.1 3 (by decide) (by decide)
  have e4 := h.sc.1 4 (by decide) (by decide)
  have hst := h.wf.st
  have h60 := h.wf.ev60
  have hd := h.wf.1
  unfold Hd at hd
  rw [e0] at hx
  have no : ¬ (0 < σ 232 5 ∧ 0 ≤ a1 ∧ a1 ≤ 8 ∧ gP (σ 232 0) a1 a2 a3 a4) → TT (f_X7_does F 231 a1 a2 a3 a4 σ) (fun r' => -2 = r'.1 ∧ GI F r'.2) := fun g3 => by
    unfold f_X7_does
    simp only [tt_gt, tt_sg, tt_ite, tt_ck, tt_lk, tt_ix, tt_bo, tt_by, tt_nz, tt_ob, tt_st, tt_cpk, tt_c1, tt_c2, tt_ca, tt_cb, tt_some, kd_231, kd_0, Nat.reduceAdd, true_and, and_true, true_implies, not_true_eq_false, false_implies, not_false_eq_true, true_or, or_true]
    refine (e_good h.wf.1).mono (fun r hr => ?_)
    rcases hr with z | z
    · exact absurd z.2 g3
    · rw [z.1]
      exact ⟨fun y => absurd rfl y, fun _ => h⟩
  unfold PP f_X6_does
  simp only [tt_gt, tt_sg, tt_ite, tt_ck, tt_lk, tt_ix, tt_bo, tt_by, tt_nz, tt_ob, tt_st, tt_cpk, tt_c1, tt_c2, tt_ca, tt_cb, tt_some, kd_231, kd_0, Nat.reduceAdd, true_and, and_true, true_implies, not_true_eq_false, false_implies, not_false_eq_true, true_or, or_true, Nat.zero_add, hx]
  refine ⟨fun z => no (fun y => ?_), fun z => ⟨fun z1 => no (fun y => absurd y.2.1 (by omega)), fun z1 => ⟨fun z2 => no (fun y => absurd y.2.2.1 (by omega)), fun z2 => ?_⟩⟩⟩
  · rw [if_pos (hst.2 y.1)] at z
    exact absurd z (by decide)
  have q0 : 0 < σ 232 0 := Classical.byContradiction (fun y => z (if_neg y))
  have q5 := hst.1 q0
  refine (e_nums (by omega) (by omega)).mono (fun r hr => ?_)
  rw [e0] at hr
  rcases hr with hr | hr
  rotate_left
  · rw [hr.1]
    exact ⟨fun y => absurd rfl y, fun _ => no (fun y => hr.2 y.2.2.2)⟩
  obtain ⟨rfl, hg⟩ := hr
  refine ⟨fun _ => ?_, fun y => absurd (by decide) y⟩
  rw [e4]
  by_cases q20 : σ 232 4 < 20
  rotate_left
  · refine ⟨fun y => absurd y q20, fun _ => ?_⟩
    unfold f_X7_does
    simp only [tt_gt, tt_sg, tt_ite, tt_ck, tt_lk, tt_ix, tt_bo, tt_by, tt_nz, tt_ob, tt_st, tt_cpk, tt_c1, tt_c2, tt_ca, tt_cb, tt_some, kd_231, kd_0, Nat.reduceAdd, true_and, and_true, true_implies, not_true_eq_false, false_implies, not_false_eq_true, true_or, or_true]
    refine (e_good h.wf.1).mono (fun r hr => ?_)
    rcases hr with z | z
    · rw [z.1]
      exact ⟨fun _ => And.intro (by omega) ⟨fun y => absurd (show σ 232 4 = 20 by omega) y, fun _ => h⟩, fun y => absurd (by decide) y⟩
    · exact absurd ⟨q5, by omega, by omega, hg⟩ z.2
  refine ⟨fun _ => ?_, fun y => absurd q20 y⟩
  have hw := dw_wf h.wf q5 q20 (by omega) (by omega) hg
  have hN := dw_ev (w := σ 232) (n := z_nk a1) (a1 := a1) (a2 := a2) (a3 := a3) (a4 := a4) h60.1
  have n60 : evN (σ 232) < 60 := by unfold evN; omega
  unfold f_X4_putEvent
  simp only [tt_gt, tt_sg, tt_ite, tt_ck, tt_lk, tt_ix, tt_bo, tt_by, tt_nz, tt_ob, tt_st, tt_cpk, tt_c1, tt_c2, tt_ca, tt_cb, tt_some, kd_231, kd_0, Nat.reduceAdd, true_and, and_true, true_implies, not_true_eq_false, false_implies, not_false_eq_true, true_or, or_true, e4_size (F := F) (s := 4) rfl h.sc h.wf, show kdX 4 = 4 from rfl]
  refine ⟨fun y => absurd y (by omega), fun _ => ⟨fun y => absurd y z1, fun _ => ⟨fun y => absurd y z2, fun _ => And.intro (by omega) (And.intro (by omega) (And.intro (by omega) (And.intro (by omega) (And.intro (by omega) (And.intro (by omega) (And.intro (by omega) (And.intro (by omega) ?_)))))))⟩⟩⟩
  generalize hς : z_up (z_up (z_up (z_up σ 5 (evN (σ 232)) a1) 6 (evN (σ 232) * 3) a2) 6 (evN (σ 232) * 3 + 1) a3) 6 (evN (σ 232) * 3 + 2) a4 = ς
  have o1 : ∀ x, x ≠ 5 → x ≠ 6 → ς x = σ x := fun x x1 x2 => by rw [← hς, up_ne x2, up_ne x2, up_ne x2, up_ne x1]
  have s5 : ∀ j, ς 5 j = if j = evN (σ 232) then a1 else σ 5 j := fun j => by rw [← hς, up_ne (by decide), up_ne (by decide), up_ne (by decide), up_eq]
  have s6 : ∀ j, ς 6 j = if j = evN (σ 232) * 3 + 2 then a4 else if j = evN (σ 232) * 3 + 1 then a3 else if j = evN (σ 232) * 3 then a2 else σ 6 j := fun j => by
    rw [← hς]
    simp only [up_eq]
    rw [up_ne (show 6 ≠ 5 by decide)]
  rw [o1 4 (by decide) (by decide), e4]
  refine And.intro (by omega) ?_
  generalize hτ : z_up ς 4 4 (σ 232 4 + 1) = τ
  have o2 : ∀ x, x ≠ 4 → x ≠ 5 → x ≠ 6 → τ x = σ x := fun x x1 x2 x3 => by rw [← hτ, up_ne x1, o1 x x2 x3]
  have t4 : ∀ j, τ 4 j = if j = 4 then σ 232 4 + 1 else σ 4 j := fun j => by rw [← hτ, up_eq]; dsimp only; rw [o1 4 (by decide) (by decide)]
  have t5 : τ 5 = ς 5 := by rw [← hτ, up_ne (by decide)]
  have t6 : τ 6 = ς 6 := by rw [← hτ, up_ne (by decide)]
  have hs : SR 4 τ (dw (σ 232) (z_nk a1) a1 a2 a3 a4) := by
    refine ⟨fun j j1 j2 => ?_, fun e i1 i2 => ?_, fun e i1 i2 => ?_⟩
    · rw [t4]
      by_cases y : j = 4
      · rw [if_pos y, y, dw_4]
      · rw [if_neg y, dw_n y (by omega)]
        exact h.sc.1 j j1 j2
    · rw [t5, s5]
      by_cases y : e = evN (σ 232)
      · rw [if_pos y]; omega
      · rw [if_neg y]; exact h.sc.2.1 e i1 i2
    · rw [hN] at i2
      rw [t5, s5, t6]
      by_cases y : e = evN (σ 232)
      · rw [if_pos y, y, dw_k h60.1]
        refine ⟨rfl, fun j j1 j2 => ?_⟩
        have nr := nk_rng (k := a1) (by omega) (by omega)
        have : j = 0 ∨ j = 1 ∨ j = 2 := by omega
        rw [s6]
        rcases this with u | u | u
        · subst u
          rw [if_neg (by omega), if_neg (by omega), if_pos (by omega), dw_1 h60.1]
          exact (if_neg (by omega)).symm
        · subst u
          rw [if_neg (by omega), if_pos (by omega), dw_2 h60.1]
          exact (if_neg (by omega)).symm
        · subst u
          rw [if_pos (by omega), dw_3 h60.1]
          exact (if_neg (by omega)).symm
      · rw [if_neg y, dw_n (by omega) (by omega)]
        have hk := h.wf.2.2 e i1 (by omega)
        have nr := nk_rng hk.1 hk.2.1
        have hh := h.sc.2.2 e i1 (by omega)
        refine ⟨hh.1, fun j j1 j2 => ?_⟩
        rw [s6, if_neg (by omega), if_neg (by omega), if_neg (by omega), dw_n (by omega) (by omega)]
        exact hh.2 j j1 j2
  have hr : RI F (dw (σ 232) (z_nk a1) a1 a2 a3 a4) τ := by
    obtain ⟨t, ht⟩ := h.rn
    have t1 := ht.1
    refine ⟨t, RIt.fr hF hw (ht.ext (dw_n (by decide) (by omega)) (dw_n (by decide) (by omega)) (fun j j1 j2 => dw_n (by omega) (by omega)) (by omega)) (fun x x1 x2 => o2 x (by omega) (by omega) (by omega))⟩
  rw [e4_size (F := F) (s := 4) rfl hs hw, tt_some]
  refine And.intro (by omega) ?_
  refine (playTo_ok (T := evN (dw (σ 232) (z_nk a1) a1 a2 a3 a4)) hF hw hs hr ⟨by omega, Int.le_refl _⟩).mono (fun σ3 h3 => ?_)
  have o3 : ∀ x, x ≠ 4 → x ≠ 5 → x ≠ 6 → (x < 12 ∨ 109 < x) → σ3 x = σ x := fun x x1 x2 x3 x4 => (h3.2 x (by omega)).trans (o2 x x1 x2 x3)
  have w3 : σ3 232 = σ 232 := o3 232 (by decide) (by decide) (by decide) (by omega)
  have jl : ∀ (ω : St) (v p : Int), (∀ x, x ≠ 232 → ω x = σ3 x) → 7 ≤ p → p < 246 → ω 232 3 = σ 232 3 → ω 232 4 = σ 232 4 → (fun i => if i = 4 then σ 232 4 + 1 else if i = p then v else ω 232 i) = dw (σ 232) (z_nk a1) a1 a2 a3 a4 → TT (f_X7_does_J113 F 231 a1 a2 a3 a4 v p 232 ω) (fun r' => σ3 12 5 = r'.1 ∧ GI F r'.2) := fun ω v p g1 g2 g3 g4 g5 g6 => by
    have u4 : z_up ω 232 p v 232 4 = σ 232 4 := by rw [up_eq]; exact (if_neg (by omega)).trans g5
    unfold f_X7_does_J113
    simp only [tt_gt, tt_sg, tt_ite, tt_ck, tt_lk, tt_ix, tt_bo, tt_by, tt_nz, tt_ob, tt_st, tt_cpk, tt_c1, tt_c2, tt_ca, tt_cb, tt_some, kd_231, kd_0, Nat.reduceAdd, true_and, and_true, true_implies, not_true_eq_false, false_implies, not_false_eq_true, true_or, or_true, u4, show lnX 232 = 246 from rfl]
    refine And.intro (by omega) (And.intro (by omega) (And.intro (by omega) (And.intro (by omega) ?_)))
    generalize hκ : z_up (z_up ω 232 p v) 232 4 (σ 232 4 + 1) = κ
    have k2 : κ 232 = dw (σ 232) (z_nk a1) a1 a2 a3 a4 := by
      rw [← hκ, up_eq, up_eq]
      exact g6
    have ok : ∀ x, x ≠ 232 → κ x = σ3 x := fun x hx => by rw [← hκ, up_ne hx, up_ne hx, g1 x hx]
    have gk : GI F κ := by
      refine gi_new h (by rw [k2]; exact hw) ?_ ?_ (fun x hx => by rw [ok x (by omega), o3 x (by omega) (by omega) (by omega) (by omega)])
      · rw [k2]
        exact hs.mv (by rw [ok 4 (by decide)]; exact h3.2 4 (by omega)) (by rw [ok 5 (by decide)]; exact h3.2 5 (by omega)) (by rw [ok 6 (by decide)]; exact h3.2 6 (by omega))
      · rw [k2]
        exact ⟨_, h3.1.fr hF hw (fun x x1 x2 => ok x (by omega))⟩
    refine (asks_ok hF hw k2).mono (fun r hr => ?_)
    obtain ⟨v', κ'⟩ := r
    dsimp only at hr ⊢
    obtain ⟨-, hk, hq, -, α, hα, he⟩ := hr
    have k2' : κ' 232 = dw (σ 232) (z_nk a1) a1 a2 a3 a4 := (hq.2.1 232 (by omega)).trans k2
    rw [e_events (F := F) (σ := κ') (by rw [k2']; exact hw.1), tt_some, k2', hN]
    have gl := h3.1.2.2.2 (evN (σ 232)).toNat (by omega) α hα
    refine And.intro (by omega) (And.intro (by omega) ⟨?_, gk.q hF (fun x hx => rfl) gk.rn hq⟩)
    rw [gl.1, he, show evN (σ 232) + 1 - 1 = (((evN (σ 232)).toNat : Nat) : Int) by omega]
  unfold f_X7_does
  simp only [tt_gt, tt_sg, tt_ite, tt_ck, tt_lk, tt_ix, tt_bo, tt_by, tt_nz, tt_ob, tt_st, tt_cpk, tt_c1, tt_c2, tt_ca, tt_cb, tt_some, kd_231, kd_0, Nat.reduceAdd, true_and, and_true, true_implies, not_true_eq_false, false_implies, not_false_eq_true, true_or, or_true]
  have hd3 : Hd (σ3 232) := by rw [w3]; exact h.wf.1
  refine (e_good hd3).mono (fun r hr => ?_)
  rw [w3] at hr
  rcases hr with hr | hr
  rotate_left
  · exact absurd ⟨q5, by omega, by omega, hg⟩ hr.2
  rw [hr.1]
  refine ⟨fun _ => And.intro (by omega) ?_, fun y => absurd (by decide) y⟩
  rw [w3]
  refine ⟨fun _ => ?_, fun y => absurd (show ¬ σ 232 4 = 20 by omega) y⟩
  have ee := e_events (F := F) (σ := σ3) hd3
  rw [w3] at ee
  rw [ee, tt_some]
  refine And.intro (by omega) (And.intro (by omega) ?_)
  rw [e_nk7 (by omega) (by omega), tt_some]
  refine And.intro (by omega) (And.intro (by omega) ?_)
  generalize hn : z_nk a1 = n at jl
  have j2 : ∀ y1 : Int, y1 = yN n 0 a2 → TT (f_X7_does_J72 F 231 a1 a2 a3 a4 (6 + 4 * evN (σ 232)) n y1 (6 + 4 * evN (σ 232) + 1) 232 (z_up σ3 232 (6 + 4 * evN (σ 232)) a1)) (fun r' => σ3 12 5 = r'.1 ∧ GI F r'.2) := fun y1 hy => by
    unfold f_X7_does_J72
    simp only [tt_gt, tt_sg, tt_ite, tt_ck, tt_lk, tt_ix, tt_bo, tt_by, tt_nz, tt_ob, tt_st, tt_cpk, tt_c1, tt_c2, tt_ca, tt_cb, tt_some, kd_231, kd_0, Nat.reduceAdd, true_and, and_true, true_implies, not_true_eq_false, false_implies, not_false_eq_true, true_or, or_true, show lnX 232 = 246 from rfl]
    have fin : ∀ y2 y3 : Int, y2 = yN n 1 a3 → y3 = yN n 2 a4 → TT (f_X7_does_J113 F 231 a1 a2 a3 a4 y3 (6 + 4 * evN (σ 232) + 3) 232 (z_up (z_up (z_up σ3 232 (6 + 4 * evN (σ 232)) a1) 232 (6 + 4 * evN (σ 232) + 1) y1) 232 (6 + 4 * evN (σ 232) + 2) y2)) (fun r' => σ3 12 5 = r'.1 ∧ GI F r'.2) := fun y2 y3 h2 h3' => by
      refine jl _ _ _ (fun x hx => by rw [up_ne hx, up_ne hx, up_ne hx]) (by omega) (by omega) ?_ ?_ ?_
      · simp only [up_eq]
        rw [if_neg (by omega), if_neg (by omega), if_neg (by omega), w3]
      · simp only [up_eq]
        rw [if_neg (by omega), if_neg (by omega), if_neg (by omega), w3]
      · simp only [up_eq, w3, hy, h2, h3']
        rfl
    refine And.intro (by omega) (And.intro (by omega) ⟨fun q => And.intro (by omega) (And.intro (by omega) ⟨fun q2 => fin _ _ (if_pos q).symm (if_pos q2).symm, fun q2 => fin _ _ (if_pos q).symm (if_neg q2).symm⟩), fun q => And.intro (by omega) (And.intro (by omega) ⟨fun q2 => fin _ _ (if_neg q).symm (if_pos q2).symm, fun q2 => fin _ _ (if_neg q).symm (if_neg q2).symm⟩)⟩)
  refine ⟨fun q => j2 _ (if_pos q).symm, fun q => j2 _ (if_neg q).symm⟩
