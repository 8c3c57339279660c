theorem FRG.mono {F : Nat} {Q Q' : St → Prop} {κ : St} (h : FRG F Q κ) (hq : ∀ κ', Q κ' → Q' κ') : FRG F Q' κ := ⟨fun y => (h.1 y).mono hq, fun y => ⟨fun z => ((h.2 y).1 z).mono hq, fun z => ((h.2 y).2 z).mono (fun κ1 u => u.mono hq)⟩⟩
theorem u75 {κ : St} {j v : Int} (h : 5 ≠ j) : z_up κ 237 j v 237 5 = κ 237 5 := by
  rw [up_eq]
  exact if_neg h
theorem head_J {F : Nat} {T : Int → Int} {L : Int} {τ κ : St} (hF : 1000 ≤ F) (h : JT T L τ κ) (hz : ∀ j, 0 ≤ j → j < 246 → κ 237 j = 0) (h7 : ∀ j, 0 ≤ j → j < 5 → τ 7 j = 0) (h8 : ∀ e, 0 ≤ e → e < 60 → 0 ≤ τ 8 e ∧ τ 8 e ≤ 8) : TT (f_X2_readHead F 1 7 τ) (fun r => TT (f_X7_readText F 231 κ) (TxQ T L τ κ 0 r)) := by
  have z5 := hz 5 (by decide) (by decide)
  unfold f_X2_readHead
  simp only [tt_gt, tt_sg, tt_ite, tt_ck, tt_lk, tt_ix, tt_bo, tt_by, tt_nz, tt_ob, tt_st, tt_cpk, tt_c1, tt_c2, tt_ca, tt_cb, tt_some, kd_231, kd_0, Nat.reduceAdd, true_and, and_true, true_implies, not_true_eq_false, false_implies, not_false_eq_true, true_or, or_true, show kdX 1 = 2 from rfl, show kdX 7 = 4 from rfl]
  refine (h.word (wd := 0) hF (by decide)).mono (fun r m => ?_)
  obtain ⟨b1, τ1⟩ := r
  obtain ⟨κ1, e1, oc, p1, q1⟩ := m
  dsimp only at oc p1 ⊢
  have w1 : κ1 237 = κ 237 := q1.1 237 (by decide)
  rcases oc with oc | oc
  rotate_left
  · obtain ⟨rfl, dd⟩ := oc
    exact ⟨fun _ => txt_first z5 (first_i ⟨κ1, e1, d1 hF dd.kn (tx_dead dd ((E7.up.tr E7.up).tr E7.up) p1.c q1.c (by rw [u75 (by decide), u75 (by decide), u75 (by decide), w1, z5]; decide))⟩), fun y => absurd rfl y⟩
  obtain ⟨rfl, j1⟩ := oc
  dsimp only at j1
  refine ⟨fun y => absurd y (by decide), fun _ => ?_⟩
  refine (j1.word (wd := 1) hF (by decide)).mono (fun r m => ?_)
  obtain ⟨b2, τ2⟩ := r
  obtain ⟨κ2, e2, oc, p2, q2⟩ := m
  dsimp only at oc p2 ⊢
  have w2 : κ2 237 = κ 237 := (q2.1 237 (by decide)).trans w1
  have P2 := p1.c.tr p2.c
  have Q2 := q1.c.tr q2.c
  rcases oc with oc | oc
  rotate_left
  · obtain ⟨rfl, dd⟩ := oc
    exact ⟨fun _ => txt_first z5 (first_i ⟨κ1, e1, told_i (by decide) ⟨κ2, e2, _, dead_num dd.kn, d2 hF (by dsimp only; rw [up_ne (by decide)]; exact dd.kn) (tx_dead dd ((E7.up.tr E7.up).tr E7.up) P2 Q2 (by dsimp only; rw [u75 (by decide), u75 (by decide), u75 (by decide), w2, z5]; decide))⟩⟩), fun y => absurd rfl y⟩
  obtain ⟨rfl, j2⟩ := oc
  dsimp only at j2
  refine ⟨fun y => absurd y (by decide), fun _ => ?_⟩
  refine (j2.num (lo := 2) (hi := 32) hF (by decide)).mono (fun r m => ?_)
  obtain ⟨b3, τ3⟩ := r
  obtain ⟨⟨v0, κ3⟩, e3, oc, p3, q3, n3⟩ := m
  dsimp only at oc p3 q3 n3 ⊢
  have w3 : κ3 237 = κ 237 := (q3.1 237 (by decide)).trans w2
  have P3 := P2.tr p3.c
  have Q3 := Q2.tr q3.c
  rcases oc with oc | oc
  rotate_left
  · obtain ⟨rfl, dd⟩ := oc
    exact ⟨fun y => absurd rfl y, fun _ => txt_first z5 (first_i ⟨κ1, e1, told_i (by decide) ⟨κ2, e2, _, e3, d2 hF (by dsimp only; rw [up_ne (by decide)]; exact dd.kn) (tx_dead dd ((E7.up.tr E7.up).tr E7.up) P3 Q3 (by dsimp only; rw [u75 (by decide), u75 (by decide), u75 (by decide), w3, z5]; decide))⟩⟩)⟩
  obtain ⟨rfl, j3⟩ := oc
  dsimp only at j3
  have n3 := n3 rfl
  rw [n3.1]
  refine ⟨fun _ => ?_, fun y => absurd (by decide) y⟩
  have j4 : JT T L (z_up τ3 7 0 v0) (z_up κ3 237 0 v0) := j3.mv (up_ne (by decide)) (up_ne (by decide)) E7.up
  have P4 : C6 τ (z_up τ3 7 0 v0) := P3.tr c6_7
  have Q4 : C7 κ (z_up κ3 237 0 v0) := Q3.tr E7.up.c
  refine (j4.word (wd := 2) hF (by decide)).mono (fun r m => ?_)
  obtain ⟨b5, τ5⟩ := r
  obtain ⟨κ5, e5, oc, p5, q5⟩ := m
  dsimp only at oc p5 ⊢
  have w5 : κ5 237 = z_up κ3 237 0 v0 237 := q5.1 237 (by decide)
  have P5 := P4.tr p5.c
  have Q5 := Q4.tr q5.c
  have z5' : κ5 237 5 = 0 := by rw [w5, u75 (by decide), w3, z5]
  rcases oc with oc | oc
  rotate_left
  · obtain ⟨rfl, dd⟩ := oc
    exact ⟨fun _ => txt_first z5 (first_i ⟨κ1, e1, told_i (by decide) ⟨κ2, e2, _, e3, told_i (by decide) ⟨κ5, e5, _, dead_num dd.kn, d3 hF (by dsimp only; rw [up_ne (by decide)]; exact dd.kn) (tx_dead dd (E7.up.tr E7.up) P5 Q5 (by dsimp only; rw [u75 (by decide), u75 (by decide), z5']; decide))⟩⟩⟩), fun y => absurd rfl y⟩
  obtain ⟨rfl, j5⟩ := oc
  dsimp only at j5
  refine ⟨fun y => absurd y (by decide), fun _ => ?_⟩
  refine (j5.num (lo := 0) (hi := 3) hF (by decide)).mono (fun r m => ?_)
  obtain ⟨b6, τ6⟩ := r
  obtain ⟨⟨v1, κ6⟩, e6, oc, p6, q6, n6⟩ := m
  dsimp only at oc p6 q6 n6 ⊢
  have w6 : κ6 237 = z_up κ3 237 0 v0 237 := (q6.1 237 (by decide)).trans w5
  have P6 := P5.tr p6.c
  have Q6 := Q5.tr q6.c
  have z6' : κ6 237 5 = 0 := by rw [w6, u75 (by decide), w3, z5]
  rcases oc with oc | oc
  rotate_left
  · obtain ⟨rfl, dd⟩ := oc
    exact ⟨fun y => absurd rfl y, fun _ => txt_first z5 (first_i ⟨κ1, e1, told_i (by decide) ⟨κ2, e2, _, e3, told_i (by decide) ⟨κ5, e5, _, e6, d3 hF (by dsimp only; rw [up_ne (by decide)]; exact dd.kn) (tx_dead dd (E7.up.tr E7.up) P6 Q6 (by dsimp only; rw [u75 (by decide), u75 (by decide), z6']; decide))⟩⟩⟩)⟩
  obtain ⟨rfl, j6⟩ := oc
  dsimp only at j6
  have n6 := n6 rfl
  rw [n6.1]
  refine ⟨fun _ => ?_, fun y => absurd (by decide) y⟩
  have j7 : JT T L (z_up τ6 7 1 v1) (z_up κ6 237 1 v1) := j6.mv (up_ne (by decide)) (up_ne (by decide)) E7.up
  have P7 : C6 τ (z_up τ6 7 1 v1) := P6.tr c6_7
  have Q7 : C7 κ (z_up κ6 237 1 v1) := Q6.tr E7.up.c
  refine (j7.word (wd := 3) hF (by decide)).mono (fun r m => ?_)
  obtain ⟨b8, τ8⟩ := r
  obtain ⟨κ8, e8, oc, p8, q8⟩ := m
  dsimp only at oc p8 ⊢
  have w8 : κ8 237 = z_up κ6 237 1 v1 237 := q8.1 237 (by decide)
  have P8 := P7.tr p8.c
  have Q8 := Q7.tr q8.c
  have z8' : κ8 237 5 = 0 := by rw [w8, u75 (by decide), z6']
  rcases oc with oc | oc
  rotate_left
  · obtain ⟨rfl, dd⟩ := oc
    exact ⟨fun _ => txt_first z5 (first_i ⟨κ1, e1, told_i (by decide) ⟨κ2, e2, _, e3, told_i (by decide) ⟨κ5, e5, _, e6, told_i (by decide) ⟨κ8, e8, _, dead_num dd.kn, tx_dead dd E7.up P8 Q8 (by dsimp only; rw [u75 (by decide), z8']; decide)⟩⟩⟩⟩), fun y => absurd rfl y⟩
  obtain ⟨rfl, j8⟩ := oc
  dsimp only at j8
  refine ⟨fun y => absurd y (by decide), fun _ => ?_⟩
  refine (j8.num (lo := 0) (hi := 10) hF (by decide)).mono (fun r m => ?_)
  obtain ⟨b9, τ9⟩ := r
  obtain ⟨⟨v2, κ9⟩, e9, oc, p9, q9, n9⟩ := m
  dsimp only at oc p9 q9 n9 ⊢
  have w9 : κ9 237 = z_up κ6 237 1 v1 237 := (q9.1 237 (by decide)).trans w8
  have P9 := P8.tr p9.c
  have Q9 := Q8.tr q9.c
  have z9' : κ9 237 5 = 0 := by rw [w9, u75 (by decide), z6']
  rcases oc with oc | oc
  rotate_left
  · obtain ⟨rfl, dd⟩ := oc
    exact ⟨fun y => absurd rfl y, fun _ => txt_first z5 (first_i ⟨κ1, e1, told_i (by decide) ⟨κ2, e2, _, e3, told_i (by decide) ⟨κ5, e5, _, e6, told_i (by decide) ⟨κ8, e8, _, e9, tx_dead dd E7.up P9 Q9 (by dsimp only; rw [u75 (by decide), z9']; decide)⟩⟩⟩⟩)⟩
  obtain ⟨rfl, j9⟩ := oc
  dsimp only at j9
  have n9 := n9 rfl
  rw [n9.1]
  refine ⟨fun _ => ?_, fun y => absurd (by decide) y⟩
  have j10 : JT T L (z_up τ9 7 2 v2) (z_up κ9 237 2 v2) := j9.mv (up_ne (by decide)) (up_ne (by decide)) E7.up
  have z10 : z_up κ9 237 2 v2 237 5 = 0 := by rw [u75 (by decide), z9']
  have W : ∀ j, z_up κ9 237 2 v2 237 j = if j = 2 then v2 else if j = 1 then v1 else if j = 0 then v0 else κ 237 j := fun j => by
    rw [up_eq]
    dsimp only
    rw [w9, up_eq]
    dsimp only
    rw [w6, up_eq]
    dsimp only
    rw [w3]
  have t6 : τ6 7 = z_up τ3 7 0 v0 7 := (p6 7 (by decide)).trans (p5 7 (by decide))
  have t9 : τ9 7 = z_up τ6 7 1 v1 7 := (p9 7 (by decide)).trans (p8 7 (by decide))
  have t3 : τ3 7 = τ 7 := ((p3 7 (by decide)).trans (p2 7 (by decide))).trans (p1 7 (by decide))
  have V : ∀ j, z_up τ9 7 2 v2 7 j = if j = 2 then v2 else if j = 1 then v1 else if j = 0 then v0 else τ 7 j := fun j => by
    rw [up_eq]
    dsimp only
    rw [t9, up_eq]
    dsimp only
    rw [t6, up_eq]
    dsimp only
    rw [t3]
  have P10 : C6 τ (z_up τ9 7 2 v2) := P9.tr c6_7
  have k8 := P10.2 h8
  refine (j10.sign hF (by rw [z10]; decide)).mono (fun r hr => ?_)
  have X : FRG F (TxQ T L τ κ 0 r) (z_up κ9 237 2 v2) := by
    refine hr.2.mono (fun κ' hk => ⟨hk.1, P10.tr hk.2.1.c, (Q9.tr E7.up.c).tr hk.2.2.1, fun _ => ?_⟩)
    have hw := hk.2.2.2
    have wj : ∀ j, κ' 237 j = if j = 5 then 1 else if j = 2 then v2 else if j = 1 then v1 else if j = 0 then v0 else κ 237 j := fun j => by
      rw [hw]
      dsimp only
      rw [z10, W]
      rfl
    have x0 : κ' 237 0 = v0 := wj 0
    have x1 : κ' 237 1 = v1 := wj 1
    have x2 : κ' 237 2 = v2 := wj 2
    have x3 : κ' 237 3 = 0 := (wj 3).trans (hz 3 (by decide) (by decide))
    have x4 : κ' 237 4 = 0 := (wj 4).trans (hz 4 (by decide) (by decide))
    have x5 : κ' 237 5 = 1 := wj 5
    have xe : evN (κ' 237) = 0 := by unfold evN; rw [x3, x4]; rfl
    refine ⟨⟨?_, Or.inr ?_, fun e e1 e2 => ?_⟩, ⟨fun j j1 j2 => ?_, ?_, fun e e1 e2 => ?_⟩, x4, x3, x5⟩
    · unfold Hd
      rw [x0, x1, x2, x3, x4, x5]
      omega
    · rw [x0, x3, x5]
      omega
    · rw [xe] at e2
      omega
    · rw [hk.2.1 7 (by decide), V]
      have : j = 0 ∨ j = 1 ∨ j = 2 ∨ j = 3 ∨ j = 4 := by omega
      rcases this with y | y | y | y | y <;> subst y
      · rw [x0]; rfl
      · rw [x1]; rfl
      · rw [x2]; rfl
      · rw [x3]; exact h7 3 (by decide) (by decide)
      · rw [x4]; exact h7 4 (by decide) (by decide)
    · rw [hk.2.1 8 (by decide)]
      exact k8
    · rw [xe] at e2
      omega
  have fin := txt_first z5 (first_i ⟨κ1, e1, told_i (by decide) ⟨κ2, e2, _, e3, told_i (by decide) ⟨κ5, e5, _, e6, told_i (by decide) ⟨κ8, e8, _, e9, X⟩⟩⟩⟩)
  exact ⟨hr.1, fin⟩
