theorem apE_congr {w : Int → Int} {e : Int} {f f' : Int → Int} (hw : w 0 ≤ 32) (he : Ev w e) (hk : w (6 + 4 * e) < 4) (h : ∀ c, 0 ≤ c → c < 32 → f c = f' c) {c : Int} (hc : 0 ≤ c ∧ c < 32) : apE w e f c = apE w e f' c := by
  obtain ⟨g1, g2, g3, g4, g5, g6, g7⟩ := he
  have ga := g3 hk
  unfold apE ap
  rw [h c hc.1 hc.2, h (w (6 + 4 * e + 1 + 0)) (by omega) (by omega)]
  by_cases q2 : w (6 + 4 * e) = 2
  · have g5' := g5 q2
    rw [h (w (6 + 4 * e + 1 + 1)) (by omega) (by omega)]
  · rw [if_neg q2, if_neg q2]
theorem val_hi {w g : Int → Int} (h : WF w) : ∀ (t : Nat) (c : Int), (t : Int) ≤ evN w → w 0 ≤ c → Val w g t c = 0
  | 0, _, _, _ => rfl
  | t + 1, c, ht, hc => by
    have ih := val_hi (g := g) h t c (by omega) hc
    rw [Val]
    split
    · rename_i q
      obtain ⟨g1, g2, g3, g4, g5, g6, g7⟩ := h.2.2 t (by omega) (by omega)
      have ga := g3 q.2
      unfold apE ap
      split
      · rw [if_neg (by omega)]; exact ih
      · split
        · rw [if_neg (by omega)]; exact ih
        · split
          · have := g5 (by omega)
            rw [if_neg (by omega), if_neg (by omega)]; exact ih
          · have := g6 (by omega)
            rw [if_neg (by omega)]; exact ih
    · exact ih
theorem e0_cellAt {F b : Nat} {σ : St} {c : Int} (hk : kdX b = 0) (hn : σ b 0 ≤ 32) : f_X0_cellAt F b c σ = some (if 0 ≤ c ∧ c < σ b 0 then σ (b + 1) c else 0) := by
  apply TT.eq
  unfold f_X0_cellAt
  simp only [tt_gt, tt_sg, tt_ite, tt_ck, tt_lk, tt_ix, tt_bo, tt_by, tt_nz, tt_ob, tt_st, tt_cpk, tt_c1, tt_c2, tt_ca, tt_cb, tt_some, kd_231, kd_0, Nat.reduceAdd, true_and, and_true, true_implies, not_true_eq_false, false_implies, not_false_eq_true, true_or, or_true, hk]
  refine ⟨fun q => ?_, fun q => ⟨fun q => ?_, fun q => ⟨by omega, ?_⟩⟩⟩
  · rw [if_neg (by omega)]
  · rw [if_neg (by omega)]
  · rw [if_pos (by omega)]
theorem up_same {σ : St} {k : Nat} {j v : Int} (h : σ k j = v) : z_up σ k j v = σ := by
  funext k' j'
  unfold z_up
  by_cases q : k' = k ∧ j' = j
  · rw [if_pos q, q.1, q.2, h]
  · rw [if_neg q]
theorem e0_put {F b : Nat} {σ : St} {c v : Int} (hk : kdX b = 0) (hn : σ b 0 ≤ 32) (hc : 0 ≤ c ∧ c < σ b 0) : TT (f_X0_put F b c v σ) (fun r => r.2 = z_up σ (b + 1) c v ∧ iR r.1 ∧ ∀ d, 0 ≤ d → d < 32 → (bt r.1 d ↔ d = c ∧ σ (b + 1) c ≠ v)) := by
  unfold f_X0_put
  simp only [tt_gt, tt_sg, tt_ite, tt_ck, tt_lk, tt_ix, tt_bo, tt_by, tt_nz, tt_ob, tt_st, tt_cpk, tt_c1, tt_c2, tt_ca, tt_cb, tt_some, kd_231, kd_0, Nat.reduceAdd, true_and, and_true, true_implies, not_true_eq_false, false_implies, not_false_eq_true, true_or, or_true, hk]
  refine ⟨fun q => absurd q (by omega), fun q => ⟨fun q => absurd q (by omega), fun q => And.intro (by omega) ⟨fun q2 => And.intro (by omega) ⟨iR_shl, fun d d1 d2 => ?_⟩, fun q2 => ?_⟩⟩⟩
  · rw [bt_one ⟨d1, d2⟩ (by omega)]
    exact ⟨fun z => ⟨z, q2⟩, fun z => z.1⟩
  · have q3 : σ (b + 1) c = v := Classical.byContradiction q2
    refine ⟨(up_same q3).symm, ⟨by decide, by decide⟩, fun d d1 d2 => ⟨fun z => absurd z (bt_zero ⟨d1, d2⟩), fun z => absurd q3 z.2⟩⟩
def Ap (b : Nat) (w : Int → Int) (e : Int) (σ : St) (r : Int × St) : Prop :=
  (∀ k, k ≠ b + 1 → r.2 k = σ k) ∧ (∀ c, 0 ≤ c → c < 32 → r.2 (b + 1) c = if w (6 + 4 * e) < 4 then apE w e (σ (b + 1)) c else σ (b + 1) c) ∧ iR r.1 ∧ ∀ c, 0 ≤ c → c < 32 → (bt r.1 c ↔ r.2 (b + 1) c ≠ σ (b + 1) c)
theorem e0_apply {F b s : Nat} {σ : St} {w : Int → Int} {e : Int} (hF : 100 ≤ F) (hk : kdX b = 0) (hs : kdX s = 4) (h : SR s σ w) (hw : WF w) (he : 0 ≤ e ∧ e < evN w) (hn : σ b 0 = w 0) (hB : B255 (σ (b + 1))) : TT (f_X0_apply F b s e σ) (Ap b w e σ) := by
  have e0 := e4_numberOf (F := F) (j := 0) hs h hw he (by decide)
  have e1 := e4_numberOf (F := F) (j := 1) hs h hw he (by decide)
  have e2 := e4_numberOf (F := F) (j := 2) hs h hw he (by decide)
  have ek := e4_kindOf (F := F) hs h hw he
  have h32 := hw.1.2.1
  obtain ⟨g1, g2, g3, g4, g5, g6, g7⟩ := hw.2.2 e he.1 he.2
  have ec := fun (c : Int) => e0_cellAt (F := F) (b := b) (σ := σ) (c := c) hk (by omega)
  unfold f_X0_apply
  simp only [tt_gt, tt_sg, tt_ite, tt_ck, tt_lk, tt_ix, tt_bo, tt_by, tt_nz, tt_ob, tt_st, tt_cpk, tt_c1, tt_c2, tt_ca, tt_cb, tt_some, kd_231, kd_0, Nat.reduceAdd, true_and, and_true, true_implies, not_true_eq_false, false_implies, not_false_eq_true, true_or, or_true, hk, hs, e0, e1, e2, ek, ec]
  refine ⟨fun q => ?_, fun q => ⟨fun q1 => ?_, fun q1 => ⟨fun q2 => ?_, fun q2 => ⟨fun q3 => ?_, fun q3 => ?_⟩⟩⟩⟩
  · have ga := g3 (by omega)
    refine (e0_put hk (by omega) (by omega)).mono (fun r hr => ?_)
    obtain ⟨r1, r2, r3⟩ := hr
    refine ⟨fun k hk => by show r.2 k = _; rw [r1, up_ne hk], fun c c1 c2 => ?_, r2, fun c c1 c2 => ?_⟩
    · show r.2 (b + 1) c = _
      rw [r1, up_eq, if_pos (by omega)]
      unfold apE ap
      rw [if_pos q]
    · show bt r.1 c ↔ r.2 (b + 1) c ≠ _
      rw [r3 c c1 c2, r1, up_eq]
      dsimp only
      by_cases z : c = w (6 + 4 * e + 1 + 0)
      · rw [if_pos z, z]
        exact ⟨fun y y2 => y.2 y2.symm, fun y => ⟨rfl, fun y2 => y y2.symm⟩⟩
      · rw [if_neg z]
        exact ⟨fun y => absurd y.1 z, fun y => absurd rfl y⟩
  · have ga := g3 (by omega)
    have gb := g4 (by omega)
    have hb := hB (w (6 + 4 * e + 1 + 0)) (by omega) (by omega)
    rw [if_pos (by omega)]
    refine And.intro (by omega) (And.intro (by decide) ?_)
    refine (e0_put hk (by omega) (by omega)).mono (fun r hr => ?_)
    obtain ⟨r1, r2, r3⟩ := hr
    refine ⟨fun k hk => by show r.2 k = _; rw [r1, up_ne hk], fun c c1 c2 => ?_, r2, fun c c1 c2 => ?_⟩
    · show r.2 (b + 1) c = _
      rw [r1, up_eq, if_pos (by omega)]
      unfold apE ap
      rw [if_neg q, if_pos q1]
    · show bt r.1 c ↔ r.2 (b + 1) c ≠ _
      rw [r3 c c1 c2, r1, up_eq]
      dsimp only
      by_cases z : c = w (6 + 4 * e + 1 + 0)
      · rw [if_pos z, z]
        exact ⟨fun y y2 => y.2 y2.symm, fun y => ⟨rfl, fun y2 => y y2.symm⟩⟩
      · rw [if_neg z]
        exact ⟨fun y => absurd y.1 z, fun y => absurd rfl y⟩
  · have ga := g3 (by omega)
    have gb := g5 (by omega)
    rw [if_pos (by omega), if_pos (by omega)]
    refine (e0_put hk (by omega) (by omega)).mono (fun r hr => ?_)
    obtain ⟨r1, r2, r3⟩ := hr
    have hnr : r.2 b 0 = w 0 := by rw [r1, up_ne (by omega)]; exact hn
    refine (e0_put hk (by omega) (by omega)).mono (fun r' hr' => ?_)
    obtain ⟨s1, s2, s3⟩ := hr'
    have hv : ∀ c, r'.2 (b + 1) c = if c = w (6 + 4 * e + 1 + 1) then σ (b + 1) (w (6 + 4 * e + 1 + 0)) else if c = w (6 + 4 * e + 1 + 0) then σ (b + 1) (w (6 + 4 * e + 1 + 1)) else σ (b + 1) c := by
      intro c
      rw [s1, up_eq, r1, up_eq]
    refine ⟨fun k hk => by show r'.2 k = _; rw [s1, up_ne hk, r1, up_ne hk], fun c c1 c2 => ?_, iR_or, fun c c1 c2 => ?_⟩
    · show r'.2 (b + 1) c = _
      rw [hv, if_pos (show w (6 + 4 * e) < 4 by omega)]
      unfold apE ap
      rw [if_neg q, if_neg q1, if_pos q2]
    · show bt (z_or r.1 r'.1) c ↔ r'.2 (b + 1) c ≠ _
      rw [bt_or ⟨c1, c2⟩, r3 c c1 c2, s3 c c1 c2, hv, r1, up_eq]
      dsimp only
      rw [if_neg (show ¬ w (6 + 4 * e + 1 + 1) = w (6 + 4 * e + 1 + 0) by omega)]
      by_cases z : c = w (6 + 4 * e + 1 + 1)
      · rw [if_pos z, z]
        exact ⟨fun y => y.elim (fun y => absurd y.1 (by omega)) (fun y y2 => y.2 y2.symm), fun y => Or.inr ⟨rfl, fun y2 => y y2.symm⟩⟩
      · rw [if_neg z]
        by_cases z2 : c = w (6 + 4 * e + 1 + 0)
        · rw [if_pos z2, z2]
          exact ⟨fun y => y.elim (fun y y2 => y.2 y2.symm) (fun y => absurd y.1 (by omega)), fun y => Or.inl ⟨rfl, fun y2 => y y2.symm⟩⟩
        · rw [if_neg z2]
          exact ⟨fun y => y.elim (fun y => absurd y.1 z2) (fun y => absurd y.1 z), fun y => absurd rfl y⟩
  · have ga := g3 (by omega)
    have gb := g6 (by omega)
    refine lp_w (L := fun n (p : Int × Int × St) => f_X0_apply_L120 F b s e n (w (6 + 4 * e + 1 + 1)) (w (6 + 4 * e + 1 + 2)) p.1 p.2.1 p.2.2)
      (fun m p => p.2.1 + m = w (6 + 4 * e + 1 + 1) + 1 ∧ w (6 + 4 * e + 1 + 0) ≤ p.2.1 ∧ (∀ k, k ≠ b + 1 → p.2.2 k = σ k) ∧ (∀ c, p.2.2 (b + 1) c = if w (6 + 4 * e + 1 + 0) ≤ c ∧ c < p.2.1 then w (6 + 4 * e + 1 + 2) else σ (b + 1) c) ∧ iR p.1 ∧ ∀ c, 0 ≤ c → c < 32 → (bt p.1 c ↔ p.2.2 (b + 1) c ≠ σ (b + 1) c))
      (fun m n p hI ih => ?_) (w (6 + 4 * e + 1 + 1) + 1 - w (6 + 4 * e + 1 + 0)).toNat F (0, w (6 + 4 * e + 1 + 0), σ) (by omega) ⟨by dsimp only; omega, by dsimp only; omega, fun _ _ => rfl, fun c => by dsimp only; rw [if_neg (by omega)], iR_0, fun c c1 c2 => ⟨fun z => absurd z (bt_zero ⟨c1, c2⟩), fun z => absurd rfl z⟩⟩
    obtain ⟨x, i, τ⟩ := p
    dsimp only at hI ih ⊢
    obtain ⟨i1, i2, i3, i4, i5, i6⟩ := hI
    have hnt : τ b 0 = w 0 := by rw [i3 b (by omega)]; exact hn
    rw [f_X0_apply_L120]
    simp only [tt_gt, tt_sg, tt_ite, tt_ck, tt_lk, tt_ix, tt_bo, tt_by, tt_nz, tt_ob, tt_st, tt_cpk, tt_c1, tt_c2, tt_ca, tt_cb, tt_some, kd_231, kd_0, Nat.reduceAdd, true_and, and_true, true_implies, not_true_eq_false, false_implies, not_false_eq_true, true_or, or_true]
    refine ⟨fun z => ?_, fun z => ⟨fun z => absurd z (by omega), fun z2 => ?_⟩⟩
    · refine ⟨i3, fun c c1 c2 => ?_, i5, i6⟩
      show τ (b + 1) c = _
      rw [i4, if_pos (show w (6 + 4 * e) < 4 by omega)]
      unfold apE ap
      rw [if_neg q, if_neg q1, if_neg q2]
      by_cases y : w (6 + 4 * e + 1 + 0) ≤ c ∧ c ≤ w (6 + 4 * e + 1 + 1)
      · rw [if_pos y, if_pos (by omega)]
      · rw [if_neg y, if_neg (by omega)]
    · refine (e0_put hk (by omega) (by omega)).mono (fun r hr => ?_)
      obtain ⟨r1, r2, r3⟩ := hr
      refine And.intro (by omega) (ih (m - 1) (z_or x r.1, i + 1, r.2) (by omega) ⟨by dsimp only; omega, by dsimp only; omega, fun k hk => by dsimp only; rw [r1, up_ne hk, i3 k hk], fun c => ?_, iR_or, fun c c1 c2 => ?_⟩)
      · dsimp only
        rw [r1, up_eq]
        dsimp only
        rw [i4]
        by_cases y : c = i
        · rw [if_pos y, if_pos (by omega)]
        · rw [if_neg y]
          by_cases y2 : w (6 + 4 * e + 1 + 0) ≤ c ∧ c < i
          · rw [if_pos y2, if_pos (by omega)]
          · rw [if_neg y2, if_neg (by omega)]
      · dsimp only
        rw [bt_or ⟨c1, c2⟩, i6 c c1 c2, r3 c c1 c2, r1, up_eq]
        dsimp only
        by_cases y : c = i
        · rw [if_pos y, y, i4 i, if_neg (by omega)]
          exact ⟨fun a => a.elim (fun a => absurd rfl a) (fun a a2 => a.2 a2.symm), fun a => Or.inr ⟨rfl, fun a2 => a a2.symm⟩⟩
        · rw [if_neg y]
          exact ⟨fun a => a.elim id (fun a => absurd a.1 y), fun a => Or.inl a⟩
  · refine ⟨fun _ _ => rfl, fun c c1 c2 => ?_, iR_0, fun c c1 c2 => ⟨fun z => absurd z (bt_zero ⟨c1, c2⟩), fun z => absurd rfl z⟩⟩
    dsimp only
    rw [if_neg (by omega)]
