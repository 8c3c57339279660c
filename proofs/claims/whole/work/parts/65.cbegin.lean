theorem allc : ∀ n : Nat, n ≤ 32 → (-9223372036854775808 ≤ z_lshl 1 n - 1 ∧ z_lshl 1 n - 1 < 9223372036854775808) ∧ ∀ c : Nat, c < 32 → (bt (z_l2i (z_lshl 1 n - 1)) c ↔ c < n) := by decide
theorem allCells_ok {F b : Nat} {σ : St} {w0 : Int} (hb : kdX b = 3) (hw : 0 ≤ w0 ∧ w0 ≤ 32) (hn : σ b 8 = w0) : TT (f_X3_allCells F b σ) (fun r => iR r ∧ ∀ c, 0 ≤ c → c < 32 → (bt r c ↔ c < w0)) := by
  have h1 := allc w0.toNat (by omega)
  rw [show ((w0.toNat : Nat) : Int) = w0 by omega] at h1
  unfold f_X3_allCells
  simp only [tt_gt, tt_sg, tt_ite, tt_ck, tt_lk, tt_ix, tt_bo, tt_by, tt_nz, tt_ob, tt_st, tt_cpk, tt_c1, tt_c2, tt_ca, tt_cb, tt_some, kd_231, kd_0, Nat.reduceAdd, true_and, and_true, true_implies, not_true_eq_false, false_implies, not_false_eq_true, true_or, or_true, hb, hn]
  refine And.intro h1.1 ⟨iR_t _, fun c c1 c2 => ?_⟩
  have h2 := h1.2 c.toNat (by omega)
  rw [show ((c.toNat : Nat) : Int) = c by omega] at h2
  rw [h2]
  omega
theorem begin_ok {F b : Nat} {w0 l : Int} {t : Nat} {μ μ' σ : St} {full W : Int} (hb : b = 12 ∨ b = 110) (hw : 0 ≤ w0 ∧ w0 ≤ 32) (ht : t < 60) (hM : MI0 w0 t μ) (hw0 : μ 232 0 = w0) (ho : μ 231 29 = -1) (hfl : full = 0 ∨ full = 1) (hv : Vs t μ) (hc : ∀ c, 0 ≤ c → c < 32 → μ 240 (32 * t + c) = 0) (hB : BgP t full μ μ') (hH : Hs t μ μ') (h : RunR b w0 l t μ σ) (hWr : iR W) (hW : ∀ c, 0 ≤ c → c < 32 → (bt W c ↔ c < w0 ∧ (full ≠ 0 ∨ drt μ c t))) : TT (f_X3_begin F b full t W σ) (fun σ' => RunR b w0 l (t + 1) μ' σ' ∧ Fb b σ σ' ∧ ∀ j, j = 1 ∨ j = 5 ∨ j = 6 ∨ j = 7 → σ' b j = σ b j) := by
  have h0 := hM.c0
  have h2 := hM.c2
  rw [if_pos ho] at h2
  have hK := kd_cpb hb (k := μ 231 28) ⟨h0, by omega⟩
  obtain ⟨b0, b1, b2, b3, b4, b5, b6, b7, b8, b9, b10⟩ := hB
  have c28 : μ' 231 28 = μ 231 28 + 1 := by rw [b1, if_pos rfl]
  have c29 : μ' 231 29 = μ 231 28 := by rw [b1, if_neg (by decide), if_pos rfl]
  generalize hKd : b + 7 + 1 + 3 * (μ 231 28).toNat = K at *
  unfold f_X3_begin f_X1_begin
  have n3 : ∀ (τ : St) (j v : Int), z_up τ K j v b = τ b := fun τ j v => up_ne (by omega)
  have nb3 : ∀ (τ : St) (v : Int), z_up τ b 4 v b 3 = τ b 3 := fun τ v => by rw [up_eq]; exact if_neg (by decide)
  simp only [tt_gt, tt_sg, tt_ite, tt_ck, tt_lk, tt_ix, tt_bo, tt_by, tt_nz, tt_ob, tt_st, tt_cpk, tt_c1, tt_c2, tt_ca, tt_cb, tt_some, kd_231, kd_0, Nat.reduceAdd, true_and, and_true, true_implies, not_true_eq_false, false_implies, not_false_eq_true, true_or, or_true, (kd_run hb).1, h.cn, hKd, hK, n3, nb3]
  refine ⟨fun q => absurd q (by omega), fun _ => And.intro (by omega) (And.intro hfl (And.intro (by omega) ?_))⟩
  generalize hσ0 : z_up (z_up (z_up (z_up (z_up (z_up (z_up (z_up σ K 0 full) K 1 ↑t) K 2 0) K 3 (-1)) K 4 W) K 5 0) K 6 0) K 7 0 = σ0
  have s0 : ∀ x, x ≠ K → σ0 x = σ x := fun x hx => by rw [← hσ0, up_ne hx, up_ne hx, up_ne hx, up_ne hx, up_ne hx, up_ne hx, up_ne hx, up_ne hx]
  have sK : ∀ j, σ0 K j = if j = 7 then 0 else if j = 6 then 0 else if j = 5 then 0 else if j = 4 then W else if j = 3 then -1 else if j = 2 then 0 else if j = 1 then (t : Int) else if j = 0 then full else σ K j := fun j => by
    rw [← hσ0]
    simp only [up_eq]
  generalize hσ : z_up (z_up σ0 b 4 (μ 231 28)) b 3 (μ 231 28 + 1) = σ'
  have a0 : ∀ x, x ≠ b → σ' x = σ0 x := fun x hx => by rw [← hσ, up_ne hx, up_ne hx]
  have ab : ∀ j, σ' b j = if j = 3 then μ 231 28 + 1 else if j = 4 then μ 231 28 else σ b j := fun j => by
    rw [← hσ]
    simp only [up_eq]
    rw [s0 b (by omega)]
  have ao : ∀ x, x ≠ b → x ≠ K → σ' x = σ x := fun x x1 x2 => (a0 x x1).trans (s0 x x2)
  have hla : ∀ c, 0 ≤ c → c < 32 → latR (μ 240) c (t + 1) = latR (μ 240) c t := fun c c1 c2 => by
    rw [latR, if_pos (hc c c1 c2)]
  have e40 : μ' 240 = μ 240 := b0 240 (by decide) (by omega)
  have e39 : μ' 239 = μ 239 := b0 239 (by decide) (by omega)
  have hbs : baseR μ' ((t + 1 : Nat) : Int) = baseR μ t := by
    rw [← base_next hM]
    unfold baseR
    rw [c28, show (μ 231 28 + 1).toNat = (μ 231 28).toNat + 1 by omega, dirR, b4, if_pos (show (((μ 231 28).toNat : Nat) : Int) = μ 231 28 by omega), if_neg (fun z => absurd z.1 (by decide))]
    refine dirR_same _ (fun k hk => ?_)
    rw [b3, b4, b5, if_neg (by omega), if_neg (by omega), if_neg (by omega)]
    exact ⟨rfl, rfl, rfl⟩
  have hhw : hwR μ' (μ' 231 28).toNat ↔ hwR μ (μ 231 28).toNat := by
    rw [c28, show (μ 231 28 + 1).toNat = (μ 231 28).toNat + 1 by omega, hwR, b4, if_pos (show (((μ 231 28).toNat : Nat) : Int) = μ 231 28 by omega), hwR_same _ (fun k hk => by rw [b4, if_neg (by omega)])]
    exact ⟨fun z => z.elim id (fun z => absurd z (by decide)), fun z => Or.inl z⟩
  refine ⟨⟨⟨by rw [ao _ (by omega) (by omega)]; exact h.bd.1, fun c c1 c2 => ?_⟩, by rw [ab, if_neg (by decide), if_neg (by decide)]; exact h.n8, by rw [ab, if_neg (by decide), if_neg (by decide)]; exact h.n9, by rw [ab, if_pos rfl, c28], by rw [ab, if_neg (by decide), if_pos rfl, c29], ?_, by rw [ab, if_neg (by decide), if_neg (by decide)]; exact h.dr, fun c c1 c2 => ?_, fun c c1 c2 => ?_, fun e e1 e2 c c1 c2 => ?_, fun k k1 k2 => ?_, fun k k1 k2 => ?_⟩, ?_, fun j hj => by rw [ab, if_neg (by omega), if_neg (by omega)]⟩
  · rw [ao _ (by omega) (by omega), h.bd.2 c c1 c2, e39]
    dsimp only
    rw [hv c c1 c2 (hc c c1 c2)]
  · rw [ab, if_neg (by decide), if_neg (by decide), hhw]; exact h.aw
  · rw [ab, if_neg (by decide), if_neg (by decide), h.dt c c1 c2]
    unfold drt
    rw [e40, hla c c1 c2, hbs]
  · rw [ao _ (by omega) (by omega), e40, hla c c1 (by omega)]; exact h.la c c1 c2
  · rw [ao _ (by omega) (by omega), h.cb e e1 e2 c c1 c2, e40]
    constructor
    · exact fun z => ⟨by omega, z.2⟩
    · refine fun z => ⟨?_, z.2⟩
      apply Classical.byContradiction
      intro q
      have : e = t := by omega
      rw [this] at z
      exact z.2 (hc c c1 c2)
  · by_cases q : k = μ 231 28
    · have hKk : b + 7 + 1 + 3 * k.toNat = K := by rw [q]; exact hKd
      rw [hKk]
      have aK : ∀ j, σ' K j = σ0 K j := fun j => by rw [a0 K (by omega)]
      refine ⟨by rw [aK, sK, if_pos rfl, b6, if_pos q], by rw [aK, sK]; exact hWr, by rw [aK, sK]; exact iR_0, fun c c1 c2 => ?_, fun c c1 c2 => ?_, fun c c1 c2 z => ?_, fun i i1 i2 => ?_⟩
      · rw [aK, sK, if_neg (by decide), if_neg (by decide), if_neg (by decide), if_pos rfl, hW c c1 c2, b7, if_pos (by omega)]
        unfold bgW
        rw [show 32 * k + c - 32 * μ 231 28 = c by omega, hw0]
        by_cases z : c < w0 ∧ (full ≠ 0 ∨ drt μ c t)
        · rw [if_pos z]; exact ⟨fun _ => by decide, fun _ => z⟩
        · rw [if_neg z]; exact ⟨fun y => absurd y z, fun y => absurd rfl y⟩
      · rw [aK, sK, if_neg (by decide), if_neg (by decide), if_pos rfl, b9, if_pos (by omega)]
        exact ⟨fun z => absurd z (bt_zero ⟨c1, c2⟩), fun z => absurd rfl z⟩
      · rw [b9, if_pos (by omega)] at z
        exact absurd rfl z
      · rw [b6, if_pos q] at i2
        omega
    · have hc2 := CC.hs (σ := σ) hM hH (k := k) ⟨k1, by omega⟩ (by omega) (h.cc k k1 (by omega))
      exact hc2.mv (ao _ (by omega) (by omega)) (ao _ (by omega) (by omega)) (ao _ (by omega) (by omega))
  · by_cases q : k = μ 231 28
    · have hKk : b + 7 + 1 + 3 * k.toNat = K := by rw [q]; exact hKd
      rw [hKk]
      have aK : ∀ j, σ' K j = σ0 K j := fun j => by rw [a0 K (by omega)]
      refine ⟨?_, by rw [aK, sK, b3, if_pos q]; rfl, by rw [aK, sK, b4, if_pos q]; rfl, by rw [aK, sK, b5, if_pos q]; rfl, by rw [aK, sK]; exact iR_0, fun c c1 c2 => ?_⟩
      · rw [aK, sK, b2, if_pos q]
        show full = _
        rcases hfl with z | z <;> rw [z] <;> rfl
      · rw [aK, sK, if_neg (by decide), if_pos rfl, b8, if_pos (by omega)]
        exact ⟨fun z => absurd z (bt_zero ⟨c1, c2⟩), fun z => absurd rfl z⟩
    · have hc2 := CD.hs (σ := σ) hH (k := k) ⟨k1, by omega⟩ (by omega) (h.cd k k1 (by omega))
      exact hc2.mv (fun j _ _ => by rw [ao _ (by omega) (by omega)])
  · intro x hx
    exact ao x (by omega) (by omega)
