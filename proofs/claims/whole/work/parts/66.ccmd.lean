theorem kc_id {e : Nat} : ∀ (m : Nat) (c : Int) (σ : St), (∀ d : Int, c ≤ d → d < c + m → ¬ (σ 231 29 ≠ -1 ∧ σ 240 (32 * e + d) ≠ 0 ∧ lft σ d)) → kcS e m c σ = σ
  | 0, _, _, _ => rfl
  | m + 1, c, σ, h => by
    unfold kcS
    rw [if_neg (h c (by omega) (by omega))]
    exact kc_id m (c + 1) σ (fun d d1 d2 => h d (by omega) (by omega))
def kcC (t m : Nat) (c : Int) (μ : St) (d : Int) : Prop := c ≤ d ∧ d < c + m ∧ μ 240 (32 * t + d) ≠ 0 ∧ lft μ d
theorem kc_rows {t : Nat} : ∀ (m : Nat) (c : Int) (μ : St), μ 231 29 ≠ -1 → ∀ d : Int, (kcC t m c μ d → (kcS t m c μ) 247 (32 * μ 231 29 + d) = 1 ∧ (kcS t m c μ) 248 (32 * μ 231 29 + d) = t) ∧ (¬ kcC t m c μ d → (kcS t m c μ) 247 (32 * μ 231 29 + d) = μ 247 (32 * μ 231 29 + d) ∧ (kcS t m c μ) 248 (32 * μ 231 29 + d) = μ 248 (32 * μ 231 29 + d))
  | 0, c, μ, _, d => ⟨fun z => by unfold kcC at z; omega, fun _ => ⟨rfl, rfl⟩⟩
  | m + 1, c, μ, ho, d => by
    unfold kcS
    by_cases q : μ 231 29 ≠ -1 ∧ μ 240 (32 * t + c) ≠ 0 ∧ lft μ c
    · rw [if_pos q]
      have f31 : kpS c t 1 μ 231 = μ 231 := kp_ne (by decide) (by decide) (by decide) (by decide)
      have f40 : kpS c t 1 μ 240 = μ 240 := kp_ne (by decide) (by decide) (by decide) (by decide)
      have ih := kc_rows (t := t) m (c + 1) (kpS c t 1 μ) (by rw [f31]; exact ho) d
      rw [f31, kp_247, kp_248] at ih
      by_cases q2 : d = c
      · have h1 := ih.2 (fun z => by unfold kcC at z; omega)
        rw [if_pos (by omega), if_pos (by omega)] at h1
        exact ⟨fun _ => h1, fun z => absurd ⟨by omega, by omega, by rw [q2]; exact q.2.1, by rw [q2]; exact q.2.2⟩ z⟩
      · rw [if_neg (show ¬ 32 * μ 231 29 + d = 32 * μ 231 29 + c by omega), if_neg (show ¬ 32 * μ 231 29 + d = 32 * μ 231 29 + c by omega)] at ih
        have hi : kcC t m (c + 1) (kpS c t 1 μ) d ↔ kcC t (m + 1) c μ d := by
          unfold kcC
          rw [kp_lft (by omega), f40]
          exact ⟨fun z => ⟨by omega, by omega, z.2.2.1, z.2.2.2.1⟩, fun z => ⟨by omega, by omega, z.2.2.1, z.2.2.2, q2⟩⟩
        rw [hi] at ih
        exact ih
    · rw [if_neg q]
      have ih := kc_rows (t := t) m (c + 1) μ ho d
      by_cases q2 : d = c
      · have h1 := ih.2 (fun z => by unfold kcC at z; omega)
        exact ⟨fun z => absurd ⟨ho, by rw [← q2]; exact z.2.2⟩ q, fun _ => h1⟩
      · have hi : kcC t m (c + 1) μ d ↔ kcC t (m + 1) c μ d := by
          unfold kcC
          exact ⟨fun z => ⟨by omega, by omega, z.2.2⟩, fun z => ⟨by omega, by omega, z.2.2⟩⟩
        rw [hi] at ih
        exact ih
theorem RunR.mv {b : Nat} {w0 l : Int} {t : Nat} {μ σ σ' : St} (h : RunR b w0 l t μ σ) (hw : w0 ≤ 32) (h1 : σ' (b + 1) = σ (b + 1)) (h2 : ∀ c, 0 ≤ c → c < 32 → σ' (b + 2) c = σ (b + 2) c) (hs : ∀ j, j = 2 ∨ j = 3 ∨ j = 4 ∨ j = 8 ∨ j = 9 ∨ j = 10 → σ' b j = σ b j) (h5 : σ' (b + 5) = σ (b + 5)) (h6 : σ' (b + 6) = σ (b + 6)) (hc : ∀ x, b + 7 < x → σ' x = σ x) : RunR b w0 l t μ σ' :=
  ⟨⟨by rw [h1]; exact h.bd.1, fun c c1 c2 => (h2 c c1 c2).trans (h.bd.2 c c1 c2)⟩, by rw [hs 8 (by omega)]; exact h.n8, by rw [hs 9 (by omega)]; exact h.n9, by rw [hs 3 (by omega)]; exact h.cn, by rw [hs 4 (by omega)]; exact h.op, by rw [hs 10 (by omega)]; exact h.aw, by rw [hs 2 (by omega)]; exact h.dr, by rw [hs 2 (by omega)]; exact h.dt, by rw [h5]; exact h.la, by rw [h6]; exact h.cb, fun k k1 k2 => (h.cc k k1 k2).mv (hc _ (by omega)) (hc _ (by omega)) (hc _ (by omega)), fun k k1 k2 => (h.cd k k1 k2).mv (fun j _ _ => by rw [hc _ (by omega)])⟩
theorem kr_ok {F b K : Nat} {w0 : Int} {t : Nat} {S : Int} {μ σ : St} (hF : 100 ≤ F) (hb : kdX b = 3) (hb3 : kdX (b + 3) = 0) (hK : kdX K = 1) (hKb : b + 7 < K) (ho : μ 231 29 ≠ -1) (hw : μ 232 0 = w0) (hw2 : 0 ≤ w0 ∧ w0 ≤ 32) (hn : σ b 8 = w0) (hB : BR (b + 3) σ w0 (fun c => μ 239 (32 * t + c))) (hcc : CC K (μ 231 29) μ σ) (hS : Sok μ) (hL : Lv w0 t μ) (hSb : ∀ d, 0 ≤ d → d < w0 → (bt S d ↔ μ 240 (32 * t + d) ≠ 0 ∧ lft μ d)) :
    TT (f_X3_keepLowest F b K S 32 (b + 3) σ) (fun σ' => FrC K σ σ' ∧ CC K (μ 231 29) (kcS t w0.toNat 0 μ) σ') := by
  unfold f_X3_keepLowest
  simp only [tt_gt, tt_sg, tt_ite, tt_ck, tt_lk, tt_ix, tt_bo, tt_by, tt_nz, tt_ob, tt_st, tt_cpk, tt_c1, tt_c2, tt_ca, tt_cb, tt_some, kd_231, kd_0, Nat.reduceAdd, true_and, and_true, true_implies, not_true_eq_false, false_implies, not_false_eq_true, true_or, or_true, hb, hK, hb3]
  refine lp_w (L := fun n (p : Int × St) => f_X3_keepLowest_L3 F b K S 32 (b + 3) n p.1 p.2) (fun j p => 0 ≤ p.1 ∧ p.1 + j = w0 ∧ ∃ ν, CC K (μ 231 29) ν p.2 ∧ FrC K σ p.2 ∧ Sok ν ∧ kcS t j p.1 ν = kcS t w0.toNat 0 μ ∧ (∀ d, p.1 ≤ d → d < w0 → (bt S d ↔ μ 240 (32 * t + d) ≠ 0 ∧ lft ν d)) ∧ (∀ d, lft ν d → lft μ d) ∧ ∀ x, x ≠ 245 → x ≠ 247 → x ≠ 248 → x ≠ 249 → ν x = μ x) (fun j n p hI ih => ?_) w0.toNat F (0, σ) (by omega) ⟨by dsimp only; omega, by dsimp only; omega, μ, hcc, FrC.rf, hS, rfl, fun d d1 d2 => hSb d d1 d2, fun _ z => z, fun _ _ _ _ _ => rfl⟩
  obtain ⟨i, τ⟩ := p
  dsimp only at hI ih ⊢
  obtain ⟨i1, i2, ν, i3, i4, i5, i6, i7, i8, i9⟩ := hI
  have e31 : ν 231 = μ 231 := i9 231 (by decide) (by decide) (by decide) (by decide)
  have e32 : ν 232 = μ 232 := i9 232 (by decide) (by decide) (by decide) (by decide)
  have e39 : ν 239 = μ 239 := i9 239 (by decide) (by decide) (by decide) (by decide)
  have e40 : ν 240 = μ 240 := i9 240 (by decide) (by decide) (by decide) (by decide)
  have e42 : ν 242 = μ 242 := i9 242 (by decide) (by decide) (by decide) (by decide)
  have hbt : τ b = σ b := i4.oth b (by omega) (by omega) (by omega)
  have hat : ∀ x, x = b + 3 ∨ x = b + 4 → τ x = σ x := fun x hx => i4.oth x (by omega) (by omega) (by omega)
  obtain ⟨s1, s2, s3, s4, s5, s6⟩ := id i5
  have hsz := i3.sz
  have stop : (∀ d : Int, i ≤ d → d < i + j → ¬ (ν 231 29 ≠ -1 ∧ ν 240 (32 * t + d) ≠ 0 ∧ lft ν d)) → FrC K σ τ ∧ CC K (μ 231 29) (kcS t w0.toNat 0 μ) τ := fun h => by
    rw [← i6, kc_id j i ν h]
    exact ⟨i4, i3⟩
  rw [f_X3_keepLowest_L3]
  simp only [tt_gt, tt_sg, tt_ite, tt_ck, tt_lk, tt_ix, tt_bo, tt_by, tt_nz, tt_ob, tt_st, tt_cpk, tt_c1, tt_c2, tt_ca, tt_cb, tt_some, kd_231, kd_0, Nat.reduceAdd, true_and, and_true, true_implies, not_true_eq_false, false_implies, not_false_eq_true, true_or, or_true, hbt, hn]
  refine ⟨fun q => stop (fun d d1 d2 => by omega), fun q => ⟨fun q2 => stop (fun d d1 d2 z => ?_), fun q2 => ⟨fun q3 => stop (fun d d1 d2 z => ?_), fun q3 => ?_⟩⟩⟩
  · rw [e40] at z
    have := (i7 d d1 (by omega)).mpr z.2
    rw [q2] at this
    exact bt_zero ⟨by omega, by omega⟩ this
  · have := lf_pos (σ := ν) (c := d) (ν 232 0).toNat (by omega) (by rw [e32]; omega) z.2.2
    rw [e31] at s6
    omega
  · obtain ⟨j, rfl⟩ : ∃ m, j = m + 1 := ⟨j - 1, by omega⟩
    simp only [e6_holds, tt_some]
    refine ⟨fun q4 => And.intro (by omega) (ih j (i + 1, τ) (by omega) ⟨by dsimp only; omega, by dsimp only; omega, ν, i3, i4, i5, ?_, fun d d1 d2 => i7 d (by dsimp only at d1; omega) d2, i8, i9⟩), fun q4 => ?_⟩
    · have hno : ¬ bt S i := fun z => by rw [if_pos z] at q4; exact absurd q4 (by decide)
      dsimp only
      rw [← i6]
      conv => rhs; unfold kcS
      rw [if_neg (fun z => hno ((i7 i (by omega) (by omega)).mpr (by rw [← e40]; exact z.2)))]
    · have hyes : bt S i := Classical.byContradiction fun z => q4 (if_neg z)
      have hci := (i7 i (by omega) (by omega)).mp hyes
      have hp := lf_pos (σ := ν) (c := i) (ν 232 0).toNat (by omega) (by rw [e32]; omega) hci.2
      have hlv := hL ho i i1 (by omega) (i8 i hci.2)
      have hc0 := e0_cellAt (F := F) (b := b + 3) (σ := τ) (c := i) hb3 (by rw [hat (b + 3) (Or.inl rfl), hB.1]; exact hw2.2)
      rw [hc0, tt_some, hat (b + 3) (Or.inl rfl), hB.1, if_pos (by omega), hat (b + 3 + 1) (Or.inr rfl), hB.2 i (by omega) (by omega)]
      have f31 : kpS i t 1 ν 231 = ν 231 := kp_ne (by decide) (by decide) (by decide) (by decide)
      have hk := keep_ok (F := F) (K := K) (μ := ν) (σ := τ) (c := i) (e := (t : Int)) (s := 1) (v := μ 239 (32 * t + i)) hK (by rw [e31]; exact i3) (by omega) (by omega) (by omega) hci.2.2 (by rw [hlv, e39, e42, e31])
      refine hk.mono (fun τ' h6 => And.intro (by omega) (ih j (i + 1, τ') (by omega) ⟨by dsimp only; omega, by dsimp only; omega, kpS i t 1 ν, by dsimp only; rw [← e31]; exact h6.2, i4.tr h6.1, i5.kp (by omega) (by rw [e32]; omega) hci.2, ?_, fun d d1 d2 => ?_, fun d hd => i8 d ((kp_lft (by omega) _).mp hd).1, fun x x1 x2 x3 x4 => (kp_ne x1 x2 x3 x4).trans (i9 x x1 x2 x3 x4)⟩))
      · dsimp only
        rw [← i6]
        conv => rhs; unfold kcS
        rw [if_pos ⟨by rw [e31]; exact ho, by rw [e40]; exact hci.1, hci.2⟩]
      · dsimp only at d1
        rw [kp_lft (by omega), i7 d (by omega) d2]
        exact ⟨fun z => ⟨z.1, z.2, by omega⟩, fun z => ⟨z.1, z.2.1⟩⟩
