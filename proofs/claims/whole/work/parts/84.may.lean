theorem l2i_s : ∀ a : Nat, a < 64 → z_l2i a = a := by decide
theorem l2i_i {a : Int} (h : 0 ≤ a ∧ a < 64) : z_l2i a = a := by
  have := l2i_s a.toNat (by omega)
  rw [show ((a.toNat : Nat) : Int) = a by omega] at this
  exact this
theorem cmp_0 {a b : Int} : z_cmp a b = 0 ↔ a = b := by
  unfold z_cmp
  split
  · exact ⟨fun z => absurd z (by decide), fun z => by omega⟩
  · split
    · exact ⟨fun _ => by assumption, fun _ => rfl⟩
    · exact ⟨fun z => absurd z (by decide), fun z => by omega⟩
theorem e6_isUpTo {F : Nat} {σ : St} {a m : Int} : f_X6_isUpTo F a m σ = some (if 0 ≤ a ∧ a ≤ m then 1 else 0) := by
  apply TT.eq
  unfold f_X6_isUpTo z_cmp
  simp only [tt_gt, tt_sg, tt_ite, tt_ck, tt_lk, tt_ix, tt_bo, tt_by, tt_nz, tt_ob, tt_st, tt_cpk, tt_c1, tt_c2, tt_ca, tt_cb, tt_some, kd_231, kd_0, Nat.reduceAdd, true_and, and_true, true_implies, not_true_eq_false, false_implies, not_false_eq_true, true_or, or_true]
  refine ⟨fun z => ?_, fun z => ⟨fun z2 => ?_, fun z2 => ?_⟩⟩
  · split at z
    · omega
    · split at z
      · omega
      · rw [if_neg (by omega)]
  · split at z2
    · rw [if_neg (by omega)]
    · split at z2 <;> omega
  · split at z2
    · omega
    · split at z
      · split at z2 <;> rw [if_pos (by omega)]
      · split at z
        · split at z2 <;> rw [if_pos (by omega)]
        · omega
theorem kd_sl : ∀ s : Nat, s < 4 → kdX (223 + 2 * s) = 5 ∧ kdX (223 + 2 * s + 1) = 10 ∧ lnX (223 + 2 * s + 1) = 60 := by decide
theorem e5_numberAt {F c : Nat} {σ : St} {i : Int} (hc : kdX c = 5) (hi : 0 ≤ i ∧ i < σ c 2) (hl : σ c 2 ≤ 60) : f_X5_numberAt F c i σ = some (σ (c + 1) i) := by
  apply TT.eq
  unfold f_X5_numberAt
  simp only [tt_gt, tt_sg, tt_ite, tt_ck, tt_lk, tt_ix, tt_bo, tt_by, tt_nz, tt_ob, tt_st, tt_cpk, tt_c1, tt_c2, tt_ca, tt_cb, tt_some, kd_231, kd_0, Nat.reduceAdd, true_and, and_true, true_implies, not_true_eq_false, false_implies, not_false_eq_true, true_or, or_true, hc]
  exact ⟨fun z => absurd z (by omega), fun _ => ⟨fun z => absurd z (by omega), fun _ => by omega⟩⟩
theorem e7_numberAt {F : Nat} {σ : St} {s i : Int} (hs : 0 ≤ s ∧ s < 4) (hi : 0 ≤ i ∧ i < 60) : f_X7_numberAt F 231 s i σ = some (σ 257 (60 * s + i)) := by
  apply TT.eq
  unfold f_X7_numberAt
  simp only [tt_gt, tt_sg, tt_ite, tt_ck, tt_lk, tt_ix, tt_bo, tt_by, tt_nz, tt_ob, tt_st, tt_cpk, tt_c1, tt_c2, tt_ca, tt_cb, tt_some, kd_231, kd_0, Nat.reduceAdd, true_and, and_true, true_implies, not_true_eq_false, false_implies, not_false_eq_true, true_or, or_true]
  exact ⟨by omega, by omega, by omega⟩
def okR (w nm : Int → Int) (k : Nat) : Prop := (0 ≤ nm (3 * k) ∧ nm (3 * k) ≤ evN w) ∧ (0 ≤ nm (3 * k + 1) ∧ nm (3 * k + 1) < w 0) ∧ (0 ≤ nm (3 * k + 2) ∧ nm (3 * k + 2) ≤ 255)
def snR (w g nm : Int → Int) : Nat → Int
  | 0 => 1
  | k + 1 => if snR w g nm k = 1 ∧ Val w g (nm (3 * k)).toNat (nm (3 * k + 1)) = nm (3 * k + 2) then 1 else 0
theorem snR_01 (w g nm : Int → Int) : ∀ k : Nat, snR w g nm k = 0 ∨ snR w g nm k = 1
  | 0 => Or.inr rfl
  | k + 1 => by
    rw [snR]
    split
    · exact Or.inr rfl
    · exact Or.inl rfl
theorem snR_iff (w g nm : Int → Int) : ∀ K : Nat, snR w g nm K = 1 ↔ ∀ k : Nat, k < K → Val w g (nm (3 * k)).toNat (nm (3 * k + 1)) = nm (3 * k + 2)
  | 0 => ⟨fun _ k h => absurd h (Nat.not_lt_zero k), fun _ => rfl⟩
  | K + 1 => by
    have ih := snR_iff w g nm K
    rw [snR]
    constructor
    · intro h k hk
      have h2 : snR w g nm K = 1 ∧ Val w g (nm (3 * K)).toNat (nm (3 * K + 1)) = nm (3 * K + 2) := Classical.byContradiction fun z => by rw [if_neg z] at h; exact absurd h (by decide)
      by_cases q : k = K
      · rw [q]; exact h2.2
      · exact ih.mp h2.1 k (by omega)
    · intro h
      rw [if_pos ⟨ih.mpr (fun k hk => h k (by omega)), h K (by omega)⟩]
theorem seen_c {F : Nat} {w g nm : Int → Int} {σ : St} {c K : Nat} {o : Int} (hF : 100 ≤ F) (hw : WF w) (hS : SR 4 σ w) (hc : kdX c = 5) (hc2 : 213 < c) (hL : σ c 2 = 3 * K) (hK : K ≤ 20) (hn : ∀ i, 0 ≤ i → i < 3 * (K : Int) → σ (c + 1) i = nm i) (hok : ∀ k, k < K → okR w nm k) (ho : lOut o g (evN w)) : TT (f_X6_isAsSeen F 0 c o σ) (fun r => r.1 = snR w g nm K ∧ QB σ r.2) := by
  have h60 := hw.ev60
  have hw0 : 0 ≤ w 0 ∧ w 0 ≤ 32 := ⟨hw.1.1, hw.1.2.1⟩
  have e0 := hS.1 0 (by decide) (by decide)
  have n01 := snR_01 w g nm K
  unfold f_X6_isAsSeen
  simp only [tt_gt, tt_sg, tt_ite, tt_ck, tt_lk, tt_ix, tt_bo, tt_by, tt_nz, tt_ob, tt_st, tt_cpk, tt_c1, tt_c2, tt_ca, tt_cb, tt_some, kd_231, kd_0, Nat.reduceAdd, true_and, and_true, true_implies, not_true_eq_false, false_implies, not_false_eq_true, true_or, or_true, hc, Nat.zero_add, e0]
  refine (clear_ok (F := F) (b := 208) hF rfl rfl rfl hw0).mono (fun σ1 h1 => ?_)
  refine lp_w (L := fun n (p : Int × St) => f_X6_isAsSeen_L17 F 0 c o n p.1 p.2) (fun m p => ∃ t : Nat, p.1 = t ∧ (t : Int) + m = evN w + 1 ∧ QB σ p.2 ∧ BR 208 p.2 (w 0) (Val w g (if (t : Int) ≤ evN w then t else (evN w).toNat)) ∧ ∀ k, k < K → nm (3 * k) < t → Val w g (nm (3 * k)).toNat (nm (3 * k + 1)) = nm (3 * k + 2)) (fun m n p hI ih => ?_) (evN w + 1).toNat F (0, σ1) (by omega) ⟨0, rfl, by omega, h1.1.qb (by omega), by rw [if_pos (by omega)]; exact h1.2, fun k hk z => by have := (hok k hk).1.1; omega⟩
  obtain ⟨i, τ⟩ := p
  dsimp only at hI ih ⊢
  obtain ⟨t, rfl, i2, i3, i4, i5⟩ := hI
  have S2 := hS.qb i3
  rw [f_X6_isAsSeen_L17]
  simp only [tt_gt, tt_sg, tt_ite, tt_ck, tt_lk, tt_ix, tt_bo, tt_by, tt_nz, tt_ob, tt_st, tt_cpk, tt_c1, tt_c2, tt_ca, tt_cb, tt_some, kd_231, kd_0, Nat.reduceAdd, true_and, and_true, true_implies, not_true_eq_false, false_implies, not_false_eq_true, true_or, or_true, Nat.zero_add, e4_size (F := F) (s := 4) rfl S2 hw]
  refine ⟨fun z => ⟨?_, i3⟩, fun z => ?_⟩
  · exact ((snR_iff w g nm K).mpr (fun k hk => i5 k hk (by have := (hok k hk).1.2; omega))).symm
  · rw [if_pos (show (t : Int) ≤ evN w by omega)] at i4
    have hcell : τ c = σ c := i3 c (by omega)
    have hcel1 : τ (c + 1) = σ (c + 1) := i3 (c + 1) (by omega)
    refine lp_w (L := fun n2 (p : Int) => f_X6_isAsSeen_L32 F 0 c o (f_X6_isAsSeen_L17 F 0 c o n) n2 t p τ) (fun m2 p => ∃ j : Nat, p = 3 * j ∧ j + m2 = K ∧ ∀ k, k < j → nm (3 * k) = t → Val w g (nm (3 * k)).toNat (nm (3 * k + 1)) = nm (3 * k + 2)) (fun m2 n2 p hI ih2 => ?_) K F 0 (by omega) ⟨0, rfl, by omega, fun k hk => absurd hk (Nat.not_lt_zero k)⟩
    obtain ⟨j, rfl, j2, j3⟩ := hI
    rw [f_X6_isAsSeen_L32]
    simp only [tt_gt, tt_sg, tt_ite, tt_ck, tt_lk, tt_ix, tt_bo, tt_by, tt_nz, tt_ob, tt_st, tt_cpk, tt_c1, tt_c2, tt_ca, tt_cb, tt_some, kd_231, kd_0, Nat.reduceAdd, true_and, and_true, true_implies, not_true_eq_false, false_implies, not_false_eq_true, true_or, or_true, Nat.zero_add, hcell, hL, e4_size (F := F) (s := 4) rfl S2 hw]
    refine And.intro (by omega) ⟨fun y => ?_, fun y => ?_⟩
    · have hjK : j = K := by omega
      subst hjK
      have nxt : ∀ k, k < j → nm (3 * k) < ((t + 1 : Nat) : Int) → Val w g (nm (3 * k)).toNat (nm (3 * k + 1)) = nm (3 * k + 2) := fun k hk hlt => by
        by_cases b : nm (3 * k) = t
        · exact j3 k hk b
        · exact i5 k hk (by omega)
      refine ⟨fun u => And.intro (by omega) (ih (m - 1) ((t : Int) + 1, τ) (by omega) ⟨t + 1, by dsimp only; omega, by omega, i3, ?_, nxt⟩), fun u => (e6_isOut (F := F)).mono (fun r hr => ?_)⟩
      · rw [if_neg (by omega), show (evN w).toNat = t by omega]
        exact i4
      · have hot := ho t (by omega) (by omega)
        rcases hr with ⟨rfl, hr⟩ | ⟨rfl, hr⟩
        · refine ⟨fun _ => And.intro (by omega) (ih (m - 1) ((t : Int) + 1, τ) (by omega) ⟨t + 1, by dsimp only; omega, by omega, i3, ?_, nxt⟩), fun v => absurd (by decide) v⟩
          rw [if_pos (by omega)]
          exact ⟨i4.1, fun d d1 d2 => by rw [val_out (hot.mp hr)]; exact i4.2 d d1 d2⟩
        · refine ⟨fun v => absurd rfl v, fun _ => ?_⟩
          have hg : g t = 0 := Classical.byContradiction fun v => hr (hot.mpr v)
          refine (e0_apply (F := F) (b := 208) (s := 4) (e := (t : Int)) hF rfl rfl S2 hw ⟨by omega, by omega⟩ i4.1 (i4.b255 hw (by omega))).mono (fun r2 hr2 => And.intro (by omega) (ih (m - 1) ((t : Int) + 1, r2.2) (by omega) ⟨t + 1, by dsimp only; omega, by omega, i3.tr (fun x hx => hr2.1 x (by omega)), ?_, nxt⟩))
          rw [if_pos (by omega)]
          exact ap_val (r := r2) hw (by omega) i4 hg hr2
    · have hjK : j < K := by omega
      obtain ⟨o1, o2, o3⟩ := hok j hjK
      have q0 := hn (3 * j) (by omega) (by omega)
      have q1 := hn (3 * j + 1) (by omega) (by omega)
      have q2 := hn (3 * j + 2) (by omega) (by omega)
      simp only [e5_numberAt (F := F) (σ := τ) (i := 3 * (j : Int)) hc (by rw [hcell, hL]; omega) (by rw [hcell, hL]; omega), e5_numberAt (F := F) (σ := τ) (i := 3 * (j : Int) + 1) hc (by rw [hcell, hL]; omega) (by rw [hcell, hL]; omega), e5_numberAt (F := F) (σ := τ) (i := 3 * (j : Int) + 2) hc (by rw [hcell, hL]; omega) (by rw [hcell, hL]; omega), hcel1, q0, q1, q2, tt_some, cmp_0, l2i_i (a := nm (3 * (j : Int) + 1)) ⟨o2.1, by omega⟩]
      simp only [e0_cellAt (F := F) (b := 208) (σ := τ) (c := nm (3 * (j : Int) + 1)) rfl (by rw [i4.1]; exact hw0.2), i4.1, tt_some, cmp_0]
      rw [if_pos o2, i4.2 _ o2.1 (by omega)]
      refine ⟨fun u => And.intro (by omega) (ih2 (m2 - 1) (3 * (j : Int) + 3) (by omega) ⟨j + 1, by omega, by omega, fun k hk hkt => ?_⟩), fun u => And.intro (by omega) (And.intro (by omega) ⟨fun v => And.intro (by omega) (ih2 (m2 - 1) (3 * (j : Int) + 3) (by omega) ⟨j + 1, by omega, by omega, fun k hk hkt => ?_⟩), fun v => ⟨?_, i3⟩⟩)⟩
      · by_cases b : k = j
        · rw [b] at hkt; exact absurd hkt u
        · exact j3 k (by omega) hkt
      · by_cases b : k = j
        · rw [b] at hkt ⊢
          rw [hkt, Int.toNat_natCast]
          exact v
        · exact j3 k (by omega) hkt
      · have hu : nm (3 * (j : Int)) = t := Classical.byContradiction u
        rcases n01 with b | b
        · exact b.symm
        · have b2 := (snR_iff w g nm K).mp b j hjK
          rw [hu, Int.toNat_natCast] at b2
          exact absurd b2 v
theorem seen_m {F : Nat} {w g nm : Int → Int} {τ : St} {s K : Nat} (hF : 100 ≤ F) (hw : WF w) (hs : s < 4) (hL : τ 255 s = 3 * K) (hK : K ≤ 20) (hn : ∀ i, 0 ≤ i → i < 3 * (K : Int) → τ 257 (60 * s + i) = nm i) (hok : ∀ k, k < K → okR w nm k) (hv : ∀ (t : Nat) (c : Int), (t : Int) ≤ evN w → 0 ≤ c → c < 32 → τ 239 (32 * t + c) = Val w g t c) : TT (f_X7_isSeen F 231 s τ) (fun r => r = snR w g nm K) := by
  have h60 := hw.ev60
  have hw0 : 0 ≤ w 0 ∧ w 0 ≤ 32 := ⟨hw.1.1, hw.1.2.1⟩
  have n01 := snR_01 w g nm K
  unfold f_X7_isSeen
  simp only [tt_gt, tt_sg, tt_ite, tt_ck, tt_lk, tt_ix, tt_bo, tt_by, tt_nz, tt_ob, tt_st, tt_cpk, tt_c1, tt_c2, tt_ca, tt_cb, tt_some, kd_231, kd_0, Nat.reduceAdd, true_and, and_true, true_implies, not_true_eq_false, false_implies, not_false_eq_true, true_or, or_true]
  refine lp_w (L := fun n (p : Int) => f_X7_isSeen_L2 F 231 s τ n p) (fun m p => ∃ j : Nat, p = 3 * j ∧ j + m = K ∧ ∀ k, k < j → Val w g (nm (3 * k)).toNat (nm (3 * k + 1)) = nm (3 * k + 2)) (fun m n p hI ih => ?_) K F 0 (by omega) ⟨0, rfl, by omega, fun k hk => absurd hk (Nat.not_lt_zero k)⟩
  obtain ⟨j, rfl, j2, j3⟩ := hI
  rw [f_X7_isSeen_L2]
  simp only [tt_gt, tt_sg, tt_ite, tt_ck, tt_lk, tt_ix, tt_bo, tt_by, tt_nz, tt_ob, tt_st, tt_cpk, tt_c1, tt_c2, tt_ca, tt_cb, tt_some, kd_231, kd_0, Nat.reduceAdd, true_and, and_true, true_implies, not_true_eq_false, false_implies, not_false_eq_true, true_or, or_true, hL]
  refine And.intro (by omega) ⟨fun y => ((snR_iff w g nm K).mpr (fun k hk => j3 k (by omega))).symm, fun y => ?_⟩
  have hjK : j < K := by omega
  obtain ⟨o1, o2, o3⟩ := hok j hjK
  have q0 := hn (3 * j) (by omega) (by omega)
  have q1 := hn (3 * j + 1) (by omega) (by omega)
  have q2 := hn (3 * j + 2) (by omega) (by omega)
  have hvv := hv (nm (3 * (j : Int))).toNat (nm (3 * (j : Int) + 1)) (by omega) o2.1 (by omega)
  rw [show (((nm (3 * (j : Int))).toNat : Nat) : Int) = nm (3 * (j : Int)) by omega] at hvv
  simp only [e7_numberAt (F := F) (σ := τ) (s := (s : Int)) (i := 3 * (j : Int)) (by omega) (by omega), e7_numberAt (F := F) (σ := τ) (s := (s : Int)) (i := 3 * (j : Int) + 1) (by omega) (by omega), e7_numberAt (F := F) (σ := τ) (s := (s : Int)) (i := 3 * (j : Int) + 2) (by omega) (by omega), q0, q1, q2, tt_some, l2i_i (a := nm (3 * (j : Int) + 1)) ⟨o2.1, by omega⟩, l2i_i (a := nm (3 * (j : Int))) ⟨o1.1, by omega⟩]
  simp only [e_valueAt (F := F) (σ := τ) (c := nm (3 * (j : Int) + 1)) (t := nm (3 * (j : Int))) ⟨o2.1, by omega⟩ ⟨o1.1, by omega⟩, tt_some, hvv, cmp_0]
  refine And.intro (by omega) (And.intro (by omega) ⟨fun v => And.intro (by omega) (ih (m - 1) (3 * (j : Int) + 3) (by omega) ⟨j + 1, by omega, by omega, fun k hk => ?_⟩), fun v => ?_⟩)
  · by_cases b : k = j
    · rw [b]; exact v
    · exact j3 k (by omega)
  · rcases n01 with b | b
    · exact b.symm
    · exact absurd ((snR_iff w g nm K).mp b j hjK) v
def WM2 (ν τ : St) : Prop := (∀ k, k ≠ 231 → k ≠ 238 → k ≠ 239 → k ≠ 240 → τ k = ν k) ∧ (∀ j, j ≠ 33 → j ≠ 34 → j ≠ 35 → τ 231 j = ν 231 j) ∧ (∀ e, 0 ≤ e → e < 60 → τ 238 e = 0)
theorem WM2.ot {ν τ : St} (h : WM2 ν τ) : ∀ k, k ≠ 231 → k ≠ 238 → k ≠ 239 → k ≠ 240 → τ k = ν k := h.1
theorem WM2.sl {ν τ : St} (h : WM2 ν τ) : ∀ j, j ≠ 33 → j ≠ 34 → j ≠ 35 → τ 231 j = ν 231 j := h.2.1
theorem WM2.go {ν τ : St} (h : WM2 ν τ) : ∀ e, 0 ≤ e → e < 60 → τ 238 e = 0 := h.2.2
theorem WM2.gi {F : Nat} {ν τ : St} (hF : 100 ≤ F) (h : WM2 ν τ) (hg : GI F ν) : GI F τ := hg.q hF QCl.rf hg.rn ⟨fun x hx => h.ot x (by omega) (by omega) (by omega) (by omega), fun x hx => h.ot x (by omega) (by omega) (by omega) (by omega), fun j hj => h.sl j (by omega) (by omega) (by omega), fun hb => by rw [h.ot 251 (by decide) (by decide) (by decide) (by decide)]; exact hb⟩
theorem WM2.up {ν τ : St} {j v : Int} (h : WM2 ν τ) (hj : j = 33 ∨ j = 34 ∨ j = 35) : WM2 ν (z_up τ 231 j v) := ⟨fun k k1 k2 k3 k4 => (up_ne k1).trans (h.ot k k1 k2 k3 k4), fun i i1 i2 i3 => by rw [up_eq]; dsimp only; rw [if_neg (by omega)]; exact h.sl i i1 i2 i3, fun e e1 e2 => by rw [up_ne (by decide)]; exact h.go e e1 e2⟩
theorem may_tail {F : Nat} {w nm : Int → Int} {ν τ0 : St} {s K : Nat} (hF : 100 ≤ F) (hw : WF w) (hs : s < 4) (h2 : ν 232 = w) (hL : ν 255 s = 3 * K) (hK : K ≤ 20) (hn : ∀ i, 0 ≤ i → i < 3 * (K : Int) → ν 257 (60 * s + i) = nm i) (hok : ∀ k, k < K → okR w nm k) (hg : GI F ν) (hW : WM2 ν τ0) (h33 : τ0 231 33 = 0) (h34 : τ0 231 34 = -1) : TT (f_X7_askMay_L140 F 231 s F 0 τ0) (fun r => r.1 = 0 ∧ GI F r.2 ∧ r.2 231 33 = sm (fun e => snR w (sgl e) nm K) (w 3).toNat ∧ Fst (fun e => snR w (sgl e) nm K = 1) (w 3).toNat (r.2 231 34) ∧ r.2 231 35 = τ0 231 35) := by
  have h60 := hw.ev60
  have h3b : 0 ≤ w 3 ∧ w 3 ≤ 40 ∧ w 3 ≤ evN w := by
    have := hw.1
    unfold Hd at this
    unfold evN
    omega
  refine lp_w (L := fun n (p : Int × St) => f_X7_askMay_L140 F 231 s n p.1 p.2) (fun m p => ∃ j : Nat, p.1 = j ∧ (j : Int) + m = w 3 ∧ WM2 ν p.2 ∧ p.2 231 33 = sm (fun e => snR w (sgl e) nm K) j ∧ Fst (fun e => snR w (sgl e) nm K = 1) j (p.2 231 34) ∧ p.2 231 35 = τ0 231 35) (fun m n p hI ih => ?_) (w 3).toNat F (0, τ0) (by omega) ⟨0, rfl, by omega, hW, h33, Or.inl ⟨h34, fun i hi => absurd hi (Nat.not_lt_zero i)⟩, rfl⟩
  obtain ⟨i, τ⟩ := p
  dsimp only at hI ih ⊢
  obtain ⟨j, rfl, i2, i3, i4, i5, i6⟩ := hI
  have e32 : τ 232 = w := (i3.ot 232 (by decide) (by decide) (by decide) (by decide)).trans h2
  have hr := sm_rng (f := fun e => snR w (sgl e) nm K) (M := 1) j (fun i _ => by have := snR_01 w (sgl i) nm K; omega)
  rw [f_X7_askMay_L140]
  simp only [tt_gt, tt_sg, tt_ite, tt_ck, tt_lk, tt_ix, tt_bo, tt_by, tt_nz, tt_ob, tt_st, tt_cpk, tt_c1, tt_c2, tt_ca, tt_cb, tt_some, kd_231, kd_0, Nat.reduceAdd, true_and, and_true, true_implies, not_true_eq_false, false_implies, not_false_eq_true, true_or, or_true, e32]
  refine And.intro (by omega) ⟨fun z => ⟨i3.gi hF hg, by rw [i4, show (w 3).toNat = j by omega], by rw [show (w 3).toNat = j by omega]; exact i5, i6⟩, fun z => ?_⟩
  refine (lw_ok hF hw e32 (by omega) i3.go).mono (fun τ2 t2 => ?_)
  have W2 : WM2 ν τ2 := ⟨fun k k1 k2 k3 k4 => (t2.1 k k2 k3 k4).trans (i3.ot k k1 k2 k3 k4), fun i a1 a2 a3 => by rw [t2.1 231 (by decide) (by decide) (by decide)]; exact i3.sl i a1 a2 a3, t2.2.1⟩
  have e31 : τ2 231 = τ 231 := t2.1 231 (by decide) (by decide) (by decide)
  have e55 : τ2 255 = ν 255 := W2.ot 255 (by decide) (by decide) (by decide) (by decide)
  have e57 : τ2 257 = ν 257 := W2.ot 257 (by decide) (by decide) (by decide) (by decide)
  refine (seen_m (g := sgl j) hF hw hs (by rw [e55]; exact hL) hK (fun i a b => by rw [e57]; exact hn i a b) hok t2.2.2).mono (fun r hr2 => ?_)
  subst hr2
  have u7 : ∀ (a : St) (x y : Int), z_up a 231 34 x 231 33 = a 231 33 := fun a x y => by rw [up_eq]; exact if_neg (by decide)
  have ef : (∃ i : Nat, i < j ∧ τ 231 34 = i ∧ snR w (sgl i) nm K = 1 ∧ ∀ l, l < i → ¬ snR w (sgl l) nm K = 1) → snR w (sgl j) nm K = 1 → Fst (fun e => snR w (sgl e) nm K = 1) (j + 1) (τ 231 34) := fun ⟨i, a1, a2, a3, a4⟩ _ => Or.inr ⟨i, by omega, a2, a3, a4⟩
  rw [e31, i4]
  refine ⟨fun u => ⟨fun v => And.intro (by omega) (And.intro (by omega) (ih (m - 1) ((j : Int) + 1, z_up τ2 231 33 (sm (fun e => snR w (sgl e) nm K) j + 1)) (by omega) ⟨j + 1, by dsimp only; omega, by omega, W2.up (Or.inl rfl), ?_, ?_, ?_⟩)), fun v => And.intro (by rw [u7 τ2 _ 0, e31, i4]; omega) (And.intro (by omega) (ih (m - 1) ((j : Int) + 1, z_up (z_up τ2 231 34 j) 231 33 (z_up τ2 231 34 j 231 33 + 1)) (by omega) ⟨j + 1, by dsimp only; omega, by omega, (W2.up (Or.inr (Or.inl rfl))).up (Or.inl rfl), ?_, ?_, ?_⟩))⟩, fun u => And.intro (by omega) (ih (m - 1) ((j : Int) + 1, τ2) (by omega) ⟨j + 1, by dsimp only; omega, by omega, W2, ?_, ?_, ?_⟩)⟩
  · have h1 : snR w (sgl j) nm K = 1 := by have := snR_01 w (sgl j) nm K; omega
    dsimp only
    rw [up_eq, sm]
    dsimp only
    rw [if_pos rfl, h1]
  · have h1 : snR w (sgl j) nm K = 1 := by have := snR_01 w (sgl j) nm K; omega
    dsimp only
    rw [up_eq]
    dsimp only
    rw [if_neg (by decide), e31]
    rcases i5 with a | a
    · have : sm (fun e => snR w (sgl e) nm K) j = 0 := sm_zero j (fun i hi => by have := a.2 i hi; have := snR_01 w (sgl i) nm K; omega)
      exact absurd this v
    · exact ef a h1
  · dsimp only
    rw [up_eq]
    dsimp only
    rw [if_neg (by decide), e31]
    exact i6
  · have h1 : snR w (sgl j) nm K = 1 := by have := snR_01 w (sgl j) nm K; omega
    dsimp only
    rw [up_eq, sm]
    dsimp only
    rw [if_pos rfl, u7 τ2 _ 0, e31, i4, h1]
  · have h1 : snR w (sgl j) nm K = 1 := by have := snR_01 w (sgl j) nm K; omega
    have v0 := Classical.byContradiction v
    dsimp only
    rw [up_eq]
    dsimp only
    rw [if_neg (by decide), up_eq]
    dsimp only
    rw [if_pos rfl]
    refine Or.inr ⟨j, by omega, rfl, h1, fun l hl a => ?_⟩
    have := sm_nil j (fun i _ => by have := snR_01 w (sgl i) nm K; omega) v0 l hl
    omega
  · dsimp only
    rw [up_eq]
    dsimp only
    rw [if_neg (by decide), up_eq]
    dsimp only
    rw [if_neg (by decide), e31]
    exact i6
  · have h1 : snR w (sgl j) nm K = 0 := by have := snR_01 w (sgl j) nm K; omega
    dsimp only
    rw [e31, sm, i4, h1]
    omega
  · have h1 : snR w (sgl j) nm K = 0 := by have := snR_01 w (sgl j) nm K; omega
    dsimp only
    rw [e31]
    rcases i5 with a | ⟨i, a1, a2, a3, a4⟩
    · refine Or.inl ⟨a.1, fun i hi => ?_⟩
      by_cases b : i = j
      · rw [b]; omega
      · exact a.2 i (by omega)
    · exact Or.inr ⟨i, by omega, a2, a3, a4⟩
  · dsimp only
    rw [e31]
    exact i6
