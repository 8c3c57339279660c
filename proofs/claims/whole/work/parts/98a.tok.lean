def RnE (P : Int → Prop) (T : Int → Int) (L p e : Int) : Prop := p ≤ e ∧ e ≤ L ∧ (∀ i, p ≤ i → i < e → P (T i)) ∧ (e < L → ¬ P (T e))
theorem RnE.u {P : Int → Prop} {T : Int → Int} {L p e e' : Int} (h : RnE P T L p e) (h' : RnE P T L p e') : e = e' := by
  have a1 := h.1
  have a2 := h.2.1
  have b1 := h'.1
  have b2 := h'.2.1
  rcases Int.lt_trichotomy e e' with z | z | z
  · exact absurd (h'.2.2.1 e a1 z) (h.2.2.2 (by omega))
  · exact z
  · exact absurd (h.2.2.1 e' b1 z) (h'.2.2.2 (by omega))
def blP (b : Int) : Prop := b = 32 ∨ b = 10
def ltP (b : Int) : Prop := 97 ≤ b ∧ b ≤ 122
def dgP (b : Int) : Prop := 48 ≤ b ∧ b ≤ 57
def nmR (T : Int → Int) (cap st : Int) : Nat → Int
  | 0 => 0
  | k + 1 => if cap < 10 * nmR T cap st k + (T (st + k) - 48) then cap else 10 * nmR T cap st k + (T (st + k) - 48)
def TkS (T : Int → Int) (L p ty st en cap nu : Int) : Prop := RnE blP T L p st ∧ (¬ st < L → ty = 0 ∧ en = st) ∧ (st < L → (ltP (T st) → ty = 1 ∧ RnE ltP T L st en) ∧ (¬ ltP (T st) → (dgP (T st) → ty = 2 ∧ RnE dgP T L st en ∧ nu = nmR T cap st (en - st).toNat) ∧ (¬ dgP (T st) → (T st = 59 → ty = 3 ∧ en = st + 1) ∧ (¬ T st = 59 → ty = 4 ∧ en = st + 1))))
theorem nm_rel {T : Int → Int} {st : Int} : ∀ k : Nat, (∀ i, st ≤ i → i < st + k → dgP (T i)) → (0 ≤ nmR T 100000 st k ∧ nmR T 100000 st k ≤ 100000) ∧ (nmR T 100000 st k ≤ 99999 → nmR T 99999 st k = nmR T 100000 st k) ∧ (¬ nmR T 100000 st k ≤ 99999 → nmR T 99999 st k = 99999)
  | 0, _ => ⟨⟨show (0 : Int) ≤ 0 by decide, show (0 : Int) ≤ 100000 by decide⟩, fun _ => rfl, fun y => absurd (show (0 : Int) ≤ 99999 by decide) y⟩
  | k + 1, h => by
    have ih := nm_rel k (fun i i1 i2 => h i i1 (by omega))
    have hd := h (st + k) (by omega) (by omega)
    unfold dgP at hd
    simp only [nmR]
    generalize nmR T 100000 st k = c at ih ⊢
    generalize nmR T 99999 st k = m at ih ⊢
    generalize T (st + k) = d at hd ⊢
    omega
theorem nm_rng {T : Int → Int} {st cap : Int} (hc : 0 ≤ cap) : ∀ k : Nat, (∀ i, st ≤ i → i < st + k → dgP (T i)) → 0 ≤ nmR T cap st k ∧ nmR T cap st k ≤ cap
  | 0, _ => ⟨Int.le_refl _, hc⟩
  | k + 1, h => by
    have ih := nm_rng hc k (fun i i1 i2 => h i i1 (by omega))
    have hd := h (st + k) (by omega) (by omega)
    unfold dgP at hd
    simp only [nmR]
    generalize nmR T cap st k = c at ih ⊢
    generalize T (st + k) = d at hd ⊢
    omega
theorem e_byte {F : Nat} {τ : St} {T : Int → Int} {L x : Int} (hL : L ≤ 700) (h0 : τ 1 0 = L) (hT : ∀ i, 0 ≤ i → i < L → τ 2 i = T i) (hx : 0 ≤ x) (hx2 : x < L) : f_X2_byteAt F 1 x τ = some (T x) := by
  apply TT.eq
  unfold f_X2_byteAt
  simp only [tt_gt, tt_sg, tt_ite, tt_ck, tt_lk, tt_ix, tt_bo, tt_by, tt_nz, tt_ob, tt_st, tt_cpk, tt_c1, tt_c2, tt_ca, tt_cb, tt_some, kd_231, kd_0, Nat.reduceAdd, true_and, and_true, true_implies, not_true_eq_false, false_implies, not_false_eq_true, true_or, or_true, show kdX 1 = 2 from rfl, h0]
  exact ⟨fun y => absurd y (by omega), fun _ => ⟨fun y => absurd y (by omega), fun _ => ⟨fun y => absurd y (by omega), fun _ => And.intro (by omega) (hT x hx hx2)⟩⟩⟩
theorem e_blank {F : Nat} {τ : St} {b : Int} : TT (f_X2_isBlank F b τ) (fun r => (r = 1 ∧ blP b) ∨ (r = 0 ∧ ¬ blP b)) := by
  unfold f_X2_isBlank blP
  simp only [tt_gt, tt_sg, tt_ite, tt_ck, tt_lk, tt_ix, tt_bo, tt_by, tt_nz, tt_ob, tt_st, tt_cpk, tt_c1, tt_c2, tt_ca, tt_cb, tt_some, kd_231, kd_0, Nat.reduceAdd, true_and, and_true, true_implies, not_true_eq_false, false_implies, not_false_eq_true, true_or, or_true]
  exact ⟨fun z => Or.inl (Or.inl z), fun z => ⟨fun z1 => Or.inr (by omega), fun z1 => Or.inl (by omega)⟩⟩
theorem e_letter {F : Nat} {τ : St} {b : Int} : TT (f_X2_isLetter F b τ) (fun r => (r = 1 ∧ ltP b) ∨ (r = 0 ∧ ¬ ltP b)) := by
  unfold f_X2_isLetter ltP
  simp only [tt_gt, tt_sg, tt_ite, tt_ck, tt_lk, tt_ix, tt_bo, tt_by, tt_nz, tt_ob, tt_st, tt_cpk, tt_c1, tt_c2, tt_ca, tt_cb, tt_some, kd_231, kd_0, Nat.reduceAdd, true_and, and_true, true_implies, not_true_eq_false, false_implies, not_false_eq_true, true_or, or_true]
  exact ⟨fun z => Or.inr (by omega), fun z => ⟨fun z1 => Or.inr (by omega), fun z1 => Or.inl (by omega)⟩⟩
theorem e_digit {F : Nat} {τ : St} {b : Int} : TT (f_X2_isDigit F b τ) (fun r => (r = 1 ∧ dgP b) ∨ (r = 0 ∧ ¬ dgP b)) := by
  unfold f_X2_isDigit dgP
  simp only [tt_gt, tt_sg, tt_ite, tt_ck, tt_lk, tt_ix, tt_bo, tt_by, tt_nz, tt_ob, tt_st, tt_cpk, tt_c1, tt_c2, tt_ca, tt_cb, tt_some, kd_231, kd_0, Nat.reduceAdd, true_and, and_true, true_implies, not_true_eq_false, false_implies, not_false_eq_true, true_or, or_true]
  exact ⟨fun z => Or.inr (by omega), fun z => ⟨fun z1 => Or.inr (by omega), fun z1 => Or.inl (by omega)⟩⟩
def A6 (τ τ' : St) : Prop := (∀ x, x ≠ 1 → τ' x = τ x) ∧ ∀ j, j ≠ 5 → j ≠ 6 → j ≠ 7 → j ≠ 8 → τ' 1 j = τ 1 j
theorem adv6 {F : Nat} {τ : St} {T : Int → Int} {L : Int} (hF : 1000 ≤ F) (hL : 0 ≤ L ∧ L ≤ 700) (h0 : τ 1 0 = L) (hT : ∀ i, 0 ≤ i → i < L → τ 2 i = T i) (hp : 0 ≤ τ 1 7 ∧ τ 1 7 ≤ L) : TT (f_X2_advance F 1 τ) (fun τ' => A6 τ τ' ∧ TkS T L (τ 1 7) (τ' 1 5) (τ' 1 6) (τ' 1 7) 100000 (τ' 1 8)) := by
  have j30 : ∀ s, 0 ≤ s → RnE blP T L (τ 1 7) s → TT (f_X2_advance_J30 F 1 s τ) (fun τ' => A6 τ τ' ∧ TkS T L (τ 1 7) (τ' 1 5) (τ' 1 6) (τ' 1 7) 100000 (τ' 1 8)) := fun s hs0 hs => by
    unfold f_X2_advance_J30 f_X2_advance_J133
    simp only [tt_gt, tt_sg, tt_ite, tt_ck, tt_lk, tt_ix, tt_bo, tt_by, tt_nz, tt_ob, tt_st, tt_cpk, tt_c1, tt_c2, tt_ca, tt_cb, tt_some, kd_231, kd_0, Nat.reduceAdd, true_and, and_true, true_implies, not_true_eq_false, false_implies, not_false_eq_true, true_or, or_true]
    generalize h1 : z_up τ 1 6 s = τ1
    have o1 : ∀ x, x ≠ 1 → τ1 x = τ x := fun x hx => by rw [← h1, up_ne hx]
    have c1 : ∀ j, τ1 1 j = if j = 6 then s else τ 1 j := fun j => by rw [← h1, up_eq]
    have l1 : τ1 1 0 = L := by rw [c1, if_neg (by decide)]; exact h0
    have T1 : ∀ i, 0 ≤ i → i < L → τ1 2 i = T i := fun i i1 i2 => by rw [o1 2 (by decide)]; exact hT i i1 i2
    have fin : ∀ (τ2 : St) (ty en : Int), (∀ x, x ≠ 1 → τ2 x = τ1 x) → (∀ j, j ≠ 8 → τ2 1 j = if j = 5 then ty else τ1 1 j) → (TkS T L (τ 1 7) ty s en 100000 (τ2 1 8)) → A6 τ (z_up τ2 1 7 en) ∧ TkS T L (τ 1 7) (z_up τ2 1 7 en 1 5) (z_up τ2 1 7 en 1 6) (z_up τ2 1 7 en 1 7) 100000 (z_up τ2 1 7 en 1 8) := fun τ2 ty en f1 f2 f3 => by
      have u : ∀ j, z_up τ2 1 7 en 1 j = if j = 7 then en else τ2 1 j := fun j => by rw [up_eq]
      refine ⟨⟨fun x hx => by rw [up_ne hx, f1 x hx, o1 x hx], fun j j5 j6 j7 j8 => by rw [u, if_neg j7, f2 j j8, if_neg j5, c1, if_neg j6]⟩, ?_⟩
      rw [u, u, u, u, if_neg (by decide), if_neg (by decide), if_pos rfl, if_neg (by decide), f2 5 (by decide), if_pos rfl, f2 6 (by decide), if_neg (by decide), c1, if_pos rfl]
      exact f3
    have two : ∀ (ty : Int), (∀ x, x ≠ 1 → z_up τ1 1 5 ty x = τ1 x) ∧ ∀ j, z_up τ1 1 5 ty 1 j = if j = 5 then ty else τ1 1 j := fun ty => ⟨fun x hx => up_ne hx, fun j => by rw [up_eq]⟩
    rw [l1]
    by_cases q : s < L
    rotate_left
    · unfold f_X2_byteAt
      simp only [tt_gt, tt_sg, tt_ite, tt_ck, tt_lk, tt_ix, tt_bo, tt_by, tt_nz, tt_ob, tt_st, tt_cpk, tt_c1, tt_c2, tt_ca, tt_cb, tt_some, kd_231, kd_0, Nat.reduceAdd, true_and, and_true, true_implies, not_true_eq_false, false_implies, not_false_eq_true, true_or, or_true, show kdX 1 = 2 from rfl, l1]
      exact ⟨fun y => absurd y (by omega), fun _ => ⟨fun _ => ⟨fun y => absurd y q, fun _ => fin _ 0 s (two 0).1 (fun j _ => (two 0).2 j) ⟨hs, fun _ => ⟨rfl, rfl⟩, fun y => absurd y q⟩⟩, fun y => absurd y (by omega)⟩⟩
    rw [e_byte hL.2 l1 T1 hs0 q, tt_some]
    refine ⟨fun _ => e_letter.mono (fun r hr => ⟨fun z => e_digit.mono (fun r2 hr2 => ⟨fun z2 => ?_, fun z2 => ?_⟩), fun z => ?_⟩), fun y => absurd q y⟩
    · have nl : ¬ ltP (T s) := by
        rcases hr with y | y
        · omega
        · exact y.2
      have nd : ¬ dgP (T s) := by
        rcases hr2 with y | y
        · omega
        · exact y.2
      exact ⟨fun z3 => And.intro (by omega) (fin _ 4 (s + 1) (two 4).1 (fun j _ => (two 4).2 j) ⟨hs, fun y => absurd q y, fun _ => ⟨fun y => absurd y nl, fun _ => ⟨fun y => absurd y nd, fun _ => ⟨fun y => absurd y z3, fun _ => ⟨rfl, rfl⟩⟩⟩⟩⟩), fun z3 => And.intro (by omega) (fin _ 3 (s + 1) (two 3).1 (fun j _ => (two 3).2 j) ⟨hs, fun y => absurd q y, fun _ => ⟨fun y => absurd y nl, fun _ => ⟨fun y => absurd y nd, fun _ => ⟨fun _ => ⟨rfl, rfl⟩, fun y => absurd y z3⟩⟩⟩⟩)⟩
    · have nl : ¬ ltP (T s) := by
        rcases hr with y | y
        · omega
        · exact y.2
      have nd : dgP (T s) := by
        rcases hr2 with y | y
        · exact y.2
        · omega
      unfold f_X2_advanceNumber
      simp only [tt_gt, tt_sg, tt_ite, tt_ck, tt_lk, tt_ix, tt_bo, tt_by, tt_nz, tt_ob, tt_st, tt_cpk, tt_c1, tt_c2, tt_ca, tt_cb, tt_some, kd_231, kd_0, Nat.reduceAdd, true_and, and_true, true_implies, not_true_eq_false, false_implies, not_false_eq_true, true_or, or_true, show kdX 1 = 2 from rfl]
      generalize h2 : z_up (z_up τ1 1 5 2) 1 8 0 = τ2
      have o2 : ∀ x, x ≠ 1 → τ2 x = τ1 x := fun x hx => by rw [← h2, up_ne hx, up_ne hx]
      have c2 : ∀ j, τ2 1 j = if j = 8 then 0 else if j = 5 then 2 else τ1 1 j := fun j => by rw [← h2]; simp only [up_eq]
      refine lp_w (L := fun n (p : Int × St) => f_X2_advanceNumber_L7 F 1 s n p.1 p.2) (fun m p => ∃ i : Nat, p.1 = s + i ∧ s + i + m = L ∧ (∀ x, x ≠ 1 → p.2 x = τ1 x) ∧ (∀ j, p.2 1 j = if j = 8 then nmR T 100000 s i else if j = 5 then 2 else τ1 1 j) ∧ ∀ y, s ≤ y → y < s + i → dgP (T y)) (fun m n p hI ih => ?_) (L - s).toNat F (s, τ2) (by omega) ⟨0, by dsimp only; omega, by omega, o2, c2, fun y y1 y2 => absurd y2 (by omega)⟩
      obtain ⟨x, κ⟩ := p
      dsimp only at hI ih ⊢
      obtain ⟨i, rfl, i2, i3, i4, i5⟩ := hI
      have k0 : κ 1 0 = L := by rw [i4, if_neg (by decide), if_neg (by decide)]; exact l1
      have k8 : κ 1 8 = nmR T 100000 s i := by rw [i4, if_pos rfl]
      have kT : ∀ i, 0 ≤ i → i < L → κ 2 i = T i := fun i i1 i2 => by rw [i3 2 (by decide)]; exact T1 i i1 i2
      have nr := nm_rng (T := T) (st := s) (cap := 100000) (by decide) i (fun y y1 y2 => i5 y y1 (by omega))
      have done : (s + (i : Int) < L → ¬ dgP (T (s + i))) → A6 τ (z_up κ 1 7 (s + i)) ∧ TkS T L (τ 1 7) (z_up κ 1 7 (s + i) 1 5) (z_up κ 1 7 (s + i) 1 6) (z_up κ 1 7 (s + i) 1 7) 100000 (z_up κ 1 7 (s + i) 1 8) := fun hd => by
        refine fin κ 2 (s + i) i3 (fun j hj => by rw [i4, if_neg hj]) ⟨hs, fun y => absurd q y, fun _ => ⟨fun y => absurd y nl, fun _ => ⟨fun _ => ⟨rfl, ⟨by omega, by omega, fun y y1 y2 => i5 y y1 (by omega), hd⟩, ?_⟩, fun y => absurd nd y⟩⟩⟩
        rw [k8, show (s + (i : Int) - s).toNat = i by omega]
      rw [f_X2_advanceNumber_L7]
      simp only [tt_gt, tt_sg, tt_ite, tt_ck, tt_lk, tt_ix, tt_bo, tt_by, tt_nz, tt_ob, tt_st, tt_cpk, tt_c1, tt_c2, tt_ca, tt_cb, tt_some, kd_231, kd_0, Nat.reduceAdd, true_and, and_true, true_implies, not_true_eq_false, false_implies, not_false_eq_true, true_or, or_true, k0]
      refine ⟨fun z => done (fun y => absurd y (by omega)), fun z => ?_⟩
      rw [e_byte hL.2 k0 kT (by omega) (by omega)]
      simp only [tt_some]
      refine e_digit.mono (fun r hr => ⟨fun z2 => done (fun _ => ?_), fun z2 => ?_⟩)
      · rcases hr with y | y
        · omega
        · exact y.2
      · have hd : dgP (T (s + i)) := by
          rcases hr with y | y
          · exact y.2
          · omega
        have hd' := hd
        unfold dgP at hd'
        rw [k8]
        refine And.intro (by omega) (And.intro (by omega) (And.intro (by omega) (And.intro (by omega) (ih (m - 1) (s + (i : Int) + 1, z_up κ 1 8 (z_min (nmR T 100000 s i * 10 + (T (s + i) - 48)) 100000)) (by omega) ⟨i + 1, by dsimp only; omega, by omega, fun x hx => (up_ne hx).trans (i3 x hx), fun j => ?_, fun y y1 y2 => ?_⟩))))
        · dsimp only
          rw [up_eq]
          dsimp only
          by_cases y : j = 8
          · rw [if_pos y, if_pos y]
            unfold z_min
            simp only [nmR]
            rw [show nmR T 100000 s i * 10 = 10 * nmR T 100000 s i by omega]
          · rw [if_neg y, if_neg y, i4, if_neg y]
        · by_cases u : y = s + i
          · rw [u]; exact hd
          · exact i5 y y1 (by omega)
    · have nl : ltP (T s) := by
        rcases hr with y | y
        · exact y.2
        · omega
      refine lp_w (L := fun n (p : Int) => f_X2_advance_L69 F 1 n p (z_up τ1 1 5 1)) (fun m p => s ≤ p ∧ p + m = L ∧ ∀ y, s ≤ y → y < p → ltP (T y)) (fun m n p hI ih => ?_) (L - s).toNat F s (by omega) ⟨by omega, by omega, fun y y1 y2 => absurd y2 (by omega)⟩
      obtain ⟨i1, i2, i3⟩ := hI
      have k0 : z_up τ1 1 5 1 1 0 = L := by rw [(two 1).2, if_neg (by decide)]; exact l1
      have kT : ∀ i, 0 ≤ i → i < L → z_up τ1 1 5 1 2 i = T i := fun i i1 i2 => by rw [(two 1).1 2 (by decide)]; exact T1 i i1 i2
      have done : (p < L → ¬ ltP (T p)) → A6 τ (z_up (z_up τ1 1 5 1) 1 7 p) ∧ TkS T L (τ 1 7) (z_up (z_up τ1 1 5 1) 1 7 p 1 5) (z_up (z_up τ1 1 5 1) 1 7 p 1 6) (z_up (z_up τ1 1 5 1) 1 7 p 1 7) 100000 (z_up (z_up τ1 1 5 1) 1 7 p 1 8) := fun hd => fin _ 1 p (two 1).1 (fun j _ => (two 1).2 j) ⟨hs, fun y => absurd q y, fun _ => ⟨fun _ => ⟨rfl, i1, by omega, i3, hd⟩, fun y => absurd nl y⟩⟩
      rw [f_X2_advance_L69]
      unfold f_X2_advance_J133
      simp only [tt_gt, tt_sg, tt_ite, tt_ck, tt_lk, tt_ix, tt_bo, tt_by, tt_nz, tt_ob, tt_st, tt_cpk, tt_c1, tt_c2, tt_ca, tt_cb, tt_some, kd_231, kd_0, Nat.reduceAdd, true_and, and_true, true_implies, not_true_eq_false, false_implies, not_false_eq_true, true_or, or_true, k0]
      refine ⟨fun z => done (fun y => absurd y (by omega)), fun z => ?_⟩
      rw [e_byte hL.2 k0 kT (by omega) (by omega)]
      simp only [tt_some]
      refine e_letter.mono (fun r hr => ⟨fun z2 => done (fun _ => ?_), fun z2 => ?_⟩)
      · rcases hr with y | y
        · omega
        · exact y.2
      · have hd : ltP (T p) := by
          rcases hr with y | y
          · exact y.2
          · omega
        refine And.intro (by omega) (ih (m - 1) (p + 1) (by omega) ⟨by omega, by omega, fun y y1 y2 => ?_⟩)
        by_cases u : y = p
        · rw [u]; exact hd
        · exact i3 y y1 (by omega)
  unfold f_X2_advance
  simp only [tt_gt, tt_sg, tt_ite, tt_ck, tt_lk, tt_ix, tt_bo, tt_by, tt_nz, tt_ob, tt_st, tt_cpk, tt_c1, tt_c2, tt_ca, tt_cb, tt_some, kd_231, kd_0, Nat.reduceAdd, true_and, and_true, true_implies, not_true_eq_false, false_implies, not_false_eq_true, true_or, or_true, show kdX 1 = 2 from rfl]
  refine lp_w (L := fun n (p : Int) => f_X2_advance_L5 F 1 n p τ) (fun m p => τ 1 7 ≤ p ∧ p + m = L ∧ ∀ y, τ 1 7 ≤ y → y < p → blP (T y)) (fun m n p hI ih => ?_) (L - τ 1 7).toNat F (τ 1 7) (by omega) ⟨by omega, by omega, fun y y1 y2 => absurd y2 (by omega)⟩
  obtain ⟨i1, i2, i3⟩ := hI
  rw [f_X2_advance_L5]
  simp only [tt_gt, tt_sg, tt_ite, tt_ck, tt_lk, tt_ix, tt_bo, tt_by, tt_nz, tt_ob, tt_st, tt_cpk, tt_c1, tt_c2, tt_ca, tt_cb, tt_some, kd_231, kd_0, Nat.reduceAdd, true_and, and_true, true_implies, not_true_eq_false, false_implies, not_false_eq_true, true_or, or_true, h0]
  refine ⟨fun z => j30 p (by omega) ⟨i1, by omega, i3, fun y => absurd y (by omega)⟩, fun z => ?_⟩
  rw [e_byte hL.2 h0 hT (by omega) (by omega)]
  simp only [tt_some]
  refine e_blank.mono (fun r hr => ⟨fun z2 => j30 p (by omega) ⟨i1, by omega, i3, fun _ => ?_⟩, fun z2 => ?_⟩)
  · rcases hr with y | y
    · omega
    · exact y.2
  · have hd : blP (T p) := by
      rcases hr with y | y
      · exact y.2
      · omega
    refine And.intro (by omega) (ih (m - 1) (p + 1) (by omega) ⟨by omega, by omega, fun y y1 y2 => ?_⟩)
    by_cases u : y = p
    · rw [u]; exact hd
    · exact i3 y y1 (by omega)
