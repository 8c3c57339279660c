theorem u255 : ∀ k : Nat, k < 256 → z_and ((k : Int) - 128) 255 = if 0 ≤ (k : Int) - 128 then (k : Int) - 128 else (k : Int) - 128 + 256 := by decide +kernel
def seV (T : Int → Int) (L x : Int) : Int := if L ≤ x then -1 else if 0 ≤ T x then T x else T x + 256
theorem e_see {F : Nat} {κ : St} {T : Int → Int} {L x : Int} (hL : L ≤ 700) (h0 : κ 231 7 = L) (hT : ∀ i, 0 ≤ i → i < L → κ 235 i = T i ∧ -128 ≤ T i ∧ T i < 128) (hx : 0 ≤ x) : f_X7_see F 231 x κ = some (seV T L x) := by
  apply TT.eq
  unfold f_X7_see seV
  simp only [tt_gt, tt_sg, tt_ite, tt_ck, tt_lk, tt_ix, tt_bo, tt_by, tt_nz, tt_ob, tt_st, tt_cpk, tt_c1, tt_c2, tt_ca, tt_cb, tt_some, kd_231, kd_0, Nat.reduceAdd, true_and, and_true, true_implies, not_true_eq_false, false_implies, not_false_eq_true, true_or, or_true, h0]
  refine ⟨fun z => by rw [if_pos z], fun z => And.intro (by omega) ?_⟩
  have ht := hT x hx (by omega)
  rw [if_neg z, ht.1]
  have := u255 (T x + 128).toNat (by omega)
  rw [show (((T x + 128).toNat : Nat) : Int) - 128 = T x by omega] at this
  exact this
def A7 (κ κ' : St) : Prop := (∀ x, x ≠ 231 → κ' x = κ x) ∧ ∀ j, j ≠ 8 → j ≠ 9 → j ≠ 10 → j ≠ 11 → κ' 231 j = κ 231 j
theorem adv7 {F : Nat} {κ : St} {T : Int → Int} {L : Int} (hF : 1000 ≤ F) (hL : 0 ≤ L ∧ L ≤ 700) (h0 : κ 231 7 = L) (hT : ∀ i, 0 ≤ i → i < L → κ 235 i = T i ∧ -128 ≤ T i ∧ T i < 128) (hp : 0 ≤ κ 231 8 ∧ κ 231 8 ≤ L) : TT (f_X7_advance F 231 κ) (fun κ' => A7 κ κ' ∧ TkS T L (κ 231 8) (κ' 231 10) (κ' 231 9) (κ' 231 8) 99999 (κ' 231 11)) := by
  have rg : ∀ i, 0 ≤ i → i < L → -128 ≤ T i ∧ T i < 128 := fun i i1 i2 => (hT i i1 i2).2
  have sv : ∀ x, 0 ≤ x → x < L → seV T L x = if 0 ≤ T x then T x else T x + 256 := fun x x1 x2 => if_neg (by omega)
  have sL : ∀ x, L ≤ x → seV T L x = -1 := fun x x1 => if_pos x1
  have svb : ∀ x c, 0 ≤ x → x ≤ L → 0 ≤ c → c < 128 → (seV T L x = c ↔ x < L ∧ T x = c) := fun x c x1 x2 c1 c2 => by
    by_cases y : x < L
    · have := rg x x1 y
      rw [sv x x1 y]
      split <;> omega
    · rw [sL x (by omega)]
      omega
  have svr : ∀ x a b, 0 ≤ x → x ≤ L → 0 ≤ a → b < 128 → ((a ≤ seV T L x ∧ seV T L x ≤ b) ↔ x < L ∧ a ≤ T x ∧ T x ≤ b) := fun x a b x1 x2 a1 b1 => by
    by_cases y : x < L
    · have := rg x x1 y
      rw [sv x x1 y]
      split <;> omega
    · rw [sL x (by omega)]
      omega
  have fin : ∀ (κ2 : St) (ty st en nu : Int), (∀ x, x ≠ 231 → κ2 x = κ x) → (∀ j, j ≠ 8 → j ≠ 9 → j ≠ 10 → j ≠ 11 → κ2 231 j = κ 231 j) → κ2 231 10 = ty → κ2 231 9 = st → κ2 231 8 = en → κ2 231 11 = nu → TkS T L (κ 231 8) ty st en 99999 nu → A7 κ κ2 ∧ TkS T L (κ 231 8) (κ2 231 10) (κ2 231 9) (κ2 231 8) 99999 (κ2 231 11) := fun κ2 ty st en nu f1 f2 f3 f4 f5 f6 f7 => by
    rw [f3, f4, f5, f6]
    exact ⟨⟨f1, f2⟩, f7⟩
  unfold f_X7_advance
  simp only [tt_gt, tt_sg, tt_ite, tt_ck, tt_lk, tt_ix, tt_bo, tt_by, tt_nz, tt_ob, tt_st, tt_cpk, tt_c1, tt_c2, tt_ca, tt_cb, tt_some, kd_231, kd_0, Nat.reduceAdd, true_and, and_true, true_implies, not_true_eq_false, false_implies, not_false_eq_true, true_or, or_true]
  refine lp_w (L := fun n (p : St) => f_X7_advance_L0 F 231 n p) (fun m p => ∃ s, κ 231 8 ≤ s ∧ s + m = L ∧ (∀ x, x ≠ 231 → p x = κ x) ∧ (∀ j, p 231 j = if j = 8 then s else κ 231 j) ∧ ∀ y, κ 231 8 ≤ y → y < s → blP (T y)) (fun m n p hI ih => ?_) (L - κ 231 8).toNat F κ (by omega) ⟨κ 231 8, by omega, by omega, fun _ _ => rfl, fun j => ?_, fun y y1 y2 => absurd y2 (by omega)⟩
  rotate_left
  · by_cases y : j = 8
    · rw [if_pos y, y]
    · rw [if_neg y]
  obtain ⟨s, i1, i2, i3, i4, i5⟩ := hI
  have p8 : p 231 8 = s := by rw [i4, if_pos rfl]
  have p7 : p 231 7 = L := by rw [i4, if_neg (by decide)]; exact h0
  have pT : ∀ i, 0 ≤ i → i < L → p 235 i = T i ∧ -128 ≤ T i ∧ T i < 128 := fun i i1 i2 => by rw [i3 235 (by decide)]; exact hT i i1 i2
  have es := e_see (F := F) (x := s) hL.2 p7 pT (by omega)
  rw [f_X7_advance_L0]
  simp only [tt_gt, tt_sg, tt_ite, tt_ck, tt_lk, tt_ix, tt_bo, tt_by, tt_nz, tt_ob, tt_st, tt_cpk, tt_c1, tt_c2, tt_ca, tt_cb, tt_some, kd_231, kd_0, Nat.reduceAdd, true_and, and_true, true_implies, not_true_eq_false, false_implies, not_false_eq_true, true_or, or_true, p8, es]
  have nxt : s < L → blP (T s) → TT (f_X7_advance_L0 F 231 n (z_up p 231 8 (s + 1))) (fun κ' => A7 κ κ' ∧ TkS T L (κ 231 8) (κ' 231 10) (κ' 231 9) (κ' 231 8) 99999 (κ' 231 11)) := fun g1 g2 => by
    refine ih (m - 1) (z_up p 231 8 (s + 1)) (by omega) ⟨s + 1, by omega, by omega, fun x hx => (up_ne hx).trans (i3 x hx), fun j => ?_, fun y y1 y2 => ?_⟩
    · rw [up_eq]
      dsimp only
      by_cases y : j = 8
      · rw [if_pos y, if_pos y]
      · rw [if_neg y, if_neg y, i4, if_neg y]
    · by_cases u : y = s
      · rw [u]; exact g2
      · exact i5 y y1 (by omega)
  have hb := svb s
  refine ⟨fun z => And.intro (by omega) (nxt ((hb 32 (by omega) (by omega) (by decide) (by decide)).1 z).1 (Or.inl ((hb 32 (by omega) (by omega) (by decide) (by decide)).1 z).2)), fun z => ⟨fun z2 => ?_, fun z2 => And.intro (by omega) (nxt ((hb 10 (by omega) (by omega) (by decide) (by decide)).1 (Classical.byContradiction z2)).1 (Or.inr ((hb 10 (by omega) (by omega) (by decide) (by decide)).1 (Classical.byContradiction z2)).2))⟩⟩
  have hs : RnE blP T L (κ 231 8) s := by
    refine ⟨i1, by omega, i5, fun y1 y2 => ?_⟩
    rcases y2 with y2 | y2
    · exact z ((hb 32 (by omega) (by omega) (by decide) (by decide)).2 ⟨y1, y2⟩)
    · exact z2 ((hb 10 (by omega) (by omega) (by decide) (by decide)).2 ⟨y1, y2⟩)
  clear nxt ih
  generalize hq : z_up p 231 9 s = q
  have qo : ∀ x, x ≠ 231 → q x = κ x := fun x hx => by rw [← hq, up_ne hx, i3 x hx]
  have qc : ∀ j, q 231 j = if j = 9 then s else if j = 8 then s else κ 231 j := fun j => by
    rw [← hq, up_eq]
    dsimp only
    rw [i4]
  have q8 : q 231 8 = s := by rw [qc, if_neg (by decide), if_pos rfl]
  have q7 : q 231 7 = L := by rw [qc, if_neg (by decide), if_neg (by decide)]; exact h0
  have qT : ∀ i, 0 ≤ i → i < L → q 235 i = T i ∧ -128 ≤ T i ∧ T i < 128 := fun i i1 i2 => by rw [qo 235 (by decide)]; exact hT i i1 i2
  have eq := e_see (F := F) (x := s) hL.2 q7 qT (by omega)
  simp only [q8, eq, tt_some, e_in]
  have rl := svr s 97 122 (by omega) (by omega) (by decide) (by decide)
  have rd := svr s 48 57 (by omega) (by omega) (by decide) (by decide)
  refine ⟨fun z3 => ?_, fun z3 => ?_⟩
  rotate_left
  · have nL : ¬ s < L := fun y => by
      have := rg s (by omega) y
      rw [sv s (by omega) y] at z3
      refine z3 ?_
      split <;> omega
    refine fin _ 0 s s (z_up q 231 10 0 231 11) (fun x hx => by rw [up_ne hx, qo x hx]) (fun j j1 j2 j3 j4 => ?_) ?_ ?_ ?_ rfl ⟨hs, fun _ => ⟨rfl, rfl⟩, fun y => absurd y nL⟩
    · rw [up_eq]; dsimp only; rw [if_neg j3, qc, if_neg j2, if_neg j1]
    · rw [up_eq]; exact if_pos rfl
    · rw [up_eq]; dsimp only; rw [if_neg (by decide), qc, if_pos rfl]
    · rw [up_eq]; dsimp only; rw [if_neg (by decide)]; exact q8
  have sL' : s < L := Classical.byContradiction (fun y => z3 (sL s (by omega)))
  refine ⟨fun z4 => ⟨fun z5 => ?_, fun z5 => ?_⟩, fun z4 => ?_⟩
  · have nl : ¬ ltP (T s) := fun y => by
      rw [if_pos (rl.2 ⟨sL', y⟩)] at z4
      exact absurd z4 (by decide)
    have nd : ¬ dgP (T s) := fun y => by
      rw [if_pos (rd.2 ⟨sL', y⟩)] at z5
      exact absurd z5 (by decide)
    have u8 : ∀ v, z_up q 231 10 v 231 8 = s := fun v => by rw [up_eq]; dsimp only; rw [if_neg (by decide)]; exact q8
    have e59 := hb 59 (by omega) (by omega) (by decide) (by decide)
    have one : ∀ ty : Int, TkS T L (κ 231 8) ty s (s + 1) 99999 (z_up (z_up q 231 10 ty) 231 8 (s + 1) 231 11) → A7 κ (z_up (z_up q 231 10 ty) 231 8 (s + 1)) ∧ TkS T L (κ 231 8) (z_up (z_up q 231 10 ty) 231 8 (s + 1) 231 10) (z_up (z_up q 231 10 ty) 231 8 (s + 1) 231 9) (z_up (z_up q 231 10 ty) 231 8 (s + 1) 231 8) 99999 (z_up (z_up q 231 10 ty) 231 8 (s + 1) 231 11) := fun ty ht => by
      have uu : ∀ j, z_up (z_up q 231 10 ty) 231 8 (s + 1) 231 j = if j = 8 then s + 1 else if j = 10 then ty else q 231 j := fun j => by simp only [up_eq]
      refine fin _ ty s (s + 1) _ (fun x hx => by rw [up_ne hx, up_ne hx, qo x hx]) (fun j j1 j2 j3 j4 => ?_) ?_ ?_ ?_ rfl ht
      · rw [uu, if_neg j1, if_neg j3, qc, if_neg j2, if_neg j1]
      · rw [uu, if_neg (by decide), if_pos rfl]
      · rw [uu, if_neg (by decide), if_neg (by decide), qc, if_pos rfl]
      · rw [uu, if_pos rfl]
    simp only [u8]
    refine ⟨fun z6 => And.intro (by omega) (one 4 ⟨hs, fun y => absurd sL' y, fun _ => ⟨fun y => absurd y nl, fun _ => ⟨fun y => absurd y nd, fun _ => ⟨fun y => absurd (e59.2 ⟨sL', y⟩) z6, fun _ => ⟨rfl, rfl⟩⟩⟩⟩⟩), fun z6 => And.intro (by omega) (one 3 ⟨hs, fun y => absurd sL' y, fun _ => ⟨fun y => absurd y nl, fun _ => ⟨fun y => absurd y nd, fun _ => ⟨fun _ => ⟨rfl, rfl⟩, fun y => absurd (e59.1 (Classical.byContradiction z6)).2 y⟩⟩⟩⟩)⟩
  · have nl : ¬ ltP (T s) := fun y => by
      rw [if_pos (rl.2 ⟨sL', y⟩)] at z4
      exact absurd z4 (by decide)
    have nd : dgP (T s) := Classical.byContradiction (fun y => z5 (if_neg (fun u => y (rd.1 u).2)))
    refine lp_w (L := fun n (p : St) => f_X7_advance_L144 F 231 n p) (fun m p => ∃ i : Nat, s + i + m = L ∧ (∀ x, x ≠ 231 → p x = κ x) ∧ (∀ j, p 231 j = if j = 8 then s + i else if j = 11 then nmR T 99999 s i else if j = 9 then s else κ 231 j) ∧ ∀ y, s ≤ y → y < s + i → dgP (T y)) (fun m n p hI ih => ?_) (L - s).toNat F (z_up q 231 11 0) (by omega) ⟨0, by omega, fun x hx => by rw [up_ne hx, qo x hx], fun j => ?_, fun y y1 y2 => absurd y2 (by omega)⟩
    rotate_left
    · rw [up_eq]
      dsimp only
      rw [qc]
      by_cases y1 : j = 8
      · rw [if_neg (by omega), if_neg (by omega), if_pos y1, if_pos y1]; omega
      · rw [if_neg y1, if_neg y1]
        rfl
    obtain ⟨i, j2, j3, j4, j5⟩ := hI
    have p8 : p 231 8 = s + i := by rw [j4, if_pos rfl]
    have p11 : p 231 11 = nmR T 99999 s i := by rw [j4, if_neg (by decide), if_pos rfl]
    have p7 : p 231 7 = L := by rw [j4, if_neg (by decide), if_neg (by decide), if_neg (by decide)]; exact h0
    have pT : ∀ i, 0 ≤ i → i < L → p 235 i = T i ∧ -128 ≤ T i ∧ T i < 128 := fun i i1 i2 => by rw [j3 235 (by decide)]; exact hT i i1 i2
    have es := e_see (F := F) (x := s + i) hL.2 p7 pT (by omega)
    have nr := nm_rng (T := T) (st := s) (cap := 99999) (by decide) i (fun y y1 y2 => j5 y y1 (by omega))
    have rdi := svr (s + i) 48 57 (by omega) (by omega) (by decide) (by decide)
    rw [f_X7_advance_L144]
    simp only [tt_gt, tt_sg, tt_ite, tt_ck, tt_lk, tt_ix, tt_bo, tt_by, tt_nz, tt_ob, tt_st, tt_cpk, tt_c1, tt_c2, tt_ca, tt_cb, tt_some, kd_231, kd_0, Nat.reduceAdd, true_and, and_true, true_implies, not_true_eq_false, false_implies, not_false_eq_true, true_or, or_true, p8, es, e_in, p11]
    refine ⟨fun y => ?_, fun y => ?_⟩
    · have hd : s + (i : Int) < L → ¬ dgP (T (s + i)) := fun y1 y2 => by
        rw [if_pos (rdi.2 ⟨y1, y2⟩)] at y
        exact absurd y (by decide)
      have uu : ∀ j, z_up p 231 10 2 231 j = if j = 10 then 2 else p 231 j := fun j => by rw [up_eq]
      refine fin _ 2 s (s + i) (nmR T 99999 s i) (fun x hx => by rw [up_ne hx, j3 x hx]) (fun j k1 k2 k3 k4 => ?_) ?_ ?_ ?_ ?_ ⟨hs, fun y => absurd sL' y, fun _ => ⟨fun y => absurd y nl, fun _ => ⟨fun _ => ⟨rfl, ⟨by omega, by omega, fun y y1 y2 => j5 y y1 (by omega), hd⟩, ?_⟩, fun y => absurd nd y⟩⟩⟩
      · rw [uu, if_neg k3, j4, if_neg k1, if_neg k4, if_neg k2]
      · rw [uu, if_pos rfl]
      · rw [uu, if_neg (by decide), j4, if_neg (by decide), if_neg (by decide), if_pos rfl]
      · rw [uu, if_neg (by decide)]; exact p8
      · rw [uu, if_neg (by decide)]; exact p11
      · rw [show (s + (i : Int) - s).toNat = i by omega]
    · have hd := rdi.1 (Classical.byContradiction (fun u => y (if_neg u)))
      have sv' : seV T L (s + i) = T (s + i) := by rw [sv _ (by omega) hd.1, if_pos (by omega)]
      have u8 : ∀ v, z_up p 231 11 v 231 8 = s + i := fun v => by rw [up_eq]; dsimp only; rw [if_neg (by decide)]; exact p8
      rw [sv']
      simp only [u8]
      refine And.intro (by omega) (And.intro (by omega) (And.intro (by omega) (And.intro (by omega) (ih (m - 1) (z_up (z_up p 231 11 (z_min 99999 (10 * nmR T 99999 s i + T (s + i) - 48))) 231 8 (s + i + 1)) (by omega) ⟨i + 1, by omega, fun x hx => by rw [up_ne hx, up_ne hx, j3 x hx], fun j => ?_, fun y y1 y2 => ?_⟩))))
      · simp only [up_eq]
        by_cases k1 : j = 8
        · rw [if_pos k1, if_pos k1]; omega
        · rw [if_neg k1, if_neg k1]
          by_cases k2 : j = 11
          · rw [if_pos k2, if_pos k2]
            unfold z_min
            simp only [nmR]
            generalize nmR T 99999 s i = c
            generalize T (s + i) = d
            split <;> split <;> omega
          · rw [if_neg k2, if_neg k2, j4, if_neg k1, if_neg k2]
      · by_cases u : y = s + i
        · rw [u]; exact hd.2
        · exact j5 y y1 (by omega)
  · have nl : ltP (T s) := (rl.1 (Classical.byContradiction (fun u => z4 (if_neg u)))).2
    refine lp_w (L := fun n (p : St) => f_X7_advance_L83 F 231 n p) (fun m p => ∃ e, s ≤ e ∧ e + m = L ∧ (∀ x, x ≠ 231 → p x = κ x) ∧ (∀ j, p 231 j = if j = 8 then e else if j = 9 then s else κ 231 j) ∧ ∀ y, s ≤ y → y < e → ltP (T y)) (fun m n p hI ih => ?_) (L - s).toNat F q (by omega) ⟨s, by omega, by omega, qo, fun j => ?_, fun y y1 y2 => absurd y2 (by omega)⟩
    rotate_left
    · rw [qc]
      by_cases y1 : j = 8
      · rw [if_neg (by omega), if_pos y1, if_pos y1]
      · rw [if_neg y1, if_neg y1]
    obtain ⟨e, j1, j2, j3, j4, j5⟩ := hI
    have p8 : p 231 8 = e := by rw [j4, if_pos rfl]
    have p7 : p 231 7 = L := by rw [j4, if_neg (by decide), if_neg (by decide)]; exact h0
    have pT : ∀ i, 0 ≤ i → i < L → p 235 i = T i ∧ -128 ≤ T i ∧ T i < 128 := fun i i1 i2 => by rw [j3 235 (by decide)]; exact hT i i1 i2
    have es := e_see (F := F) (x := e) hL.2 p7 pT (by omega)
    have rli := svr e 97 122 (by omega) (by omega) (by decide) (by decide)
    rw [f_X7_advance_L83]
    simp only [tt_gt, tt_sg, tt_ite, tt_ck, tt_lk, tt_ix, tt_bo, tt_by, tt_nz, tt_ob, tt_st, tt_cpk, tt_c1, tt_c2, tt_ca, tt_cb, tt_some, kd_231, kd_0, Nat.reduceAdd, true_and, and_true, true_implies, not_true_eq_false, false_implies, not_false_eq_true, true_or, or_true, p8, es, e_in]
    refine ⟨fun y => ?_, fun y => ?_⟩
    · have hd : e < L → ¬ ltP (T e) := fun y1 y2 => by
        rw [if_pos (rli.2 ⟨y1, y2⟩)] at y
        exact absurd y (by decide)
      have uu : ∀ j, z_up p 231 10 1 231 j = if j = 10 then 1 else p 231 j := fun j => by rw [up_eq]
      refine fin _ 1 s e _ (fun x hx => by rw [up_ne hx, j3 x hx]) (fun j k1 k2 k3 k4 => ?_) ?_ ?_ ?_ rfl ⟨hs, fun y => absurd sL' y, fun _ => ⟨fun _ => ⟨rfl, j1, by omega, j5, hd⟩, fun y => absurd nl y⟩⟩
      · rw [uu, if_neg k3, j4, if_neg k1, if_neg k2]
      · rw [uu, if_pos rfl]
      · rw [uu, if_neg (by decide), j4, if_neg (by decide), if_pos rfl]
      · rw [uu, if_neg (by decide)]; exact p8
    · have hd := rli.1 (Classical.byContradiction (fun u => y (if_neg u)))
      refine And.intro (by omega) (ih (m - 1) (z_up p 231 8 (e + 1)) (by omega) ⟨e + 1, by omega, by omega, fun x hx => by rw [up_ne hx, j3 x hx], fun j => ?_, fun y y1 y2 => ?_⟩)
      · rw [up_eq]
        dsimp only
        by_cases k1 : j = 8
        · rw [if_pos k1, if_pos k1]
        · rw [if_neg k1, if_neg k1, j4, if_neg k1]
      · by_cases u : y = e
        · rw [u]; exact hd.2
        · exact j5 y y1 (by omega)
