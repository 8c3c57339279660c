def nxR (l : Int) (e : Nat) (σ : St) : Nat → Int
  | 0 => -1
  | m + 1 => if lft σ m ∧ (nxR l e σ m = -1 ∨ rkR l e σ m < rkR l e σ (nxR l e σ m)) then m else nxR l e σ m
theorem nx_rng (l : Int) (e : Nat) (σ : St) : ∀ m : Nat, -1 ≤ nxR l e σ m ∧ nxR l e σ m < m
  | 0 => by simp [nxR]
  | m + 1 => by
    have := nx_rng l e σ m
    unfold nxR
    split <;> omega
def scS (l : Int) (e : Nat) : Nat → St → St
  | 0, σ => σ
  | n + 1, σ => if nxR l e σ (σ 232 0).toNat = -1 then σ else scS l e n (kpS (nxR l e σ (σ 232 0).toNat) e 0 σ)
theorem nx_left (l : Int) (e : Nat) (σ : St) : ∀ m : Nat, nxR l e σ m ≠ -1 → lft σ (nxR l e σ m)
  | 0, h => absurd rfl h
  | m + 1, h => by
    unfold nxR at h ⊢
    by_cases q : lft σ m ∧ (nxR l e σ m = -1 ∨ rkR l e σ m < rkR l e σ (nxR l e σ m))
    · rw [if_pos q]; exact q.1
    · rw [if_neg q] at h ⊢
      exact nx_left l e σ m h
def lfN (σ : St) : Nat → Nat
  | 0 => 0
  | m + 1 => if lft σ m then lfN σ m + 1 else lfN σ m
theorem lf_le (σ : St) : ∀ m : Nat, lfN σ m ≤ m
  | 0 => Nat.le_refl 0
  | m + 1 => by
    have := lf_le σ m
    unfold lfN
    split <;> omega
theorem kp_ne {c e s : Int} {σ : St} {k : Nat} (h : k ≠ 245) (h2 : k ≠ 247) (h3 : k ≠ 248) (h4 : k ≠ 249) : kpS c e s σ k = σ k := by
  unfold kpS
  rw [up_ne h, up_ne h4, up_ne h2, up_ne h3]
theorem kp_248 {c e s : Int} {σ : St} (j : Int) : kpS c e s σ 248 j = if j = 32 * σ 231 29 + c then e else σ 248 j := by
  unfold kpS
  rw [up_ne (by decide), up_ne (by decide), up_ne (by decide), up_eq]
theorem kp_245 {c e s : Int} {σ : St} (j : Int) : kpS c e s σ 245 j = if j = σ 231 29 then σ 245 (σ 231 29) + 1 else σ 245 j := by
  unfold kpS
  rw [up_eq, up_ne (by decide), up_ne (by decide), up_ne (by decide)]
theorem kp_lft {c s : Int} {e : Int} {σ : St} (he : 0 ≤ e) (d : Int) : lft (kpS c e s σ) d ↔ lft σ d ∧ d ≠ c := by
  have h1 : kpS c e s σ 231 = σ 231 := kp_ne (by decide) (by decide) (by decide) (by decide)
  have h2 : kpS c e s σ 246 = σ 246 := kp_ne (by decide) (by decide) (by decide) (by decide)
  unfold lft
  rw [h1, h2, kp_248]
  by_cases q : 32 * σ 231 29 + d = 32 * σ 231 29 + c
  · rw [if_pos q]
    constructor
    · intro h; exact absurd h.2 (by omega)
    · intro h; exact absurd (show d = c by omega) h.2
  · rw [if_neg q]
    constructor
    · intro h; exact ⟨h, by omega⟩
    · intro h; exact h.1
theorem lf_kp {c s : Int} {e : Int} {σ : St} (he : 0 ≤ e) : ∀ m : Nat, 0 ≤ c → c < m → lft σ c → lfN (kpS c e s σ) m + 1 = lfN σ m := by
  have low : ∀ m : Nat, (m : Int) ≤ c → lfN (kpS c e s σ) m = lfN σ m := by
    intro m
    induction m with
    | zero => intro _; rfl
    | succ m ih =>
      intro h
      unfold lfN
      rw [ih (by omega)]
      by_cases q : lft σ m
      · rw [if_pos q, if_pos ((kp_lft he _).mpr ⟨q, by omega⟩)]
      · rw [if_neg q, if_neg (fun z => q ((kp_lft he _).mp z).1)]
  intro m
  induction m with
  | zero => intro h1 h2 _; exact absurd h2 (by omega)
  | succ m ih =>
    intro h1 h2 h3
    unfold lfN
    by_cases q : (m : Int) = c
    · rw [low m (by omega), if_neg (fun z => ((kp_lft (s := s) (σ := σ) he _).mp z).2 q), if_pos (show lft σ m by rw [q]; exact h3)]
    · have := ih h1 (by omega) h3
      by_cases q2 : lft σ m
      · rw [if_pos q2, if_pos ((kp_lft he _).mpr ⟨q2, q⟩)]
        omega
      · rw [if_neg q2, if_neg (fun z => q2 ((kp_lft he _).mp z).1)]
        omega
def Sok (σ : St) : Prop := 0 ≤ σ 232 0 ∧ σ 232 0 ≤ 32 ∧ 0 ≤ σ 231 29 ∧ σ 231 29 < 60 ∧ 0 ≤ σ 245 (σ 231 29) ∧ σ 245 (σ 231 29) + lfN σ (σ 232 0).toNat ≤ 32
theorem Sok.kp {c s e : Int} {σ : St} (h : Sok σ) (he : 0 ≤ e) (hc : 0 ≤ c ∧ c < σ 232 0) (hl : lft σ c) : Sok (kpS c e s σ) := by
  obtain ⟨h1, h2, h3, h4, h5, h6⟩ := h
  have e1 : kpS c e s σ 231 = σ 231 := kp_ne (by decide) (by decide) (by decide) (by decide)
  have e2 : kpS c e s σ 232 = σ 232 := kp_ne (by decide) (by decide) (by decide) (by decide)
  unfold Sok
  rw [e1, e2, kp_245, if_pos rfl]
  have := lf_kp (s := s) he (σ 232 0).toNat hc.1 (by omega) hl
  exact ⟨h1, h2, h3, h4, by omega, by omega⟩
theorem lf_pos {σ : St} {c : Int} : ∀ m : Nat, 0 ≤ c → c < m → lft σ c → 1 ≤ lfN σ m
  | 0, h1, h2, _ => absurd h2 (by omega)
  | m + 1, h1, h2, h3 => by
    unfold lfN
    by_cases q : (m : Int) = c
    · rw [if_pos (by rw [q]; exact h3)]; omega
    · have := lf_pos m h1 (by omega) h3
      split <;> omega
theorem scan_15 {F : Nat} {σ : St} {a1 l : Int} {K : Int → St → Option St} {P : St → Prop} (hF : 100 ≤ F) (hS : Sok σ) (e : Nat) (he : e ≤ 60) {x : Int} (hx : 0 ≤ x ∧ x ≤ 32) : ∀ (n m j : Nat), (j : Int) + m = σ 232 0 → m < n → (nxR l e σ (σ 232 0).toNat = -1 → P σ) → (nxR l e σ (σ 232 0).toNat ≠ -1 → TT (K (x + 1) (kpS (nxR l e σ (σ 232 0).toNat) e 0 σ)) P) → TT (f_X7_scanOn_L15 F 231 a1 e l K n x (nxR l e σ j) j σ) P := by
  obtain ⟨h1, h2, h3, h4, h5, h6⟩ := id hS
  intro n
  induction n with
  | zero => intro m j _ h; exact absurd h (Nat.not_lt_zero m)
  | succ n ih =>
    intro m j hm hn k1 k2
    have hr := nx_rng l e σ j
    rw [f_X7_scanOn_L15]
    by_cases q : σ 232 0 ≤ (j : Int)
    · have hj : (σ 232 0).toNat = j := by omega
      rw [hj] at k1 k2
      simp only [tt_gt, tt_sg, tt_ite, tt_ck, tt_lk, tt_ix, tt_bo, tt_by, tt_nz, tt_ob, tt_st, tt_cpk, tt_c1, tt_c2, tt_ca, tt_cb, tt_some, kd_231, kd_0, Nat.reduceAdd, true_and, and_true, true_implies, not_true_eq_false, false_implies, not_false_eq_true, ne_eq, true_or, or_true, q, e_cells]
      refine ⟨fun q2 => ?_, fun q2 => k1 (by omega)⟩
      have hl := nx_left l e σ j q2
      have hp := lf_pos (σ := σ) (c := nxR l e σ j) j (by omega) (by omega) hl
      rw [hj] at h6
      rw [e_keep (F := F) (σ := σ) (c := nxR l e σ j) (e := (e : Int)) (s := 0) (by omega) (by omega) (Or.inl rfl) (by omega), tt_some]
      exact And.intro (by omega) (k2 q2)
    · simp only [tt_gt, tt_sg, tt_ite, tt_ck, tt_lk, tt_ix, tt_bo, tt_by, tt_nz, tt_ob, tt_st, tt_cpk, tt_c1, tt_c2, tt_ca, tt_cb, tt_some, kd_231, kd_0, Nat.reduceAdd, true_and, and_true, true_implies, not_true_eq_false, false_implies, not_false_eq_true, ne_eq, true_or, or_true, q, e_cells]
      refine (e_isLeft (F := F) (σ := σ) (c := (j : Int)) (by omega) (by omega)).mono (fun r hr2 => ?_)
      have go : ∀ b : Int, b = nxR l e σ (j + 1) → TT (f_X7_scanOn_L15 F 231 a1 e l K n x b ((j : Int) + 1) σ) P := by
        intro b hb
        rw [hb, show (j : Int) + 1 = ((j + 1 : Nat) : Int) by omega]
        exact ih (m - 1) (j + 1) (by omega) (by omega) k1 k2
      rcases hr2 with ⟨hr1, hl⟩ | ⟨hr1, hl⟩
      · subst hr1
        refine ⟨fun z => absurd z (by decide), fun _ => ⟨fun q2 => And.intro (by omega) ?_, fun q2 => ?_⟩⟩
        · refine go _ ?_
          rw [nxR, if_pos ⟨hl, Or.inl (by omega)⟩]
        · rw [e_rankBy (F := F) (σ := σ) (l := l) (c := (j : Int)) hF (by omega) e he, tt_some, e_rankBy (F := F) (σ := σ) (l := l) (c := nxR l e σ j) hF (by omega) e he, tt_some]
          refine ⟨fun q3 => And.intro (by omega) (go _ ?_), fun q3 => And.intro (by omega) (go _ ?_)⟩
          · rw [nxR, if_neg (fun z => z.2.elim (fun z => q2 z) (fun z => by omega))]
          · rw [nxR, if_pos ⟨hl, Or.inr (by omega)⟩]
      · subst hr1
        refine ⟨fun _ => And.intro (by omega) (go _ ?_), fun z => absurd rfl z⟩
        rw [nxR, if_neg (fun z => hl z.1)]
theorem e_scanOn {F : Nat} {l : Int} (hF : 100 ≤ F) (e : Nat) (he : e ≤ 60) {a1 : Int} (ha : a1 ≤ 32) : ∀ (n m : Nat) (x : Int) (σ : St), Sok σ → 0 ≤ x → x + m = a1 → m < n → f_X7_scanOn_L3 F 231 a1 e l n x σ = some (scS l e m σ) := by
  intro n
  induction n with
  | zero => intro m x σ _ _ _ h; exact absurd h (Nat.not_lt_zero m)
  | succ n ih =>
    intro m x σ hS hx hm hn
    apply TT.eq
    rw [f_X7_scanOn_L3]
    by_cases q : a1 ≤ x
    · simp only [tt_gt, tt_sg, tt_ite, tt_ck, tt_lk, tt_ix, tt_bo, tt_by, tt_nz, tt_ob, tt_st, tt_cpk, tt_c1, tt_c2, tt_ca, tt_cb, tt_some, kd_231, kd_0, Nat.reduceAdd, true_and, and_true, true_implies, not_true_eq_false, false_implies, not_false_eq_true, ne_eq, true_or, or_true, q]
      rw [show m = 0 by omega, scS]
    · simp only [tt_gt, tt_sg, tt_ite, tt_ck, tt_lk, tt_ix, tt_bo, tt_by, tt_nz, tt_ob, tt_st, tt_cpk, tt_c1, tt_c2, tt_ca, tt_cb, tt_some, kd_231, kd_0, Nat.reduceAdd, true_and, and_true, true_implies, not_true_eq_false, false_implies, not_false_eq_true, ne_eq, true_or, or_true, q]
      obtain ⟨m, rfl⟩ : ∃ k, m = k + 1 := ⟨m - 1, by omega⟩
      have hr := nx_rng l e σ (σ 232 0).toNat
      have h0 := hS.1
      have h32 := hS.2.1
      refine scan_15 (l := l) (a1 := a1) hF hS e he (x := x) (by omega) F (σ 232 0).toNat 0 (by omega) (by omega) (fun q2 => ?_) (fun q2 => ?_)
      · rw [scS, if_pos q2]
      · rw [scS, if_neg q2]
        rw [ih m (x + 1) _ (hS.kp (by omega) (by omega) (nx_left l e σ _ q2)) (by omega) (by omega) (by omega), tt_some]
theorem e_scan {F : Nat} {l : Int} (hF : 100 ≤ F) (e : Nat) (he : e ≤ 60) {a1 : Int} (ha : 0 ≤ a1 ∧ a1 ≤ 32) {σ : St} (hS : Sok σ) : f_X7_scanOn F 231 a1 e l σ = some (scS l e a1.toNat σ) := by
  apply TT.eq
  unfold f_X7_scanOn
  simp only [tt_gt, tt_sg, tt_ite, tt_ck, tt_lk, tt_ix, tt_bo, tt_by, tt_nz, tt_ob, tt_st, tt_cpk, tt_c1, tt_c2, tt_ca, tt_cb, tt_some, kd_231, kd_0, Nat.reduceAdd, true_and, and_true, true_implies, not_true_eq_false, false_implies, not_false_eq_true, ne_eq, true_or, or_true]
  rw [e_scanOn hF e he ha.2 F a1.toNat 0 σ hS (by omega) (by omega) (by omega), tt_some]
