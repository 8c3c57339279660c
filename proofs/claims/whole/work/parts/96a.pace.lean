theorem md1 {e g M : Nat} (hg : g % e = 0) (h1 : g < M) (h2 : M ≤ g + e) : M % e = 0 ↔ M = g + e := by
  constructor
  · intro h
    obtain ⟨d, rfl⟩ : ∃ d, M = g + d := ⟨M - g, by omega⟩
    rw [Nat.add_mod, hg, Nat.zero_add, Nat.mod_mod] at h
    apply Classical.byContradiction
    intro z
    rw [Nat.mod_eq_of_lt (by omega)] at h
    omega
  · intro h
    rw [h, Nat.add_mod_right]
    exact hg
abbrev cmd (w : Int → Int) (x : Nat) : Prop := w (6 + 4 * (x : Int)) < 4
theorem cmN_s (w : Int → Int) (n : Nat) : cmN w (n + 1) = cmN w n + (if w (6 + 4 * (n : Int)) < 4 then 1 else 0) := rfl
theorem cmN_mono {w : Int → Int} {a : Nat} : ∀ b : Nat, a ≤ b → cmN w a ≤ cmN w b
  | 0, h => by rw [show a = 0 by omega]; exact Int.le_refl _
  | b + 1, h => by
    by_cases q : a = b + 1
    · rw [q]; exact Int.le_refl _
    · have := cmN_mono (w := w) (a := a) b (by omega)
      rw [cmN_s]
      split <;> omega
theorem cmN_cmd {w : Int → Int} {x i : Nat} (h : cmd w x) (hx : x < i) : cmN w x + 1 ≤ cmN w i := by
  have h1 := cmN_mono (w := w) (a := x + 1) i (by omega)
  rw [cmN_s, if_pos h] at h1
  exact h1
def cinR (w : Int → Int) (lo hi c : Int) : Nat → Int
  | 0 => 0
  | x + 1 => if (w (6 + 4 * (x : Int)) < 4 ∧ lo ≤ cmN w x ∧ cmN w x < hi) ∧ chg w (fun _ => 0) x c ≠ 0 then 1 else cinR w lo hi c x
theorem cin_iff (w : Int → Int) (lo hi c : Int) : ∀ n : Nat, (cinR w lo hi c n = 0 ∨ cinR w lo hi c n = 1) ∧ (cinR w lo hi c n = 1 ↔ ∃ x : Nat, x < n ∧ (cmd w x ∧ lo ≤ cmN w x ∧ cmN w x < hi) ∧ chg w (fun _ => 0) x c ≠ 0)
  | 0 => ⟨Or.inl rfl, ⟨fun z => absurd (show (0 : Int) = 1 from z) (by decide), fun ⟨x, h, _⟩ => absurd h (Nat.not_lt_zero x)⟩⟩
  | n + 1 => by
    have ih := cin_iff w lo hi c n
    rw [cinR]
    by_cases q : (w (6 + 4 * (n : Int)) < 4 ∧ lo ≤ cmN w n ∧ cmN w n < hi) ∧ chg w (fun _ => 0) n c ≠ 0
    · rw [if_pos q]
      exact ⟨Or.inr rfl, ⟨fun _ => ⟨n, by omega, q⟩, fun _ => rfl⟩⟩
    · rw [if_neg q]
      refine ⟨ih.1, ⟨fun z => ?_, fun ⟨x, h1, h2⟩ => ?_⟩⟩
      · obtain ⟨x, h1, h2⟩ := ih.2.mp z
        exact ⟨x, by omega, h2⟩
      · refine ih.2.mpr ⟨x, ?_, h2⟩
        by_cases z : x = n
        · rw [z] at h2; exact absurd h2 q
        · omega
def CIn (w : Int → Int) (lo hi : Int) : Int := sm (fun c => cinR w lo hi c (evN w).toNat) (w 0).toNat
theorem CIn_rng {w : Int → Int} (lo hi : Int) (hw : 0 ≤ w 0 ∧ w 0 ≤ 32) : 0 ≤ CIn w lo hi ∧ CIn w lo hi ≤ 32 := by
  have := sm_rng (f := fun c => cinR w lo hi c (evN w).toNat) (M := 1) (w 0).toNat (fun i _ => by have := (cin_iff w lo hi i (evN w).toNat).1; omega)
  unfold CIn
  omega
def KpR (w : Int → Int) (e : Nat) : Nat → Int
  | 0 => 0
  | M + 1 => if M = 0 then w 0 else if M % e = 0 then KpR w e M + CIn w ((M : Int) - e) M else KpR w e M
theorem KpR_rng {w : Int → Int} (e : Nat) (hw : 0 ≤ w 0 ∧ w 0 ≤ 32) : ∀ M : Nat, 0 ≤ KpR w e M ∧ KpR w e M ≤ 32 * M
  | 0 => by simp [KpR]
  | M + 1 => by
    have ih := KpR_rng e hw M
    have hc := CIn_rng (w := w) ((M : Int) - e) M hw
    rw [KpR]
    split
    · omega
    · split <;> omega
theorem Kp_const {w : Int → Int} {e g : Nat} (hg : g % e = 0) : ∀ M : Nat, g < M → M ≤ g + e → KpR w e M = KpR w e (g + 1)
  | 0, h, _ => absurd h (Nat.not_lt_zero g)
  | M + 1, h1, h2 => by
    by_cases q : M = g
    · rw [q]
    · have ih := Kp_const (w := w) hg M (by omega) (by omega)
      have hm : ¬ M % e = 0 := fun z => by
        have := (md1 hg (by omega) (by omega)).mp z
        omega
      rw [KpR, if_neg (by omega), if_neg hm]
      exact ih
theorem chg_0 {w : Int → Int} {x : Nat} {c : Int} (hw : WF w) (hx : (x : Int) < evN w) (hc : w 0 ≤ c) : chg w (fun _ => 0) x c = 0 := by
  unfold chg
  rw [val_hi hw x c (by omega) hc, val_hi hw (x + 1) c (by omega) hc, if_pos rfl]
theorem chg_iff {w : Int → Int} {x : Nat} {c : Int} : chg w (fun _ => 0) x c ≠ 0 ↔ Val w (fun _ => 0) (x + 1) c ≠ Val w (fun _ => 0) x c := by
  unfold chg
  by_cases z : Val w (fun _ => 0) x c = Val w (fun _ => 0) (x + 1) c
  · rw [if_pos z]
    exact ⟨fun y => absurd rfl y, fun y => absurd z.symm y⟩
  · rw [if_neg z]
    exact ⟨fun _ y => z y.symm, fun _ => by decide⟩
theorem kp_c {F : Nat} {w : Int → Int} {e : Nat} {τ : St} (hF : 100 ≤ F) (hw : WF w) (hS : SR 4 τ w) (he : 1 ≤ e ∧ e ≤ 20) : TT (f_X6_keptByPace F 0 e τ) (fun r => r.1 = KpR w e (cmN w (evN w).toNat).toNat ∧ OB 208 τ r.2) := by
  have h60 := hw.ev60
  have hw0 : 0 ≤ w 0 ∧ w 0 ≤ 32 := ⟨hw.1.1, hw.1.2.1⟩
  have e0 := hS.1 0 (by decide) (by decide)
  unfold f_X6_keptByPace
  simp only [tt_gt, tt_sg, tt_ite, tt_ck, tt_lk, tt_ix, tt_bo, tt_by, tt_nz, tt_ob, tt_st, tt_cpk, tt_c1, tt_c2, tt_ca, tt_cb, tt_some, kd_231, kd_0, Nat.reduceAdd, true_and, and_true, true_implies, not_true_eq_false, false_implies, not_false_eq_true, true_or, or_true, Nat.zero_add, e0]
  refine (clear_ok (F := F) (b := 208) hF rfl rfl rfl hw0).mono (fun σ1 h1 => ?_)
  refine lp_w (L := fun n (p : Int × Int × Int × Int × St) => f_X6_keptByPace_L24 F 0 e n p.1 p.2.1 p.2.2.1 p.2.2.2.1 p.2.2.2.2) (fun m p => ∃ (i M g : Nat), p.2.2.2.1 = i ∧ (i : Int) + m = evN w ∧ p.2.1 = M ∧ cmN w i = M ∧ p.1 = KpR w e M ∧ g % e = 0 ∧ (M = 0 → g = 0) ∧ (0 < M → g < M ∧ M ≤ g + e) ∧ (∀ c : Nat, c < 32 → (bt p.2.2.1 c ↔ cinR w g M c i = 1)) ∧ OB 208 τ p.2.2.2.2 ∧ BR 208 p.2.2.2.2 (w 0) (Val w (fun _ => 0) i)) (fun m n p hI ih => ?_) (evN w).toNat F (0, 0, 0, 0, σ1) (by omega) ⟨0, 0, 0, rfl, by omega, rfl, rfl, rfl, Nat.zero_mod e, fun _ => rfl, fun z => absurd z (Nat.lt_irrefl 0), fun c hc => ⟨fun z => absurd z (bt_zero ⟨by omega, by omega⟩), fun z => absurd (show (0 : Int) = 1 from z) (by decide)⟩, h1.1, h1.2⟩
  obtain ⟨x, y, d, j, τ2⟩ := p
  dsimp only at hI ih ⊢
  obtain ⟨i, M, g, rfl, i2, rfl, i4, i5, i6, i7, i8, i9, i10, i11⟩ := hI
  have S2 := hS.ob i10 (Or.inl (by decide))
  have f0 := S2.1 0 (by decide) (by decide)
  have hMr := cmN_rng w i
  have hxr := KpR_rng (w := w) e hw0 M
  rw [← i5] at hxr
  rw [f_X6_keptByPace_L24]
  simp only [tt_gt, tt_sg, tt_ite, tt_ck, tt_lk, tt_ix, tt_bo, tt_by, tt_nz, tt_ob, tt_st, tt_cpk, tt_c1, tt_c2, tt_ca, tt_cb, tt_some, kd_231, kd_0, Nat.reduceAdd, true_and, and_true, true_implies, not_true_eq_false, false_implies, not_false_eq_true, true_or, or_true, Nat.zero_add, e4_size (F := F) (s := 4) rfl S2 hw, f0]
  refine ⟨fun z => ⟨?_, i10⟩, fun z => ?_⟩
  · rw [i5, show (evN w).toNat = i by omega, i4, Int.toNat_natCast]
  · have hiN : (i : Int) < evN w := by omega
    rw [e4_isCommand (F := F) (s := 4) (e := (i : Int)) rfl S2 hw ⟨by omega, hiN⟩, tt_some]
    have j87 : ∀ (x' d' : Int) (g' : Nat), cmd w i → x' = KpR w e (M + 1) → g' % e = 0 → g' < M + 1 → M + 1 ≤ g' + e → (∀ c : Nat, c < 32 → (bt d' c ↔ cinR w g' M c i = 1)) → TT (f_X6_keptByPace_J87 F 0 e (f_X6_keptByPace_L24 F 0 e n) x' M d' i τ2) (fun r => r.1 = KpR w e (cmN w (evN w).toNat).toNat ∧ OB 208 τ r.2) := by
      intro x' d' g' hcm hx' hg1 hg2 hg3 hd'
      unfold f_X6_keptByPace_J87
      simp only [tt_gt, tt_sg, tt_ite, tt_ck, tt_lk, tt_ix, tt_bo, tt_by, tt_nz, tt_ob, tt_st, tt_cpk, tt_c1, tt_c2, tt_ca, tt_cb, tt_some, kd_231, kd_0, Nat.reduceAdd, true_and, and_true, true_implies, not_true_eq_false, false_implies, not_false_eq_true, true_or, or_true, Nat.zero_add]
      refine (e0_apply (F := F) (b := 208) (s := 4) (e := (i : Int)) hF rfl rfl S2 hw ⟨by omega, hiN⟩ i11.1 (i11.b255 hw (by omega))).mono (fun r hr => And.intro (by omega) (And.intro (by omega) (ih (m - 1) (x', (M : Int) + 1, z_or d' r.1, (i : Int) + 1, r.2) (by omega) ⟨i + 1, M + 1, g', by dsimp only; omega, by omega, by dsimp only; omega, by rw [cmN_s, if_pos hcm, i4]; omega, hx', hg1, fun y => absurd y (by omega), fun _ => ⟨hg2, hg3⟩, fun c hc => ?_, i10.tr (fun k k1 k2 => hr.1 k k2), ap_val (r := r) hw hiN i11 rfl hr⟩)))
      have B2 := ap_val (r := r) hw hiN i11 rfl hr
      dsimp only
      rw [bt_or ⟨by omega, by omega⟩, hd' c hc, hr.2.2.2 c (by omega) (by omega), B2.2 c (by omega) (by omega), i11.2 c (by omega) (by omega), (cin_iff w g' M c i).2, (cin_iff w g' ((M + 1 : Nat) : Int) c (i + 1)).2]
      constructor
      · rintro (⟨v, v1, v2, v3⟩ | u)
        · exact ⟨v, by omega, ⟨v2.1, v2.2.1, by omega⟩, v3⟩
        · exact ⟨i, by omega, ⟨hcm, by rw [i4]; omega, by rw [i4]; omega⟩, chg_iff.mpr u⟩
      · rintro ⟨v, v1, v2, v3⟩
        by_cases b : v = i
        · rw [b] at v3
          exact Or.inr (chg_iff.mp v3)
        · have := cmN_cmd v2.1 (show v < i by omega)
          exact Or.inl ⟨v, by omega, ⟨v2.1, v2.2.1, by omega⟩, v3⟩
    refine ⟨fun z2 => ?_, fun z2 => And.intro (by omega) (ih (m - 1) (x, (M : Int), d, (i : Int) + 1, τ2) (by omega) ?_)⟩
    · have hcm : cmd w i := Classical.byContradiction fun u => z2 (if_neg u)
      refine ⟨fun z3 => ⟨fun z4 => absurd z4 (by omega), fun z4 => And.intro (by omega) ?_⟩, fun z3 => ?_⟩
      · have hM0 : 0 < M := by omega
        obtain ⟨b1, b2⟩ := i8 hM0
        rw [← Int.ofNat_tmod]
        refine ⟨fun z5 => ?_, fun z5 => ?_⟩
        · have hm : ¬ M % e = 0 := by omega
          have : ¬ M = g + e := fun u => hm ((md1 i6 b1 b2).mpr u)
          exact j87 x d g hcm (by rw [KpR, if_neg (by omega), if_neg hm]; exact i5) i6 (by omega) (by omega) i9
        · have hm : M % e = 0 := by
            have := Classical.byContradiction z5
            omega
          have hge := (md1 i6 b1 b2).mp hm
          rw [bitc_ok, tt_some]
          have hbc : bc d 32 = CIn w ((M : Int) - e) M := by
            unfold CIn
            have cut : ∀ c : Int, cinR w g M c i = cinR w ((M : Int) - e) M c (evN w).toNat := fun c => by
              have a1 := cin_iff w g M c i
              have a2 := cin_iff w ((M : Int) - e) M c (evN w).toNat
              have a3 : cinR w g M c i = 1 ↔ cinR w ((M : Int) - e) M c (evN w).toNat = 1 := by
                rw [a1.2, a2.2]
                constructor
                · rintro ⟨v, v1, v2, v3⟩
                  exact ⟨v, by omega, ⟨v2.1, by omega, v2.2.2⟩, v3⟩
                · rintro ⟨v, v1, v2, v3⟩
                  refine ⟨v, ?_, ⟨v2.1, by omega, v2.2.2⟩, v3⟩
                  apply Classical.byContradiction
                  intro u
                  have := cmN_mono (w := w) (a := i) v (by omega)
                  omega
              rcases a1.1 with u | u
              · rcases a2.1 with v | v
                · rw [u, v]
                · have := a3.mpr v; omega
              · rw [u, a3.mp u]
            refine bc_eq (by omega) (fun c hc => ?_) (fun c c1 c2 u => ?_)
            · rw [← cut]
              have := i9 c (by omega)
              rcases (cin_iff w g M c i).1 with u | u
              · rw [u, if_neg (fun v => by have := this.mp v; omega)]
              · rw [u, if_pos (this.mpr u)]
            · obtain ⟨v, v1, v2, v3⟩ := (cin_iff w g M c i).2.mp ((i9 c c2).mp u)
              exact v3 (chg_0 hw (by omega) (by omega))
          rw [hbc]
          have hcr := CIn_rng (w := w) ((M : Int) - e) M hw0
          refine And.intro (by omega) (j87 _ 0 M hcm (by rw [KpR, if_neg (by omega), if_pos hm, i5]) hm (by omega) (by omega) (fun c hc => ⟨fun u => absurd u (bt_zero ⟨by omega, by omega⟩), fun u => ?_⟩))
          obtain ⟨v, v1, v2, v3⟩ := (cin_iff w M M c i).2.mp u
          have := v2.2
          omega
      · have hM0 : M = 0 := by omega
        have hg0 := i7 hM0
        subst hM0
        subst hg0
        exact j87 (w 0) d 0 hcm (by rw [KpR, if_pos rfl]) (Nat.zero_mod e) (by omega) (by omega) i9
    · have hcm : ¬ cmd w i := fun u => z2 (by rw [if_pos u]; decide)
      refine ⟨i + 1, M, g, by dsimp only; omega, by omega, rfl, by rw [cmN_s, if_neg hcm, i4, Int.add_zero], i5, i6, i7, i8, fun c hc => ?_, i10, ⟨i11.1, fun c c1 c2 => ?_⟩⟩
      · dsimp only
        rw [i9 c hc, cinR, if_neg (fun u => hcm u.1.1)]
      · dsimp only
        rw [i11.2 c c1 c2, Val, if_neg (fun u => hcm u.2)]
theorem lcm_ok {F : Nat} {w : Int → Int} {τ : St} (hF : 100 ≤ F) (hw : WF w) (h2 : τ 232 = w) : TT (f_X7_layCommands F 231 τ) (fun r => r.1 = cmN w (evN w).toNat ∧ (∀ k, k ≠ 252 → r.2 k = τ k) ∧ ∀ x : Nat, (x : Int) < evN w → cmd w x → r.2 252 (cmN w x) = x) := by
  have h60 := hw.ev60
  unfold f_X7_layCommands
  simp only [tt_gt, tt_sg, tt_ite, tt_ck, tt_lk, tt_ix, tt_bo, tt_by, tt_nz, tt_ob, tt_st, tt_cpk, tt_c1, tt_c2, tt_ca, tt_cb, tt_some, kd_231, kd_0, Nat.reduceAdd, true_and, and_true, true_implies, not_true_eq_false, false_implies, not_false_eq_true, true_or, or_true]
  refine lp_w (L := fun n (p : Int × Int × St) => f_X7_layCommands_L4 F 231 n p.1 p.2.1 p.2.2) (fun m p => ∃ i : Nat, p.2.1 = i ∧ (i : Int) + m = evN w ∧ p.1 = cmN w i ∧ (∀ k, k ≠ 252 → p.2.2 k = τ k) ∧ ∀ x : Nat, x < i → cmd w x → p.2.2 252 (cmN w x) = x) (fun m n p hI ih => ?_) (evN w).toNat F (0, 0, τ) (by omega) ⟨0, rfl, by omega, rfl, fun _ _ => rfl, fun x hx => absurd hx (Nat.not_lt_zero x)⟩
  obtain ⟨x, j, τ2⟩ := p
  dsimp only at hI ih ⊢
  obtain ⟨i, rfl, i2, i3, i4, i5⟩ := hI
  have e32 : τ2 232 = w := (i4 232 (by decide)).trans h2
  have ee := e_events (F := F) (σ := τ2) (by rw [e32]; exact hw.1)
  rw [e32] at ee
  have hr := cmN_rng w i
  rw [f_X7_layCommands_L4]
  simp only [tt_gt, tt_sg, tt_ite, tt_ck, tt_lk, tt_ix, tt_bo, tt_by, tt_nz, tt_ob, tt_st, tt_cpk, tt_c1, tt_c2, tt_ca, tt_cb, tt_some, kd_231, kd_0, Nat.reduceAdd, true_and, and_true, true_implies, not_true_eq_false, false_implies, not_false_eq_true, true_or, or_true, ee]
  refine ⟨fun z => ⟨by rw [i3, show (evN w).toNat = i by omega], i4, fun x hx hc => i5 x (by omega) hc⟩, fun z => ?_⟩
  rw [e_isCommand (F := F) (σ := τ2) ⟨by omega, by omega⟩, tt_some, e32]
  by_cases u : w (6 + 4 * (i : Int)) < 4
  · rw [if_pos u]
    refine ⟨fun _ => And.intro (by omega) (And.intro (by omega) (And.intro (by omega) (ih (m - 1) (x + 1, (i : Int) + 1, z_up τ2 252 x i) (by omega) ⟨i + 1, by dsimp only; omega, by omega, by dsimp only; rw [cmN_s, if_pos u, i3], fun k hk => (up_ne hk).trans (i4 k hk), fun v hv hc => ?_⟩))), fun y => absurd (by decide) y⟩
    dsimp only
    rw [up_eq]
    dsimp only
    by_cases b : v = i
    · rw [b, if_pos i3.symm]
    · have := cmN_cmd hc (show v < i by omega)
      rw [if_neg (by omega)]
      exact i5 v (by omega) hc
  · rw [if_neg u]
    refine ⟨fun y => absurd rfl y, fun _ => And.intro (by omega) (ih (m - 1) (x, (i : Int) + 1, τ2) (by omega) ⟨i + 1, by dsimp only; omega, by omega, by dsimp only; rw [cmN_s, if_neg u, i3, Int.add_zero], i4, fun v hv hc => ?_⟩)⟩
    by_cases b : v = i
    · rw [b] at hc; exact absurd hc u
    · exact i5 v (by omega) hc
theorem cmN_ex {w : Int → Int} {k : Int} (hk : 0 ≤ k) : ∀ n : Nat, k < cmN w n → ∃ x : Nat, x < n ∧ cmd w x ∧ cmN w x = k
  | 0, h => by have : cmN w 0 = 0 := rfl; omega
  | n + 1, h => by
    by_cases q : k < cmN w n
    · obtain ⟨x, x1, x2, x3⟩ := cmN_ex hk n q
      exact ⟨x, by omega, x2, x3⟩
    · rw [cmN_s] at h
      by_cases z : w (6 + 4 * (n : Int)) < 4
      · rw [if_pos z] at h
        exact ⟨n, by omega, z, by omega⟩
      · rw [if_neg z] at h
        omega
theorem ci_ok {F : Nat} {w : Int → Int} {ν : St} {s e : Nat} (hF : 100 ≤ F) (hw : WF w) (h2 : ν 232 = w) (hv : ∀ (t : Nat) (c : Int), (t : Int) < evN w → 0 ≤ c → c < 32 → ν 240 (32 * t + c) = chg w (fun _ => 0) t c) (h52 : ∀ x : Nat, (x : Int) < evN w → cmd w x → ν 252 (cmN w x) = x) (he : e ≤ 20) (hse : ((s + e : Nat) : Int) ≤ cmN w (evN w).toNat) : TT (f_X7_changedIn F 231 s e ν) (fun r => r = CIn w s ((s + e : Nat) : Int)) := by
  have h60 := hw.ev60
  have hw0 : 0 ≤ w 0 ∧ w 0 ≤ 32 := ⟨hw.1.1, hw.1.2.1⟩
  have hcr := cmN_rng w (evN w).toNat
  have c01 := fun c : Int => (cin_iff w s ((s + e : Nat) : Int) c (evN w).toNat).1
  unfold f_X7_changedIn CIn
  simp only [tt_gt, tt_sg, tt_ite, tt_ck, tt_lk, tt_ix, tt_bo, tt_by, tt_nz, tt_ob, tt_st, tt_cpk, tt_c1, tt_c2, tt_ca, tt_cb, tt_some, kd_231, kd_0, Nat.reduceAdd, true_and, and_true, true_implies, not_true_eq_false, false_implies, not_false_eq_true, true_or, or_true]
  refine cnt (L := fun n x i => f_X7_changedIn_L5 F 231 s e ν n x i) (w 0).toNat (fun c => cinR w s ((s + e : Nat) : Int) c (evN w).toNat) (by omega) (fun n => ?_) (fun n i hi ht => ?_)
  · try dsimp only
    rw [f_X7_changedIn_L5]
    simp only [tt_gt, tt_sg, tt_ite, tt_ck, tt_lk, tt_ix, tt_bo, tt_by, tt_nz, tt_ob, tt_st, tt_cpk, tt_c1, tt_c2, tt_ca, tt_cb, tt_some, kd_231, kd_0, Nat.reduceAdd, true_and, and_true, true_implies, not_true_eq_false, false_implies, not_false_eq_true, true_or, or_true, e_cells, h2]
    exact ⟨fun _ => trivial, fun z => absurd z (by omega)⟩
  · have hr := sm_rng (f := fun c => cinR w s ((s + e : Nat) : Int) c (evN w).toNat) (M := 1) i (fun j _ => by have := c01 j; omega)
    try dsimp only at ht hr ⊢
    rw [f_X7_changedIn_L5]
    simp only [tt_gt, tt_sg, tt_ite, tt_ck, tt_lk, tt_ix, tt_bo, tt_by, tt_nz, tt_ob, tt_st, tt_cpk, tt_c1, tt_c2, tt_ca, tt_cb, tt_some, kd_231, kd_0, Nat.reduceAdd, true_and, and_true, true_implies, not_true_eq_false, false_implies, not_false_eq_true, true_or, or_true, e_cells, h2]
    refine ⟨fun z => absurd z (by omega), fun _ => ?_⟩
    generalize hX : sm (fun c => cinR w s ((s + e : Nat) : Int) c (evN w).toNat) i = X at ht hr ⊢
    refine lp_w (L := fun n2 (p : Int × Int) => f_X7_changedIn_L20 F 231 s e (f_X7_changedIn_L5 F 231 s e ν n) ν n2 X i p.1 p.2) (fun m p => ∃ k : Nat, p.2 = k ∧ k + m = s + e ∧ s ≤ k ∧ ((p.1 = 1 ∧ ∃ x : Nat, x < (evN w).toNat ∧ (cmd w x ∧ (s : Int) ≤ cmN w x ∧ cmN w x < k) ∧ chg w (fun _ => 0) x i ≠ 0) ∨ (p.1 = 0 ∧ ∀ x : Nat, x < (evN w).toNat → (cmd w x ∧ (s : Int) ≤ cmN w x ∧ cmN w x < k) → chg w (fun _ => 0) x i = 0))) (fun m n2 p hI ih => ?_) e F (0, (s : Int)) (by omega) ⟨s, rfl, by omega, Nat.le_refl s, Or.inr ⟨rfl, fun x _ h3 => by have := h3.2; omega⟩⟩
    obtain ⟨fl, k'⟩ := p
    dsimp only at hI ih ⊢
    obtain ⟨k, rfl, k2, k3, k4⟩ := hI
    rw [f_X7_changedIn_L20]
    simp only [tt_gt, tt_sg, tt_ite, tt_ck, tt_lk, tt_ix, tt_bo, tt_by, tt_nz, tt_ob, tt_st, tt_cpk, tt_c1, tt_c2, tt_ca, tt_cb, tt_some, kd_231, kd_0, Nat.reduceAdd, true_and, and_true, true_implies, not_true_eq_false, false_implies, not_false_eq_true, true_or, or_true]
    refine And.intro (by omega) ⟨fun z => ?_, fun z => ?_⟩
    · have hks : k = s + e := by omega
      rcases k4 with ⟨f1, f2⟩ | ⟨f1, f2⟩
      · have : cinR w s ((s + e : Nat) : Int) i (evN w).toNat = 1 := (cin_iff w s ((s + e : Nat) : Int) i (evN w).toNat).2.mpr (by rw [← hks]; exact f2)
        rw [this] at ht
        exact ⟨fun y => by omega, fun _ => And.intro (by clear f2; omega) (And.intro (by clear f2; omega) ht)⟩
      · have : cinR w s ((s + e : Nat) : Int) i (evN w).toNat = 0 := by
          rcases c01 i with u | u
          · exact u
          · obtain ⟨x, x1, x2, x3⟩ := (cin_iff w s ((s + e : Nat) : Int) i (evN w).toNat).2.mp u
            exact absurd (f2 x x1 (by rw [hks]; exact x2)) x3
        rw [this] at ht
        exact ⟨fun _ => And.intro (by clear f2; omega) (And.intro (by clear f2; omega) ht), fun y => absurd f1 y⟩
    · have hk1 : (k : Int) < cmN w (evN w).toNat := by clear k4; omega
      obtain ⟨x0, y1, y2, y3⟩ := cmN_ex (w := w) (k := (k : Int)) (by omega) (evN w).toNat hk1
      have hx0 := h52 x0 (by clear k4; omega) y2
      rw [y3] at hx0
      have uniq : ∀ x : Nat, cmd w x → cmN w x = k → x = x0 := fun x a1 a2 => by
        apply Classical.byContradiction
        intro u
        by_cases b : x < x0
        · have := cmN_cmd a1 b; omega
        · have := cmN_cmd y2 (show x0 < x by omega); omega
      refine ⟨fun y => And.intro (by clear k4; omega) (ih (m - 1) (1, (k : Int) + 1) (by clear k4; omega) ⟨k + 1, by dsimp only; clear k4; omega, by clear k4; omega, by clear k4; omega, Or.inl ⟨rfl, ?_⟩⟩), fun y => And.intro (by clear k4; omega) ?_⟩
      · rcases k4 with ⟨f1, x, x1, x2, x3⟩ | ⟨f1, f2⟩
        · exact ⟨x, x1, ⟨x2.1, x2.2.1, by omega⟩, x3⟩
        · exact absurd f1 y
      · have f0 : fl = 0 := Classical.byContradiction y
        have k5 : ∀ x : Nat, x < (evN w).toNat → (cmd w x ∧ (s : Int) ≤ cmN w x ∧ cmN w x < k) → chg w (fun _ => 0) x i = 0 := by
          rcases k4 with ⟨f1, f2⟩ | ⟨f1, f2⟩
          · omega
          · exact f2
        clear k4
        rw [hx0, hv x0 i (by omega) (by omega) (by omega)]
        refine And.intro (by omega) (And.intro (by omega) (And.intro (by omega) ⟨fun u => And.intro (by omega) (ih (m - 1) (0, (k : Int) + 1) (by omega) ⟨k + 1, by dsimp only; omega, by omega, by omega, Or.inr ⟨rfl, fun x x1 x2 => ?_⟩⟩), fun u => And.intro (by omega) (ih (m - 1) (1, (k : Int) + 1) (by omega) ⟨k + 1, by dsimp only; omega, by omega, by omega, Or.inl ⟨rfl, x0, y1, ⟨y2, by omega, by omega⟩, u⟩⟩)⟩))
        by_cases b : cmN w x = k
        · rw [uniq x x2.1 b]; exact u
        · exact k5 x x1 ⟨x2.1, x2.2.1, by omega⟩
theorem pb_ok {F : Nat} {w : Int → Int} {ν : St} {e : Nat} (hF : 100 ≤ F) (hw : WF w) (h2 : ν 232 = w) (hv : ∀ (t : Nat) (c : Int), (t : Int) < evN w → 0 ≤ c → c < 32 → ν 240 (32 * t + c) = chg w (fun _ => 0) t c) (he : 1 ≤ e ∧ e ≤ 20) : TT (f_X7_paceBy F 231 e ν) (fun r => r.1 = KpR w e (cmN w (evN w).toNat).toNat ∧ ∀ k, k ≠ 252 → r.2 k = ν k) := by
  have h60 := hw.ev60
  have hw0 : 0 ≤ w 0 ∧ w 0 ≤ 32 := ⟨hw.1.1, hw.1.2.1⟩
  have hcr := cmN_rng w (evN w).toNat
  obtain ⟨K, eK⟩ : ∃ K : Nat, cmN w (evN w).toNat = K := ⟨(cmN w (evN w).toNat).toNat, by omega⟩
  unfold f_X7_paceBy
  simp only [tt_ob, kd_231, true_and, tt_c2, tt_ite, tt_c1, tt_gt]
  refine (lcm_ok hF hw h2).mono (fun r hr => ?_)
  obtain ⟨r1, r2, r3⟩ := hr
  have e32 : r.2 232 = w := (r2 232 (by decide)).trans h2
  rw [r1, eK, Int.toNat_natCast, e_cells, tt_some, e32]
  have loop : 0 < K → TT (f_X7_paceBy_L21 F 231 e F K (w 0) e r.2) (fun r => r.1 = KpR w e K ∧ ∀ k, k ≠ 252 → r.2 k = ν k) := by
    intro hK
    refine lp_w (L := fun n (p : Int × Int) => f_X7_paceBy_L21 F 231 e n K p.1 p.2 r.2) (fun m p => ∃ s : Nat, p.2 = ((s + e : Nat) : Int) ∧ s + m = K ∧ s < K ∧ s % e = 0 ∧ p.1 = KpR w e (s + 1)) (fun m n p hI ih => ?_) K F (w 0, (e : Int)) (by omega) ⟨0, by dsimp only; omega, by omega, hK, Nat.zero_mod e, by dsimp only; rw [KpR, if_pos rfl]⟩
    obtain ⟨x, i⟩ := p
    dsimp only at hI ih ⊢
    obtain ⟨s, rfl, i2, i3, i4, i5⟩ := hI
    have hxr := KpR_rng (w := w) e hw0 (s + 1)
    have hci := CIn_rng (w := w) s ((s + e : Nat) : Int) hw0
    rw [f_X7_paceBy_L21]
    simp only [tt_gt, tt_sg, tt_ite, tt_ck, tt_lk, tt_ix, tt_bo, tt_by, tt_nz, tt_ob, tt_st, tt_cpk, tt_c1, tt_c2, tt_ca, tt_cb, tt_some, kd_231, kd_0, Nat.reduceAdd, true_and, and_true, true_implies, not_true_eq_false, false_implies, not_false_eq_true, true_or, or_true]
    refine ⟨fun z => ⟨by rw [i5]; exact (Kp_const i4 K i3 (by omega)).symm, r2⟩, fun z => And.intro (by omega) ?_⟩
    rw [show ((s + e : Nat) : Int) - e = s by omega]
    refine (ci_ok hF hw e32 (fun t c t1 c1 c2 => by rw [r2 240 (by decide)]; exact hv t c t1 c1 c2) r3 he.2 (by omega)).mono (fun v hvv => ?_)
    rw [hvv]
    refine And.intro (by omega) (And.intro (by omega) (ih (K - (s + e)) (x + CIn w s ((s + e : Nat) : Int), ((s + e : Nat) : Int) + e) (by omega) ⟨s + e, by dsimp only; omega, by omega, by omega, by rw [Nat.add_mod_right]; exact i4, ?_⟩))
    dsimp only
    rw [KpR, if_neg (by omega), if_pos (by rw [Nat.add_mod_right]; exact i4), i5]
    rw [← Kp_const (w := w) i4 (s + e) (by omega) (Nat.le_refl _), show ((s + e : Nat) : Int) - e = s by omega]
  refine ⟨fun z => loop (by omega), fun z => ?_⟩
  have hK0 : K = 0 := by omega
  subst hK0
  obtain ⟨n, rfl⟩ : ∃ m, F = m + 1 := ⟨F - 1, by omega⟩
  rw [f_X7_paceBy_L21]
  simp only [tt_gt, tt_sg, tt_ite, tt_ck, tt_lk, tt_ix, tt_bo, tt_by, tt_nz, tt_ob, tt_st, tt_cpk, tt_c1, tt_c2, tt_ca, tt_cb, tt_some, kd_231, kd_0, Nat.reduceAdd, true_and, and_true, true_implies, not_true_eq_false, false_implies, not_false_eq_true, true_or, or_true]
  exact ⟨fun _ => ⟨rfl, r2⟩, fun u => absurd (by omega) u⟩
