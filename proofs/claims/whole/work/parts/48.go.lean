def kcS (e : Nat) : Nat → Int → St → St
  | 0, _, σ => σ
  | m + 1, c, σ => if σ 231 29 ≠ -1 ∧ σ 240 (32 * e + c) ≠ 0 ∧ lft σ c then kcS e m (c + 1) (kpS c e 1 σ) else kcS e m (c + 1) σ
def Gk (e : Nat) (σ : St) : Prop := 0 ≤ σ 231 28 ∧ σ 231 28 ≤ e ∧ (σ 231 29 = -1 ∨ (σ 231 29 < σ 231 28 ∧ Sok σ))
def GoP (e : Nat) (l : Int) (σ σ' : St) : Prop := ∃ r, whyP σ (σ 232 (6 + 4 * e)) r ∧
  ((r ≠ 0 ∧ σ' = z_up σ 250 e r) ∨
   (r = 0 ∧ σ 232 (6 + 4 * e) < 4 ∧ σ' = kcS e (σ 232 0).toNat 0 (z_up σ 250 e 0)) ∨
   (r = 0 ∧ σ 232 (6 + 4 * e) = 4 ∧ BgP e 1 (z_up σ 250 e 0) σ') ∨
   (r = 0 ∧ σ 232 (6 + 4 * e) = 5 ∧ BgP e 0 (z_up σ 250 e 0) σ') ∨
   (r = 0 ∧ σ 232 (6 + 4 * e) = 6 ∧ σ' = scS l e (σ 232 (6 + 4 * e + 1 + 0)).toNat (z_up σ 250 e 0)) ∨
   (r = 0 ∧ σ 232 (6 + 4 * e) = 7 ∧ σ' = clS e 1 (scS l e 32 (z_up σ 250 e 0))) ∨
   (r = 0 ∧ σ 232 (6 + 4 * e) = 8 ∧ σ' = clS e 2 (z_up σ 250 e 0)))
theorem kc_loop {F : Nat} {l : Int} (e : Nat) (he : e < 60) : ∀ (n m : Nat) (c : Int) (σ : St), 0 ≤ c → c + m = σ 232 0 → σ 232 0 ≤ 32 → m < n → (σ 231 29 = -1 ∨ Sok σ) → f_X7_goOn_L35 F 231 e l n c σ = some (kcS e m c σ) := by
  intro n
  induction n with
  | zero => intro m c σ _ _ _ h; exact absurd h (Nat.not_lt_zero m)
  | succ n ih =>
    intro m c σ hc hm h32 hn hS
    apply TT.eq
    rw [f_X7_goOn_L35]
    by_cases q : σ 232 0 ≤ c
    · simp only [tt_gt, tt_sg, tt_ite, tt_ck, tt_lk, tt_ix, tt_bo, tt_by, tt_nz, tt_ob, tt_st, tt_cpk, tt_c1, tt_c2, tt_ca, tt_cb, tt_some, kd_231, kd_0, Nat.reduceAdd, true_and, and_true, true_implies, not_true_eq_false, false_implies, not_false_eq_true, ne_eq, true_or, or_true, q, e_cells]
      rw [show m = 0 by omega, kcS]
    · obtain ⟨m, rfl⟩ : ∃ k, m = k + 1 := ⟨m - 1, by omega⟩
      have skip : (¬ (σ 231 29 ≠ -1 ∧ σ 240 (32 * e + c) ≠ 0 ∧ lft σ c)) → TT (f_X7_goOn_L35 F 231 e l n (c + 1) σ) (fun x => x = kcS e (m + 1) c σ) := by
        intro h
        rw [kcS, if_neg h, ih m (c + 1) σ (by omega) (by omega) h32 (by omega) hS, tt_some]
      simp only [tt_gt, tt_sg, tt_ite, tt_ck, tt_lk, tt_ix, tt_bo, tt_by, tt_nz, tt_ob, tt_st, tt_cpk, tt_c1, tt_c2, tt_ca, tt_cb, tt_some, kd_231, kd_0, Nat.reduceAdd, true_and, and_true, true_implies, not_true_eq_false, false_implies, not_false_eq_true, ne_eq, true_or, or_true, q, e_cells]
      refine ⟨fun q2 => And.intro (by omega) (skip (fun z => z.1 (by omega))), fun q2 => ?_⟩
      have hS' := hS.resolve_left (by omega)
      obtain ⟨g1, g2, g3, g4, g5, g6⟩ := id hS'
      refine And.intro (by omega) (And.intro (by omega) (And.intro (by omega) ⟨fun q3 => And.intro (by omega) (skip (fun z => z.2.1 q3)), fun q3 => ?_⟩))
      refine (e_isLeft (F := F) (σ := σ) (c := c) (by omega) (by omega)).mono (fun r hr => ?_)
      rcases hr with ⟨rfl, hl⟩ | ⟨rfl, hl⟩
      · refine ⟨fun z => absurd z (by decide), fun _ => ?_⟩
        have hp := lf_pos (σ := σ) (c := c) (σ 232 0).toNat (by omega) (by omega) hl
        rw [e_keep (F := F) (σ := σ) (c := c) (e := (e : Int)) (s := 1) (by omega) (by omega) (Or.inr rfl) (by omega), tt_some]
        refine And.intro (by omega) ?_
        have e2 : kpS c e 1 σ 232 = σ 232 := kp_ne (by decide) (by decide) (by decide) (by decide)
        rw [ih m (c + 1) _ (by omega) (by rw [e2]; omega) (by rw [e2]; exact h32) (by omega) (Or.inr (hS'.kp (by omega) (by omega) hl)), tt_some, kcS, if_pos ⟨by omega, q3, hl⟩]
      · exact ⟨fun _ => And.intro (by omega) (skip (fun z => hl z.2.2)), fun z => absurd rfl z⟩
theorem lfN_up {σ : St} {e : Int} {v : Int} : ∀ m : Nat, lfN (z_up σ 250 e v) m = lfN σ m
  | 0 => rfl
  | m + 1 => by
    unfold lfN lft
    rw [lfN_up m, up_ne (show 231 ≠ 250 by decide), up_ne (show 246 ≠ 250 by decide), up_ne (show 248 ≠ 250 by decide)]
theorem Sok.up {σ : St} {e v : Int} (h : Sok σ) : Sok (z_up σ 250 e v) := by
  unfold Sok at h ⊢
  rw [lfN_up, up_ne (show 231 ≠ 250 by decide), up_ne (show 232 ≠ 250 by decide), up_ne (show 245 ≠ 250 by decide)]
  exact h
theorem sc_keep {l : Int} {e : Nat} {Q : St → Prop} (hQ : ∀ (σ : St) (c : Int), Sok σ → Q σ → 0 ≤ c → c < σ 232 0 → lft σ c → Q (kpS c e 0 σ)) : ∀ (n : Nat) (σ : St), Sok σ → Q σ → Sok (scS l e n σ) ∧ Q (scS l e n σ)
  | 0, σ, h1, h2 => ⟨h1, h2⟩
  | n + 1, σ, h1, h2 => by
    unfold scS
    have hr := nx_rng l e σ (σ 232 0).toNat
    have h0 := h1.1
    by_cases q : nxR l e σ (σ 232 0).toNat = -1
    · rw [if_pos q]; exact ⟨h1, h2⟩
    · rw [if_neg q]
      have hl := nx_left l e σ _ q
      exact sc_keep hQ n _ (h1.kp (by omega) (by omega) hl) (hQ σ _ h1 h2 (by omega) (by omega) hl)
theorem e_goOn {F : Nat} {σ : St} {l : Int} (hF : 100 ≤ F) (hw : WF (σ 232)) (e : Nat) (he : (e : Int) < evN (σ 232)) (hG : Gk e σ) : TT (f_X7_goOn F 231 e l σ) (GoP e l σ) := by
  have h60 := hw.ev60
  have hE := hw.2.2 e (by omega) he
  obtain ⟨w1, w2, -⟩ := hw.1
  have hE1 := hE.1
  have hE2 := hE.2.1
  obtain ⟨g1, g2, g3⟩ := hG
  have hk := e_kindOf (F := F) (σ := σ) (e := (e : Int)) ⟨by omega, by omega⟩
  have u1 : ∀ (τ : St) (j v : Int), z_up τ 250 j v 231 = τ 231 := fun τ j v => up_ne (by decide)
  have u2 : ∀ (τ : St) (j v : Int), z_up τ 250 j v 232 = τ 232 := fun τ j v => up_ne (by decide)
  have u3 : ∀ (j v : Int), z_up σ 250 j v 250 j = v := fun j v => by rw [up_eq]; exact if_pos rfl
  unfold f_X7_goOn
  simp only [tt_ob, kd_231, true_and, tt_c1, hk, tt_some]
  refine (e_whyNot hF ⟨g1, by omega⟩).mono (fun r hr => ?_)
  simp only [tt_gt, tt_sg, tt_ite, tt_ck, tt_lk, tt_ix, tt_bo, tt_by, tt_nz, tt_ob, tt_st, tt_cpk, tt_c1, tt_c2, tt_ca, tt_cb, tt_some, kd_231, kd_0, Nat.reduceAdd, true_and, and_true, true_implies, not_true_eq_false, false_implies, not_false_eq_true, ne_eq, true_or, or_true, u3]
  refine And.intro (by omega) (And.intro (by omega) ⟨fun q => ?_, fun q => ⟨r, hr, Or.inl ⟨by omega, rfl⟩⟩⟩)
  have hr0 : r = 0 := by unfold whyP at hr; omega
  subst hr0
  have hop : 5 < σ 232 (6 + 4 * e) → σ 231 29 ≠ -1 := fun h => by unfold whyP at hr; omega
  have ho2 : σ 232 (6 + 4 * e) = 4 ∨ σ 232 (6 + 4 * e) = 5 → σ 231 29 = -1 := fun h => by unfold whyP at hr; omega
  have hS : 5 < σ 232 (6 + 4 * e) → Sok (z_up σ 250 e 0) := fun h => (g3.resolve_left (hop h)).2.up
  have bg : ∀ full : Int, TT (f_X7_begin F 231 e full (z_up σ 250 e 0)) (BgP e full (z_up σ 250 e 0)) := fun full => e_begin hF e (by omega) (by rw [u1]; omega) (by rw [u2]; omega)
  have fin : ∀ σ', ((0 : Int) ≠ 0 ∧ σ' = z_up σ 250 e 0) ∨ (σ 232 (6 + 4 * e) < 4 ∧ σ' = kcS e (σ 232 0).toNat 0 (z_up σ 250 e 0)) ∨ (σ 232 (6 + 4 * e) = 4 ∧ BgP e 1 (z_up σ 250 e 0) σ') ∨ (σ 232 (6 + 4 * e) = 5 ∧ BgP e 0 (z_up σ 250 e 0) σ') ∨ (σ 232 (6 + 4 * e) = 6 ∧ σ' = scS l e (σ 232 (6 + 4 * e + 1 + 0)).toNat (z_up σ 250 e 0)) ∨ (σ 232 (6 + 4 * e) = 7 ∧ σ' = clS e 1 (scS l e 32 (z_up σ 250 e 0))) ∨ (σ 232 (6 + 4 * e) = 8 ∧ σ' = clS e 2 (z_up σ 250 e 0)) → GoP e l σ σ' := by
    intro σ' h
    refine ⟨0, hr, ?_⟩
    rcases h with h | h | h | h | h | h | h
    · exact Or.inl h
    · exact Or.inr (Or.inl ⟨rfl, h⟩)
    · exact Or.inr (Or.inr (Or.inl ⟨rfl, h⟩))
    · exact Or.inr (Or.inr (Or.inr (Or.inl ⟨rfl, h⟩)))
    · exact Or.inr (Or.inr (Or.inr (Or.inr (Or.inl ⟨rfl, h⟩))))
    · exact Or.inr (Or.inr (Or.inr (Or.inr (Or.inr (Or.inl ⟨rfl, h⟩)))))
    · exact Or.inr (Or.inr (Or.inr (Or.inr (Or.inr (Or.inr ⟨rfl, h⟩)))))
  have cl : ∀ (st : Int) (τ : St), τ 231 29 = σ 231 29 → 5 < σ 232 (6 + 4 * e) → f_X7_close F 231 e st τ = some (clS e st τ) := fun st τ h1 h2 => by
    have h3 := g3.resolve_left (hop h2)
    have h4 := h3.2.2.2.1
    exact e_close (by omega) (by omega)
  refine ⟨fun a1 => ⟨fun a2 => ⟨fun a3 => absurd a2 a3, fun a3 => ?_⟩, fun a2 => ⟨fun a3 => ⟨fun a4 => ⟨fun a5 => ⟨fun a6 => ?_, fun a6 => absurd a5 (by omega)⟩, fun a5 => ?_⟩, fun a4 => ?_⟩, fun a3 => ⟨fun a4 => ?_, fun a4 => absurd a4 (by omega)⟩⟩⟩, fun a1 => ?_⟩
  · exact (bg 1).mono (fun σ' h => fin σ' (Or.inr (Or.inr (Or.inl ⟨a2, h⟩))))
  · rw [cl 2 _ (by rw [u1]) (by omega), tt_some]
    exact fin _ (Or.inr (Or.inr (Or.inr (Or.inr (Or.inr (Or.inr ⟨by omega, rfl⟩))))))
  · rw [e_scan (F := F) (l := l) hF e (by omega) (a1 := 32) (by omega) (hS (by omega)), tt_some]
    have h231 := (sc_keep (l := l) (e := e) (Q := fun τ => τ 231 = σ 231) (fun τ c _ h _ _ _ => (kp_ne (by decide) (by decide) (by decide) (by decide)).trans h) 32 _ (hS (by omega)) (u1 _ _ _)).2
    refine ⟨fun a6 => absurd a5 (by omega), fun a6 => ?_⟩
    rw [cl 1 _ (by rw [show Int.toNat 32 = 32 from rfl, h231]) (by omega), tt_some]
    exact fin _ (Or.inr (Or.inr (Or.inr (Or.inr (Or.inr (Or.inl ⟨by omega, rfl⟩))))))
  · have hn := e_numberOf (F := F) (σ := z_up σ 250 e 0) (e := (e : Int)) (j := 0) ⟨by omega, by omega⟩ (by decide)
    rw [u2] at hn
    obtain ⟨-, -, -, -, -, -, b6, -⟩ := hE
    have b6' := b6 (by omega)
    rw [hn, tt_some, e_scan (F := F) (l := l) hF e (by omega) (by omega) (hS (by omega)), tt_some]
    exact fin _ (Or.inr (Or.inr (Or.inr (Or.inr (Or.inl ⟨by omega, rfl⟩)))))
  · exact (bg 0).mono (fun σ' h => fin σ' (Or.inr (Or.inr (Or.inr (Or.inl ⟨by omega, h⟩)))))
  · rw [kc_loop (F := F) (l := l) e (by omega) F (σ 232 0).toNat 0 (z_up σ 250 e 0) (by omega) (by rw [u2]; omega) (by rw [u2]; omega) (by omega) (by rw [u1]; exact g3.imp id (fun h => h.2.up)), tt_some]
    exact fin _ (Or.inr (Or.inl ⟨by omega, rfl⟩))
