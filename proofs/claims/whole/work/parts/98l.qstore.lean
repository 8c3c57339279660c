theorem l87_ok {F : Nat} {κ : St} (hF : 1000 ≤ F) : TT (f_X7_store_L87 F 231 F 0 κ) (fun r => r.1 = κ 237 5 ∧ (∀ x, x ≠ 232 → r.2 x = κ x) ∧ ∀ j, 0 ≤ j → j < 246 → r.2 232 j = κ 237 j) := by
  refine lp_w (L := fun n (p : Int × St) => f_X7_store_L87 F 231 n p.1 p.2) (fun m p => 0 ≤ p.1 ∧ p.1 + m = 246 ∧ (∀ x, x ≠ 232 → p.2 x = κ x) ∧ ∀ j, 0 ≤ j → j < p.1 → p.2 232 j = κ 237 j) (fun m n p hI ih => ?_) 246 F (0, κ) (by omega) ⟨by dsimp only; omega, by dsimp only; omega, fun _ _ => rfl, fun j j1 j2 => absurd j2 (by dsimp only; omega)⟩
  obtain ⟨i, τ⟩ := p
  dsimp only at hI ih ⊢
  obtain ⟨i1, i2, i3, i4⟩ := hI
  rw [f_X7_store_L87]
  simp only [tt_gt, tt_sg, tt_ite, tt_ck, tt_lk, tt_ix, tt_bo, tt_by, tt_nz, tt_ob, tt_st, tt_cpk, tt_c1, tt_c2, tt_ca, tt_cb, tt_some, kd_231, kd_0, Nat.reduceAdd, true_and, and_true, true_implies, not_true_eq_false, false_implies, not_false_eq_true, true_or, or_true]
  refine ⟨fun z => And.intro (by omega) ⟨i4 5 (by decide) (by omega), i3, fun j j1 j2 => i4 j j1 (by omega)⟩, fun z => And.intro (by omega) (And.intro (by omega) (And.intro (by omega) (ih (m - 1) (i + 1, z_up τ 232 i (τ 237 i)) (by omega) ⟨by dsimp only; omega, by dsimp only; omega, fun x hx => (up_ne hx).trans (i3 x hx), fun j j1 j2 => ?_⟩)))⟩
  dsimp only at j2 ⊢
  rw [up_eq]
  dsimp only
  by_cases u : j = i
  · rw [if_pos u, i3 237 (by decide), u]
  · rw [if_neg u]; exact i4 j j1 (by omega)
theorem q_store {F : Nat} {σ : St} (hF : 1000 ≤ F) (h : GI F σ) : PP F (f_X6_store F 0 σ) (f_X7_store F 231) := by
  have rd := tt_all (f := f_X2_read F 1 7 σ) (A := fun κ => SIn σ κ) (P := fun κ r => SmP F κ r) (Q := fun r => C6 σ r.2) ⟨σ, rfl, rfl⟩ (fun κ hκ => read_J hF h hκ)
  unfold PP f_X6_store
  simp only [tt_gt, tt_sg, tt_ite, tt_ck, tt_lk, tt_ix, tt_bo, tt_by, tt_nz, tt_ob, tt_st, tt_cpk, tt_c1, tt_c2, tt_ca, tt_cb, tt_some, kd_231, kd_0, Nat.reduceAdd, true_and, and_true, true_implies, not_true_eq_false, false_implies, not_false_eq_true, true_or, or_true, Nat.zero_add]
  refine rd.mono (fun r hr => ?_)
  obtain ⟨b, σ1⟩ := r
  obtain ⟨sm, c6⟩ := hr
  dsimp only at c6 ⊢
  generalize h2 : z_up σ1 1 0 0 = σ2
  have o2 : ∀ x, x ≠ 1 → σ2 x = σ1 x := fun x hx => by rw [← h2, up_ne hx]
  have c2 : ∀ j, σ2 1 j = if j = 0 then 0 else σ1 1 j := fun j => by rw [← h2, up_eq]
  have f2 : ∀ x, x ≠ 1 → x ≠ 3 → x ≠ 7 → x ≠ 8 → x ≠ 9 → σ2 x = σ x := fun x x1 x3 x7 x8 x9 => (o2 x x1).trans (c6.1 x x1 x3 x7 x8 x9)
  refine ⟨fun z => ?_, fun z => ?_⟩
  · obtain ⟨κ', rq, -⟩ := sm σ ⟨rfl, rfl⟩
    rcases rq with rq | rq
    rotate_left
    · exact absurd rq.1 z
    obtain ⟨hb, -, w1, s1⟩ := rq
    dsimp only at hb s1
    have s2 : SR 7 σ2 (κ' 237) := s1.mv (o2 7 (by decide)) (o2 8 (by decide)) (o2 9 (by decide))
    refine (scbe_ok (d := 4) (s := 7) rfl rfl (by omega)).mono (fun σ3 h3 => ?_)
    obtain ⟨b0, b1, -, b3, b4⟩ := h3
    have s3 : SR 4 σ3 (κ' 237) := s2.bc w1 b1 b3 b4
    refine (anew_ok (by omega) w1 s3).mono (fun σ4 h4 => ?_)
    have f4 : ∀ x, x ≠ 4 → x ≠ 5 → x ≠ 6 → (x < 12 ∨ 109 < x) → σ4 x = σ2 x := fun x x1 x2 x3 x4 => (h4.2 x (by omega)).trans (b0 x x1 x2 x3)
    have g4 : ∀ x, 12 ≤ x → (x < 12 ∨ 109 < x) → σ4 x = σ x := fun x x1 x2 => (f4 x (by omega) (by omega) (by omega) x2).trans (f2 x (by omega) (by omega) (by omega) (by omega) (by omega))
    obtain ⟨κ2, rq, ok, k5, hP⟩ := sm σ4 ⟨by rw [g4 231 (by omega) (by omega)], g4 235 (by omega) (by omega)⟩
    rcases rq with rq | rq
    rotate_left
    · exact absurd rq.1 z
    obtain ⟨-, fl, w2, s7⟩ := rq
    dsimp only at fl s7
    have s7' : SR 7 σ2 (κ2 237) := s7.mv (o2 7 (by decide)) (o2 8 (by decide)) (o2 9 (by decide))
    have s4a : SR 4 σ3 (κ2 237) := s7'.bc w2 b1 b3 b4
    have s4b : SR 4 σ4 (κ2 237) := s4a.mv (h4.2 4 (by omega)) (h4.2 5 (by omega)) (h4.2 6 (by omega))
    have h60 := w2.ev60
    rw [e4_lines (F := F) (s := 4) rfl s4b w2, tt_some]
    refine hP _ ⟨fun _ => (l87_ok hF).mono (fun r' hr' => ⟨hr'.1.symm, ?_⟩), fun y => absurd fl.1 y⟩
    obtain ⟨-, r2, r3⟩ := hr'
    generalize r'.2 = ω at r2 r3 ⊢
    have fo : ∀ x, x ≠ 231 → x ≠ 232 → x ≠ 237 → ω x = σ4 x := fun x x1 x2 x3 => (r2 x x2).trans (ok x x1 x3)
    have go : ∀ x, 12 ≤ x → (x < 12 ∨ 109 < x) → x ≠ 231 → x ≠ 232 → x ≠ 237 → ω x = σ x := fun x x1 x2 x3 x4 x5 => (fo x x3 x4 x5).trans (g4 x x1 x2)
    have wf := w2.cg r3
    have r1 : RIt F (κ2 237) 0 σ4 := h4.1.ext (by rw [← s7.1 0 (by decide) (by decide), ← s1.1 0 (by decide) (by decide)]) (by rw [← s7.1 1 (by decide) (by decide), ← s1.1 1 (by decide) (by decide)]) (fun j j1 j2 => absurd j2 (by omega)) (by omega)
    have r1' : RIt F (ω 232) 0 σ4 := r1.ext (r3 0 (by decide) (by decide)) (r3 1 (by decide) (by decide)) (fun j j1 j2 => absurd j2 (by omega)) (by have := wf.ev60; omega)
    have w31 : ω 231 = κ2 231 := r2 231 (by decide)
    have w1c : ∀ j, ω 1 j = if j = 0 then 0 else σ1 1 j := fun j => by rw [fo 1 (by decide) (by decide) (by decide), f4 1 (by decide) (by decide) (by decide) (by omega)]; exact c2 j
    refine gi_mk ⟨wf, SR.cg (s4b.mv (fo 4 (by decide) (by decide) (by decide)) (fo 5 (by decide) (by decide) (by decide)) (fo 6 (by decide) (by decide) (by decide))) w2 r3, ⟨0, RIt.fr (by omega) wf r1' (fun x x1 x2 => fo x (by omega) (by omega) (by omega))⟩⟩ ?_ (h.i_fr (fun x hx => go x (by omega) (by omega) (by omega) (by omega) (by omega))) ⟨?_, ?_, fun i i1 i2 => ?_⟩ ?_ ?_ (h.s_fr (fun x hx => go x (by omega) (by omega) (by omega) (by omega) (by omega))) ?_
    · rw [fo 8 (by decide) (by decide) (by decide), f4 8 (by decide) (by decide) (by decide) (by omega), o2 8 (by decide)]
      exact c6.2 h.sp
    · rw [w31, k5]; decide
    · rw [w31, k5, w1c, if_pos rfl]
    · rw [w31, k5] at i2
      omega
    · rw [w31, w1c, if_neg (by decide), fl.1]; exact fl.2.2.1
    · rw [w31, w1c, if_neg (by decide), fl.2.1]; exact fl.2.2.2
    · rw [go 251 (by omega) (by omega) (by omega) (by omega) (by omega)]; exact h.ag
  · obtain ⟨κ2, rq, ok, k5, hP⟩ := sm σ2 ⟨by rw [f2 231 (by omega) (by omega) (by omega) (by omega) (by omega)], f2 235 (by omega) (by omega) (by omega) (by omega) (by omega)⟩
    rcases rq with rq | rq
    · exact absurd (show ¬ b = 0 from fun y => by have := rq.1; dsimp only at this; omega) z
    obtain ⟨-, dd⟩ := rq
    dsimp only at dd
    refine hP _ ⟨fun y => absurd y dd.kn, fun _ => ⟨rfl, ?_⟩⟩
    dsimp only
    have go : ∀ x, x ≠ 1 → x ≠ 3 → x ≠ 7 → x ≠ 8 → x ≠ 9 → x ≠ 231 → x ≠ 237 → κ2 x = σ x := fun x x1 x2 x3 x4 x5 x6 x7 => (ok x x6 x7).trans (f2 x x1 x2 x3 x4 x5)
    have w1c : ∀ j, κ2 1 j = if j = 0 then 0 else σ1 1 j := fun j => by rw [ok 1 (by decide) (by decide)]; exact c2 j
    refine gi_mk (h.w_fr (by omega) (fun x hx => go x (by omega) (by omega) (by omega) (by omega) (by omega) (by omega) (by omega))) ?_ (h.i_fr (fun x hx => go x (by omega) (by omega) (by omega) (by omega) (by omega) (by omega) (by omega))) ⟨?_, ?_, fun i i1 i2 => ?_⟩ ?_ ?_ (h.s_fr (fun x hx => go x (by omega) (by omega) (by omega) (by omega) (by omega) (by omega) (by omega))) ?_
    · rw [ok 8 (by decide) (by decide), o2 8 (by decide)]
      exact c6.2 h.sp
    · rw [k5]; decide
    · rw [k5, w1c, if_pos rfl]
    · rw [k5] at i2
      omega
    · rw [w1c, if_neg (by decide)]; exact dd.k1
    · rw [w1c, if_neg (by decide)]; exact dd.k2
    · rw [go 251 (by omega) (by omega) (by omega) (by omega) (by omega) (by omega) (by omega)]; exact h.ag
