theorem kd_cp : ∀ (k : Nat), k < 30 → kdX (12 + 7 + 1 + 3 * k) = 1 ∧ kdX (110 + 7 + 1 + 3 * k) = 1 := by decide
theorem kd_cpb {b : Nat} (hb : b = 12 ∨ b = 110) {k : Int} (h : 0 ≤ k ∧ k < 30) : kdX (b + 7 + 1 + 3 * k.toNat) = 1 := by
  have h1 := kd_cp k.toNat (by omega)
  rcases hb with rfl | rfl
  · exact h1.1
  · exact h1.2
theorem kd_run {b : Nat} (hb : b = 12 ∨ b = 110) : kdX b = 3 ∧ kdX (b + 1) = 0 ∧ kdX (b + 2) = 9 ∧ lnX (b + 2) = 32 ∧ kdX (b + 3) = 0 ∧ kdX (b + 4) = 9 ∧ lnX (b + 4) = 32 ∧ kdX (b + 5) = 9 ∧ lnX (b + 5) = 32 ∧ kdX (b + 6) = 9 ∧ lnX (b + 6) = 60 := by
  rcases hb with rfl | rfl <;> decide
theorem end_cr {b K : Nat} {w0 l st : Int} {t : Nat} {μ σ τ : St} (h : RunR b w0 l (t + 1) μ σ) (hK : K = b + 7 + 1 + 3 * (μ 231 29).toNat) (hk : 0 ≤ μ 231 29) (eo : ∀ x, x ≠ b → τ x = σ x) (eb : ∀ j, j ≠ 2 → j ≠ 10 → τ b j = σ b j) (aw : (τ b 10 = 1 ∧ hwR (clS t st μ) (μ 231 28).toNat) ∨ (τ b 10 = 0 ∧ ¬ hwR (clS t st μ) (μ 231 28).toNat)) (dr : iR (τ b 2)) (dt : ∀ c, 0 ≤ c → c < 32 → (bt (τ b 2) c ↔ c < w0 ∧ drt (clS t st μ) c (t + 1))) : RunR b w0 l (t + 1) (clS t st μ) (z_up (z_up (z_up τ K 2 st) K 3 ((t : Int) + 1)) b 4 (-1)) := by
  have c1 := cl_231 (e := (t : Int)) (s := st) (σ := μ)
  have m43 : ∀ j, clS t st μ 243 j = if j = μ 231 29 then st else μ 243 j := fun j => by unfold clS; rw [up_ne (by decide), up_ne (by decide), up_eq]
  have m44 : ∀ j, clS t st μ 244 j = if j = μ 231 29 then (t : Int) + 1 else μ 244 j := fun j => by unfold clS; rw [up_ne (by decide), up_eq, up_ne (by decide)]
  have m : ∀ x, x ≠ 231 → x ≠ 243 → x ≠ 244 → clS t st μ x = μ x := fun x a b c => by unfold clS; rw [up_ne a, up_ne c, up_ne b]
  generalize hσ : z_up (z_up (z_up τ K 2 st) K 3 ((t : Int) + 1)) b 4 (-1) = σ'
  have a0 : ∀ x, x ≠ b → x ≠ K → σ' x = σ x := fun x x1 x2 => by rw [← hσ, up_ne x1, up_ne x2, up_ne x2, eo x x1]
  have ab : ∀ j, σ' b j = if j = 4 then -1 else τ b j := fun j => by
    rw [← hσ, up_eq]
    dsimp only
    rw [up_ne (by omega), up_ne (by omega)]
  have aK : ∀ j, σ' K j = if j = 3 then (t : Int) + 1 else if j = 2 then st else σ K j := fun j => by
    rw [← hσ, up_ne (by omega), up_eq]
    dsimp only
    rw [up_eq]
    dsimp only
    rw [eo K (by omega)]
  refine ⟨⟨by rw [a0 _ (by omega) (by omega)]; exact h.bd.1, fun c d1 d2 => by rw [a0 _ (by omega) (by omega), m 239 (by decide) (by decide) (by decide)]; exact h.bd.2 c d1 d2⟩, by rw [ab, if_neg (by decide), eb 8 (by decide) (by decide)]; exact h.n8, by rw [ab, if_neg (by decide), eb 9 (by decide) (by decide)]; exact h.n9, by rw [ab, if_neg (by decide), eb 3 (by decide) (by decide), c1.1]; exact h.cn, by rw [ab, if_pos rfl, c1.2], by rw [ab, if_neg (by decide), c1.1]; exact aw, by rw [ab, if_neg (by decide)]; exact dr, by rw [ab, if_neg (by decide)]; exact dt, by rw [a0 _ (by omega) (by omega), m 240 (by decide) (by decide) (by decide)]; exact h.la, by rw [a0 _ (by omega) (by omega), m 240 (by decide) (by decide) (by decide)]; exact h.cb, fun k k1 k2 => ?_, fun k k1 k2 => ?_⟩
  · rw [c1.1] at k2
    have hc := h.cc k k1 k2
    by_cases q : k = μ 231 29
    · have hKk : b + 7 + 1 + 3 * k.toNat = K := by rw [q, hK]
      rw [hKk] at hc ⊢
      refine ⟨by rw [aK, if_neg (by decide), if_neg (by decide), m 245 (by decide) (by decide) (by decide)]; exact hc.sz, by rw [aK, if_neg (by decide), if_neg (by decide)]; exact hc.wr, by rw [aK, if_neg (by decide), if_neg (by decide)]; exact hc.hr, by rw [aK, if_neg (by decide), if_neg (by decide), m 246 (by decide) (by decide) (by decide)]; exact hc.wt, by rw [aK, if_neg (by decide), if_neg (by decide), m 248 (by decide) (by decide) (by decide)]; exact hc.hd, by rw [a0 (K + 1) (by omega) (by omega), m 248 (by decide) (by decide) (by decide), m 239 (by decide) (by decide) (by decide), m 242 (by decide) (by decide) (by decide)]; exact hc.ct, by rw [a0 (K + 2) (by omega) (by omega), m 245 (by decide) (by decide) (by decide), m 249 (by decide) (by decide) (by decide)]; exact hc.tn⟩
    · refine ⟨by rw [a0 _ (by omega) (by omega), m 245 (by decide) (by decide) (by decide)]; exact hc.sz, by rw [a0 _ (by omega) (by omega)]; exact hc.wr, by rw [a0 _ (by omega) (by omega)]; exact hc.hr, by rw [a0 _ (by omega) (by omega), m 246 (by decide) (by decide) (by decide)]; exact hc.wt, by rw [a0 _ (by omega) (by omega), m 248 (by decide) (by decide) (by decide)]; exact hc.hd, by rw [a0 _ (by omega) (by omega), m 248 (by decide) (by decide) (by decide), m 239 (by decide) (by decide) (by decide), m 242 (by decide) (by decide) (by decide)]; exact hc.ct, by rw [a0 _ (by omega) (by omega), m 245 (by decide) (by decide) (by decide), m 249 (by decide) (by decide) (by decide)]; exact hc.tn⟩
  · rw [c1.1] at k2
    have hc := h.cd k k1 k2
    by_cases q : k = μ 231 29
    · have hKk : b + 7 + 1 + 3 * k.toNat = K := by rw [q, hK]
      rw [hKk] at hc ⊢
      exact ⟨by rw [aK, if_neg (by decide), if_neg (by decide), m 241 (by decide) (by decide) (by decide)]; exact hc.fl, by rw [aK, if_neg (by decide), if_neg (by decide), m 242 (by decide) (by decide) (by decide)]; exact hc.mk1, by rw [aK, if_neg (by decide), if_pos rfl, m43, if_pos q], by rw [aK, if_pos rfl, m44, if_pos q], by rw [aK, if_neg (by decide), if_neg (by decide)]; exact hc.rr, by rw [aK, if_neg (by decide), if_neg (by decide), m 247 (by decide) (by decide) (by decide)]; exact hc.rs⟩
    · have e0 := a0 (b + 7 + 1 + 3 * k.toNat) (by omega) (by omega)
      exact ⟨by rw [e0, m 241 (by decide) (by decide) (by decide)]; exact hc.fl, by rw [e0, m 242 (by decide) (by decide) (by decide)]; exact hc.mk1, by rw [e0, m43, if_neg q]; exact hc.st, by rw [e0, m44, if_neg q]; exact hc.en, by rw [e0]; exact hc.rr, by rw [e0, m 247 (by decide) (by decide) (by decide)]; exact hc.rs⟩
theorem endOpen_eq {F b : Nat} {τ : St} {st e k : Int} (hb : b = 12 ∨ b = 110) (ho : τ b 4 = k) (hk : 0 ≤ k ∧ k < τ b 3) (hn : τ b 3 ≤ 30) : f_X3_endOpen F b st e τ = some (z_up (z_up (z_up τ (b + 7 + 1 + 3 * k.toNat) 2 st) (b + 7 + 1 + 3 * k.toNat) 3 e) b 4 (-1)) := by
  have hK := kd_cpb hb (k := k) ⟨hk.1, by omega⟩
  apply TT.eq
  unfold f_X3_endOpen f_X1_finishAs
  simp only [tt_gt, tt_sg, tt_ite, tt_ck, tt_lk, tt_ix, tt_bo, tt_by, tt_nz, tt_ob, tt_st, tt_cpk, tt_c1, tt_c2, tt_ca, tt_cb, tt_some, kd_231, kd_0, Nat.reduceAdd, true_and, and_true, true_implies, not_true_eq_false, false_implies, not_false_eq_true, true_or, or_true, (kd_run hb).1, ho, copyOf_ok (F := F) (b := b) (σ := τ) (k := k) (kd_run hb).1 hk hn, hK]
theorem tear_ok {F b : Nat} {w0 l : Int} {t : Nat} {μ σ : St} (hb : b = 12 ∨ b = 110) (hM : MI0 w0 (t + 1) μ) (h30 : μ 231 28 ≤ 30) (ho : μ 231 29 ≠ -1) (h : RunR b w0 l (t + 1) μ σ) : TT (f_X3_endOpen F b 2 ((t : Int) + 1) σ) (fun σ' => RunR b w0 l (t + 1) (clS t 2 μ) σ' ∧ Fb b σ σ' ∧ ∀ j, j = 1 ∨ j = 5 ∨ j = 6 ∨ j = 7 → σ' b j = σ b j) := by
  have h1 := hM.op.resolve_left ho
  have hst := (hM.cp (μ 231 29) h1.2 (by omega)).st
  have m43 : ∀ j, clS t 2 μ 243 j = if j = μ 231 29 then 2 else μ 243 j := fun j => by unfold clS; rw [up_ne (by decide), up_ne (by decide), up_eq]
  have m44 : ∀ j, clS t 2 μ 244 j = if j = μ 231 29 then (t : Int) + 1 else μ 244 j := fun j => by unfold clS; rw [up_ne (by decide), up_eq, up_ne (by decide)]
  have m : ∀ x, x ≠ 231 → x ≠ 243 → x ≠ 244 → clS t 2 μ x = μ x := fun x a b c => by unfold clS; rw [up_ne a, up_ne c, up_ne b]
  have e43 : ∀ k : Nat, (clS t 2 μ 243 k = 1 ↔ μ 243 k = 1) := fun k => by
    rw [m43]
    by_cases q : (k : Int) = μ 231 29
    · rw [if_pos q, q]; omega
    · rw [if_neg q]
  rw [endOpen_eq hb h.op ⟨h1.2, by rw [h.cn]; omega⟩ (by rw [h.cn]; exact h30), tt_some]
  refine ⟨end_cr h rfl h1.2 (fun _ _ => rfl) (fun _ _ _ => rfl) ?_ h.dr (fun c c1 c2 => ?_), ?_, fun j hj => by rw [up_eq]; dsimp only; rw [if_neg (by omega), up_ne (by omega), up_ne (by omega)]⟩
  · rw [hwR_same _ (fun k _ => e43 k)]
    exact h.aw
  · rw [h.dt c c1 c2]
    unfold drt baseR
    rw [m 240 (by decide) (by decide) (by decide), cl_231.1]
    have go : ∀ j : Nat, dirR (clS t 2 μ) j ((t + 1 : Nat) : Int) = dirR μ j ((t + 1 : Nat) : Int) := by
      intro j
      induction j with
      | zero => rfl
      | succ j ih =>
        unfold dirR
        rw [ih, m 242 (by decide) (by decide) (by decide)]
        by_cases q : μ 243 j = 1
        · rw [m44, if_neg (show ¬ (j : Int) = μ 231 29 from fun z => by rw [z] at q; omega), (e43 j).mpr q, q]
        · rw [if_neg (fun z => q ((e43 j).mp z.1)), if_neg (fun z => q z.1)]
    rw [go]
  · exact ((Fb.up (by omega)).tr (Fb.up (by omega))).tr (Fb.up (by omega))
theorem whole_ok {F b : Nat} {w0 l : Int} {t : Nat} {μ σ : St} (hF : 100 ≤ F) (hb : b = 12 ∨ b = 110) (hw : 0 ≤ w0 ∧ w0 ≤ 32) (hM : MI0 w0 (t + 1) μ) (h30 : μ 231 28 ≤ 30) (ho : μ 231 29 ≠ -1) (h : RunR b w0 l (t + 1) μ σ) : TT (f_X3_finishWhole F b ((t : Int) + 1) σ) (fun σ' => RunR b w0 l (t + 1) (clS t 1 μ) σ' ∧ Fb b σ σ' ∧ ∀ j, j = 1 ∨ j = 5 ∨ j = 6 ∨ j = 7 → σ' b j = σ b j) := by
  have h1 := hM.op.resolve_left ho
  have h0 := hM.c0
  have hst := (hM.cp (μ 231 29) h1.2 (by omega)).st
  have m43 : ∀ j, clS t 1 μ 243 j = if j = μ 231 29 then 1 else μ 243 j := fun j => by unfold clS; rw [up_ne (by decide), up_ne (by decide), up_eq]
  have m44 : ∀ j, clS t 1 μ 244 j = if j = μ 231 29 then (t : Int) + 1 else μ 244 j := fun j => by unfold clS; rw [up_ne (by decide), up_eq, up_ne (by decide)]
  have m : ∀ x, x ≠ 231 → x ≠ 243 → x ≠ 244 → clS t 1 μ x = μ x := fun x a b c => by unfold clS; rw [up_ne a, up_ne c, up_ne b]
  have hK := kd_cpb hb (k := μ 231 29) ⟨h1.2, by omega⟩
  have hcnt : (μ 231 28).toNat = (μ 231 29).toNat + 1 := by omega
  have hk2 : (((μ 231 29).toNat : Nat) : Int) = μ 231 29 := by omega
  have hbase : baseR (clS t 1 μ) ((t + 1 : Nat) : Int) = μ 242 (μ 231 29) := by
    unfold baseR
    rw [cl_231.1, hcnt, dirR, hk2, m43, m44, if_pos rfl, if_pos rfl, if_pos ⟨rfl, by omega⟩, m 242 (by decide) (by decide) (by decide)]
  have hhw : hwR (clS t 1 μ) (μ 231 28).toNat := by
    rw [hcnt, hwR, hk2, m43, if_pos rfl]
    exact Or.inr rfl
  have hmk := (h.cd (μ 231 29) h1.2 (by omega)).mk1
  unfold f_X3_finishWhole
  simp only [tt_gt, tt_sg, tt_ite, tt_ck, tt_lk, tt_ix, tt_bo, tt_by, tt_nz, tt_ob, tt_st, tt_cpk, tt_c1, tt_c2, tt_ca, tt_cb, tt_some, kd_231, kd_0, Nat.reduceAdd, true_and, and_true, true_implies, not_true_eq_false, false_implies, not_false_eq_true, true_or, or_true, (kd_run hb).1, h.op, copyOf_ok (F := F) (b := b) (σ := σ) (k := μ 231 29) (kd_run hb).1 ⟨h1.2, by rw [h.cn]; omega⟩ (by rw [h.cn]; exact h30), hK]
  refine lp_w (L := fun n (p : Int × St) => f_X3_finishWhole_L21 F b ((t : Int) + 1) n (b + 7 + 1 + 3 * (μ 231 29).toNat) p.1 p.2) (fun j p => 0 ≤ p.1 ∧ p.1 + j = w0 ∧ (∀ x, x ≠ b → p.2 x = σ x) ∧ (∀ i, i ≠ 2 → p.2 b i = σ b i) ∧ iR (p.2 b 2) ∧ ∀ c, 0 ≤ c → c < 32 → (bt (p.2 b 2) c ↔ c < p.1 ∧ μ 242 (μ 231 29) ≤ latR (μ 240) c (t + 1))) (fun j n p hI ih => ?_) w0.toNat F (0, z_up σ b 2 0) (by omega) ⟨by dsimp only; omega, by dsimp only; omega, fun x hx => up_ne hx, fun i hi => by dsimp only; rw [up_eq]; exact if_neg hi, by dsimp only; rw [up_eq]; exact iR_0, fun c c1 c2 => ?_⟩
  · obtain ⟨i, τ⟩ := p
    dsimp only at hI ih ⊢
    obtain ⟨i1, i2, i3, i4, i5, i6⟩ := hI
    rw [f_X3_finishWhole_L21]
    simp only [tt_gt, tt_sg, tt_ite, tt_ck, tt_lk, tt_ix, tt_bo, tt_by, tt_nz, tt_ob, tt_st, tt_cpk, tt_c1, tt_c2, tt_ca, tt_cb, tt_some, kd_231, kd_0, Nat.reduceAdd, true_and, and_true, true_implies, not_true_eq_false, false_implies, not_false_eq_true, true_or, or_true, i4 8 (by decide), h.n8]
    refine ⟨fun q => ?_, fun q => ?_⟩
    · have z4 : z_up τ b 10 1 b 4 = μ 231 29 := by rw [up_eq]; dsimp only; rw [if_neg (by decide), i4 4 (by decide)]; exact h.op
      have z3 : z_up τ b 10 1 b 3 = μ 231 28 := by rw [up_eq]; dsimp only; rw [if_neg (by decide), i4 3 (by decide)]; exact h.cn
      rw [endOpen_eq hb z4 ⟨h1.2, by omega⟩ (by omega), tt_some]
      refine ⟨end_cr h rfl h1.2 (fun x hx => (up_ne hx).trans (i3 x hx)) (fun x x1 x2 => by rw [up_eq]; dsimp only; rw [if_neg x2]; exact i4 x x1) (Or.inl ⟨by rw [up_eq]; exact if_pos rfl, hhw⟩) (by rw [up_eq]; dsimp only; rw [if_neg (by decide)]; exact i5) (fun c c1 c2 => ?_), ?_, fun j hj => by rw [up_eq]; dsimp only; rw [if_neg (by omega), up_ne (by omega), up_ne (by omega), up_eq]; dsimp only; rw [if_neg (by omega), i4 j (by omega)]⟩
      · rw [up_eq]
        dsimp only
        rw [if_neg (by decide), i6 c c1 c2]
        unfold drt
        rw [hbase, m 240 (by decide) (by decide) (by decide)]
        exact ⟨fun z => ⟨by omega, z.2⟩, fun z => ⟨by omega, z.2⟩⟩
      · refine Fb.tr (c := z_up τ b 10 1) ?_ (((Fb.up (by omega)).tr (Fb.up (by omega))).tr (Fb.up (by omega)))
        intro x hx
        rw [up_ne (by omega)]
        exact i3 x (by omega)
    · have hK1 : τ (b + 7 + 1 + 3 * (μ 231 29).toNat) 1 = μ 242 (μ 231 29) := by rw [i3 _ (by omega)]; exact hmk
      have hla : τ (b + 5) i = latR (μ 240) i (t + 1) := by rw [i3 _ (by omega)]; exact h.la i i1 (by omega)
      rw [hK1, hla]
      refine And.intro (by omega) ⟨fun q2 => And.intro (by omega) (ih (j - 1) (i + 1, τ) (by omega) ⟨by dsimp only; omega, by dsimp only; omega, i3, i4, i5, fun c c1 c2 => ?_⟩), fun q2 => And.intro (by omega) (ih (j - 1) (i + 1, z_up τ b 2 (z_or (τ b 2) (z_shl 1 i))) (by omega) ⟨by dsimp only; omega, by dsimp only; omega, fun x hx => (up_ne hx).trans (i3 x hx), fun x hx => by dsimp only; rw [up_eq]; dsimp only; rw [if_neg hx]; exact i4 x hx, by dsimp only; rw [up_eq]; dsimp only; rw [if_pos rfl]; exact iR_or, fun c c1 c2 => ?_⟩)⟩
      · rw [i6 c c1 c2]
        dsimp only
        constructor
        · exact fun z => ⟨by omega, z.2⟩
        · refine fun z => ⟨?_, z.2⟩
          by_cases q5 : c = i
          · rw [q5] at z; omega
          · omega
      · dsimp only
        rw [up_eq]
        dsimp only
        rw [if_pos rfl, bt_or ⟨c1, c2⟩, bt_one ⟨c1, c2⟩ (by omega), i6 c c1 c2]
        constructor
        · rintro (z | z)
          · exact ⟨by omega, z.2⟩
          · rw [z]; exact ⟨by omega, by omega⟩
        · intro z
          by_cases q5 : c = i
          · exact Or.inr q5
          · exact Or.inl ⟨by omega, z.2⟩
  · dsimp only
    rw [up_eq]
    dsimp only
    rw [if_pos rfl]
    exact ⟨fun z => absurd z (bt_zero ⟨c1, c2⟩), fun z => by omega⟩
