def RunR (b : Nat) (w0 l : Int) (t : Nat) (μ σ : St) : Prop := (BR (b + 1) σ w0 (fun c => μ 239 (32 * t + c))) ∧ (σ b 8 = w0) ∧ (σ b 9 = l) ∧ (σ b 3 = μ 231 28) ∧ (σ b 4 = μ 231 29) ∧ ((σ b 10 = 1 ∧ hwR μ (μ 231 28).toNat) ∨ (σ b 10 = 0 ∧ ¬ hwR μ (μ 231 28).toNat)) ∧ (iR (σ b 2)) ∧ (∀ c, 0 ≤ c → c < 32 → (bt (σ b 2) c ↔ c < w0 ∧ drt μ c t)) ∧ (∀ c, 0 ≤ c → c < w0 → σ (b + 5) c = latR (μ 240) c t) ∧ (∀ e, 0 ≤ e → e < 60 → ∀ c, 0 ≤ c → c < 32 → (bt (σ (b + 6) e) c ↔ e < t ∧ μ 240 (32 * e + c) ≠ 0)) ∧ (∀ k, 0 ≤ k → k < μ 231 28 → CC (b + 7 + 1 + 3 * k.toNat) k μ σ) ∧ (∀ k, 0 ≤ k → k < μ 231 28 → CD (b + 7 + 1 + 3 * k.toNat) k μ σ)
theorem RunR.bd {b : Nat} {w0 l : Int} {t : Nat} {μ σ : St} (h : RunR b w0 l t μ σ) : BR (b + 1) σ w0 (fun c => μ 239 (32 * t + c)) := h.1
theorem RunR.n8 {b : Nat} {w0 l : Int} {t : Nat} {μ σ : St} (h : RunR b w0 l t μ σ) : σ b 8 = w0 := h.2.1
theorem RunR.n9 {b : Nat} {w0 l : Int} {t : Nat} {μ σ : St} (h : RunR b w0 l t μ σ) : σ b 9 = l := h.2.2.1
theorem RunR.cn {b : Nat} {w0 l : Int} {t : Nat} {μ σ : St} (h : RunR b w0 l t μ σ) : σ b 3 = μ 231 28 := h.2.2.2.1
theorem RunR.op {b : Nat} {w0 l : Int} {t : Nat} {μ σ : St} (h : RunR b w0 l t μ σ) : σ b 4 = μ 231 29 := h.2.2.2.2.1
theorem RunR.aw {b : Nat} {w0 l : Int} {t : Nat} {μ σ : St} (h : RunR b w0 l t μ σ) : (σ b 10 = 1 ∧ hwR μ (μ 231 28).toNat) ∨ (σ b 10 = 0 ∧ ¬ hwR μ (μ 231 28).toNat) := h.2.2.2.2.2.1
theorem RunR.dr {b : Nat} {w0 l : Int} {t : Nat} {μ σ : St} (h : RunR b w0 l t μ σ) : iR (σ b 2) := h.2.2.2.2.2.2.1
theorem RunR.dt {b : Nat} {w0 l : Int} {t : Nat} {μ σ : St} (h : RunR b w0 l t μ σ) : ∀ c, 0 ≤ c → c < 32 → (bt (σ b 2) c ↔ c < w0 ∧ drt μ c t) := h.2.2.2.2.2.2.2.1
theorem RunR.la {b : Nat} {w0 l : Int} {t : Nat} {μ σ : St} (h : RunR b w0 l t μ σ) : ∀ c, 0 ≤ c → c < w0 → σ (b + 5) c = latR (μ 240) c t := h.2.2.2.2.2.2.2.2.1
theorem RunR.cb {b : Nat} {w0 l : Int} {t : Nat} {μ σ : St} (h : RunR b w0 l t μ σ) : ∀ e, 0 ≤ e → e < 60 → ∀ c, 0 ≤ c → c < 32 → (bt (σ (b + 6) e) c ↔ e < t ∧ μ 240 (32 * e + c) ≠ 0) := h.2.2.2.2.2.2.2.2.2.1
theorem RunR.cc {b : Nat} {w0 l : Int} {t : Nat} {μ σ : St} (h : RunR b w0 l t μ σ) : ∀ k, 0 ≤ k → k < μ 231 28 → CC (b + 7 + 1 + 3 * k.toNat) k μ σ := h.2.2.2.2.2.2.2.2.2.2.1
theorem RunR.cd {b : Nat} {w0 l : Int} {t : Nat} {μ σ : St} (h : RunR b w0 l t μ σ) : ∀ k, 0 ≤ k → k < μ 231 28 → CD (b + 7 + 1 + 3 * k.toNat) k μ σ := h.2.2.2.2.2.2.2.2.2.2.2
def Fb (b : Nat) (σ σ' : St) : Prop := ∀ x, (x < b ∨ b + 97 < x) → σ' x = σ x
theorem Fb.rf {b : Nat} {σ : St} : Fb b σ σ := fun _ _ => rfl
theorem Fb.tr {b : Nat} {a c d : St} (h : Fb b a c) (h2 : Fb b c d) : Fb b a d := fun x q => (h2 x q).trans (h x q)
theorem Fb.up {b x : Nat} {σ : St} {j v : Int} (h : b ≤ x ∧ x ≤ b + 97) : Fb b σ (z_up σ x j v) := fun y q => up_ne (by omega)
theorem FrC.fb {b K : Nat} {σ σ' : St} (h : FrC K σ σ') (hK : b ≤ K ∧ K + 2 ≤ b + 97) : Fb b σ σ' := fun x q => h.oth x (by omega) (by omega) (by omega)
theorem CC.mv {K : Nat} {k : Int} {μ σ σ' : St} (h : CC K k μ σ) (h0 : σ' K = σ K) (h1 : σ' (K + 1) = σ (K + 1)) (h2 : σ' (K + 2) = σ (K + 2)) : CC K k μ σ' :=
  ⟨by rw [h0]; exact h.sz, by rw [h0]; exact h.wr, by rw [h0]; exact h.hr, by rw [h0]; exact h.wt, by rw [h0]; exact h.hd, by rw [h1]; exact h.ct, by rw [h2]; exact h.tn⟩
theorem CD.mv {K : Nat} {k : Int} {μ σ σ' : St} (h : CD K k μ σ) (h0 : ∀ j, j ≠ 5 → j ≠ 7 → σ' K j = σ K j) : CD K k μ σ' :=
  ⟨by rw [h0 0 (by decide) (by decide)]; exact h.fl, by rw [h0 1 (by decide) (by decide)]; exact h.mk1, by rw [h0 2 (by decide) (by decide)]; exact h.st, by rw [h0 3 (by decide) (by decide)]; exact h.en, by rw [h0 6 (by decide) (by decide)]; exact h.rr, by rw [h0 6 (by decide) (by decide)]; exact h.rs⟩
theorem RunR.up {b : Nat} {w0 l : Int} {t : Nat} {μ σ : St} {j v : Int} (h : RunR b w0 l t μ σ) (hj : j = 1 ∨ j = 5 ∨ j = 6 ∨ j = 7) : RunR b w0 l t μ (z_up σ b j v) := by
  have e : ∀ x, x ≠ b → z_up σ b j v x = σ x := fun x h => up_ne h
  have eb : ∀ i, i ≠ j → z_up σ b j v b i = σ b i := fun i hi => by rw [up_eq]; exact if_neg hi
  refine ⟨⟨by rw [e _ (by omega)]; exact h.bd.1, by rw [e _ (by omega)]; exact h.bd.2⟩, by rw [eb 8 (by omega)]; exact h.n8, by rw [eb 9 (by omega)]; exact h.n9, by rw [eb 3 (by omega)]; exact h.cn, by rw [eb 4 (by omega)]; exact h.op, by rw [eb 10 (by omega)]; exact h.aw, by rw [eb 2 (by omega)]; exact h.dr, by rw [eb 2 (by omega)]; exact h.dt, by rw [e _ (by omega)]; exact h.la, by rw [e _ (by omega)]; exact h.cb, fun k k1 k2 => (h.cc k k1 k2).mv (e _ (by omega)) (e _ (by omega)) (e _ (by omega)), fun k k1 k2 => (h.cd k k1 k2).mv (fun i _ _ => by rw [e _ (by omega)])⟩
theorem CC.hs {w0 : Int} {t K : Nat} {k : Int} {μ μ' σ : St} (hM : MI0 w0 t μ) (hH : Hs t μ μ') (hk : 0 ≤ k ∧ k < μ 231 28) (hn : k ≠ μ 231 29) (h : CC K k μ σ) : CC K k μ' σ := by
  have h1 := hH.fx k hk.1 hk.2
  have h2 := hH.cl k hk.1 hk.2 hn
  have h3 : ∀ c, 0 ≤ c → c < 32 → μ' 248 (32 * k + c) = μ 248 (32 * k + c) := fun c c1 c2 => by
    rcases hH.kb k hk.1 hk.2 c c1 c2 with q | q
    · exact q.1
    · exact absurd q.2.1 hn
  have h4 : μ 245 k ≤ 32 := by rw [(hM.cp k hk.1 hk.2).sz]; exact (kpN_rng μ k).2
  exact ⟨by rw [h2.2.2.1]; exact h.sz, h.wr, h.hr, fun c c1 c2 => by rw [h1.2.2 c c1 c2]; exact h.wt c c1 c2, fun c c1 c2 => by rw [h3 c c1 c2]; exact h.hd c c1 c2, fun c c1 c2 => by rw [h3 c c1 c2, hH.v9, h1.2.1]; exact h.ct c c1 c2, fun i i1 i2 => by rw [h2.2.2.1] at i2; rw [h2.2.2.2 i i1 (by omega)]; exact h.tn i i1 i2⟩
theorem CD.hs {t K : Nat} {k : Int} {μ μ' σ : St} (hH : Hs t μ μ') (hk : 0 ≤ k ∧ k < μ 231 28) (hn : k ≠ μ 231 29) (h : CD K k μ σ) : CD K k μ' σ := by
  have h1 := hH.fx k hk.1 hk.2
  have h2 := hH.cl k hk.1 hk.2 hn
  exact ⟨by rw [h1.1]; exact h.fl, by rw [h1.2.1]; exact h.mk1, by rw [h2.1]; exact h.st, by rw [h2.2.1]; exact h.en, h.rr, fun c c1 c2 => by
    rcases hH.kb k hk.1 hk.2 c c1 c2 with q | q
    · rw [q.2]; exact h.rs c c1 c2
    · exact absurd q.2.1 hn⟩
theorem whyP_one {μ : St} {kd r r' : Int} (h : whyP μ kd r) (h' : whyP μ kd r') : r = r' := by
  unfold whyP at h h'
  by_cases q : hwR μ (μ 231 28).toNat
  · simp only [q, true_and, not_true_eq_false, false_and, and_false, or_false] at h h'
    omega
  · simp only [q, true_and, not_false_eq_true, false_and, and_false, or_false, false_or] at h h'
    omega
theorem refusal_ok {F b : Nat} {w0 l : Int} {t : Nat} {μ σ : St} {kd : Int} (hb : kdX b = 3) (h : RunR b w0 l t μ σ) (hkd : 0 ≤ kd ∧ kd ≤ 8) : TT (f_X3_refusal F b kd σ) (fun r => whyP μ kd r) := by
  have ho := h.op
  have ha := h.aw
  have j24 : ∀ x : Int, (x = 0 ∧ μ 231 29 = -1) ∨ (x = 1 ∧ μ 231 29 ≠ -1) → kd = 4 ∨ kd = 5 → TT (f_X3_refusal_J24 F b kd σ x) (fun r => whyP μ kd r) := by
    intro x hx hk
    unfold f_X3_refusal_J24 whyP
    simp only [tt_gt, tt_sg, tt_ite, tt_ck, tt_lk, tt_ix, tt_bo, tt_by, tt_nz, tt_ob, tt_st, tt_cpk, tt_c1, tt_c2, tt_ca, tt_cb, tt_some, kd_231, kd_0, Nat.reduceAdd, true_and, and_true, true_implies, not_true_eq_false, false_implies, not_false_eq_true, true_or, or_true]
    refine ⟨fun q => ⟨fun q2 => Or.inr (Or.inr (Or.inr (Or.inr (Or.inl ⟨by omega, by omega⟩)))), fun q2 => ⟨fun q3 => ?_, fun q3 => ?_⟩⟩, fun q => Or.inr (Or.inr (Or.inr (Or.inl ⟨hk, by omega⟩)))⟩
    · rcases ha with a | a
      · exact Or.inr (Or.inr (Or.inr (Or.inr (Or.inr (Or.inl ⟨by omega, by omega, a.2⟩)))))
      · exact absurd a.1 q3
    · rcases ha with a | a
      · exact absurd (by rw [a.1]; decide) q3
      · exact Or.inr (Or.inr (Or.inr (Or.inr (Or.inr (Or.inr ⟨by omega, by omega, a.2⟩)))))
  have j13 : ∀ x : Int, (x = 0 ∧ μ 231 29 = -1) ∨ (x = 1 ∧ μ 231 29 ≠ -1) → TT (f_X3_refusal_J13 F b kd σ x) (fun r => whyP μ kd r) := by
    intro x hx
    unfold f_X3_refusal_J13
    simp only [tt_gt, tt_sg, tt_ite, tt_ck, tt_lk, tt_ix, tt_bo, tt_by, tt_nz, tt_ob, tt_st, tt_cpk, tt_c1, tt_c2, tt_ca, tt_cb, tt_some, kd_231, kd_0, Nat.reduceAdd, true_and, and_true, true_implies, not_true_eq_false, false_implies, not_false_eq_true, true_or, or_true]
    refine ⟨fun q => j24 x hx (Or.inl q), fun q => ⟨fun q2 => ⟨fun q3 => ?_, fun q3 => ⟨fun q4 => ?_, fun q4 => ?_⟩⟩, fun q2 => j24 x hx (Or.inr (by omega))⟩⟩
    · exact Or.inl ⟨by omega, rfl⟩
    · exact Or.inr (Or.inr (Or.inl ⟨by omega, by omega, rfl⟩))
    · exact Or.inr (Or.inl ⟨by omega, by omega, rfl⟩)
  unfold f_X3_refusal
  simp only [tt_gt, tt_sg, tt_ite, tt_ck, tt_lk, tt_ix, tt_bo, tt_by, tt_nz, tt_ob, tt_st, tt_cpk, tt_c1, tt_c2, tt_ca, tt_cb, tt_some, kd_231, kd_0, Nat.reduceAdd, true_and, and_true, true_implies, not_true_eq_false, false_implies, not_false_eq_true, true_or, or_true, hb, ho]
  exact ⟨fun q => j13 0 (Or.inl ⟨rfl, q⟩), fun q => j13 1 (Or.inr ⟨rfl, q⟩)⟩
theorem base_next {w0 : Int} {t : Nat} {μ : St} (hM : MI0 w0 t μ) : baseR μ ((t + 1 : Nat) : Int) = baseR μ t := by
  have go : ∀ m : Nat, (m : Int) ≤ μ 231 28 → dirR μ m ((t + 1 : Nat) : Int) = dirR μ m t := by
    intro m
    induction m with
    | zero => intro _; rfl
    | succ m ih =>
      intro hm
      have hc := (hM.cp m (by omega) (by omega)).st
      unfold dirR
      rw [ih (by omega)]
      by_cases q : μ 243 m = 1
      · rw [if_pos ⟨q, by omega⟩, if_pos ⟨q, by omega⟩]
      · rw [if_neg (fun z => q z.1), if_neg (fun z => q z.1)]
  exact go _ (by have := hM.c0; omega)
theorem base_le {w0 : Int} {t : Nat} {μ : St} (hM : MI0 w0 t μ) (s : Int) : 0 ≤ baseR μ s ∧ baseR μ s ≤ t := by
  have go : ∀ m : Nat, (m : Int) ≤ μ 231 28 → 0 ≤ dirR μ m s ∧ dirR μ m s ≤ t := by
    intro m
    induction m with
    | zero => intro _; unfold dirR; omega
    | succ m ih =>
      intro hm
      have hc := (hM.cp m (by omega) (by omega)).mrk
      unfold dirR
      split
      · omega
      · exact ih (by omega)
  exact go _ (by have := hM.c0; omega)
theorem hwR_same {μ μ' : St} : ∀ m : Nat, (∀ k : Nat, k < m → (μ' 243 k = 1 ↔ μ 243 k = 1)) → (hwR μ' m ↔ hwR μ m)
  | 0, _ => Iff.rfl
  | m + 1, h => by
    unfold hwR
    rw [hwR_same m (fun k hk => h k (by omega)), h m (by omega)]
theorem RunR.adv {b : Nat} {w0 l : Int} {t : Nat} {μ μ' σ : St} (hM : MI0 w0 t μ) (h : RunR b w0 l t μ σ) (hb : w0 ≤ 32) (hv : Vs t μ) (hc : ∀ c, 0 ≤ c → c < 32 → μ 240 (32 * t + c) = 0) (e39 : μ' 239 = μ 239) (e40 : μ' 240 = μ 240) (e31 : μ' 231 = μ 231) (e42 : ∀ k : Nat, (k : Int) < μ 231 28 → μ' 242 k = μ 242 k) (e43 : ∀ k : Nat, (k : Int) < μ 231 28 → (μ' 243 k = 1 ↔ μ 243 k = 1)) (e44 : ∀ k : Nat, (k : Int) < μ 231 28 → μ 243 k = 1 → μ' 244 k = μ 244 k) (hcc : ∀ k, 0 ≤ k → k < μ 231 28 → CC (b + 7 + 1 + 3 * k.toNat) k μ' σ) (hcd : ∀ k, 0 ≤ k → k < μ 231 28 → CD (b + 7 + 1 + 3 * k.toNat) k μ' σ) : RunR b w0 l (t + 1) μ' σ := by
  have h0 := hM.c0
  have hla : ∀ c, 0 ≤ c → c < 32 → latR (μ 240) c (t + 1) = latR (μ 240) c t := fun c c1 c2 => by
    rw [latR, if_pos (hc c c1 c2)]
  have hbs : baseR μ' ((t + 1 : Nat) : Int) = baseR μ ((t + 1 : Nat) : Int) := by
    unfold baseR
    rw [e31]
    have go : ∀ m : Nat, (m : Int) ≤ μ 231 28 → dirR μ' m ((t + 1 : Nat) : Int) = dirR μ m ((t + 1 : Nat) : Int) := by
      intro m
      induction m with
      | zero => intro _; rfl
      | succ m ih =>
        intro hm
        unfold dirR
        rw [ih (by omega), e42 m (by omega)]
        by_cases q : μ 243 m = 1
        · rw [e44 m (by omega) q, (e43 m (by omega)).mpr q, q]
        · rw [if_neg (fun z => q ((e43 m (by omega)).mp z.1)), if_neg (fun z => q z.1)]
    exact go _ (by omega)
  refine ⟨⟨h.bd.1, fun c c1 c2 => ?_⟩, h.n8, h.n9, by rw [e31]; exact h.cn, by rw [e31]; exact h.op, ?_, h.dr, fun c c1 c2 => ?_, fun c c1 c2 => ?_, fun e he1 he2 c c1 c2 => ?_, by rw [e31]; exact hcc, by rw [e31]; exact hcd⟩
  · rw [h.bd.2 c c1 c2, e39]
    dsimp only
    rw [hv c c1 c2 (hc c c1 c2)]
  · rw [e31, hwR_same _ (fun k hk => e43 k (by omega))]; exact h.aw
  · rw [h.dt c c1 c2]
    unfold drt
    rw [e40, hla c c1 c2, hbs, base_next hM]
  · rw [e40, hla c c1 (by omega)]; exact h.la c c1 c2
  · rw [h.cb e he1 he2 c c1 c2, e40]
    constructor
    · exact fun z => ⟨by omega, z.2⟩
    · refine fun z => ⟨?_, z.2⟩
      apply Classical.byContradiction
      intro q
      have : e = t := by omega
      rw [this] at z
      exact z.2 (hc c c1 c2)
