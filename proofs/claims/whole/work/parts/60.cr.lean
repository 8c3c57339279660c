def CC (K : Nat) (k : Int) (μ σ : St) : Prop := (σ K 7 = μ 245 k) ∧ (iR (σ K 4)) ∧ (iR (σ K 5)) ∧ (∀ c, 0 ≤ c → c < 32 → (bt (σ K 4) c ↔ μ 246 (32 * k + c) ≠ 0)) ∧ (∀ c, 0 ≤ c → c < 32 → (bt (σ K 5) c ↔ μ 248 (32 * k + c) ≠ -1)) ∧ (∀ c, 0 ≤ c → c < 32 → μ 248 (32 * k + c) ≠ -1 → σ (K + 1) c = μ 239 (32 * μ 242 k + c)) ∧ (∀ i, 0 ≤ i → i < μ 245 k → σ (K + 2) i = μ 249 (32 * k + i))
theorem CC.sz {K : Nat} {k : Int} {μ σ : St} (h : CC K k μ σ) : σ K 7 = μ 245 k := h.1
theorem CC.wr {K : Nat} {k : Int} {μ σ : St} (h : CC K k μ σ) : iR (σ K 4) := h.2.1
theorem CC.hr {K : Nat} {k : Int} {μ σ : St} (h : CC K k μ σ) : iR (σ K 5) := h.2.2.1
theorem CC.wt {K : Nat} {k : Int} {μ σ : St} (h : CC K k μ σ) : ∀ c, 0 ≤ c → c < 32 → (bt (σ K 4) c ↔ μ 246 (32 * k + c) ≠ 0) := h.2.2.2.1
theorem CC.hd {K : Nat} {k : Int} {μ σ : St} (h : CC K k μ σ) : ∀ c, 0 ≤ c → c < 32 → (bt (σ K 5) c ↔ μ 248 (32 * k + c) ≠ -1) := h.2.2.2.2.1
theorem CC.ct {K : Nat} {k : Int} {μ σ : St} (h : CC K k μ σ) : ∀ c, 0 ≤ c → c < 32 → μ 248 (32 * k + c) ≠ -1 → σ (K + 1) c = μ 239 (32 * μ 242 k + c) := h.2.2.2.2.2.1
theorem CC.tn {K : Nat} {k : Int} {μ σ : St} (h : CC K k μ σ) : ∀ i, 0 ≤ i → i < μ 245 k → σ (K + 2) i = μ 249 (32 * k + i) := h.2.2.2.2.2.2
def CD (K : Nat) (k : Int) (μ σ : St) : Prop := (σ K 0 = μ 241 k) ∧ (σ K 1 = μ 242 k) ∧ (σ K 2 = μ 243 k) ∧ (σ K 3 = μ 244 k) ∧ (iR (σ K 6)) ∧ (∀ c, 0 ≤ c → c < 32 → (bt (σ K 6) c ↔ μ 247 (32 * k + c) ≠ 0))
theorem CD.fl {K : Nat} {k : Int} {μ σ : St} (h : CD K k μ σ) : σ K 0 = μ 241 k := h.1
theorem CD.mk1 {K : Nat} {k : Int} {μ σ : St} (h : CD K k μ σ) : σ K 1 = μ 242 k := h.2.1
theorem CD.st {K : Nat} {k : Int} {μ σ : St} (h : CD K k μ σ) : σ K 2 = μ 243 k := h.2.2.1
theorem CD.en {K : Nat} {k : Int} {μ σ : St} (h : CD K k μ σ) : σ K 3 = μ 244 k := h.2.2.2.1
theorem CD.rr {K : Nat} {k : Int} {μ σ : St} (h : CD K k μ σ) : iR (σ K 6) := h.2.2.2.2.1
theorem CD.rs {K : Nat} {k : Int} {μ σ : St} (h : CD K k μ σ) : ∀ c, 0 ≤ c → c < 32 → (bt (σ K 6) c ↔ μ 247 (32 * k + c) ≠ 0) := h.2.2.2.2.2
def FrC (K : Nat) (σ σ' : St) : Prop := (∀ x, x ≠ K → x ≠ K + 1 → x ≠ K + 2 → σ' x = σ x) ∧ (∀ j, j ≠ 5 → j ≠ 7 → σ' K j = σ K j)
theorem FrC.oth {K : Nat} {σ σ' : St} (h : FrC K σ σ') : ∀ x, x ≠ K → x ≠ K + 1 → x ≠ K + 2 → σ' x = σ x := h.1
theorem FrC.slo {K : Nat} {σ σ' : St} (h : FrC K σ σ') : ∀ j, j ≠ 5 → j ≠ 7 → σ' K j = σ K j := h.2
theorem FrC.rf {K : Nat} {σ : St} : FrC K σ σ := ⟨fun _ _ _ _ => rfl, fun _ _ _ => rfl⟩
theorem FrC.tr {K : Nat} {a b c : St} (h : FrC K a b) (h2 : FrC K b c) : FrC K a c := ⟨fun x p q r => (h2.oth x p q r).trans (h.oth x p q r), fun j p q => (h2.slo j p q).trans (h.slo j p q)⟩
theorem missing_ok {F K : Nat} {k : Int} {μ σ : St} (hK : kdX K = 1) (h : CC K k μ σ) : TT (f_X1_missing F K σ) (fun r => iR r ∧ ∀ c, 0 ≤ c → c < 32 → (bt r c ↔ μ 246 (32 * k + c) ≠ 0 ∧ μ 248 (32 * k + c) = -1)) := by
  unfold f_X1_missing
  simp only [tt_gt, tt_sg, tt_ite, tt_ck, tt_lk, tt_ix, tt_bo, tt_by, tt_nz, tt_ob, tt_st, tt_cpk, tt_c1, tt_c2, tt_ca, tt_cb, tt_some, kd_231, kd_0, Nat.reduceAdd, true_and, and_true, true_implies, not_true_eq_false, false_implies, not_false_eq_true, true_or, or_true, hK]
  refine ⟨iR_and, fun c c1 c2 => ?_⟩
  rw [bt_and ⟨c1, c2⟩, bt_not ⟨c1, c2⟩, h.wt c c1 c2, h.hd c c1 c2]
  exact ⟨fun z => ⟨z.1, Classical.byContradiction z.2⟩, fun z => ⟨z.1, fun y => y z.2⟩⟩
theorem keep_ok {F K : Nat} {μ σ : St} {c e s v : Int} (hK : kdX K = 1) (h : CC K (μ 231 29) μ σ) (he : 0 ≤ e) (hc : 0 ≤ c ∧ c < 32) (hz : 0 ≤ μ 245 (μ 231 29) ∧ μ 245 (μ 231 29) < 32) (hl : μ 248 (32 * μ 231 29 + c) = -1) (hv : v = μ 239 (32 * μ 242 (μ 231 29) + c)) : TT (f_X1_keep F K c v σ) (fun σ' => FrC K σ σ' ∧ CC K (μ 231 29) (kpS c e s μ) σ') := by
  have hs := h.sz
  generalize hk : μ 231 29 = k at *
  have m42 : kpS c e s μ 242 = μ 242 := kp_ne (by decide) (by decide) (by decide) (by decide)
  have m39 : kpS c e s μ 239 = μ 239 := kp_ne (by decide) (by decide) (by decide) (by decide)
  have m46 : kpS c e s μ 246 = μ 246 := kp_ne (by decide) (by decide) (by decide) (by decide)
  have n1 : z_up σ K 5 (z_or (σ K 5) (z_shl 1 c)) K 7 = σ K 7 := by rw [up_eq]; exact if_neg (by decide)
  have n2 : ∀ (τ : St) (j x : Int), z_up τ (K + 1) j x K = τ K := fun τ j x => up_ne (by omega)
  have n3 : ∀ (τ : St) (j x : Int), z_up τ (K + 2) j x K = τ K := fun τ j x => up_ne (by omega)
  unfold f_X1_keep
  simp only [tt_gt, tt_sg, tt_ite, tt_ck, tt_lk, tt_ix, tt_bo, tt_by, tt_nz, tt_ob, tt_st, tt_cpk, tt_c1, tt_c2, tt_ca, tt_cb, tt_some, kd_231, kd_0, Nat.reduceAdd, true_and, and_true, true_implies, not_true_eq_false, false_implies, not_false_eq_true, true_or, or_true, hK, n1, n2, n3, hs]
  refine ⟨fun q => absurd q (by omega), fun _ => ⟨fun q => absurd q (by omega), fun _ => ⟨fun q => absurd q (by omega), fun _ => ?_⟩⟩⟩
  refine And.intro (by omega) (And.intro (by omega) (And.intro (by omega) ?_))
  generalize hσ : z_up (z_up (z_up (z_up σ K 5 (z_or (σ K 5) (z_shl 1 c))) (K + 1) c v) (K + 2) (μ 245 k) c) K 7 (μ 245 k + 1) = σ'
  have a0 : ∀ j, σ' K j = if j = 7 then μ 245 k + 1 else if j = 5 then z_or (σ K 5) (z_shl 1 c) else σ K j := fun j => by
    rw [← hσ, up_eq]
    dsimp only
    rw [n3, n2, up_eq]
  have a1 : ∀ j, σ' (K + 1) j = if j = c then v else σ (K + 1) j := fun j => by
    rw [← hσ, up_ne (by omega), up_ne (by omega), up_eq]
    dsimp only
    rw [up_ne (by omega)]
  have a2 : ∀ j, σ' (K + 2) j = if j = μ 245 k then c else σ (K + 2) j := fun j => by
    rw [← hσ, up_ne (by omega), up_eq]
    dsimp only
    rw [up_ne (by omega), up_ne (by omega)]
  refine ⟨⟨fun x x1 x2 x3 => ?_, fun j j1 j2 => ?_⟩, ?_, ?_, ?_, fun d d1 d2 => ?_, fun d d1 d2 => ?_, fun d d1 d2 => ?_, fun i i1 i2 => ?_⟩
  · rw [← hσ, up_ne x1, up_ne x3, up_ne x2, up_ne x1]
  · rw [a0, if_neg j2, if_neg j1]
  · rw [a0, if_pos rfl, kp_245, hk, if_pos rfl]
  · rw [a0, if_neg (by decide), if_neg (by decide)]; exact h.wr
  · rw [a0, if_neg (by decide), if_pos rfl]; exact iR_or
  · rw [a0, if_neg (by decide), if_neg (by decide), m46]; exact h.wt d d1 d2
  · rw [a0, if_neg (by decide), if_pos rfl, bt_or ⟨d1, d2⟩, bt_one ⟨d1, d2⟩ hc, h.hd d d1 d2, kp_248, hk]
    by_cases q : d = c
    · rw [if_pos (by omega)]
      exact ⟨fun _ => by omega, fun _ => Or.inr q⟩
    · rw [if_neg (by omega)]
      exact ⟨fun z => z.elim id (fun z => absurd z q), fun z => Or.inl z⟩
  · rw [kp_248, hk, a1, m39, m42]
    by_cases q : d = c
    · rw [if_pos (by omega), if_pos q, hv, q]
      exact fun _ => rfl
    · rw [if_neg (by omega), if_neg q]
      exact h.ct d d1 d2
  · rw [kp_245, hk, if_pos rfl] at i2
    rw [a2, kp_249, hk]
    by_cases q : i = μ 245 k
    · rw [if_pos q, if_pos (by omega)]
    · rw [if_neg q, if_neg (by omega)]
      exact h.tn i i1 (by omega)
theorem copyOf_ok {F b : Nat} {σ : St} {k : Int} (hb : kdX b = 3) (hk : 0 ≤ k ∧ k < σ b 3) (hn : σ b 3 ≤ 30) : f_X3_copyOf F b k σ = some (some (b + 7 + 1 + 3 * k.toNat)) := by
  apply TT.eq
  unfold f_X3_copyOf
  simp only [tt_gt, tt_sg, tt_ite, tt_ck, tt_lk, tt_ix, tt_bo, tt_by, tt_nz, tt_ob, tt_st, tt_cpk, tt_c1, tt_c2, tt_ca, tt_cb, tt_some, kd_231, kd_0, Nat.reduceAdd, true_and, and_true, true_implies, not_true_eq_false, false_implies, not_false_eq_true, true_or, or_true, hb]
  exact ⟨fun q => absurd q (by omega), fun _ => ⟨fun q => absurd q (by omega), fun _ => ⟨fun q => absurd q (by omega), fun _ => by omega⟩⟩⟩
theorem copyOf_no {F b : Nat} {σ : St} {k : Int} (hb : kdX b = 3) (hk : k < 0 ∨ σ b 3 ≤ k) : f_X3_copyOf F b k σ = some none := by
  apply TT.eq
  unfold f_X3_copyOf
  simp only [tt_gt, tt_sg, tt_ite, tt_ck, tt_lk, tt_ix, tt_bo, tt_by, tt_nz, tt_ob, tt_st, tt_cpk, tt_c1, tt_c2, tt_ca, tt_cb, tt_some, kd_231, kd_0, Nat.reduceAdd, true_and, and_true, true_implies, not_true_eq_false, false_implies, not_false_eq_true, true_or, or_true, hb]
  exact ⟨fun _ => trivial, fun _ => ⟨fun _ => trivial, fun q => absurd q (by omega)⟩⟩
