def hdR (μ : St) : Nat → Int
  | 0 => -1
  | m + 1 => if μ 243 m = 1 ∧ μ 241 m ≠ 0 then m else hdR μ m
def lwR (μ : St) : Nat → Int
  | 0 => -1
  | m + 1 => if μ 243 m = 1 then m else lwR μ m
theorem hdR_p (μ : St) : ∀ m : Nat, (hdR μ m = -1 ∧ ∀ i : Nat, i < m → ¬ (μ 243 i = 1 ∧ μ 241 i ≠ 0)) ∨ (∃ h : Nat, hdR μ m = h ∧ h < m ∧ (μ 243 h = 1 ∧ μ 241 h ≠ 0) ∧ ∀ i : Nat, h < i → i < m → ¬ (μ 243 i = 1 ∧ μ 241 i ≠ 0))
  | 0 => Or.inl ⟨rfl, fun i h => absurd h (Nat.not_lt_zero i)⟩
  | m + 1 => by
    rw [hdR]
    by_cases q : μ 243 m = 1 ∧ μ 241 m ≠ 0
    · rw [if_pos q]
      exact Or.inr ⟨m, rfl, by omega, q, fun i h1 h2 => absurd h2 (by omega)⟩
    · rw [if_neg q]
      rcases hdR_p μ m with h | ⟨h, h1, h2, h3, h4⟩
      · refine Or.inl ⟨h.1, fun i hi => ?_⟩
        by_cases z : i = m
        · rw [z]; exact q
        · exact h.2 i (by omega)
      · refine Or.inr ⟨h, h1, by omega, h3, fun i i1 i2 => ?_⟩
        by_cases z : i = m
        · rw [z]; exact q
        · exact h4 i i1 (by omega)
theorem lwR_p (μ : St) : ∀ m : Nat, (lwR μ m = -1 ∧ ∀ i : Nat, i < m → ¬ μ 243 i = 1) ∨ (∃ h : Nat, lwR μ m = h ∧ h < m ∧ μ 243 h = 1 ∧ ∀ i : Nat, h < i → i < m → ¬ μ 243 i = 1)
  | 0 => Or.inl ⟨rfl, fun i h => absurd h (Nat.not_lt_zero i)⟩
  | m + 1 => by
    rw [lwR]
    by_cases q : μ 243 m = 1
    · rw [if_pos q]
      exact Or.inr ⟨m, rfl, by omega, q, fun i h1 h2 => absurd h2 (by omega)⟩
    · rw [if_neg q]
      rcases lwR_p μ m with h | ⟨h, h1, h2, h3, h4⟩
      · refine Or.inl ⟨h.1, fun i hi => ?_⟩
        by_cases z : i = m
        · rw [z]; exact q
        · exact h.2 i (by omega)
      · refine Or.inr ⟨h, h1, by omega, h3, fun i i1 i2 => ?_⟩
        by_cases z : i = m
        · rw [z]; exact q
        · exact h4 i i1 (by omega)
def hd (μ : St) : Int := hdR μ (μ 231 28).toNat
abbrev lkP (μ : St) (k : Int) : Prop := (k < μ 231 28 ∧ μ 243 k = 1) ∧ hd μ ≠ -1 ∧ hd μ ≤ k
def lki (μ : St) (k : Nat) : Int := if lkP μ k then 1 else 0
theorem lki_rng (μ : St) (k : Nat) : 0 ≤ lki μ k ∧ lki μ k ≤ 1 := by
  unfold lki
  split <;> omega
def lkN (μ : St) (m : Nat) : Int := sm (lki μ) m
theorem lkN_rng (μ : St) (m : Nat) : 0 ≤ lkN μ m ∧ lkN μ m ≤ m := by
  have := sm_rng (f := lki μ) (M := 1) m (fun i _ => lki_rng μ i)
  unfold lkN
  omega
theorem lkN_s (μ : St) (m : Nat) : lkN μ (m + 1) = lkN μ m + lki μ m := rfl
theorem lkN_mono {μ : St} {a : Nat} : ∀ b : Nat, a ≤ b → lkN μ a ≤ lkN μ b
  | 0, h => by rw [show a = 0 by omega]; omega
  | b + 1, h => by
    by_cases q : a = b + 1
    · rw [q]; omega
    · have := lkN_mono (μ := μ) (a := a) b (by omega)
      have := lki_rng μ b
      rw [lkN_s]
      omega
theorem lki_1 {μ : St} {k : Nat} (h : lkP μ k) : lki μ k = 1 := if_pos h
theorem lki_0 {μ : St} {k : Nat} (h : ¬ lkP μ k) : lki μ k = 0 := if_neg h
theorem hd_rng {μ : St} (h0 : 0 ≤ μ 231 28) : hd μ = -1 ∨ (∃ h : Nat, hd μ = h ∧ (h : Int) < μ 231 28 ∧ lkP μ h) := by
  rcases hdR_p μ (μ 231 28).toNat with h | ⟨h, h1, h2, h3, h4⟩
  · exact Or.inl h.1
  · have e : hd μ = h := h1
    exact Or.inr ⟨h, e, by omega, ⟨by omega, h3.1⟩, by omega, by omega⟩
theorem e3_isWhole {F b : Nat} {w0 l : Int} {t : Nat} {μ σ1 : St} {k : Int} (hb : b = 12 ∨ b = 110) (hC : RunR b w0 l t μ σ1) (h30 : μ 231 28 ≤ 30) (hk : 0 ≤ k ∧ k < μ 231 28) : f_X3_isWhole F b k σ1 = some (if μ 243 k = 1 then 1 else 0) := by
  have hK := kd_cpb hb (k := k) ⟨hk.1, by omega⟩
  have hs := (hC.cd k hk.1 hk.2).st
  have hcn := hC.cn
  apply TT.eq
  unfold f_X3_isWhole
  simp only [tt_gt, tt_sg, tt_ite, tt_ck, tt_lk, tt_ix, tt_bo, tt_by, tt_nz, tt_ob, tt_st, tt_cpk, tt_c1, tt_c2, tt_ca, tt_cb, tt_some, kd_231, kd_0, Nat.reduceAdd, true_and, and_true, true_implies, not_true_eq_false, false_implies, not_false_eq_true, true_or, or_true, (kd_run hb).1, copyOf_ok (F := F) (b := b) (σ := σ1) (k := k) (kd_run hb).1 (by omega) (by omega), hK, hs]
  exact ⟨fun z => by rw [if_neg z], fun z => by rw [if_pos (Classical.byContradiction z)]⟩
theorem e3_head {F b : Nat} {w0 l : Int} {t : Nat} {μ σ1 : St} (hF : 100 ≤ F) (hb : b = 12 ∨ b = 110) (hC : RunR b w0 l t μ σ1) (h30 : 0 ≤ μ 231 28 ∧ μ 231 28 ≤ 30) : f_X3_chainHead F b σ1 = some (hd μ) := by
  have hcn := hC.cn
  have loop : ∀ (m n : Nat), m < n → (m : Int) ≤ μ 231 28 → f_X3_chainHead_L7 F b σ1 n ((m : Int) - 1) = some (hdR μ m) := by
    intro m
    induction m with
    | zero =>
      intro n hn _
      obtain ⟨n, rfl⟩ : ∃ k, n = k + 1 := ⟨n - 1, by omega⟩
      rw [f_X3_chainHead_L7, if_pos (by omega)]
      rfl
    | succ m ih =>
      intro n hn hm
      obtain ⟨n, rfl⟩ : ∃ k, n = k + 1 := ⟨n - 1, by omega⟩
      have e1 := ih n (by omega) (by omega)
      have e2 := (hC.cd m (by omega) (by omega)).fl
      rw [Int.toNat_natCast] at e2
      apply TT.eq
      rw [f_X3_chainHead_L7, show ((m + 1 : Nat) : Int) - 1 = (m : Int) by omega]
      simp only [tt_gt, tt_sg, tt_ite, tt_ck, tt_lk, tt_ix, tt_bo, tt_by, tt_nz, tt_ob, tt_st, tt_cpk, tt_c1, tt_c2, tt_ca, tt_cb, tt_some, kd_231, kd_0, Nat.reduceAdd, true_and, and_true, true_implies, not_true_eq_false, false_implies, not_false_eq_true, true_or, or_true, e3_isWhole (F := F) (k := (m : Int)) hb hC h30.2 ⟨by omega, by omega⟩, Int.toNat_natCast, e2]
      have back : TT (f_X3_chainHead_L7 F b σ1 n ((m : Int) + -1)) (fun x => x = hdR μ m) := by
        rw [show (m : Int) + -1 = (m : Int) - 1 by omega, e1, tt_some]
      refine ⟨fun z => absurd z (by omega), fun _ => ⟨fun z => And.intro (by omega) ?_, fun z => And.intro (by omega) ⟨fun z2 => And.intro (by omega) ?_, fun z2 => ?_⟩⟩⟩
      · have : ¬ μ 243 m = 1 := fun y => by rw [if_pos y] at z; exact absurd z (by decide)
        rw [hdR, if_neg (fun y => this y.1)]
        exact back
      · rw [hdR, if_neg (fun y => y.2 z2)]
        exact back
      · have : μ 243 m = 1 := Classical.byContradiction fun y => z (if_neg y)
        rw [hdR, if_pos ⟨this, z2⟩]
  apply TT.eq
  unfold f_X3_chainHead
  simp only [tt_gt, tt_sg, tt_ite, tt_ck, tt_lk, tt_ix, tt_bo, tt_by, tt_nz, tt_ob, tt_st, tt_cpk, tt_c1, tt_c2, tt_ca, tt_cb, tt_some, kd_231, kd_0, Nat.reduceAdd, true_and, and_true, true_implies, not_true_eq_false, false_implies, not_false_eq_true, true_or, or_true, (kd_run hb).1, hcn]
  refine And.intro (by omega) ?_
  have := loop (μ 231 28).toNat F (by omega) (by omega)
  rw [show (((μ 231 28).toNat : Nat) : Int) = μ 231 28 by omega] at this
  rw [this, tt_some]
  rfl
theorem e3_last {F b : Nat} {w0 l : Int} {t : Nat} {μ σ1 : St} (hF : 100 ≤ F) (hb : b = 12 ∨ b = 110) (hC : RunR b w0 l t μ σ1) (h30 : 0 ≤ μ 231 28 ∧ μ 231 28 ≤ 30) : f_X3_lastWhole F b σ1 = some (lwR μ (μ 231 28).toNat) := by
  have hcn := hC.cn
  have loop : ∀ (m n : Nat), m < n → (m : Int) ≤ μ 231 28 → f_X3_lastWhole_L7 F b σ1 n ((m : Int) - 1) = some (lwR μ m) := by
    intro m
    induction m with
    | zero =>
      intro n hn _
      obtain ⟨n, rfl⟩ : ∃ k, n = k + 1 := ⟨n - 1, by omega⟩
      rw [f_X3_lastWhole_L7, if_pos (by omega)]
      rfl
    | succ m ih =>
      intro n hn hm
      obtain ⟨n, rfl⟩ : ∃ k, n = k + 1 := ⟨n - 1, by omega⟩
      have e1 := ih n (by omega) (by omega)
      apply TT.eq
      rw [f_X3_lastWhole_L7, show ((m + 1 : Nat) : Int) - 1 = (m : Int) by omega]
      simp only [tt_gt, tt_sg, tt_ite, tt_ck, tt_lk, tt_ix, tt_bo, tt_by, tt_nz, tt_ob, tt_st, tt_cpk, tt_c1, tt_c2, tt_ca, tt_cb, tt_some, kd_231, kd_0, Nat.reduceAdd, true_and, and_true, true_implies, not_true_eq_false, false_implies, not_false_eq_true, true_or, or_true, e3_isWhole (F := F) (k := (m : Int)) hb hC h30.2 ⟨by omega, by omega⟩]
      refine ⟨fun z => absurd z (by omega), fun _ => ⟨fun z => And.intro (by omega) ?_, fun z => ?_⟩⟩
      · have : ¬ μ 243 m = 1 := fun y => by rw [if_pos y] at z; exact absurd z (by decide)
        rw [lwR, if_neg this, show (m : Int) + -1 = (m : Int) - 1 by omega, e1, tt_some]
      · have : μ 243 m = 1 := Classical.byContradiction fun y => z (if_neg y)
        rw [lwR, if_pos this]
  apply TT.eq
  unfold f_X3_lastWhole
  simp only [tt_gt, tt_sg, tt_ite, tt_ck, tt_lk, tt_ix, tt_bo, tt_by, tt_nz, tt_ob, tt_st, tt_cpk, tt_c1, tt_c2, tt_ca, tt_cb, tt_some, kd_231, kd_0, Nat.reduceAdd, true_and, and_true, true_implies, not_true_eq_false, false_implies, not_false_eq_true, true_or, or_true, (kd_run hb).1, hcn]
  refine And.intro (by omega) ?_
  have := loop (μ 231 28).toNat F (by omega) (by omega)
  rw [show (((μ 231 28).toNat : Nat) : Int) = μ 231 28 by omega] at this
  rw [this, tt_some]
theorem lkN_lo {μ : St} : ∀ m : Nat, (hd μ = -1 ∨ (m : Int) ≤ hd μ) → lkN μ m = 0
  | 0, _ => rfl
  | m + 1, h => by
    rw [lkN_s, lkN_lo m (by omega), lki_0 (fun z => by have := z.2; omega)]
    rfl
theorem lk_wh {μ : St} {k : Nat} (h1 : hd μ ≠ -1) (h2 : hd μ ≤ k) (h3 : (k : Int) < μ 231 28) : lkP μ k ↔ μ 243 k = 1 := ⟨fun z => z.1.2, fun z => ⟨⟨h3, z⟩, h1, h2⟩⟩
theorem e3_links {F b : Nat} {w0 l : Int} {t : Nat} {μ σ1 : St} (hF : 100 ≤ F) (hb : b = 12 ∨ b = 110) (hC : RunR b w0 l t μ σ1) (h30 : 0 ≤ μ 231 28 ∧ μ 231 28 ≤ 30) : f_X3_links F b σ1 = some (lkN μ (μ 231 28).toNat) := by
  have hcn := hC.cn
  apply TT.eq
  unfold f_X3_links
  simp only [tt_gt, tt_sg, tt_ite, tt_ck, tt_lk, tt_ix, tt_bo, tt_by, tt_nz, tt_ob, tt_st, tt_cpk, tt_c1, tt_c2, tt_ca, tt_cb, tt_some, kd_231, kd_0, Nat.reduceAdd, true_and, and_true, true_implies, not_true_eq_false, false_implies, not_false_eq_true, true_or, or_true, (kd_run hb).1, e3_head hF hb hC h30]
  have hh := hd_rng (μ := μ) h30.1
  by_cases q : hd μ = -1
  · obtain ⟨n, rfl⟩ : ∃ k, F = k + 1 := ⟨F - 1, by omega⟩
    rw [f_X3_links_L9]
    simp only [tt_gt, tt_sg, tt_ite, tt_ck, tt_lk, tt_ix, tt_bo, tt_by, tt_nz, tt_ob, tt_st, tt_cpk, tt_c1, tt_c2, tt_ca, tt_cb, tt_some, kd_231, kd_0, Nat.reduceAdd, true_and, and_true, true_implies, not_true_eq_false, false_implies, not_false_eq_true, true_or, or_true]
    exact ⟨fun _ => (lkN_lo _ (Or.inl q)).symm, fun z => absurd q z⟩
  · obtain ⟨h0, e0, e1, e2⟩ := hh.resolve_left q
    refine lp_w (L := fun n (p : Int × Int) => f_X3_links_L9 F b σ1 n (hd μ) p.1 p.2) (fun m p => ∃ j : Nat, p.2 = j ∧ (j : Int) + m = μ 231 28 ∧ hd μ ≤ j ∧ p.1 = lkN μ j) (fun m n p hI ih => ?_) (μ 231 28 - hd μ).toNat F (0, hd μ) (by omega) ⟨h0, e0, by omega, by omega, (lkN_lo _ (Or.inr (by omega))).symm⟩
    obtain ⟨x, i⟩ := p
    dsimp only at hI ih ⊢
    obtain ⟨j, rfl, i2, i3, i4⟩ := hI
    have hr := lkN_rng μ j
    rw [f_X3_links_L9]
    simp only [tt_gt, tt_sg, tt_ite, tt_ck, tt_lk, tt_ix, tt_bo, tt_by, tt_nz, tt_ob, tt_st, tt_cpk, tt_c1, tt_c2, tt_ca, tt_cb, tt_some, kd_231, kd_0, Nat.reduceAdd, true_and, and_true, true_implies, not_true_eq_false, false_implies, not_false_eq_true, true_or, or_true, hcn]
    refine ⟨fun z => absurd z q, fun _ => ⟨fun z => ?_, fun z => ?_⟩⟩
    · rw [i4, show (μ 231 28).toNat = j by omega]
    · rw [e3_isWhole (F := F) (k := (j : Int)) hb hC h30.2 ⟨by omega, by omega⟩, tt_some]
      have hl := lk_wh (μ := μ) (k := j) q i3 (by omega)
      refine ⟨fun z2 => And.intro (by omega) (ih (m - 1) (_, _) (by omega) ⟨j + 1, by omega, by omega, by omega, ?_⟩), fun z2 => And.intro (by omega) (And.intro (by omega) (ih (m - 1) (_, _) (by omega) ⟨j + 1, by omega, by omega, by omega, ?_⟩))⟩
      · have : ¬ μ 243 j = 1 := fun y => by rw [if_pos y] at z2; exact absurd z2 (by decide)
        show x = _
        rw [lkN_s, lki_0 (fun y => this (hl.mp y)), i4]; omega
      · have : μ 243 j = 1 := Classical.byContradiction fun y => z2 (if_neg y)
        show x + 1 = _
        rw [lkN_s, lki_1 (hl.mpr this), i4]
def NT (μ : St) (i r : Int) : Prop := (r = -1 ∧ ∀ k : Nat, (k : Int) < μ 231 28 → lkP μ k → lkN μ k ≠ i) ∨ (∃ k : Nat, r = k ∧ (k : Int) < μ 231 28 ∧ lkP μ k ∧ lkN μ k = i)
theorem NT.one {μ : St} {i r r' : Int} (h : NT μ i r) (h' : NT μ i r') : r = r' := by
  rcases h with ⟨h1, h2⟩ | ⟨k, h1, h2, h3, h4⟩
  · rcases h' with ⟨g1, g2⟩ | ⟨k', g1, g2, g3, g4⟩
    · omega
    · exact absurd g4 (h2 k' g2 g3)
  · rcases h' with ⟨g1, g2⟩ | ⟨k', g1, g2, g3, g4⟩
    · exact absurd h4 (g2 k h2 h3)
    · have lt : ∀ a b : Nat, lkP μ a → lkN μ a = lkN μ b → ¬ a < b := fun a b ha hab z => by
        have := lkN_mono (μ := μ) (a := a + 1) b (by omega)
        rw [lkN_s, lki_1 ha] at this
        omega
      have a1 := lt k k' h3 (by omega)
      have a2 := lt k' k g3 (by omega)
      omega
theorem e3_link {F b : Nat} {w0 l : Int} {t : Nat} {μ σ1 : St} {i : Int} (hF : 100 ≤ F) (hb : b = 12 ∨ b = 110) (hC : RunR b w0 l t μ σ1) (h30 : 0 ≤ μ 231 28 ∧ μ 231 28 ≤ 30) (hi : 0 ≤ i ∧ i < 2147483648) : TT (f_X3_link F b i σ1) (NT μ i) := by
  have hcn := hC.cn
  unfold f_X3_link
  simp only [tt_gt, tt_sg, tt_ite, tt_ck, tt_lk, tt_ix, tt_bo, tt_by, tt_nz, tt_ob, tt_st, tt_cpk, tt_c1, tt_c2, tt_ca, tt_cb, tt_some, kd_231, kd_0, Nat.reduceAdd, true_and, and_true, true_implies, not_true_eq_false, false_implies, not_false_eq_true, true_or, or_true, (kd_run hb).1, e3_head hF hb hC h30]
  have hh := hd_rng (μ := μ) h30.1
  by_cases q : hd μ = -1
  · obtain ⟨n, rfl⟩ : ∃ k, F = k + 1 := ⟨F - 1, by omega⟩
    rw [f_X3_link_L10]
    simp only [tt_gt, tt_sg, tt_ite, tt_ck, tt_lk, tt_ix, tt_bo, tt_by, tt_nz, tt_ob, tt_st, tt_cpk, tt_c1, tt_c2, tt_ca, tt_cb, tt_some, kd_231, kd_0, Nat.reduceAdd, true_and, and_true, true_implies, not_true_eq_false, false_implies, not_false_eq_true, true_or, or_true]
    exact ⟨fun _ => Or.inl ⟨rfl, fun k _ z => absurd q z.2.1⟩, fun z => absurd q z⟩
  · obtain ⟨h0, e0, e1, e2⟩ := hh.resolve_left q
    refine lp_w (L := fun n (p : Int × Int) => f_X3_link_L10 F b i σ1 n (hd μ) p.1 p.2) (fun m p => ∃ j : Nat, p.2 = j ∧ (j : Int) + m = μ 231 28 ∧ hd μ ≤ j ∧ p.1 = i - lkN μ j ∧ 0 ≤ p.1) (fun m n p hI ih => ?_) (μ 231 28 - hd μ).toNat F (i, hd μ) (by omega) ⟨h0, e0, by omega, by omega, by rw [lkN_lo h0 (Or.inr (by omega))]; omega, hi.1⟩
    obtain ⟨x, y⟩ := p
    dsimp only at hI ih ⊢
    obtain ⟨j, rfl, i2, i3, i4, i5⟩ := hI
    have hr := lkN_rng μ j
    rw [f_X3_link_L10]
    simp only [tt_gt, tt_sg, tt_ite, tt_ck, tt_lk, tt_ix, tt_bo, tt_by, tt_nz, tt_ob, tt_st, tt_cpk, tt_c1, tt_c2, tt_ca, tt_cb, tt_some, kd_231, kd_0, Nat.reduceAdd, true_and, and_true, true_implies, not_true_eq_false, false_implies, not_false_eq_true, true_or, or_true, hcn]
    refine ⟨fun z => absurd z q, fun _ => ⟨fun z => ?_, fun z => ?_⟩⟩
    · refine Or.inl ⟨rfl, fun k k1 k2 k3 => ?_⟩
      have h1 := lkN_mono (μ := μ) (a := k + 1) j (by omega)
      rw [lkN_s, lki_1 k2] at h1
      omega
    · rw [e3_isWhole (F := F) (k := (j : Int)) hb hC h30.2 ⟨by omega, by omega⟩, tt_some]
      have hl := lk_wh (μ := μ) (k := j) q i3 (by omega)
      refine ⟨fun z2 => And.intro (by omega) (ih (m - 1) (_, _) (by omega) ⟨j + 1, by omega, by omega, by omega, ?_, i5⟩), fun z2 => ?_⟩
      · have : ¬ μ 243 j = 1 := fun y => by rw [if_pos y] at z2; exact absurd z2 (by decide)
        show x = _
        rw [lkN_s, lki_0 (fun y => this (hl.mp y)), i4]; omega
      · have h1 : μ 243 j = 1 := Classical.byContradiction fun y => z2 (if_neg y)
        refine ⟨fun z3 => And.intro (by omega) (And.intro (by omega) (ih (m - 1) (_, _) (by omega) ⟨j + 1, by omega, by omega, by omega, ?_, by omega⟩)), fun z3 => Or.inr ⟨j, rfl, by omega, hl.mpr h1, by omega⟩⟩
        show x + -1 = _
        rw [lkN_s, lki_1 (hl.mpr h1), i4]; omega
def mkR (μ : St) : Int := if hd μ = -1 then 0 else μ 242 (lwR μ (μ 231 28).toNat)
theorem lw_p {μ : St} (h0 : 0 ≤ μ 231 28) (h : hd μ ≠ -1) : ∃ k : Nat, lwR μ (μ 231 28).toNat = k ∧ (k : Int) < μ 231 28 ∧ lkP μ k ∧ ∀ i : Nat, k < i → (i : Int) < μ 231 28 → ¬ μ 243 i = 1 := by
  obtain ⟨h0', e0, e1, e2⟩ := (hd_rng h0).resolve_left h
  rcases lwR_p μ (μ 231 28).toNat with z | ⟨k, z1, z2, z3, z4⟩
  · exact absurd e2.1.2 (z.2 h0' (by omega))
  · refine ⟨k, z1, by omega, ⟨⟨by omega, z3⟩, h, ?_⟩, fun i i1 i2 => z4 i i1 (by omega)⟩
    apply Classical.byContradiction
    intro y
    exact z4 h0' (by omega) (by omega) e2.1.2
theorem e3_mark {F b : Nat} {w0 l : Int} {t : Nat} {μ σ1 : St} (hF : 100 ≤ F) (hb : b = 12 ∨ b = 110) (hC : RunR b w0 l t μ σ1) (h30 : 0 ≤ μ 231 28 ∧ μ 231 28 ≤ 30) : f_X3_chainMark F b σ1 = some (mkR μ) := by
  have hcn := hC.cn
  apply TT.eq
  unfold f_X3_chainMark mkR
  simp only [tt_gt, tt_sg, tt_ite, tt_ck, tt_lk, tt_ix, tt_bo, tt_by, tt_nz, tt_ob, tt_st, tt_cpk, tt_c1, tt_c2, tt_ca, tt_cb, tt_some, kd_231, kd_0, Nat.reduceAdd, true_and, and_true, true_implies, not_true_eq_false, false_implies, not_false_eq_true, true_or, or_true, (kd_run hb).1, e3_head hF hb hC h30, e3_last hF hb hC h30]
  refine ⟨fun z => ?_, fun z => by rw [if_pos (Classical.byContradiction z)]⟩
  obtain ⟨k, k1, k2, k3, k4⟩ := lw_p h30.1 z
  have hK := kd_cpb hb (k := (k : Int)) ⟨by omega, by omega⟩
  have e1 := (hC.cd k (by omega) k2).mk1
  rw [k1, copyOf_ok (F := F) (b := b) (σ := σ1) (k := (k : Int)) (kd_run hb).1 (by omega) (by omega), tt_some]
  dsimp only
  rw [hK, e1, if_neg z]
  exact ⟨rfl, rfl⟩
theorem mk_le {w0 : Int} {t : Nat} {μ : St} (h : MI0 w0 t μ) : 0 ≤ mkR μ ∧ mkR μ ≤ t := by
  have h0 := h.c0
  unfold mkR
  split
  · omega
  · rename_i z
    obtain ⟨k, k1, k2, k3, k4⟩ := lw_p h0 z
    rw [k1]
    have := (h.cp k (by omega) k2).mrk
    omega
