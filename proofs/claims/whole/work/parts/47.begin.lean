def bgW (full : Int) (σ : St) (e : Nat) (c : Int) : Int := if c < σ 232 0 ∧ (full ≠ 0 ∨ drt σ c e) then 1 else 0
def BgP (e : Nat) (full : Int) (σ σ' : St) : Prop :=
  (∀ k, k ≠ 231 → (k < 241 ∨ 249 < k) → σ' k = σ k) ∧
  (∀ j, σ' 231 j = if j = 28 then σ 231 28 + 1 else if j = 29 then σ 231 28 else σ 231 j) ∧
  (∀ j, σ' 241 j = if j = σ 231 28 then (if full = 0 then 0 else 1) else σ 241 j) ∧
  (∀ j, σ' 242 j = if j = σ 231 28 then (e : Int) else σ 242 j) ∧
  (∀ j, σ' 243 j = if j = σ 231 28 then 0 else σ 243 j) ∧
  (∀ j, σ' 244 j = if j = σ 231 28 then -1 else σ 244 j) ∧
  (∀ j, σ' 245 j = if j = σ 231 28 then 0 else σ 245 j) ∧
  (∀ j, σ' 246 j = if 32 * σ 231 28 ≤ j ∧ j < 32 * σ 231 28 + 32 then bgW full σ e (j - 32 * σ 231 28) else σ 246 j) ∧
  (∀ j, σ' 247 j = if 32 * σ 231 28 ≤ j ∧ j < 32 * σ 231 28 + 32 then 0 else σ 247 j) ∧
  (∀ j, σ' 248 j = if 32 * σ 231 28 ≤ j ∧ j < 32 * σ 231 28 + 32 then -1 else σ 248 j) ∧
  (∀ j, σ' 249 j = if 32 * σ 231 28 ≤ j ∧ j < 32 * σ 231 28 + 32 then -1 else σ 249 j)
theorem dirR_same {σ τ : St} {t : Int} : ∀ m : Nat, (∀ k : Nat, k < m → τ 242 k = σ 242 k ∧ τ 243 k = σ 243 k ∧ τ 244 k = σ 244 k) → dirR τ m t = dirR σ m t
  | 0, _ => rfl
  | m + 1, h => by
    obtain ⟨h1, h2, h3⟩ := h m (Nat.lt_succ_self m)
    unfold dirR
    rw [h1, h2, h3, dirR_same m (fun k hk => h k (by omega))]
theorem e_begin {F : Nat} {σ : St} {full : Int} (hF : 100 ≤ F) (e : Nat) (he : e < 60) (hn : 0 ≤ σ 231 28 ∧ σ 231 28 < 60) (hw : 0 ≤ σ 232 0 ∧ σ 232 0 ≤ 32) : TT (f_X7_begin F 231 e full σ) (BgP e full σ) := by
  have loop : ∀ (τ0 : St), τ0 232 = σ 232 → τ0 240 = σ 240 → τ0 231 29 = σ 231 28 → τ0 231 28 = σ 231 28 + 1 → τ0 243 (σ 231 28) = 0 → (∀ k : Int, 0 ≤ k → k < σ 231 28 → τ0 242 k = σ 242 k ∧ τ0 243 k = σ 243 k ∧ τ0 244 k = σ 244 k) → ∀ (n m : Nat) (x : Int) (τ : St), 0 ≤ x → x + m = 32 → m < n → (∀ k, (k < 246 ∨ 249 < k) → τ k = τ0 k) → (∀ j, τ 246 j = if 32 * σ 231 28 ≤ j ∧ j < 32 * σ 231 28 + x then bgW full σ e (j - 32 * σ 231 28) else τ0 246 j) → (∀ j, τ 247 j = if 32 * σ 231 28 ≤ j ∧ j < 32 * σ 231 28 + x then 0 else τ0 247 j) → (∀ j, τ 248 j = if 32 * σ 231 28 ≤ j ∧ j < 32 * σ 231 28 + x then -1 else τ0 248 j) → (∀ j, τ 249 j = if 32 * σ 231 28 ≤ j ∧ j < 32 * σ 231 28 + x then -1 else τ0 249 j) → TT (f_X7_begin_L78 F 231 e full n x τ) (fun τ' => (∀ k, (k < 246 ∨ 249 < k) → τ' k = τ0 k) ∧ (∀ j, τ' 246 j = if 32 * σ 231 28 ≤ j ∧ j < 32 * σ 231 28 + 32 then bgW full σ e (j - 32 * σ 231 28) else τ0 246 j) ∧ (∀ j, τ' 247 j = if 32 * σ 231 28 ≤ j ∧ j < 32 * σ 231 28 + 32 then 0 else τ0 247 j) ∧ (∀ j, τ' 248 j = if 32 * σ 231 28 ≤ j ∧ j < 32 * σ 231 28 + 32 then -1 else τ0 248 j) ∧ (∀ j, τ' 249 j = if 32 * σ 231 28 ≤ j ∧ j < 32 * σ 231 28 + 32 then -1 else τ0 249 j)) := by
    intro τ0 z1 z2 z3 z4 z5 z6 n
    induction n with
    | zero => intro m x τ _ _ h; exact absurd h (Nat.not_lt_zero m)
    | succ n ih =>
      intro m x τ hx hm hn2 h0 h6 h7 h8 h9
      rw [f_X7_begin_L78]
      by_cases q : 32 ≤ x
      · have hx32 : x = 32 := by omega
        subst hx32
        simp only [tt_gt, tt_sg, tt_ite, tt_ck, tt_lk, tt_ix, tt_bo, tt_by, tt_nz, tt_ob, tt_st, tt_cpk, tt_c1, tt_c2, tt_ca, tt_cb, tt_some, kd_231, kd_0, Nat.reduceAdd, true_and, and_true, true_implies, not_true_eq_false, false_implies, not_false_eq_true, ne_eq, true_or, or_true, q]
        exact ⟨h0, h6, h7, h8, h9⟩
      · have t1 : τ 231 = τ0 231 := h0 231 (by omega)
        have t2 : τ 232 = σ 232 := (h0 232 (by omega)).trans z1
        have t3 : τ 240 = σ 240 := (h0 240 (by omega)).trans z2
        have go : ∀ v : Int, v = bgW full σ e x → TT (f_X7_begin_J127 F 231 e full (f_X7_begin_L78 F 231 e full n) x (32 * σ 231 28 + x) v (32 * σ 231 28 + x) 246 τ) (fun τ' => (∀ k, (k < 246 ∨ 249 < k) → τ' k = τ0 k) ∧ (∀ j, τ' 246 j = if 32 * σ 231 28 ≤ j ∧ j < 32 * σ 231 28 + 32 then bgW full σ e (j - 32 * σ 231 28) else τ0 246 j) ∧ (∀ j, τ' 247 j = if 32 * σ 231 28 ≤ j ∧ j < 32 * σ 231 28 + 32 then 0 else τ0 247 j) ∧ (∀ j, τ' 248 j = if 32 * σ 231 28 ≤ j ∧ j < 32 * σ 231 28 + 32 then -1 else τ0 248 j) ∧ (∀ j, τ' 249 j = if 32 * σ 231 28 ≤ j ∧ j < 32 * σ 231 28 + 32 then -1 else τ0 249 j)) := by
          intro v hv
          have hv01 : v = 0 ∨ v = 1 := by rw [hv]; unfold bgW; split <;> omega
          unfold f_X7_begin_J127
          simp only [tt_gt, tt_sg, tt_ite, tt_ck, tt_lk, tt_ix, tt_bo, tt_by, tt_nz, tt_ob, tt_st, tt_cpk, tt_c1, tt_c2, tt_ca, tt_cb, tt_some, kd_231, kd_0, Nat.reduceAdd, true_and, and_true, true_implies, not_true_eq_false, false_implies, not_false_eq_true, ne_eq, true_or, or_true]
          refine And.intro (by show _ ∧ _ < ((1920 : Nat) : Int); omega) (And.intro hv01 (And.intro (by omega) (And.intro (by omega) (And.intro (by omega) (And.intro (by omega) ?_)))))
          have rng : ∀ (f : Int → Int) (u : Int) (old : Int → Int), (∀ j, f j = if 32 * σ 231 28 ≤ j ∧ j < 32 * σ 231 28 + x then u else old j) → ∀ j, (if j = 32 * σ 231 28 + x then u else f j) = if 32 * σ 231 28 ≤ j ∧ j < 32 * σ 231 28 + (x + 1) then u else old j := by
            intro f u old hf j
            by_cases q1 : j = 32 * σ 231 28 + x
            · rw [if_pos q1, if_pos (by omega)]
            · rw [if_neg q1, hf j]
              by_cases q2 : 32 * σ 231 28 ≤ j ∧ j < 32 * σ 231 28 + x
              · rw [if_pos q2, if_pos (by omega)]
              · rw [if_neg q2, if_neg (by omega)]
          refine ih (m - 1) (x + 1) _ (by omega) (by omega) (by omega) (fun k hk => ?_) (fun j => ?_) (fun j => ?_) (fun j => ?_) (fun j => ?_)
          · rw [up_ne (by omega), up_ne (by omega), up_ne (by omega), up_ne (by omega)]
            exact h0 k hk
          · rw [up_ne (by decide), up_ne (by decide), up_ne (by decide), up_eq]
            dsimp only
            by_cases q1 : j = 32 * σ 231 28 + x
            · rw [if_pos q1, if_pos (by omega), hv, q1, show 32 * σ 231 28 + x - 32 * σ 231 28 = x by omega]
            · rw [if_neg q1, h6 j]
              by_cases q2 : 32 * σ 231 28 ≤ j ∧ j < 32 * σ 231 28 + x
              · rw [if_pos q2, if_pos (by omega)]
              · rw [if_neg q2, if_neg (by omega)]
          · rw [up_ne (by decide), up_ne (by decide), up_eq, up_ne (by decide)]
            exact rng (τ 247) 0 (τ0 247) h7 j
          · rw [up_ne (by decide), up_eq, up_ne (by decide), up_ne (by decide)]
            exact rng (τ 248) (-1) (τ0 248) h8 j
          · rw [up_eq, up_ne (by decide), up_ne (by decide), up_ne (by decide)]
            exact rng (τ 249) (-1) (τ0 249) h9 j
        have hcell : f_X7_cells F 231 τ = some (σ 232 0) := by rw [e_cells, t2]
        have hopen : τ 231 29 = σ 231 28 := by rw [t1]; exact z3
        have hcnt : τ 231 28 = σ 231 28 + 1 := by rw [t1]; exact z4
        have hdrt : drt τ x e ↔ drt σ x e := by
          unfold drt baseR
          rw [t3, hcnt, show (σ 231 28 + 1).toNat = (σ 231 28).toNat + 1 by omega]
          have h1 : dirR τ ((σ 231 28).toNat + 1) e = dirR σ (σ 231 28).toNat e := by
            rw [dirR, if_neg (fun z => by
              have := z.1
              rw [h0 243 (by omega), show (((σ 231 28).toNat : Nat) : Int) = σ 231 28 by omega, z5] at this
              exact absurd this (by decide))]
            exact dirR_same _ (fun k hk => by
              rw [h0 242 (by omega), h0 243 (by omega), h0 244 (by omega)]
              exact z6 k (by omega) (by omega))
          rw [h1]
        simp only [tt_gt, tt_sg, tt_ite, tt_ck, tt_lk, tt_ix, tt_bo, tt_by, tt_nz, tt_ob, tt_st, tt_cpk, tt_c1, tt_c2, tt_ca, tt_cb, tt_some, kd_231, kd_0, Nat.reduceAdd, true_and, and_true, true_implies, not_true_eq_false, false_implies, not_false_eq_true, ne_eq, true_or, or_true, q, hopen, hcell]
        refine And.intro (by omega) (And.intro (by omega) ⟨fun q2 => go 0 ?_, fun q2 => ⟨fun q3 => go 1 ?_, fun q3 => ?_⟩⟩)
        · unfold bgW; rw [if_neg (by omega)]
        · unfold bgW; rw [if_pos ⟨by omega, Or.inl q3⟩]
        · refine (e_isDirtyAt (F := F) (σ := τ) (c := x) hF (by omega) e (by omega) (by omega)).mono (fun r hr => ?_)
          rcases hr with ⟨rfl, hr⟩ | ⟨rfl, hr⟩
          · refine ⟨fun z => absurd z (by decide), fun _ => go 1 ?_⟩
            unfold bgW; rw [if_pos ⟨by omega, Or.inr (hdrt.mp hr)⟩]
          · refine ⟨fun _ => go 0 ?_, fun z => absurd rfl z⟩
            unfold bgW; rw [if_neg (fun z => z.2.elim (fun z => q3 (by omega)) (fun z => hr (hdrt.mpr z)))]
  have j35 : ∀ v : Int, v = (if full = 0 then 0 else 1) → TT (f_X7_begin_J35 F 231 e full v (σ 231 28) 241 (z_up (z_up σ 231 29 (σ 231 28)) 231 28 (σ 231 28 + 1))) (BgP e full σ) := by
    intro v hv
    generalize hτ : z_up (z_up σ 231 29 (σ 231 28)) 231 28 (σ 231 28 + 1) = τ
    have a31 : ∀ j, τ 231 j = if j = 28 then σ 231 28 + 1 else if j = 29 then σ 231 28 else σ 231 j := by
      intro j
      rw [← hτ, up_eq]
      dsimp only
      rw [up_eq]
    have aoth : ∀ k, k ≠ 231 → τ k = σ k := fun k hk => by rw [← hτ, up_ne hk, up_ne hk]
    have u1 : ∀ (τ : St) (k : Nat) (j v : Int), k ≠ 231 → z_up τ k j v 231 = τ 231 := fun τ k j v h => up_ne (Ne.symm h)
    have o29 : τ 231 29 = σ 231 28 := by rw [a31, if_neg (by decide), if_pos rfl]
    unfold f_X7_begin_J35
    simp only [tt_gt, tt_sg, tt_ite, tt_ck, tt_lk, tt_ix, tt_bo, tt_by, tt_nz, tt_ob, tt_st, tt_cpk, tt_c1, tt_c2, tt_ca, tt_cb, tt_some, kd_231, kd_0, Nat.reduceAdd, true_and, and_true, true_implies, not_true_eq_false, false_implies, not_false_eq_true, ne_eq, true_or, or_true, u1 _ 241 _ _ (by decide), u1 _ 242 _ _ (by decide), u1 _ 243 _ _ (by decide), u1 _ 244 _ _ (by decide), u1 _ 245 _ _ (by decide), o29]
    refine And.intro (by show _ ∧ _ < ((60 : Nat) : Int); omega) (And.intro (by omega) (And.intro (by omega) (And.intro (by omega) (And.intro (by omega) ?_))))
    generalize hτ0 : z_up (z_up (z_up (z_up (z_up τ 241 (σ 231 28) v) 242 (σ 231 28) e) 243 (σ 231 28) 0) 244 (σ 231 28) (-1)) 245 (σ 231 28) 0 = τ0
    have b0 : ∀ k, (k < 241 ∨ 245 < k) → τ0 k = τ k := fun k hk => by rw [← hτ0, up_ne (by omega), up_ne (by omega), up_ne (by omega), up_ne (by omega), up_ne (by omega)]
    have b1 : ∀ j, τ0 241 j = if j = σ 231 28 then v else σ 241 j := fun j => by rw [← hτ0, up_ne (by decide), up_ne (by decide), up_ne (by decide), up_ne (by decide), up_eq, aoth 241 (by decide)]
    have b2 : ∀ j, τ0 242 j = if j = σ 231 28 then (e : Int) else σ 242 j := fun j => by rw [← hτ0, up_ne (by decide), up_ne (by decide), up_ne (by decide), up_eq, up_ne (by decide), aoth 242 (by decide)]
    have b3 : ∀ j, τ0 243 j = if j = σ 231 28 then 0 else σ 243 j := fun j => by rw [← hτ0, up_ne (by decide), up_ne (by decide), up_eq, up_ne (by decide), up_ne (by decide), aoth 243 (by decide)]
    have b4 : ∀ j, τ0 244 j = if j = σ 231 28 then -1 else σ 244 j := fun j => by rw [← hτ0, up_ne (by decide), up_eq, up_ne (by decide), up_ne (by decide), up_ne (by decide), aoth 244 (by decide)]
    have b5 : ∀ j, τ0 245 j = if j = σ 231 28 then 0 else σ 245 j := fun j => by rw [← hτ0, up_eq, up_ne (by decide), up_ne (by decide), up_ne (by decide), up_ne (by decide), aoth 245 (by decide)]
    refine (loop τ0 ((b0 232 (by omega)).trans (aoth 232 (by decide))) ((b0 240 (by omega)).trans (aoth 240 (by decide))) (by rw [b0 231 (by omega)]; exact o29) (by rw [b0 231 (by omega), a31, if_pos rfl]) (by rw [b3, if_pos rfl]) (fun k c1 c2 => by rw [b2, b3, b4, if_neg (by omega), if_neg (by omega), if_neg (by omega)]; exact ⟨rfl, rfl, rfl⟩) F 32 0 τ0 (by decide) (by decide) (by omega) (fun _ _ => rfl) (fun j => by rw [if_neg (by omega)]) (fun j => by rw [if_neg (by omega)]) (fun j => by rw [if_neg (by omega)]) (fun j => by rw [if_neg (by omega)])).mono (fun τ' hh => ?_)
    obtain ⟨c0, c6, c7, c8, c9⟩ := hh
    refine ⟨fun k k1 k2 => ?_, fun j => ?_, fun j => ?_, fun j => ?_, fun j => ?_, fun j => ?_, fun j => ?_, fun j => ?_, fun j => ?_, fun j => ?_, fun j => ?_⟩
    · rw [c0 k (by omega), b0 k (by omega), aoth k k1]
    · rw [c0 231 (by omega), b0 231 (by omega)]; exact a31 j
    · rw [c0 241 (by omega), b1, hv]
    · rw [c0 242 (by omega), b2]
    · rw [c0 243 (by omega), b3]
    · rw [c0 244 (by omega), b4]
    · rw [c0 245 (by omega), b5]
    · rw [c6, b0 246 (by omega), aoth 246 (by decide)]
    · rw [c7, b0 247 (by omega), aoth 247 (by decide)]
    · rw [c8, b0 248 (by omega), aoth 248 (by decide)]
    · rw [c9, b0 249 (by omega), aoth 249 (by decide)]
  have o28 : z_up σ 231 29 (σ 231 28) 231 28 = σ 231 28 := by rw [up_eq]; rfl
  have o29 : z_up (z_up σ 231 29 (σ 231 28)) 231 28 (σ 231 28 + 1) 231 29 = σ 231 28 := by rw [up_eq]; dsimp only; rw [if_neg (by decide), up_eq]; rfl
  unfold f_X7_begin
  simp only [tt_gt, tt_sg, tt_ite, tt_ck, tt_lk, tt_ix, tt_bo, tt_by, tt_nz, tt_ob, tt_st, tt_cpk, tt_c1, tt_c2, tt_ca, tt_cb, tt_some, kd_231, kd_0, Nat.reduceAdd, true_and, and_true, true_implies, not_true_eq_false, false_implies, not_false_eq_true, ne_eq, true_or, or_true, o28, o29]
  refine And.intro (by omega) ⟨fun q => j35 0 (by rw [if_pos q]), fun q => j35 1 (by rw [if_neg q])⟩
