def ap (kd a b v : Int) (f : Int → Int) (c : Int) : Int :=
  if kd = 0 then (if c = a then b else f c)
  else if kd = 1 then (if c = a then (f a + b).tmod 256 else f c)
  else if kd = 2 then (if c = b then f a else if c = a then f b else f c)
  else (if a ≤ c ∧ c ≤ b then v else f c)
def apE (w : Int → Int) (e : Int) (f : Int → Int) : Int → Int := ap (w (6 + 4 * e)) (w (6 + 4 * e + 1 + 0)) (w (6 + 4 * e + 1 + 1)) (w (6 + 4 * e + 1 + 2)) f
def Val (w g : Int → Int) : Nat → Int → Int
  | 0, _ => 0
  | t + 1, c => if g t = 0 ∧ w (6 + 4 * t) < 4 then apE w t (Val w g t) c else Val w g t c
def Ev (w : Int → Int) (e : Int) : Prop :=
  0 ≤ w (6 + 4 * e) ∧ w (6 + 4 * e) ≤ 8 ∧
  (w (6 + 4 * e) < 4 → 0 ≤ w (6 + 4 * e + 1 + 0) ∧ w (6 + 4 * e + 1 + 0) < w 0) ∧
  (w (6 + 4 * e) < 2 → 0 ≤ w (6 + 4 * e + 1 + 1) ∧ w (6 + 4 * e + 1 + 1) ≤ 255) ∧
  (w (6 + 4 * e) = 2 → 0 ≤ w (6 + 4 * e + 1 + 1) ∧ w (6 + 4 * e + 1 + 1) < w 0 ∧ w (6 + 4 * e + 1 + 0) ≠ w (6 + 4 * e + 1 + 1)) ∧
  (w (6 + 4 * e) = 3 → w (6 + 4 * e + 1 + 0) ≤ w (6 + 4 * e + 1 + 1) ∧ w (6 + 4 * e + 1 + 1) < w 0 ∧ 0 ≤ w (6 + 4 * e + 1 + 2) ∧ w (6 + 4 * e + 1 + 2) ≤ 255) ∧
  (w (6 + 4 * e) = 6 → 1 ≤ w (6 + 4 * e + 1 + 0) ∧ w (6 + 4 * e + 1 + 0) ≤ 32) ∧
  (w (6 + 4 * e) = 4 ∨ w (6 + 4 * e) = 5 ∨ 7 ≤ w (6 + 4 * e) → w (6 + 4 * e + 1 + 0) = -1) ∧
  (4 ≤ w (6 + 4 * e) → w (6 + 4 * e + 1 + 1) = -1) ∧
  (w (6 + 4 * e) ≠ 3 → w (6 + 4 * e + 1 + 2) = -1)
def WF (w : Int → Int) : Prop := Hd w ∧ ((w 5 = 0 ∧ ∀ j, 0 ≤ j → j < 246 → w j = 0) ∨ (2 ≤ w 0 ∧ w 5 = w 3 + 1)) ∧ ∀ e, 0 ≤ e → e < evN w → Ev w e
theorem WF.ev60 {w : Int → Int} (h : WF w) : 0 ≤ evN w ∧ evN w ≤ 60 := by
  obtain ⟨h1, h2, h3, h4, h5, h6, h7, h8, h9, h10, h11, h12⟩ := h.1
  unfold evN
  omega
def B255 (f : Int → Int) : Prop := ∀ c, 0 ≤ c → c < 32 → 0 ≤ f c ∧ f c ≤ 255
theorem tmod_256 {z : Int} (h : 0 ≤ z) : 0 ≤ z.tmod 256 ∧ z.tmod 256 ≤ 255 := by
  rw [Int.tmod_eq_emod_of_nonneg h]
  omega
theorem ap_255 {w : Int → Int} {e : Int} {f : Int → Int} (hw : w 0 ≤ 32) (he : Ev w e) (hk : w (6 + 4 * e) < 4) (hf : B255 f) : B255 (apE w e f) := by
  intro c h1 h2
  obtain ⟨g1, g2, g3, g4, g5, g6, g7⟩ := he
  have ga := g3 hk
  have hfc := hf c h1 h2
  unfold apE ap
  split
  · have := g4 (by omega)
    split <;> omega
  · split
    · have := g4 (by omega)
      have h5 := hf (w (6 + 4 * e + 1 + 0)) (by omega) (by omega)
      split
      · exact tmod_256 (by omega)
      · exact hfc
    · split
      · have h5 := hf (w (6 + 4 * e + 1 + 0)) (by omega) (by omega)
        have h6 := g5 (by omega)
        have h7 := hf (w (6 + 4 * e + 1 + 1)) (by omega) (by omega)
        split
        · exact h5
        · split
          · exact h7
          · exact hfc
      · have := g6 (by omega)
        split <;> omega
theorem val_255 {w g : Int → Int} (h : WF w) : ∀ t : Nat, (t : Int) ≤ evN w → B255 (Val w g t)
  | 0, _ => fun c _ _ => by simp [Val]
  | t + 1, ht => by
    have ih := val_255 (g := g) h t (by omega)
    intro c h1 h2
    rw [Val]
    split
    · rename_i q
      exact ap_255 h.1.2.1 (h.2.2 t (by omega) (by omega)) q.2 ih c h1 h2
    · exact ih c h1 h2
theorem obey_ok {F : Nat} {σ : St} {e base : Int} {k : Nat} (hF : 100 ≤ F) (hw : σ 232 0 ≤ 32) (he : 0 ≤ e ∧ e < 60) (hE : Ev (σ 232) e) (hk : σ 232 (6 + 4 * e) < 4) (hkd : kdX k = 9) (hb : 0 ≤ base ∧ base + 32 ≤ lnX k) (hln : lnX k ≤ 1952) (hk2 : k ≠ 232) (hf : B255 (fun c => σ k (base + c))) :
    TT (f_X7_obey F 231 e k base σ) (fun σ' => (∀ k', k' ≠ k → σ' k' = σ k') ∧ (∀ j, (j < base ∨ base + 32 ≤ j) → σ' k j = σ k j) ∧ ∀ c, 0 ≤ c → c < 32 → σ' k (base + c) = apE (σ 232) e (fun c => σ k (base + c)) c) := by
  have e0 := e_numberOf (F := F) (σ := σ) (j := 0) he (by decide)
  have e1 := e_numberOf (F := F) (σ := σ) (j := 1) he (by decide)
  have ek := e_kindOf (F := F) (σ := σ) he
  obtain ⟨g1, g2, g3, g4, g5, g6, g7⟩ := hE
  have ga := g3 hk
  have up : ∀ (j v : Int) (k' : Nat), k' ≠ k → z_up σ k j v k' = σ k' := fun j v k' h => up_ne h
  have loop : ∀ (n m : Nat) (x b : Int) (τ : St), (∀ k', k' ≠ k → τ k' = σ k') → 0 ≤ x → x + m = b + 1 → m < n → b < 32 → 0 ≤ b → TT (f_X7_obey_L112 F 231 e k base n b x τ) (fun σ' => (∀ k', k' ≠ k → σ' k' = σ k') ∧ (∀ j, σ' k j = if base + x ≤ j ∧ j ≤ base + b then σ 232 (6 + 4 * e + 1 + 2) else τ k j)) := by
    intro n
    induction n with
    | zero => intro m x b τ _ _ _ h; exact absurd h (Nat.not_lt_zero m)
    | succ n ih =>
      intro m x b τ hτ hx hm hn hb32 hb0
      have e2 := e_numberOf (F := F) (σ := τ) (j := 2) he (by decide)
      rw [hτ 232 (Ne.symm hk2)] at e2
      rw [f_X7_obey_L112]
      simp only [tt_gt, tt_sg, tt_ite, tt_ck, tt_lk, tt_ix, tt_bo, tt_by, tt_nz, tt_ob, tt_st, tt_cpk, tt_c1, tt_c2, tt_ca, tt_cb, tt_some, kd_231, kd_0, Nat.reduceAdd, true_and, and_true, true_implies, not_true_eq_false, false_implies, not_false_eq_true, ne_eq, true_or, or_true, e2]
      refine ⟨fun h => ⟨hτ, fun j => ?_⟩, fun h => ⟨by omega, by omega, by omega, ?_⟩⟩
      · rw [if_neg (by omega)]
      · refine (ih (m - 1) (x + 1) b (z_up τ k (base + x) (σ 232 (6 + 4 * e + 1 + 2))) (fun k' h => (up_ne h).trans (hτ k' h)) (by omega) (by omega) (by omega) hb32 hb0).mono (fun σ' h2 => ⟨h2.1, fun j => ?_⟩)
        rw [h2.2 j]
        unfold z_up
        by_cases q : j = base + x
        · rw [if_neg (by omega), if_pos ⟨rfl, q⟩, if_pos (by omega)]
        · by_cases q2 : base + (x + 1) ≤ j ∧ j ≤ base + b
          · rw [if_pos q2, if_pos (by omega)]
          · rw [if_neg q2, if_neg (fun z => q z.2), if_neg (by omega)]
  unfold f_X7_obey
  simp only [tt_gt, tt_sg, tt_ite, tt_ck, tt_lk, tt_ix, tt_bo, tt_by, tt_nz, tt_ob, tt_st, tt_cpk, tt_c1, tt_c2, tt_ca, tt_cb, tt_some, kd_231, kd_0, Nat.reduceAdd, true_and, and_true, true_implies, not_true_eq_false, false_implies, not_false_eq_true, ne_eq, true_or, or_true, e0, e1, ek, hkd]
  have hva := hf (σ 232 (6 + 4 * e + 1 + 0)) (by omega) (by omega)
  dsimp only at hva
  repeat refine ⟨by omega, ?_⟩
  refine ⟨fun h => ?_, fun h => ⟨fun h' => ?_, fun h' => ⟨fun h'' => ?_, fun h'' => ?_⟩⟩⟩
  · repeat refine ⟨by omega, ?_⟩
    refine ⟨fun k' h' => up_ne h', fun j hj => ?_, fun c h1 h2 => ?_⟩
    · unfold z_up
      rw [if_neg (by omega)]
    · unfold z_up apE ap
      rw [if_pos h]
      by_cases q : c = σ 232 (6 + 4 * e + 1 + 0)
      · rw [if_pos ⟨rfl, by omega⟩, if_pos q]
      · rw [if_neg (by omega), if_neg q]
  · have := g4 (by omega)
    repeat refine ⟨by omega, ?_⟩
    refine ⟨fun k' h' => up_ne h', fun j hj => ?_, fun c h1 h2 => ?_⟩
    · unfold z_up
      rw [if_neg (by omega)]
    · unfold z_up apE ap
      rw [if_neg h, if_pos h']
      by_cases q : c = σ 232 (6 + 4 * e + 1 + 0)
      · rw [if_pos ⟨rfl, by omega⟩, if_pos q]
      · rw [if_neg (by omega), if_neg q]
  · have g5' := g5 h''
    repeat refine ⟨by omega, ?_⟩
    refine ⟨fun k' h3 => (up_ne h3).trans (up_ne h3), fun j hj => ?_, fun c h1 h2 => ?_⟩
    · unfold z_up
      rw [if_neg (by omega), if_neg (by omega)]
    · unfold z_up apE ap
      rw [if_neg h, if_neg h', if_pos h'']
      by_cases q : c = σ 232 (6 + 4 * e + 1 + 1)
      · rw [if_pos ⟨rfl, by omega⟩, if_pos q]
      · rw [if_neg (by omega), if_neg q]
        by_cases q2 : c = σ 232 (6 + 4 * e + 1 + 0)
        · rw [if_pos ⟨rfl, by omega⟩, if_pos q2]
        · rw [if_neg (by omega), if_neg q2]
  · have g6' := g6 (by omega)
    refine (loop F (σ 232 (6 + 4 * e + 1 + 1) + 1 - σ 232 (6 + 4 * e + 1 + 0)).toNat (σ 232 (6 + 4 * e + 1 + 0)) (σ 232 (6 + 4 * e + 1 + 1)) σ (fun _ _ => rfl) (by omega) (by omega) (by omega) (by omega) (by omega)).mono (fun σ' h2 => ⟨h2.1, fun j hj => ?_, fun c h3 h4 => ?_⟩)
    · rw [h2.2 j, if_neg (by omega)]
    · rw [h2.2]
      unfold apE ap
      rw [if_neg h, if_neg h', if_neg h'']
      by_cases q : σ 232 (6 + 4 * e + 1 + 0) ≤ c ∧ c ≤ σ 232 (6 + 4 * e + 1 + 1)
      · rw [if_pos (by omega), if_pos q]
      · rw [if_neg (by omega), if_neg q]
