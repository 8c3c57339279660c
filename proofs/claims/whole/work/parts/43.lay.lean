def chg (w g : Int → Int) (e : Nat) (c : Int) : Int := if Val w g e c = Val w g (e + 1) c then 0 else 1
def Vlaid (w g : Int → Int) (e : Nat) (τ : St) : Prop := (∀ (t : Nat) (c : Int), t ≤ e → 0 ≤ c → c < 32 → τ 239 (32 * t + c) = Val w g t c) ∧ ∀ (t : Nat) (c : Int), t < e → 0 ≤ c → c < 32 → τ 240 (32 * t + c) = chg w g t c
theorem lay_105 {F : Nat} {K : Int → St → Option St} {P : St → Prop} {e : Int} (he : 0 ≤ e ∧ e < 60) : ∀ (n m : Nat) (x : Int) (τ : St), 0 ≤ x → x + m = 32 → m < n → (∀ τ' : St, (∀ k, k ≠ 240 → τ' k = τ k) → (∀ j, τ' 240 j = if 32 * e + x ≤ j ∧ j < 32 * e + 32 then (if τ 239 j = τ 239 (j + 32) then 0 else 1) else τ 240 j) → TT (K (e + 1) τ') P) → TT (f_X7_layValues_L105 F 231 K n e (32 * e) (32 * e + 32) x τ) P := by
  intro n
  induction n with
  | zero => intro m x τ _ _ h; exact absurd h (Nat.not_lt_zero m)
  | succ n ih =>
    intro m x τ hx hm hn hK
    rw [f_X7_layValues_L105]
    simp only [tt_gt, tt_sg, tt_ite, tt_ck, tt_lk, tt_ix, tt_bo, tt_by, tt_nz, tt_ob, tt_st, tt_cpk, tt_c1, tt_c2, tt_ca, tt_cb, tt_some, kd_231, kd_0, Nat.reduceAdd, true_and, and_true, true_implies, not_true_eq_false, false_implies, not_false_eq_true, ne_eq, true_or, or_true]
    refine ⟨fun h => ⟨by omega, hK τ (fun _ _ => rfl) (fun j => ?_)⟩, fun h => ?_⟩
    · rw [if_neg (by omega)]
    · repeat refine And.intro (by omega) ?_
      have step : ∀ v : Int, v = (if τ 239 (32 * e + x) = τ 239 (32 * e + 32 + x) then 0 else 1) → TT (f_X7_layValues_L105 F 231 K n e (32 * e) (32 * e + 32) (x + 1) (z_up τ 240 (32 * e + x) v)) P := by
        intro v hv
        refine ih (m - 1) (x + 1) _ (by omega) (by omega) (by omega) (fun τ' h1 h2 => hK τ' (fun k hk => (h1 k hk).trans (up_ne hk)) (fun j => ?_))
        rw [h2 j]
        have h239 : z_up τ 240 (32 * e + x) v 239 = τ 239 := up_ne (by decide)
        rw [h239]
        unfold z_up
        by_cases q : j = 32 * e + x
        · rw [if_neg (by omega), if_pos ⟨rfl, q⟩, if_pos (by omega), hv, q, show 32 * e + x + 32 = 32 * e + 32 + x by omega]
        · by_cases q2 : 32 * e + (x + 1) ≤ j ∧ j < 32 * e + 32
          · rw [if_pos q2, if_pos (show 32 * e + x ≤ j ∧ j < 32 * e + 32 by omega)]
          · rw [if_neg q2, if_neg (fun z => q z.2), if_neg (show ¬ (32 * e + x ≤ j ∧ j < 32 * e + 32) by omega)]
      refine ⟨fun h2 => ?_, fun h2 => ?_⟩
      · repeat refine And.intro (by omega) ?_
        exact step 0 (by rw [if_pos h2])
      · repeat refine And.intro (by omega) ?_
        exact step 1 (by rw [if_neg h2])
theorem lay_44 {F : Nat} {K : Int → St → Option St} {P : St → Prop} {e : Int} (hF : 100 ≤ F) (he : 0 ≤ e ∧ e < 60) {σ : St} (hw : σ 232 0 ≤ 32) (hE : Ev (σ 232) e) (hf : B255 (fun c => σ 239 (32 * e + c))) : ∀ (n m : Nat) (x : Int) (τ : St), 0 ≤ x → x + m = 32 → m < n → (∀ k, k ≠ 239 → τ k = σ k) → (∀ j, τ 239 j = if 32 * e + 32 ≤ j ∧ j < 32 * e + 32 + x then σ 239 (j - 32) else σ 239 j) →
    (∀ τ' : St, (∀ k, k ≠ 239 → k ≠ 240 → τ' k = σ k) → (∀ j, (j < 32 * e + 32 ∨ 32 * e + 64 ≤ j) → τ' 239 j = σ 239 j) → (∀ c, 0 ≤ c → c < 32 → τ' 239 (32 * e + 32 + c) = if σ 238 e = 0 ∧ σ 232 (6 + 4 * e) < 4 then apE (σ 232) e (fun c => σ 239 (32 * e + c)) c else σ 239 (32 * e + c)) → (∀ j, τ' 240 j = if 32 * e ≤ j ∧ j < 32 * e + 32 then (if τ' 239 j = τ' 239 (j + 32) then 0 else 1) else σ 240 j) → TT (K (e + 1) τ') P) → TT (f_X7_layValues_L44 F 231 K n e (32 * e) (32 * e + 32) x τ) P := by
  intro n
  induction n with
  | zero => intro m x τ _ _ h; exact absurd h (Nat.not_lt_zero m)
  | succ n ih =>
    intro m x τ hx hm hn hτ hτ9 hK
    have h238 : τ 238 = σ 238 := hτ 238 (by decide)
    have h232 : τ 232 = σ 232 := hτ 232 (by decide)
    have ec := e_isCommand (F := F) (σ := τ) he
    rw [h232] at ec
    rw [f_X7_layValues_L44]
    simp only [tt_gt, tt_sg, tt_ite, tt_ck, tt_lk, tt_ix, tt_bo, tt_by, tt_nz, tt_ob, tt_st, tt_cpk, tt_c1, tt_c2, tt_ca, tt_cb, tt_some, kd_231, kd_0, Nat.reduceAdd, true_and, and_true, true_implies, not_true_eq_false, false_implies, not_false_eq_true, ne_eq, true_or, or_true, ec, h238]
    refine ⟨fun h => ⟨by omega, ?_⟩, fun h => ?_⟩
    · have hx32 : x = 32 := by omega
      subst hx32
      have fin : ∀ τ1 : St, (∀ k, k ≠ 239 → τ1 k = σ k) → (∀ j, (j < 32 * e + 32 ∨ 32 * e + 64 ≤ j) → τ1 239 j = σ 239 j) → (∀ c, 0 ≤ c → c < 32 → τ1 239 (32 * e + 32 + c) = if σ 238 e = 0 ∧ σ 232 (6 + 4 * e) < 4 then apE (σ 232) e (fun c => σ 239 (32 * e + c)) c else σ 239 (32 * e + c)) → TT (f_X7_layValues_L105 F 231 K F e (32 * e) (32 * e + 32) 0 τ1) P := by
        intro τ1 a1 a2 a3
        refine lay_105 he F 32 0 τ1 (by decide) (by decide) (by omega) (fun τ' b1 b2 => hK τ' (fun k c1 c2 => (b1 k c2).trans (a1 k c1)) ?_ ?_ ?_)
        · intro j hj
          rw [b1 239 (by decide)]
          exact a2 j hj
        · intro c c1 c2
          rw [b1 239 (by decide)]
          exact a3 c c1 c2
        · intro j
          rw [b2 j, b1 239 (by decide), a1 240 (by decide)]
          by_cases q : 32 * e ≤ j ∧ j < 32 * e + 32
          · rw [if_pos (by omega), if_pos q]
          · rw [if_neg (by omega), if_neg q]
      have old : ∀ j, (j < 32 * e + 32 ∨ 32 * e + 64 ≤ j) → τ 239 j = σ 239 j := fun j hj => by rw [hτ9 j, if_neg (by omega)]
      have new : ∀ c, 0 ≤ c → c < 32 → τ 239 (32 * e + 32 + c) = σ 239 (32 * e + c) := fun c c1 c2 => by rw [hτ9, if_pos (by omega)]; congr 1; omega
      refine ⟨fun h1 => ?_, fun h1 => ⟨fun h2 => ?_, fun h2 => ?_⟩⟩
      · refine fin τ hτ old (fun c c1 c2 => ?_)
        rw [if_neg (fun q => h1 q.1)]
        exact new c c1 c2
      · refine fin τ hτ old (fun c c1 c2 => ?_)
        rw [if_neg (fun q => by rw [if_pos q.2] at h2; omega)]
        exact new c c1 c2
      · have h4 : σ 232 (6 + 4 * e) < 4 := by
          apply Classical.byContradiction
          intro q
          rw [if_neg q] at h2
          exact h2 rfl
        have hb : B255 (fun c => τ 239 (32 * e + 32 + c)) := fun c c1 c2 => by
          show 0 ≤ τ 239 (32 * e + 32 + c) ∧ τ 239 (32 * e + 32 + c) ≤ 255
          rw [new c c1 c2]
          exact hf c c1 c2
        refine (obey_ok (F := F) (σ := τ) (e := e) (base := 32 * e + 32) (k := 239) hF (by rw [h232]; exact hw) he (by rw [h232]; exact hE) (by rw [h232]; exact h4) rfl (by show _ ∧ _ ≤ ((1952 : Nat) : Int); omega) (by decide) (by decide) hb).mono (fun τ1 a => fin τ1 (fun k hk => (a.1 k hk).trans (hτ k hk)) (fun j hj => ?_) (fun c c1 c2 => ?_))
        · rw [a.2.1 j (by omega)]
          exact old j hj
        · rw [a.2.2 c c1 c2, if_pos ⟨by omega, h4⟩, h232]
          unfold apE ap
          dsimp only
          obtain ⟨g1, g2, g3, g4, g5, g6, g7⟩ := hE
          have ga := g3 h4
          have n1 := new (σ 232 (6 + 4 * e + 1 + 0)) (by omega) (by omega)
          rw [new c c1 c2, n1]
          by_cases q2 : σ 232 (6 + 4 * e) = 2
          · have g5' := g5 q2
            rw [new (σ 232 (6 + 4 * e + 1 + 1)) (by omega) (by omega)]
          · rw [if_neg q2, if_neg q2]
    · repeat refine And.intro (by omega) ?_
      refine ih (m - 1) (x + 1) (z_up τ 239 (32 * e + 32 + x) (τ 239 (32 * e + x))) (by omega) (by omega) (by omega) (fun k hk => (up_ne hk).trans (hτ k hk)) (fun j => ?_) hK
      unfold z_up
      by_cases q : j = 32 * e + 32 + x
      · rw [if_pos ⟨rfl, q⟩, if_pos (by omega), hτ9, if_neg (by omega)]
        congr 1
        omega
      · rw [if_neg (fun z => q z.2), hτ9 j]
        by_cases q2 : 32 * e + 32 ≤ j ∧ j < 32 * e + 32 + x
        · rw [if_pos q2, if_pos (by omega)]
        · rw [if_neg q2, if_neg (by omega)]
theorem layValues_ok {F : Nat} {σ : St} (hF : 100 ≤ F) (hw : WF (σ 232)) : TT (f_X7_layValues F 231 σ) (fun σ' => (∀ k, k ≠ 239 → k ≠ 240 → σ' k = σ k) ∧ Vlaid (σ 232) (σ 238) (evN (σ 232)).toNat σ') := by
  have h60 := hw.ev60
  have loop : ∀ (n m e : Nat) (τ : St), (e : Int) + m = evN (σ 232) → m < n → (∀ k, k ≠ 239 → k ≠ 240 → τ k = σ k) → Vlaid (σ 232) (σ 238) e τ → TT (f_X7_layValues_L23 F 231 n e τ) (fun σ' => (∀ k, k ≠ 239 → k ≠ 240 → σ' k = σ k) ∧ Vlaid (σ 232) (σ 238) (evN (σ 232)).toNat σ') := by
    intro n
    induction n with
    | zero => intro m e τ _ h; exact absurd h (Nat.not_lt_zero m)
    | succ n ih =>
      intro m e τ hm hn hτ hV
      have h232 : τ 232 = σ 232 := hτ 232 (by decide) (by decide)
      have h238 : τ 238 = σ 238 := hτ 238 (by decide) (by decide)
      have ee := e_events (F := F) (σ := τ) (by rw [h232]; exact hw.1)
      rw [h232] at ee
      rw [f_X7_layValues_L23]
      simp only [tt_gt, tt_sg, tt_ite, tt_ck, tt_lk, tt_ix, tt_bo, tt_by, tt_nz, tt_ob, tt_st, tt_cpk, tt_c1, tt_c2, tt_ca, tt_cb, tt_some, kd_231, kd_0, Nat.reduceAdd, true_and, and_true, true_implies, not_true_eq_false, false_implies, not_false_eq_true, ne_eq, true_or, or_true, ee]
      refine ⟨fun h => ⟨hτ, ?_⟩, fun h => ?_⟩
      · have : (evN (σ 232)).toNat = e := by omega
        rw [this]
        exact hV
      · repeat refine And.intro (by omega) ?_
        have hb : B255 (fun c => τ 239 (32 * (e : Int) + c)) := fun c c1 c2 => by
          show 0 ≤ τ 239 (32 * (e : Int) + c) ∧ τ 239 (32 * (e : Int) + c) ≤ 255
          rw [hV.1 e c (Nat.le_refl e) c1 c2]
          exact val_255 hw e (by omega) c c1 c2
        refine lay_44 (σ := τ) hF ⟨by omega, by omega⟩ (by rw [h232]; exact hw.1.2.1) (by rw [h232]; exact hw.2.2 e (by omega) (by omega)) hb F 32 0 τ (by decide) (by decide) (by omega) (fun _ _ => rfl) (fun j => by rw [if_neg (by omega)]) (fun τ' a1 a2 a3 a4 => ?_)
        have hnext : ∀ c, 0 ≤ c → c < 32 → τ' 239 (32 * (e : Int) + 32 + c) = Val (σ 232) (σ 238) (e + 1) c := by
          intro c c1 c2
          rw [a3 c c1 c2, h238, h232, Val]
          have e0 : (fun c => τ 239 (32 * (e : Int) + c)) c = Val (σ 232) (σ 238) e c := hV.1 e c (Nat.le_refl e) c1 c2
          by_cases q : σ 238 (e : Int) = 0 ∧ σ 232 (6 + 4 * (e : Int)) < 4
          · rw [if_pos q, if_pos q]
            obtain ⟨g1, g2, g3, g4, g5, g6, g7⟩ := hw.2.2 e (by omega) (by omega)
            have ga := g3 q.2
            have h32 := hw.1.2.1
            have v0 := hV.1 e (σ 232 (6 + 4 * (e : Int) + 1 + 0)) (Nat.le_refl e) (by omega) (by omega)
            unfold apE ap
            dsimp only
            rw [v0, hV.1 e c (Nat.le_refl e) c1 c2]
            by_cases q2 : σ 232 (6 + 4 * (e : Int)) = 2
            · have g5' := g5 q2
              rw [hV.1 e (σ 232 (6 + 4 * (e : Int) + 1 + 1)) (Nat.le_refl e) (by omega) (by omega)]
            · rw [if_neg q2, if_neg q2]
          · rw [if_neg q, if_neg q]
            exact e0
        refine ih (m - 1) (e + 1) τ' (by omega) (by omega) (fun k c1 c2 => (a1 k c1 c2).trans (hτ k c1 c2)) ⟨?_, ?_⟩
        · intro t c ht c1 c2
          by_cases q : t = e + 1
          · subst q
            rw [← hnext c c1 c2]
            exact congrArg (τ' 239) (by omega)
          · rw [a2 _ (by omega)]
            exact hV.1 t c (by omega) c1 c2
        · intro t c ht c1 c2
          rw [a4]
          by_cases q : t = e
          · subst q
            rw [if_pos (by omega), a2 _ (by omega), hV.1 t c (Nat.le_refl t) c1 c2]
            rw [show 32 * (t : Int) + c + 32 = 32 * (t : Int) + 32 + c by omega, hnext c c1 c2]
            rfl
          · rw [if_neg (by omega)]
            exact hV.2 t c (by omega) c1 c2
  have zero : ∀ (n m : Nat) (x : Int) (τ : St), 0 ≤ x → x + m = 32 → m < n → (∀ k, k ≠ 239 → τ k = σ k) → (∀ j, 0 ≤ j → j < x → τ 239 j = 0) → TT (f_X7_layValues_L2 F 231 n x τ) (fun σ' => (∀ k, k ≠ 239 → k ≠ 240 → σ' k = σ k) ∧ Vlaid (σ 232) (σ 238) (evN (σ 232)).toNat σ') := by
    intro n
    induction n with
    | zero => intro m x τ _ _ h; exact absurd h (Nat.not_lt_zero m)
    | succ n ih =>
      intro m x τ hx hm hn hτ hz
      rw [f_X7_layValues_L2]
      simp only [tt_gt, tt_sg, tt_ite, tt_ck, tt_lk, tt_ix, tt_bo, tt_by, tt_nz, tt_ob, tt_st, tt_cpk, tt_c1, tt_c2, tt_ca, tt_cb, tt_some, kd_231, kd_0, Nat.reduceAdd, true_and, and_true, true_implies, not_true_eq_false, false_implies, not_false_eq_true, ne_eq, true_or, or_true]
      refine ⟨fun h => ?_, fun h => ?_⟩
      · refine loop F (evN (σ 232)).toNat 0 τ (by omega) (by omega) (fun k c1 _ => hτ k c1) ⟨fun t c ht c1 c2 => ?_, fun t c ht => absurd ht (Nat.not_lt_zero t)⟩
        rw [show t = 0 by omega, Val, hz _ (by omega) (by omega)]
      · repeat refine And.intro (by omega) ?_
        refine ih (m - 1) (x + 1) (z_up τ 239 x 0) (by omega) (by omega) (by omega) (fun k hk => (up_ne hk).trans (hτ k hk)) (fun j c1 c2 => ?_)
        unfold z_up
        by_cases q : j = x
        · rw [if_pos ⟨rfl, q⟩]
        · rw [if_neg (fun z => q z.2)]
          exact hz j c1 (by omega)
  unfold f_X7_layValues
  simp only [tt_gt, tt_sg, tt_ite, tt_ck, tt_lk, tt_ix, tt_bo, tt_by, tt_nz, tt_ob, tt_st, tt_cpk, tt_c1, tt_c2, tt_ca, tt_cb, tt_some, kd_231, kd_0, Nat.reduceAdd, true_and, and_true, true_implies, not_true_eq_false, false_implies, not_false_eq_true, ne_eq, true_or, or_true]
  exact zero F 32 0 σ (by decide) (by decide) (by omega) (fun _ _ => rfl) (fun j c1 c2 => absurd c2 (by omega))
