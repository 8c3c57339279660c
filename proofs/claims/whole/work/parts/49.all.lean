theorem kc_keep {e : Nat} {Q : St → Prop} (hQ : ∀ (σ : St) (c : Int), Sok σ → Q σ → 0 ≤ c → c < σ 232 0 → lft σ c → Q (kpS c e 1 σ)) : ∀ (m : Nat) (c : Int) (σ : St), 0 ≤ c → c + m ≤ σ 232 0 → (σ 231 29 = -1 ∨ Sok σ) → Q σ → ((kcS e m c σ) 231 29 = -1 ∨ Sok (kcS e m c σ)) ∧ Q (kcS e m c σ)
  | 0, _, _, _, _, h1, h2 => ⟨h1, h2⟩
  | m + 1, c, σ, hc, hm, h1, h2 => by
    unfold kcS
    by_cases q : σ 231 29 ≠ -1 ∧ σ 240 (32 * e + c) ≠ 0 ∧ lft σ c
    · rw [if_pos q]
      have hS := h1.resolve_left q.1
      have e2 : kpS c e 1 σ 232 = σ 232 := kp_ne (by decide) (by decide) (by decide) (by decide)
      exact kc_keep hQ m (c + 1) _ (by omega) (by rw [e2]; omega) (Or.inr (hS.kp (by omega) (by omega) q.2.2)) (hQ σ c hS h2 hc (by omega) q.2.2)
    · rw [if_neg q]
      exact kc_keep hQ m (c + 1) σ (by omega) (by omega) h1 h2
def Fr1 (σ σ' : St) : Prop := (∀ k, k ≠ 231 → (k < 241 ∨ 250 < k) → σ' k = σ k) ∧ ∀ j, j ≠ 28 → j ≠ 29 → σ' 231 j = σ 231 j
theorem Fr1.rf {σ : St} : Fr1 σ σ := ⟨fun _ _ _ => rfl, fun _ _ _ => rfl⟩
theorem Fr1.tr {a b c : St} (h1 : Fr1 a b) (h2 : Fr1 b c) : Fr1 a c := ⟨fun k q r => (h2.1 k q r).trans (h1.1 k q r), fun j q r => (h2.2 j q r).trans (h1.2 j q r)⟩
theorem Fr1.up {σ : St} {k : Nat} {j v : Int} (h : 241 ≤ k ∧ k ≤ 250) : Fr1 σ (z_up σ k j v) := ⟨fun k' q r => up_ne (by omega), fun j' q r => by rw [up_ne (by omega)]⟩
theorem Fr1.kp {c e s : Int} {σ : St} : Fr1 σ (kpS c e s σ) := ⟨fun k q r => kp_ne (by omega) (by omega) (by omega) (by omega), fun j q r => by rw [kp_ne (by decide) (by decide) (by decide) (by decide)]⟩
theorem Fr1.cl {e s : Int} {σ : St} : Fr1 σ (clS e s σ) := by
  refine ⟨fun k q r => ?_, fun j q r => ?_⟩
  · unfold clS
    rw [up_ne q, up_ne (by omega), up_ne (by omega)]
  · unfold clS
    rw [up_eq]
    dsimp only
    rw [if_neg r, up_ne (by decide), up_ne (by decide)]
theorem cl_231 {e s : Int} {σ : St} : clS e s σ 231 28 = σ 231 28 ∧ clS e s σ 231 29 = -1 := by
  unfold clS
  rw [up_eq]
  refine ⟨?_, if_pos rfl⟩
  dsimp only
  rw [if_neg (by decide), up_ne (by decide), up_ne (by decide)]
theorem go_next {e : Nat} {l : Int} {σ σ' : St} (he60 : e < 60) (hw : 0 ≤ σ 232 0 ∧ σ 232 0 ≤ 32) (hG : Gk e σ) (h : GoP e l σ σ') : Gk (e + 1) σ' ∧ Fr1 σ σ' := by
  obtain ⟨g1, g2, g3⟩ := hG
  have u1 : ∀ (j v : Int), z_up σ 250 j v 231 = σ 231 := fun j v => up_ne (by decide)
  have u2 : ∀ (j v : Int), z_up σ 250 j v 232 = σ 232 := fun j v => up_ne (by decide)
  have F0 : ∀ v : Int, Fr1 σ (z_up σ 250 e v) := fun v => Fr1.up (by omega)
  have bg : ∀ full : Int, BgP e full (z_up σ 250 e 0) σ' → Gk (e + 1) σ' ∧ Fr1 σ σ' := by
    intro full hb
    obtain ⟨b0, b1, b2, b3, b4, b5, b6, b7, b8, b9, b10⟩ := hb
    rw [u1] at b1 b6
    have c28 : σ' 231 28 = σ 231 28 + 1 := by rw [b1, if_pos rfl]
    have c29 : σ' 231 29 = σ 231 28 := by rw [b1, if_neg (by decide), if_pos rfl]
    have c32 : σ' 232 = σ 232 := (b0 232 (by decide) (by omega)).trans (u2 _ _)
    refine ⟨⟨by omega, by omega, Or.inr ⟨by omega, ?_⟩⟩, (F0 0).tr ⟨fun k q r => b0 k q (by omega), fun j q r => by rw [b1, if_neg q, if_neg r, u1]⟩⟩
    unfold Sok
    rw [c29, c32, b6, if_pos rfl]
    have := lf_le σ' (σ 232 0).toNat
    exact ⟨hw.1, hw.2, by omega, by omega, by omega, by omega⟩
  obtain ⟨r, hr, h⟩ := h
  rcases h with ⟨h1, rfl⟩ | ⟨h1, h2, rfl⟩ | ⟨h1, h2, h3⟩ | ⟨h1, h2, h3⟩ | ⟨h1, h2, rfl⟩ | ⟨h1, h2, rfl⟩ | ⟨h1, h2, rfl⟩
  · refine ⟨?_, F0 r⟩
    unfold Gk
    rw [u1]
    exact ⟨g1, by omega, g3.imp id (fun h => ⟨h.1, h.2.up⟩)⟩
  · have k := kc_keep (e := e) (Q := fun τ => τ 231 = σ 231 ∧ Fr1 σ τ) (fun τ c _ h _ _ _ => ⟨(kp_ne (by decide) (by decide) (by decide) (by decide)).trans h.1, h.2.tr Fr1.kp⟩) (σ 232 0).toNat 0 (z_up σ 250 e 0) (by omega) (by rw [u2]; omega) (by rw [u1]; exact g3.imp id (fun h => h.2.up)) ⟨u1 _ _, F0 0⟩
    refine ⟨⟨?_, ?_, ?_⟩, k.2.2⟩
    · rw [k.2.1]; exact g1
    · rw [k.2.1]; omega
    · rw [k.2.1]
      have k1 := k.1
      rw [k.2.1] at k1
      rcases g3 with g3 | g3
      · exact Or.inl g3
      · exact k1.imp id (fun h => ⟨g3.1, h⟩)
  · exact bg 1 h3
  · exact bg 0 h3
  · have ho : σ 231 29 ≠ -1 := by unfold whyP at hr; omega
    have g4 := g3.resolve_left ho
    have k := sc_keep (l := l) (e := e) (Q := fun τ => τ 231 = σ 231 ∧ Fr1 σ τ) (fun τ c _ h _ _ _ => ⟨(kp_ne (by decide) (by decide) (by decide) (by decide)).trans h.1, h.2.tr Fr1.kp⟩) (σ 232 (6 + 4 * e + 1 + 0)).toNat (z_up σ 250 e 0) g4.2.up ⟨u1 _ _, F0 0⟩
    refine ⟨⟨?_, ?_, Or.inr ⟨?_, k.1⟩⟩, k.2.2⟩
    · rw [k.2.1]; exact g1
    · rw [k.2.1]; omega
    · rw [k.2.1]; exact g4.1
  · have ho : σ 231 29 ≠ -1 := by unfold whyP at hr; omega
    have g4 := g3.resolve_left ho
    have k := sc_keep (l := l) (e := e) (Q := fun τ => τ 231 = σ 231 ∧ Fr1 σ τ) (fun τ c _ h _ _ _ => ⟨(kp_ne (by decide) (by decide) (by decide) (by decide)).trans h.1, h.2.tr Fr1.kp⟩) 32 (z_up σ 250 e 0) g4.2.up ⟨u1 _ _, F0 0⟩
    refine ⟨⟨?_, ?_, Or.inl cl_231.2⟩, k.2.2.tr Fr1.cl⟩
    · rw [cl_231.1, k.2.1]; exact g1
    · rw [cl_231.1, k.2.1]; omega
  · refine ⟨⟨?_, ?_, Or.inl cl_231.2⟩, (F0 0).tr Fr1.cl⟩
    · rw [cl_231.1, u1]; exact g1
    · rw [cl_231.1, u1]; omega
def goG (F : Nat) (l : Int) (e : Nat) (σ : St) : St := if σ 238 e = 0 then (f_X7_goOn F 231 e l σ).getD σ else σ
def ItG (F : Nat) (l : Int) : Nat → St → St
  | 0, σ => σ
  | t + 1, σ => goG F l t (ItG F l t σ)
def Ini (w g : Int → Int) (t : Nat) (α : St) : Prop := α 232 0 = w 0 ∧ (∀ j, 6 ≤ j → j < 6 + 4 * t → α 232 j = w j) ∧ (∀ e : Nat, e < t → α 238 e = g e) ∧ Vlaid w g t α ∧ α 231 28 = 0 ∧ α 231 29 = -1
theorem It_ok {F : Nat} {l : Int} {α : St} (hF : 100 ≤ F) (hw : WF (α 232)) (h1 : α 231 28 = 0) (h2 : α 231 29 = -1) : ∀ t : Nat, (t : Int) ≤ evN (α 232) → Gk t (ItG F l t α) ∧ Fr1 α (ItG F l t α)
  | 0, _ => ⟨⟨by show 0 ≤ α 231 28; omega, by show α 231 28 ≤ 0; omega, Or.inl h2⟩, Fr1.rf⟩
  | t + 1, ht => by
    obtain ⟨i1, i2⟩ := It_ok (l := l) hF hw h1 h2 t (by omega)
    have e2 : ItG F l t α 232 = α 232 := i2.1 232 (by decide) (by omega)
    unfold ItG goG
    by_cases q : ItG F l t α 238 t = 0
    · rw [if_pos q]
      obtain ⟨τ, h3, h4⟩ := e_goOn (F := F) (σ := ItG F l t α) (l := l) hF (by rw [e2]; exact hw) t (by rw [e2]; omega) i1
      rw [h3]
      have h60 := hw.ev60
      have h5 := go_next (by omega) (by rw [e2]; exact ⟨hw.1.1, hw.1.2.1⟩) i1 h4
      exact ⟨h5.1, i2.tr h5.2⟩
    · rw [if_neg q]
      exact ⟨⟨i1.1, by have := i1.2.1; omega, i1.2.2⟩, i2⟩
theorem It_go {F : Nat} {l : Int} {α : St} (hF : 100 ≤ F) (hw : WF (α 232)) (h1 : α 231 28 = 0) (h2 : α 231 29 = -1) (t : Nat) (ht : (t : Int) < evN (α 232)) (hg : α 238 t = 0) : f_X7_goOn F 231 t l (ItG F l t α) = some (ItG F l (t + 1) α) ∧ GoP t l (ItG F l t α) (ItG F l (t + 1) α) := by
  obtain ⟨i1, i2⟩ := It_ok (l := l) hF hw h1 h2 t (by omega)
  have e2 : ItG F l t α 232 = α 232 := i2.1 232 (by decide) (by omega)
  have e3 : ItG F l t α 238 = α 238 := i2.1 238 (by decide) (by omega)
  obtain ⟨τ, h3, h4⟩ := e_goOn (F := F) (σ := ItG F l t α) (l := l) hF (by rw [e2]; exact hw) t (by rw [e2]; omega) i1
  have h5 : ItG F l (t + 1) α = τ := by
    rw [ItG, goG, e3, if_pos hg, h3]
    rfl
  rw [h5]
  exact ⟨h3, h4⟩
theorem layAll_ok {F : Nat} {σ : St} {l : Int} (hF : 100 ≤ F) (hw : WF (σ 232)) : TT (f_X7_layAll F 231 l σ) (fun σ' => ∃ α : St, (∀ k, k ≠ 231 → k ≠ 239 → k ≠ 240 → α k = σ k) ∧ (∀ j, j ≠ 28 → j ≠ 29 → α 231 j = σ 231 j) ∧ α 231 28 = 0 ∧ α 231 29 = -1 ∧ Vlaid (σ 232) (σ 238) (evN (σ 232)).toNat α ∧ σ' = ItG F l (evN (σ 232)).toNat α) := by
  have h60 := hw.ev60
  unfold f_X7_layAll
  simp only [tt_ob, kd_231, true_and, tt_c1]
  refine (layValues_ok hF hw).mono (fun σ1 h1 => ?_)
  simp only [tt_gt, tt_sg, tt_ite, tt_ck, tt_lk, tt_ix, tt_bo, tt_by, tt_nz, tt_ob, tt_st, tt_cpk, tt_c1, tt_c2, tt_ca, tt_cb, tt_some, kd_231, kd_0, Nat.reduceAdd, true_and, and_true, true_implies, not_true_eq_false, false_implies, not_false_eq_true, ne_eq, true_or, or_true]
  generalize hα : z_up (z_up σ1 231 28 0) 231 29 (-1) = α
  have a1 : ∀ k, k ≠ 231 → α k = σ1 k := fun k hk => by rw [← hα, up_ne hk, up_ne hk]
  have a2 : ∀ j, α 231 j = if j = 29 then -1 else if j = 28 then 0 else σ1 231 j := fun j => by
    rw [← hα, up_eq]
    dsimp only
    rw [up_eq]
  have a28 : α 231 28 = 0 := by rw [a2, if_neg (by decide), if_pos rfl]
  have a29 : α 231 29 = -1 := by rw [a2, if_pos rfl]
  have a32 : α 232 = σ 232 := (a1 232 (by decide)).trans (h1.1 232 (by decide) (by decide))
  have a38 : α 238 = σ 238 := (a1 238 (by decide)).trans (h1.1 238 (by decide) (by decide))
  have loop : ∀ (n m t : Nat), (t : Int) + m = evN (σ 232) → m < n → f_X7_layAll_L16 F 231 l n t (ItG F l t α) = some (ItG F l (evN (σ 232)).toNat α) := by
    intro n
    induction n with
    | zero => intro m t _ h; exact absurd h (Nat.not_lt_zero m)
    | succ n ih =>
      intro m t hm hn
      apply TT.eq
      obtain ⟨i1, i2⟩ := It_ok (F := F) (l := l) (α := α) hF (by rw [a32]; exact hw) a28 a29 t (by rw [a32]; omega)
      have e2 : ItG F l t α 232 = σ 232 := (i2.1 232 (by decide) (by omega)).trans a32
      have e3 : ItG F l t α 238 = σ 238 := (i2.1 238 (by decide) (by omega)).trans a38
      have ee := e_events (F := F) (σ := ItG F l t α) (by rw [e2]; exact hw.1)
      rw [e2] at ee
      rw [f_X7_layAll_L16]
      by_cases q : evN (σ 232) ≤ (t : Int)
      · simp only [tt_gt, tt_sg, tt_ite, tt_ck, tt_lk, tt_ix, tt_bo, tt_by, tt_nz, tt_ob, tt_st, tt_cpk, tt_c1, tt_c2, tt_ca, tt_cb, tt_some, kd_231, kd_0, Nat.reduceAdd, true_and, and_true, true_implies, not_true_eq_false, false_implies, not_false_eq_true, ne_eq, true_or, or_true, ee, q]
        rw [show (evN (σ 232)).toNat = t by omega]
      · simp only [tt_gt, tt_sg, tt_ite, tt_ck, tt_lk, tt_ix, tt_bo, tt_by, tt_nz, tt_ob, tt_st, tt_cpk, tt_c1, tt_c2, tt_ca, tt_cb, tt_some, kd_231, kd_0, Nat.reduceAdd, true_and, and_true, true_implies, not_true_eq_false, false_implies, not_false_eq_true, ne_eq, true_or, or_true, ee, q, e3]
        refine And.intro (by omega) ⟨fun q2 => And.intro (by omega) ?_, fun q2 => ?_⟩
        · have h3 := ih (m - 1) (t + 1) (by omega) (by omega)
          rw [ItG, goG, e3, if_neg q2] at h3
          rw [show (t : Int) + 1 = ((t + 1 : Nat) : Int) by omega, h3, tt_some]
        · have h3 := It_go (F := F) (l := l) (α := α) hF (by rw [a32]; exact hw) a28 a29 t (by rw [a32]; omega) (by rw [a38]; omega)
          rw [h3.1, tt_some]
          refine And.intro (by omega) ?_
          rw [show (t : Int) + 1 = ((t + 1 : Nat) : Int) by omega, ih (m - 1) (t + 1) (by omega) (by omega), tt_some]
  have h2 := loop F (evN (σ 232)).toNat 0 (by omega) (by omega)
  rw [show ((0 : Nat) : Int) = 0 from rfl, ItG] at h2
  rw [h2, tt_some]
  refine ⟨α, fun k k1 k2 k3 => (a1 k k1).trans (h1.1 k k2 k3), fun j j1 j2 => ?_, a28, a29, ?_, rfl⟩
  · rw [a2, if_neg j2, if_neg j1, h1.1 231 (by decide) (by decide)]
  · unfold Vlaid
    rw [a1 239 (by decide), a1 240 (by decide)]
    exact h1.2
