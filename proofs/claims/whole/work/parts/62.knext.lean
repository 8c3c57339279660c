theorem latR_ge {ch : Int → Int} {c : Int} : ∀ (t i : Nat), i < t → ch (32 * i + c) ≠ 0 → (i : Int) ≤ latR ch c t
  | 0, i, h, _ => absurd h (by omega)
  | t + 1, i, h, h2 => by
    unfold latR
    by_cases q : i = t
    · rw [if_neg (by rw [← q]; exact h2)]; omega
    · have ih := latR_ge t i (by omega) h2
      split <;> omega
theorem latR_hit {ch : Int → Int} {c : Int} : ∀ t : Nat, 0 ≤ latR ch c t → ch (32 * latR ch c t + c) ≠ 0
  | 0, h => by unfold latR at h; omega
  | t + 1, h => by
    unfold latR at h ⊢
    by_cases q : ch (32 * t + c) = 0
    · rw [if_pos q] at h ⊢; exact latR_hit t h
    · rw [if_neg q]; exact q
theorem even_bt : ∀ c : Nat, c < 32 → (bt 1431655765 c ↔ c % 2 = 0) := by decide
theorem kh_ok {F b K : Nat} {w0 : Int} {t : Nat} {most : Int} {T μ0 σ0 : St} {m : Nat} {μ σ : St} (hF : 100 ≤ F) (hb : kdX b = 3) (hb1 : kdX (b + 1) = 0) (hK : kdX K = 1) (hKb : b + 7 < K) (hw : μ0 232 0 = w0) (hw2 : 0 ≤ w0 ∧ w0 ≤ 32) (hn : σ0 b 8 = w0) (hB : BR (b + 1) σ0 w0 (fun c => μ0 239 (32 * t + c))) (h : SI K w0 1 t most T μ0 σ0 m μ σ) :
    TT (f_X3_keepHighest F b K most σ) (fun σ' => ∃ μ' m', SI K w0 1 t most T μ0 σ0 m' μ' σ' ∧ (m' = 0 ∨ ∀ c, 0 ≤ c → c < w0 → ¬ lft μ' c)) := by
  have hbs : σ b = σ0 b := h.fr.oth b (by omega) (by omega) (by omega)
  unfold f_X3_keepHighest
  simp only [tt_gt, tt_sg, tt_ite, tt_ck, tt_lk, tt_ix, tt_bo, tt_by, tt_nz, tt_ob, tt_st, tt_cpk, tt_c1, tt_c2, tt_ca, tt_cb, tt_some, kd_231, kd_0, Nat.reduceAdd, true_and, and_true, true_implies, not_true_eq_false, false_implies, not_false_eq_true, true_or, or_true, hb, hK]
  refine (missing_ok hK h.cc).mono (fun S hS => ?_)
  refine And.intro (by rw [hbs]; omega) ?_
  rw [hbs, hn]
  refine lp_w (L := fun n (p : Int × St) => f_X3_keepHighest_L13 F b K most n S p.1 p.2) (fun j p => p.1 + 1 = j ∧ p.1 < w0 ∧ ∃ μ' m', SI K w0 1 t most T μ0 σ0 m' μ' p.2 ∧ (m' = 0 ∨ ∀ c, 0 ≤ c → c < w0 → (lft μ' c ↔ lft μ c ∧ c ≤ p.1))) (fun j n p hI ih => ?_) w0.toNat F (w0 - 1, σ) (by omega) ⟨by dsimp only; omega, by dsimp only; omega, μ, m, h, Or.inr (fun c c1 c2 => ⟨fun z => ⟨z, by dsimp only; omega⟩, fun z => z.1⟩)⟩
  obtain ⟨i, τ⟩ := p
  dsimp only at hI ih ⊢
  obtain ⟨i1, i2, μ', m', i3, i5⟩ := hI
  have hat : ∀ x, x = b + 1 ∨ x = b + 2 → τ x = σ0 x := fun x hx => i3.fr.oth x (by omega) (by omega) (by omega)
  have hsz := i3.cc.sz
  have hms := i3.ms
  rw [f_X3_keepHighest_L13]
  simp only [tt_gt, tt_sg, tt_ite, tt_ck, tt_lk, tt_ix, tt_bo, tt_by, tt_nz, tt_ob, tt_st, tt_cpk, tt_c1, tt_c2, tt_ca, tt_cb, tt_some, kd_231, kd_0, Nat.reduceAdd, true_and, and_true, true_implies, not_true_eq_false, false_implies, not_false_eq_true, true_or, or_true]
  refine ⟨fun q => ⟨μ', m', i3, i5.imp id (fun z c c1 c2 hc => by have := ((z c c1 c2).mp hc).2; omega)⟩, fun q => ⟨fun q3 => ⟨μ', m', i3, Or.inl (by omega)⟩, fun q3 => ?_⟩⟩
  simp only [e6_holds, tt_some]
  have hSi := hS.2 i (by omega) (by omega)
  refine ⟨fun q4 => And.intro (by omega) (ih (j - 1) (i + -1, τ) (by omega) ⟨by dsimp only; omega, by dsimp only; omega, μ', m', i3, i5.imp id (fun z c c1 c2 => ?_)⟩), fun q4 => ?_⟩
  · have hno : ¬ bt S i := fun z => by rw [if_pos z] at q4; exact absurd q4 (by decide)
    rw [z c c1 c2]
    dsimp only
    constructor
    · refine fun y => ⟨y.1, ?_⟩
      by_cases q5 : c = i
      · exact absurd (hSi.mpr (by rw [← q5]; exact y.1)) hno
      · omega
    · exact fun y => ⟨y.1, by omega⟩
  · have hyes : bt S i := Classical.byContradiction fun z => q4 (if_neg z)
    obtain ⟨m1, rfl⟩ : ∃ k, m' = k + 1 := ⟨m' - 1, by omega⟩
    have i5' := i5.resolve_left (by omega)
    have hli : lft μ' i := (i5' i (by omega) (by omega)).mpr ⟨hSi.mp hyes, by omega⟩
    have hc0 := e0_cellAt (F := F) (b := b + 1) (σ := τ) (c := i) hb1 (by rw [hat (b + 1) (Or.inl rfl), hB.1]; exact hw2.2)
    rw [hc0, tt_some, hat (b + 1) (Or.inl rfl), hB.1, if_pos (by omega), hat (b + 1 + 1) (Or.inr rfl), hB.2 i (by omega) (by omega)]
    refine (i3.kp (F := F) (c := i) (v := μ0 239 (32 * t + i)) hK hw (by omega) hli rfl (fun d d1 d2 d3 d4 => ?_)).mono (fun τ' h6 => And.intro (by omega) (ih (j - 1) (i + -1, τ') (by omega) ⟨by dsimp only; omega, by dsimp only; omega, _, m1, h6, Or.inr (fun c c1 c2 => ?_)⟩))
    · have d5 := (i5' d d1 d2).mp d3
      unfold rkR
      rw [if_neg (by decide), if_pos rfl, if_neg (by decide), if_pos rfl]
      omega
    · rw [kp_lft (by omega), i5' c c1 c2]
      dsimp only
      constructor
      · exact fun y => ⟨y.1.1, by have := y.1.2; have := y.2; omega⟩
      · exact fun y => ⟨⟨y.1, by omega⟩, by omega⟩
theorem knext_ok {F b K : Nat} {w0 l : Int} {t : Nat} {n : Int} {μ σ : St} (hF : 100 ≤ F) (hb : kdX b = 3) (hb1 : kdX (b + 1) = 0) (hK : kdX K = 1) (hKe : K = b + 7 + 1 + 3 * (μ 231 29).toNat) (hk : 0 ≤ μ 231 29 ∧ μ 231 29 < σ b 3 ∧ σ b 3 ≤ 30) (ho : σ b 4 = μ 231 29) (hw : μ 232 0 = w0) (hw2 : 0 ≤ w0 ∧ w0 ≤ 32) (hn : σ b 8 = w0) (hl : σ b 9 = l) (hlr : 0 ≤ l ∧ l ≤ 3) (ht : t < 60) (hre : σ b 1 = t + 1) (hB : BR (b + 1) σ w0 (fun c => μ 239 (32 * t + c)))
    (hch : ∀ e, 0 ≤ e → e < 60 → ∀ c, 0 ≤ c → c < 32 → (bt (σ (b + 6) e) c ↔ e < t ∧ μ 240 (32 * e + c) ≠ 0)) (hnn : 0 ≤ n ∧ n ≤ 32) (hcc : CC K (μ 231 29) μ σ) (hS : Sok μ) (hL : Lv w0 t μ) : TT (f_X3_keepNext F b n σ) (fun σ' => FrC K σ σ' ∧ CC K (scS l t n.toNat μ 231 29) (scS l t n.toNat μ) σ') := by
  obtain ⟨s1, s2, s3, s4, s5, s6⟩ := id hS
  have hKb : b + 7 < K := by omega
  generalize hT : scS l t n.toNat μ = T
  have h0 : SI K w0 l t (μ 245 (μ 231 29) + n) T μ σ n.toNat μ σ := ⟨hcc, FrC.rf, hS, by omega, hT, hL, fun _ _ _ _ _ => rfl⟩
  unfold f_X3_keepNext
  simp only [tt_gt, tt_sg, tt_ite, tt_ck, tt_lk, tt_ix, tt_bo, tt_by, tt_nz, tt_ob, tt_st, tt_cpk, tt_c1, tt_c2, tt_ca, tt_cb, tt_some, kd_231, kd_0, Nat.reduceAdd, true_and, and_true, true_implies, not_true_eq_false, false_implies, not_false_eq_true, true_or, or_true, hb, ho, copyOf_ok (F := F) (b := b) (σ := σ) (k := μ 231 29) hb ⟨hk.1, hk.2.1⟩ hk.2.2, ← hKe, hK, hcc.sz, hl]
  refine And.intro (by omega) ⟨fun q1 => ⟨fun q2 => ⟨fun q3 => ?_, fun q3 => ?_⟩, fun q2 => ?_⟩, fun q1 => ?_⟩
  · have hl0 : l = 0 := by omega
    subst hl0
    refine j120_ok hF hb hb1 hK hKb hw hw2 hn hB h0 (Or.inr (fun c d _ h _ _ _ => ?_))
    unfold rkR
    rw [if_pos rfl, if_pos rfl]
    exact h
  · have hl3 : l = 3 := by omega
    subst hl3
    have rk3 : ∀ (ν : St) (c : Int), rkR 3 t ν c = c + 100 * c.tmod 2 := fun ν c => by unfold rkR; rw [if_neg (by decide), if_neg (by decide), if_neg (by decide)]
    have ev : ∀ c : Int, 0 ≤ c → c < 32 → (bt 1431655765 c ↔ c.tmod 2 = 0) := fun c c1 c2 => by
      have := even_bt c.toNat (by omega)
      rw [show ((c.toNat : Nat) : Int) = c by omega] at this
      rw [this, Int.tmod_eq_emod_of_nonneg c1]
      omega
    have tm : ∀ c : Int, 0 ≤ c → 0 ≤ c.tmod 2 ∧ c.tmod 2 ≤ 1 := fun c c1 => by rw [Int.tmod_eq_emod_of_nonneg c1]; omega
    refine (missing_ok hK hcc).mono (fun S1 hS1 => ?_)
    have hSb : ∀ c, 0 ≤ c → c < w0 → (bt (z_and S1 1431655765) c ↔ lft μ c ∧ c.tmod 2 = 0) := fun c c1 c2 => by
      rw [bt_and ⟨c1, by omega⟩, hS1.2 c c1 (by omega), ev c c1 (by omega)]
    refine (kl_ok (F := F) (a := b + 1) (S := z_and S1 1431655765) hF hb hK hb1 (by omega) (by omega) hw hw2 hn hB h0 (Or.inr ⟨fun c c1 c2 c3 => ((hSb c c1 c2).mp c3).1, fun c d c1 c2 d1 d2 a1 a2 a3 => ?_, fun c d c1 c2 d2 a1 a2 => ?_⟩)).mono (fun σ' h1 => ?_)
    · rw [rk3, rk3]
      have h4 := ((hSb c c1 c2).mp a1).2
      have h5 : d.tmod 2 ≠ 0 := fun z => a3 ((hSb d d1 d2).mpr ⟨a2, z⟩)
      have h6 := tm d d1
      omega
    · rw [rk3, rk3]
      have h4 := ((hSb c c1 (by omega)).mp a1).2
      have h5 := ((hSb d (by omega) d2).mp a2).2
      omega
    · obtain ⟨μ', m', h2, -, h3⟩ := h1
      refine j120_ok hF hb hb1 hK hKb hw hw2 hn hB h2 (h3.imp id (fun h3 c d c1 h d2 a1 a2 => ?_))
      rw [rk3, rk3]
      have a3 := (h3 c c1 (by omega)).mp a1
      have a4 := (h3 d (by omega) d2).mp a2
      have b3 : c.tmod 2 ≠ 0 := fun z => a3.2 ((hSb c c1 (by omega)).mpr ⟨a3.1, z⟩)
      have b4 : d.tmod 2 ≠ 0 := fun z => a4.2 ((hSb d (by omega) d2).mpr ⟨a4.1, z⟩)
      have t3 := tm c c1
      have t4 := tm d (by omega)
      omega
  · have hl2 : l = 2 := by omega
    subst hl2
    have rk2 : ∀ (ν : St) (c : Int), rkR 2 t ν c = c - 100 * latR (ν 240) c t := fun ν c => by unfold rkR; rw [if_neg (by decide), if_neg (by decide), if_pos rfl]
    have hmin : z_min (σ b 1) 60 = t + 1 := by unfold z_min; rw [hre, if_neg (by omega)]
    rw [hmin]
    refine And.intro (by omega) ?_
    refine lp_w (L := fun j (p : Int × St) => f_X3_keepNext_L59 F b n j K (μ 245 (μ 231 29) + n) p.1 p.2) (fun j p => p.1 + 1 = j ∧ p.1 < 60 ∧ ∃ μ' m', SI K w0 2 t (μ 245 (μ 231 29) + n) T μ σ m' μ' p.2 ∧ (m' = 0 ∨ ∀ c, 0 ≤ c → c < w0 → lft μ' c → latR (μ 240) c t ≤ p.1)) (fun j j2 p hI ih => ?_) (t + 1) F ((t : Int) + 1 - 1, σ) (by omega) ⟨by dsimp only; omega, by dsimp only; omega, μ, n.toNat, h0, Or.inr (fun c c1 c2 _ => by have := (latR_rng (μ 240) c t).2; dsimp only; omega)⟩
    obtain ⟨i, τ⟩ := p
    dsimp only at hI ih ⊢
    obtain ⟨i1, i2, μ', m', i3, i5⟩ := hI
    have e40 : μ' 240 = μ 240 := i3.oth 240 (by decide) (by decide) (by decide) (by decide)
    have hb6 : τ (b + 6) = σ (b + 6) := i3.fr.oth (b + 6) (by omega) (by omega) (by omega)
    rw [f_X3_keepNext_L59]
    simp only [tt_gt, tt_sg, tt_ite, tt_ck, tt_lk, tt_ix, tt_bo, tt_by, tt_nz, tt_ob, tt_st, tt_cpk, tt_c1, tt_c2, tt_ca, tt_cb, tt_some, kd_231, kd_0, Nat.reduceAdd, true_and, and_true, true_implies, not_true_eq_false, false_implies, not_false_eq_true, true_or, or_true, hb6]
    refine ⟨fun q => ?_, fun q => ?_⟩
    · refine j120_ok hF hb hb1 hK hKb hw hw2 hn hB i3 (i5.imp id (fun i5 c d c1 h d2 a1 a2 => ?_))
      rw [rk2, rk2, e40]
      have a3 := i5 c c1 (by omega) a1
      have a4 := i5 d (by omega) d2 a2
      have b3 := (latR_rng (μ 240) c t).1
      have b4 := (latR_rng (μ 240) d t).1
      omega
    · refine (missing_ok hK i3.cc).mono (fun S1 hS1 => And.intro (by omega) ?_)
      have hSb : ∀ c, 0 ≤ c → c < w0 → (bt (z_and S1 (σ (b + 6) i)) c ↔ lft μ' c ∧ i < t ∧ μ 240 (32 * i + c) ≠ 0) := fun c c1 c2 => by
        rw [bt_and ⟨c1, by omega⟩, hS1.2 c c1 (by omega), hch i (by omega) i2 c c1 (by omega)]
      have hge : ∀ c, i < t → μ 240 (32 * i + c) ≠ 0 → i ≤ latR (μ 240) c t := fun c a1 a2 => by
        have := latR_ge (ch := μ 240) (c := c) t i.toNat (by omega) (by rw [show ((i.toNat : Nat) : Int) = i by omega]; exact a2)
        omega
      have hhit : ∀ c, latR (μ 240) c t = i → i < t ∧ μ 240 (32 * i + c) ≠ 0 := fun c a1 => by
        have h8 := latR_hit (ch := μ 240) (c := c) t (by omega)
        have h9 := (latR_rng (μ 240) c t).2
        rw [a1] at h8
        exact ⟨by omega, h8⟩
      refine (kl_ok (F := F) (a := b + 1) (S := z_and S1 (σ (b + 6) i)) hF hb hK hb1 (by omega) (by omega) hw hw2 hn hB i3 (i5.imp id (fun i5 => ⟨fun c c1 c2 c3 => ((hSb c c1 c2).mp c3).1, fun c d c1 c2 d1 d2 a1 a2 a3 => ?_, fun c d c1 c2 d2 a1 a2 => ?_⟩))).mono (fun σ' h1 => And.intro (by omega) ?_)
      · rw [rk2, rk2, e40]
        have h4 := (hSb c c1 c2).mp a1
        have h5 := hge c h4.2.1 h4.2.2
        have h6 := i5 d d1 d2 a2
        have h7 : latR (μ 240) d t ≠ i := fun z => a3 ((hSb d d1 d2).mpr ⟨a2, hhit d z⟩)
        omega
      · rw [rk2, rk2, e40]
        have h4 := (hSb c c1 (by omega)).mp a1
        have h5 := (hSb d (by omega) d2).mp a2
        have h6 := hge c h4.2.1 h4.2.2
        have h7 := hge d h5.2.1 h5.2.2
        have h8 := i5 c c1 (by omega) h4.1
        have h9 := i5 d (by omega) d2 h5.1
        omega
      · obtain ⟨μ'', m'', h2, h2m, h3⟩ := h1
        refine ih (j - 1) (i + -1, σ') (by omega) ⟨by dsimp only; omega, by dsimp only; omega, μ'', m'', h2, ?_⟩
        rcases h3 with h3 | h3
        · exact Or.inl h3
        · by_cases qm : m'' = 0
          · exact Or.inl qm
          · right
            intro c c1 c2 hc
            have a1 := (h3 c c1 c2).mp hc
            have a2 : latR (μ 240) c t ≤ i := by
              rcases i5 with z | z
              · omega
              · exact z c c1 c2 a1.1
            have a3 : latR (μ 240) c t ≠ i := fun z => a1.2 ((hSb c c1 c2).mpr ⟨a1.1, hhit c z⟩)
            dsimp only
            omega
  · have hl1 : l = 1 := by omega
    subst hl1
    refine (kh_ok (F := F) hF hb hb1 hK hKb hw hw2 hn hB h0).mono (fun σ' h1 => ?_)
    obtain ⟨μ', m', h2, h3⟩ := h1
    exact j120_ok hF hb hb1 hK hKb hw hw2 hn hB h2 (h3.imp id (fun h3 c d c1 h d2 a1 a2 => absurd a1 (h3 c c1 (by omega))))
