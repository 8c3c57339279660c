theorem nx_eq {l : Int} {e : Nat} {μ : St} {c : Int} : ∀ m : Nat, 0 ≤ c → c < m → lft μ c → (∀ d : Int, 0 ≤ d → d < m → lft μ d → d ≠ c → rkR l e μ c < rkR l e μ d) → nxR l e μ m = c
  | 0, h1, h2, _, _ => absurd h2 (by omega)
  | m + 1, h1, h2, h3, h4 => by
    unfold nxR
    have hr := nx_rng l e μ m
    by_cases q : c = m
    · have hcond : lft μ m ∧ (nxR l e μ m = -1 ∨ rkR l e μ m < rkR l e μ (nxR l e μ m)) := by
        refine ⟨by rw [← q]; exact h3, ?_⟩
        by_cases z : nxR l e μ m = -1
        · exact Or.inl z
        · right
          rw [← q]
          exact h4 _ (by omega) (by omega) (nx_left l e μ m z) (by omega)
      rw [if_pos hcond, q]
    · have ih := nx_eq (l := l) (e := e) m h1 (by omega) h3 (fun d d1 d2 => h4 d d1 (by omega))
      rw [ih]
      refine if_neg (fun z => ?_)
      have := h4 m (by omega) (by omega) z.1 (by omega)
      rcases z.2 with y | y <;> omega
theorem nx_no {l : Int} {e : Nat} {μ : St} : ∀ m : Nat, (∀ d : Int, 0 ≤ d → d < m → ¬ lft μ d) → nxR l e μ m = -1
  | 0, _ => rfl
  | m + 1, h => by
    unfold nxR
    rw [if_neg (fun z => h m (by omega) (by omega) z.1)]
    exact nx_no m (fun d d1 d2 => h d d1 (by omega))
theorem rk_same {l : Int} {e : Nat} {μ ν : St} {c : Int} (h : ν 240 = μ 240) : rkR l e ν c = rkR l e μ c := by
  unfold rkR
  rw [h]
def SI (K : Nat) (w0 l : Int) (t : Nat) (most : Int) (T μ0 σ0 : St) (m : Nat) (μ σ : St) : Prop := (CC K (μ 231 29) μ σ) ∧ (FrC K σ0 σ) ∧ (Sok μ) ∧ (μ 245 (μ 231 29) + m = most) ∧ (scS l t m μ = T) ∧ (Lv w0 t μ) ∧ (∀ x, x ≠ 245 → x ≠ 247 → x ≠ 248 → x ≠ 249 → μ x = μ0 x)
theorem SI.cc {K : Nat} {w0 l : Int} {t : Nat} {most : Int} {T μ0 σ0 : St} {m : Nat} {μ σ : St} (h : SI K w0 l t most T μ0 σ0 m μ σ) : CC K (μ 231 29) μ σ := h.1
theorem SI.fr {K : Nat} {w0 l : Int} {t : Nat} {most : Int} {T μ0 σ0 : St} {m : Nat} {μ σ : St} (h : SI K w0 l t most T μ0 σ0 m μ σ) : FrC K σ0 σ := h.2.1
theorem SI.sok {K : Nat} {w0 l : Int} {t : Nat} {most : Int} {T μ0 σ0 : St} {m : Nat} {μ σ : St} (h : SI K w0 l t most T μ0 σ0 m μ σ) : Sok μ := h.2.2.1
theorem SI.ms {K : Nat} {w0 l : Int} {t : Nat} {most : Int} {T μ0 σ0 : St} {m : Nat} {μ σ : St} (h : SI K w0 l t most T μ0 σ0 m μ σ) : μ 245 (μ 231 29) + m = most := h.2.2.2.1
theorem SI.tg {K : Nat} {w0 l : Int} {t : Nat} {most : Int} {T μ0 σ0 : St} {m : Nat} {μ σ : St} (h : SI K w0 l t most T μ0 σ0 m μ σ) : scS l t m μ = T := h.2.2.2.2.1
theorem SI.lv {K : Nat} {w0 l : Int} {t : Nat} {most : Int} {T μ0 σ0 : St} {m : Nat} {μ σ : St} (h : SI K w0 l t most T μ0 σ0 m μ σ) : Lv w0 t μ := h.2.2.2.2.2.1
theorem SI.oth {K : Nat} {w0 l : Int} {t : Nat} {most : Int} {T μ0 σ0 : St} {m : Nat} {μ σ : St} (h : SI K w0 l t most T μ0 σ0 m μ σ) : ∀ x, x ≠ 245 → x ≠ 247 → x ≠ 248 → x ≠ 249 → μ x = μ0 x := h.2.2.2.2.2.2
theorem SI.kp {F K : Nat} {w0 l : Int} {t : Nat} {most : Int} {T μ0 σ0 : St} {m : Nat} {μ σ : St} {c v : Int} (hK : kdX K = 1) (h : SI K w0 l t most T μ0 σ0 (m + 1) μ σ) (hw : μ0 232 0 = w0) (hc : 0 ≤ c ∧ c < w0) (hl : lft μ c) (hv : v = μ0 239 (32 * t + c)) (hm : ∀ d, 0 ≤ d → d < w0 → lft μ d → d ≠ c → rkR l t μ c < rkR l t μ d) : TT (f_X1_keep F K c v σ) (fun σ' => SI K w0 l t most T μ0 σ0 m (kpS c t 0 μ) σ') := by
  have e31 : μ 231 = μ0 231 := h.oth 231 (by decide) (by decide) (by decide) (by decide)
  have e32 : μ 232 = μ0 232 := h.oth 232 (by decide) (by decide) (by decide) (by decide)
  have e39 : μ 239 = μ0 239 := h.oth 239 (by decide) (by decide) (by decide) (by decide)
  have hw2 : μ 232 0 = w0 := by rw [e32]; exact hw
  obtain ⟨s1, s2, s3, s4, s5, s6⟩ := id h.sok
  have hp := lf_pos (σ := μ) (c := c) (μ 232 0).toNat (by omega) (by omega) hl
  have hlv := h.lv (by omega) c hc.1 hc.2 hl
  have f31 : kpS c t 0 μ 231 = μ 231 := kp_ne (by decide) (by decide) (by decide) (by decide)
  refine (keep_ok (e := (t : Int)) (s := 0) hK h.cc (by omega) (by omega) (by omega) hl.2 (by rw [hv, ← e39, hlv])).mono (fun σ' h2 => ⟨by rw [f31]; exact h2.2, h.fr.tr h2.1, h.sok.kp (by omega) (by omega) hl, ?_, ?_, ?_, fun x a b d f => (kp_ne a b d f).trans (h.oth x a b d f)⟩)
  · rw [f31, kp_245, if_pos rfl]
    have := h.ms
    omega
  · have hn : nxR l t μ (μ 232 0).toNat = c := nx_eq _ hc.1 (by omega) hl (fun d d1 d2 d3 d4 => hm d d1 (by omega) d3 d4)
    rw [← h.tg]
    conv => rhs; unfold scS
    rw [hn, if_neg (by omega)]
  · intro ho d d1 d2 hd
    rw [f31, show kpS c t 0 μ 239 = μ 239 from kp_ne (by decide) (by decide) (by decide) (by decide), show kpS c t 0 μ 242 = μ 242 from kp_ne (by decide) (by decide) (by decide) (by decide)]
    exact h.lv (by rw [← f31]; exact ho) d d1 d2 ((kp_lft (by omega) _).mp hd).1
theorem kl_ok {F b K a : Nat} {w0 l : Int} {t : Nat} {most S : Int} {T μ0 σ0 : St} {m : Nat} {μ σ : St} (hF : 100 ≤ F) (hb : kdX b = 3) (hK : kdX K = 1) (ha : kdX a = 0) (haK : a ≠ K ∧ a ≠ K + 1 ∧ a ≠ K + 2 ∧ a + 1 ≠ K ∧ a + 1 ≠ K + 2) (hbK : b ≠ K ∧ b ≠ K + 1 ∧ b ≠ K + 2) (hw : μ0 232 0 = w0) (hw2 : 0 ≤ w0 ∧ w0 ≤ 32) (hn : σ0 b 8 = w0) (hB : BR a σ0 w0 (fun c => μ0 239 (32 * t + c))) (h : SI K w0 l t most T μ0 σ0 m μ σ)
    (hS : m = 0 ∨ ((∀ c, 0 ≤ c → c < w0 → bt S c → lft μ c) ∧ (∀ c d, 0 ≤ c → c < w0 → 0 ≤ d → d < w0 → bt S c → lft μ d → ¬ bt S d → rkR l t μ c < rkR l t μ d) ∧ (∀ c d, 0 ≤ c → c < d → d < w0 → bt S c → bt S d → rkR l t μ c < rkR l t μ d))) :
    TT (f_X3_keepLowest F b K S most a σ) (fun σ' => ∃ μ' m', SI K w0 l t most T μ0 σ0 m' μ' σ' ∧ m' ≤ m ∧ (m' = 0 ∨ ∀ c, 0 ≤ c → c < w0 → (lft μ' c ↔ lft μ c ∧ ¬ bt S c))) := by
  unfold f_X3_keepLowest
  simp only [tt_gt, tt_sg, tt_ite, tt_ck, tt_lk, tt_ix, tt_bo, tt_by, tt_nz, tt_ob, tt_st, tt_cpk, tt_c1, tt_c2, tt_ca, tt_cb, tt_some, kd_231, kd_0, Nat.reduceAdd, true_and, and_true, true_implies, not_true_eq_false, false_implies, not_false_eq_true, true_or, or_true, hb, hK, ha]
  refine lp_w (L := fun n (p : Int × St) => f_X3_keepLowest_L3 F b K S most a n p.1 p.2) (fun j p => 0 ≤ p.1 ∧ p.1 + j = w0 ∧ ∃ μ' m', SI K w0 l t most T μ0 σ0 m' μ' p.2 ∧ m' ≤ m ∧ (m' = 0 ∨ ∀ c, 0 ≤ c → c < w0 → (lft μ' c ↔ lft μ c ∧ ¬ (bt S c ∧ c < p.1)))) (fun j n p hI ih => ?_) w0.toNat F (0, σ) (by omega) ⟨by dsimp only; omega, by dsimp only; omega, μ, m, h, Nat.le_refl m, Or.inr (fun c c1 c2 => ⟨fun z => ⟨z, fun y => by have := y.2; dsimp only at this; omega⟩, fun z => z.1⟩)⟩
  obtain ⟨i, τ⟩ := p
  dsimp only at hI ih ⊢
  obtain ⟨i1, i2, μ', m', i3, i4, i5⟩ := hI
  have hbt : τ b = σ0 b := i3.fr.oth b hbK.1 hbK.2.1 hbK.2.2
  have hat : ∀ x, x = a ∨ x = a + 1 → τ x = σ0 x := fun x hx => i3.fr.oth x (by omega) (by omega) (by omega)
  have hsz := i3.cc.sz
  have hms := i3.ms
  rw [f_X3_keepLowest_L3]
  simp only [tt_gt, tt_sg, tt_ite, tt_ck, tt_lk, tt_ix, tt_bo, tt_by, tt_nz, tt_ob, tt_st, tt_cpk, tt_c1, tt_c2, tt_ca, tt_cb, tt_some, kd_231, kd_0, Nat.reduceAdd, true_and, and_true, true_implies, not_true_eq_false, false_implies, not_false_eq_true, true_or, or_true, hbt, hn]
  refine ⟨fun q => ⟨μ', m', i3, i4, i5.imp id (fun z c c1 c2 => ?_)⟩, fun q => ⟨fun q2 => ⟨μ', m', i3, i4, i5.imp id (fun z c c1 c2 => ?_)⟩, fun q2 => ⟨fun q3 => ⟨μ', m', i3, i4, Or.inl (by omega)⟩, fun q3 => ?_⟩⟩⟩
  · rw [z c c1 c2]
    exact ⟨fun y => ⟨y.1, fun y2 => y.2 ⟨y2, by omega⟩⟩, fun y => ⟨y.1, fun y2 => y.2 y2.1⟩⟩
  · rw [z c c1 c2, q2]
    have := bt_zero (c := c) (by omega)
    exact ⟨fun y => ⟨y.1, this⟩, fun y => ⟨y.1, fun y2 => this y2.1⟩⟩
  · simp only [e6_holds, tt_some]
    refine ⟨fun q4 => And.intro (by omega) (ih (j - 1) (i + 1, τ) (by omega) ⟨by dsimp only; omega, by dsimp only; omega, μ', m', i3, i4, i5.imp id (fun z c c1 c2 => ?_)⟩), fun q4 => ?_⟩
    · have hno : ¬ bt S i := fun z => by rw [if_pos z] at q4; exact absurd q4 (by decide)
      rw [z c c1 c2]
      dsimp only
      constructor
      · exact fun y => ⟨y.1, fun y2 => by
          by_cases q5 : c = i
          · exact hno (by rw [← q5]; exact y2.1)
          · exact y.2 ⟨y2.1, by omega⟩⟩
      · exact fun y => ⟨y.1, fun y2 => y.2 ⟨y2.1, by omega⟩⟩
    · have hyes : bt S i := Classical.byContradiction fun z => q4 (if_neg z)
      obtain ⟨m1, rfl⟩ : ∃ k, m' = k + 1 := ⟨m' - 1, by omega⟩
      have i5' := i5.resolve_left (by omega)
      obtain ⟨g1, g2, g3⟩ := hS.resolve_left (by omega)
      have e40 : μ' 240 = μ0 240 := i3.oth 240 (by decide) (by decide) (by decide) (by decide)
      have f40 : μ 240 = μ0 240 := h.oth 240 (by decide) (by decide) (by decide) (by decide)
      have hrk : ∀ c, rkR l t μ' c = rkR l t μ c := fun c => rk_same (e40.trans f40.symm)
      have hli : lft μ' i := (i5' i i1 (by omega)).mpr ⟨g1 i i1 (by omega) hyes, fun y => by omega⟩
      rw [e0_cellAt (F := F) (b := a) (σ := τ) (c := i) ha (by rw [hat a (Or.inl rfl), hB.1]; exact hw2.2), tt_some]
      rw [hat a (Or.inl rfl), hB.1, if_pos (by omega), hat (a + 1) (Or.inr rfl), hB.2 i (by omega) (by omega)]
      refine (i3.kp (F := F) (c := i) (v := μ0 239 (32 * t + i)) hK hw (by omega) hli rfl (fun d d1 d2 d3 d4 => ?_)).mono (fun τ' h6 => And.intro (by omega) (ih (j - 1) (i + 1, τ') (by omega) ⟨by dsimp only; omega, by dsimp only; omega, _, m1, h6, by omega, Or.inr (fun c c1 c2 => ?_)⟩))
      · rw [hrk, hrk]
        have d5 := (i5' d d1 d2).mp d3
        by_cases q5 : bt S d
        · exact g3 i d i1 (by apply Classical.byContradiction; intro q6; exact d5.2 ⟨q5, by omega⟩) d2 hyes q5
        · exact g2 i d i1 (by omega) d1 d2 hyes d5.1 q5
      · rw [kp_lft (by omega), i5' c c1 c2]
        dsimp only
        constructor
        · exact fun y => ⟨y.1.1, fun y2 => y.1.2 ⟨y2.1, by omega⟩⟩
        · exact fun y => ⟨⟨y.1, fun y2 => y.2 ⟨y2.1, by omega⟩⟩, fun y2 => y.2 ⟨by rw [y2]; exact hyes, by omega⟩⟩
theorem SI.fin {K : Nat} {w0 l : Int} {t : Nat} {most : Int} {T μ0 σ0 : St} {m : Nat} {μ σ : St} (h : SI K w0 l t most T μ0 σ0 m μ σ) (hw : μ0 232 0 = w0) (h0 : 0 ≤ w0) (hd : m = 0 ∨ ∀ c, 0 ≤ c → c < w0 → ¬ lft μ c) : μ = T := by
  have e32 : μ 232 = μ0 232 := h.oth 232 (by decide) (by decide) (by decide) (by decide)
  rw [← h.tg]
  cases m with
  | zero => rfl
  | succ m =>
    have hd := hd.resolve_left (by omega)
    rw [scS, if_pos (nx_no _ (fun d d1 d2 => hd d d1 (by rw [e32] at d2; omega)))]
theorem j120_ok {F b K : Nat} {n w0 l : Int} {t : Nat} {most : Int} {T μ0 σ0 : St} {m : Nat} {μ σ : St} (hF : 100 ≤ F) (hb : kdX b = 3) (hb1 : kdX (b + 1) = 0) (hK : kdX K = 1) (hKb : b + 7 < K) (hw : μ0 232 0 = w0) (hw2 : 0 ≤ w0 ∧ w0 ≤ 32) (hn : σ0 b 8 = w0) (hB : BR (b + 1) σ0 w0 (fun c => μ0 239 (32 * t + c))) (h : SI K w0 l t most T μ0 σ0 m μ σ)
    (hl : m = 0 ∨ ∀ c d, 0 ≤ c → c < d → d < w0 → lft μ c → lft μ d → rkR l t μ c < rkR l t μ d) : TT (f_X3_keepNext_J120 F b n K most σ) (fun σ' => FrC K σ0 σ' ∧ CC K (T 231 29) T σ') := by
  unfold f_X3_keepNext_J120
  simp only [tt_gt, tt_sg, tt_ite, tt_ck, tt_lk, tt_ix, tt_bo, tt_by, tt_nz, tt_ob, tt_st, tt_cpk, tt_c1, tt_c2, tt_ca, tt_cb, tt_some, kd_231, kd_0, Nat.reduceAdd, true_and, and_true, true_implies, not_true_eq_false, false_implies, not_false_eq_true, true_or, or_true]
  refine (missing_ok hK h.cc).mono (fun S hS => ?_)
  refine (kl_ok (F := F) (a := b + 1) (S := S) hF hb hK hb1 (by omega) (by omega) hw hw2 hn hB h (hl.imp id (fun hl => ⟨fun c c1 c2 c3 => (hS.2 c c1 (by omega)).mp c3, fun c d c1 c2 d1 d2 a1 a2 a3 => absurd ((hS.2 d d1 (by omega)).mpr a2) a3, fun c d c1 c2 d2 a1 a2 => hl c d c1 c2 d2 ((hS.2 c c1 (by omega)).mp a1) ((hS.2 d (by omega) (by omega)).mp a2)⟩))).mono (fun σ' h1 => ?_)
  obtain ⟨μ', m', h2, -, h3⟩ := h1
  have hT := h2.fin hw hw2.1 (h3.imp id (fun h3 c c1 c2 hc => ((h3 c c1 c2).mp hc).2 ((hS.2 c c1 (by omega)).mpr ((h3 c c1 c2).mp hc).1)))
  rw [← hT]
  exact ⟨h2.fr, h2.cc⟩
