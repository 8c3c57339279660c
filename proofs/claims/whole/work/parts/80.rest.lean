theorem Gd.mx {F : Nat} {w : Int → Int} {α : St} {T : Nat} (hF : 100 ≤ F) (hw : WF w) (h : Gd w (fun _ => 0) (evN w).toNat α) (h2 : α 232 = w) (hT : (T : Int) ≤ evN w) : MX w T (ItG F (w 1) T α) (ItG F (w 1) (evN w).toNat α) := by
  have h60 := hw.ev60
  have it := h.it (F := F) (l := w 1) hF
  have it2 := it.2.2 T (by omega)
  have fr := (It_ok (F := F) (l := w 1) hF h.wf h.n0 h.o0 (evN w).toNat h.le).2
  refine ⟨hw, hT, it2.1, it.1, it2.2, ⟨it.1, fun s c s1 c1 c2 => ?_, fun s c s1 c1 c2 => ?_⟩, ?_⟩
  · rw [fr.1 239 (by decide) (by omega)]; exact h.v9 h2 s c (by omega) c1 c2
  · rw [fr.1 240 (by decide) (by omega)]; exact h.v0 h2 s c (by omega) c1 c2
  · rw [fr.1 232 (by decide) (by omega)]; exact h2
def Al (w : Int → Int) (α : St) : Prop := Gd w (fun _ => 0) (evN w).toNat α ∧ α 232 = w
theorem al_ex {w : Int → Int} (hw : WF w) : ∃ α, Al w α := by
  have h60 := hw.ev60
  refine ⟨fun k j => if k = 231 then (if j = 29 then -1 else 0) else if k = 232 then w j else if k = 238 then 0 else if k = 239 then Val w (fun _ => 0) (j / 32).toNat (j % 32) else if k = 240 then chg w (fun _ => 0) (j / 32).toNat (j % 32) else 0, ⟨hw, by show _ ≤ evN w; omega, rfl, rfl, ⟨fun s c _ c1 c2 => ?_, fun s c _ c1 c2 => ?_⟩, rfl, fun _ _ _ => rfl, fun _ _ _ => rfl⟩, rfl⟩
  · show Val w (fun _ => 0) ((32 * (s : Int) + c) / 32).toNat ((32 * (s : Int) + c) % 32) = Val w (fun _ => 0) s c
    rw [show ((32 * (s : Int) + c) / 32).toNat = s by omega, show (32 * (s : Int) + c) % 32 = c by omega]
  · show chg w (fun _ => 0) ((32 * (s : Int) + c) / 32).toNat ((32 * (s : Int) + c) % 32) = chg w (fun _ => 0) s c
    rw [show ((32 * (s : Int) + c) / 32).toNat = s by omega, show (32 * (s : Int) + c) % 32 = c by omega]
theorem Ctx.al2 {F : Nat} {w : Int → Int} {T : Nat} {μ ν σ1 : St} (hF : 100 ≤ F) (X : Ctx F w T μ ν σ1) : ∃ α, Al w α ∧ μ = ItG F (w 1) T α ∧ ν = ItG F (w 1) (evN w).toNat α := by
  obtain ⟨α, hA, e1, e2⟩ := X.al
  have fr := (It_ok (F := F) (l := w 1) hF hA.wf hA.n0 hA.o0 (evN w).toNat hA.le).2
  refine ⟨α, ⟨hA, ?_⟩, e1, e2⟩
  have := fr.1 232 (by decide) (by omega)
  rw [← this, ← e2, X.w2]
theorem Pl.fr {F : Nat} {σ : St} {T : Nat} {σ1 τ : St} (hF : 100 ≤ F) (h : GI F σ) (hp : Pl F σ T σ1) (he : ∀ x, 12 ≤ x → x ≤ 109 → τ x = σ1 x) (hq : QCl σ1 τ) : Pl F σ T τ := ⟨hp.1.fr hF h.wf he, hp.2.tr hq⟩
def RSt (w : Int → Int) (a : Nat) (f : Int → Int) : Nat → Int → Int
  | 0 => f
  | j + 1 => fun c => if w (6 + 4 * ((a + j : Nat) : Int)) < 4 then apE w ((a + j : Nat) : Int) (RSt w a f j) c else RSt w a f j c
theorem RSt_255 {w : Int → Int} {a : Nat} {f : Int → Int} (hw : WF w) (hf : B255 f) : ∀ j : Nat, ((a + j : Nat) : Int) ≤ evN w → B255 (RSt w a f j)
  | 0, _ => hf
  | j + 1, h => by
    have ih := RSt_255 (a := a) hw hf j (by omega)
    intro c c1 c2
    show (0 : Int) ≤ (if w (6 + 4 * ((a + j : Nat) : Int)) < 4 then apE w ((a + j : Nat) : Int) (RSt w a f j) c else RSt w a f j c) ∧ (if w (6 + 4 * ((a + j : Nat) : Int)) < 4 then apE w ((a + j : Nat) : Int) (RSt w a f j) c else RSt w a f j c) ≤ 255
    split
    · rename_i z
      exact ap_255 hw.1.2.1 (hw.2.2 _ (by omega) (by omega)) z ih c c1 c2
    · exact ih c c1 c2
theorem apE_cg0 {w : Int → Int} {e : Int} {f f' : Int → Int} (he : Ev w e) (hk : w (6 + 4 * e) < 4) (h : ∀ c, 0 ≤ c → c < w 0 → f c = f' c) {c : Int} (hc : 0 ≤ c ∧ c < w 0) : apE w e f c = apE w e f' c := by
  obtain ⟨g1, g2, g3, g4, g5, g6, g7⟩ := he
  have ga := g3 hk
  unfold apE ap
  rw [h c hc.1 hc.2, h (w (6 + 4 * e + 1 + 0)) (by omega) (by omega)]
  by_cases q2 : w (6 + 4 * e) = 2
  · have g5' := g5 q2
    rw [h (w (6 + 4 * e + 1 + 1)) (by omega) (by omega)]
  · rw [if_neg q2, if_neg q2]
def rsF (w0 : Int) (μ : St) (c : Int) : Int := if c < w0 then rsR μ c else 0
theorem rest_c {F : Nat} {w : Int → Int} {T : Nat} {μ ν σ1 : St} {c : Int} (hF : 100 ≤ F) (X : MX w T μ ν) (hC : RunR 12 (w 0) (w 1) T μ σ1) (hS : SR 4 σ1 w) (hc : 0 ≤ c ∧ c < w 0) : TT (z_c1 (f_X0_clear F 208 (w 0) σ1) fun σ2 => f_X6_restored_L40 F 0 c T F 0 σ2) (fun r => r.1 = RSt w (mkR μ).toNat (rsF (w 0) μ) (T - (mkR μ).toNat) c ∧ OB 208 σ1 r.2) := by
  have h60 := X.wf.ev60
  have hle := X.le
  have hw0 : 0 ≤ w 0 ∧ w 0 ≤ 32 := ⟨X.wf.1.1, X.wf.1.2.1⟩
  have n30 := X.n.1
  have hm := mk_le X.m1
  obtain ⟨a, ea⟩ : ∃ a : Nat, mkR μ = a := ⟨(mkR μ).toNat, by omega⟩
  rw [ea, Int.toNat_natCast]
  have hB : B255 (rsF (w 0) μ) := fun d d1 d2 => by
    unfold rsF
    split
    · exact rs_val X ⟨d1, d2⟩
    · omega
  have sim : ∀ τ : St, OB 208 σ1 τ → RunR 12 (w 0) (w 1) T μ τ ∧ SR 4 τ w := fun τ ho => ⟨hC.fr n30.2 (fun x x1 x2 => ho x (by omega) (by omega)), hS.ob ho (Or.inl (by decide))⟩
  simp only [tt_c1]
  refine (clear_ok (F := F) (b := 208) hF rfl rfl rfl hw0).mono (fun σ2 h2 => ?_)
  have second : ∀ τ : St, OB 208 σ1 τ → BR 208 τ (w 0) (rsF (w 0) μ) → TT (f_X6_restored_L82 F 0 c T F a τ) (fun r => r.1 = RSt w a (rsF (w 0) μ) (T - a) c ∧ OB 208 σ1 r.2) := by
    intro τ ho hb
    refine lp_w (L := fun n (p : Int × St) => f_X6_restored_L82 F 0 c T n p.1 p.2) (fun m p => ∃ j : Nat, p.1 = ((a + j : Nat) : Int) ∧ a + j + m = T ∧ OB 208 σ1 p.2 ∧ BR 208 p.2 (w 0) (RSt w a (rsF (w 0) μ) j)) (fun m n p hI ih => ?_) (T - a) F ((a : Int), τ) (by omega) ⟨0, rfl, by omega, ho, hb⟩
    obtain ⟨i, τ⟩ := p
    dsimp only at hI ih ⊢
    obtain ⟨j, rfl, i2, i3, i4⟩ := hI
    obtain ⟨s1, s2⟩ := sim τ i3
    rw [f_X6_restored_L82]
    simp only [tt_gt, tt_sg, tt_ite, tt_ck, tt_lk, tt_ix, tt_bo, tt_by, tt_nz, tt_ob, tt_st, tt_cpk, tt_c1, tt_c2, tt_ca, tt_cb, tt_some, kd_231, kd_0, Nat.reduceAdd, true_and, and_true, true_implies, not_true_eq_false, false_implies, not_false_eq_true, true_or, or_true, Nat.zero_add]
    refine ⟨fun z => ?_, fun z => ?_⟩
    · rw [e0_cellAt (F := F) (b := 208) (σ := τ) (c := c) rfl (by rw [i4.1]; exact hw0.2), tt_some, i4.1, if_pos hc, i4.2 c hc.1 (by omega)]
      exact ⟨by rw [show T - a = j by omega], i3⟩
    · have hb2 : B255 (τ 209) := fun d d1 d2 => by
        have := i4.2 d d1 d2
        rw [show (209 : Nat) = 208 + 1 from rfl, this]
        exact RSt_255 X.wf hB j (by omega) d d1 d2
      refine (e0_apply (F := F) (b := 208) (s := 4) (e := ((a + j : Nat) : Int)) hF rfl rfl s2 X.wf ⟨by omega, by omega⟩ i4.1 hb2).mono (fun r hr => And.intro (by omega) (ih (m - 1) (((a + j : Nat) : Int) + 1, r.2) (by omega) ⟨j + 1, by dsimp only; omega, by omega, i3.tr (fun k k1 k2 => hr.1 k k2), ?_, fun d d1 d2 => ?_⟩))
      · rw [hr.1 208 (by decide)]; exact i4.1
      · rw [hr.2.1 d d1 d2]
        show _ = if _ then _ else _
        by_cases u : w (6 + 4 * ((a + j : Nat) : Int)) < 4
        · rw [if_pos u, if_pos u]
          exact apE_congr hw0.2 (X.wf.2.2 _ (by omega) (by omega)) u i4.2 ⟨d1, d2⟩
        · rw [if_neg u, if_neg u]
          exact i4.2 d d1 d2
  refine lp_w (L := fun n (p : Int × St) => f_X6_restored_L40 F 0 c T n p.1 p.2) (fun m p => 0 ≤ p.1 ∧ p.1 + m = w 0 ∧ OB 208 σ1 p.2 ∧ BR 208 p.2 (w 0) (fun d => if d < p.1 then rsR μ d else 0)) (fun m n p hI ih => ?_) (w 0).toNat F (0, σ2) (by omega) ⟨by dsimp only; omega, by dsimp only; omega, h2.1, h2.2.1, fun d d1 d2 => by dsimp only; rw [if_neg (by omega)]; exact h2.2.2 d d1 d2⟩
  obtain ⟨i, τ⟩ := p
  dsimp only at hI ih ⊢
  obtain ⟨i1, i2, i3, i4⟩ := hI
  obtain ⟨s1, s2⟩ := sim τ i3
  have e0 := s2.1 0 (by decide) (by decide)
  rw [f_X6_restored_L40]
  simp only [tt_gt, tt_sg, tt_ite, tt_ck, tt_lk, tt_ix, tt_bo, tt_by, tt_nz, tt_ob, tt_st, tt_cpk, tt_c1, tt_c2, tt_ca, tt_cb, tt_some, kd_231, kd_0, Nat.reduceAdd, true_and, and_true, true_implies, not_true_eq_false, false_implies, not_false_eq_true, true_or, or_true, Nat.zero_add, e0]
  refine ⟨fun z => ?_, fun z => ?_⟩
  · rw [e3_mark hF (Or.inl rfl) s1 n30, tt_some, ea]
    refine second τ i3 ⟨i4.1, fun d d1 d2 => ?_⟩
    rw [i4.2 d d1 d2, show i = w 0 by omega]
    rfl
  · rw [e3_raised hF (Or.inl rfl) s1 n30 ⟨i1, by omega⟩, tt_some]
    refine (e0_put (F := F) (b := 208) (σ := τ) (c := i) (v := rsR μ i) rfl (by rw [i4.1]; exact hw0.2) (by rw [i4.1]; omega)).mono (fun r hr => And.intro (by omega) (ih (m - 1) (i + 1, r.2) (by omega) ⟨by dsimp only; omega, by dsimp only; omega, i3.tr (fun k k1 k2 => by rw [hr.1, up_ne k2]), ?_, fun d d1 d2 => ?_⟩))
    · rw [hr.1, up_ne (by decide)]; exact i4.1
    · dsimp only
      rw [hr.1, up_eq]
      dsimp only
      rw [i4.2 d d1 d2]
      dsimp only
      by_cases u : d = i
      · rw [if_pos u, if_pos (by omega), u]
      · rw [if_neg u]
        by_cases v : d < i
        · rw [if_pos v, if_pos (by omega)]
        · rw [if_neg v, if_neg (by omega)]
theorem MX.fr {w : Int → Int} {T : Nat} {μ ν τ : St} (X : MX w T μ ν) (e : ∀ k, k ≠ 251 → τ k = ν k) : MX w T μ τ := by
  have e31 := e 231 (by decide)
  have e39 := e 239 (by decide)
  have e40 := e 240 (by decide)
  have e41 := e 241 (by decide)
  have e42 := e 242 (by decide)
  have e43 := e 243 (by decide)
  have e44 := e 244 (by decide)
  have e45 := e 245 (by decide)
  have e46 := e 246 (by decide)
  have e47 := e 247 (by decide)
  have e48 := e 248 (by decide)
  have e49 := e 249 (by decide)
  have e50 := e 250 (by decide)
  have m2 : MI0 (w 0) (evN w).toNat τ := by
    refine ⟨by rw [e31]; exact X.m2.c0, by rw [e31]; exact X.m2.c2, by rw [e31]; exact X.m2.op, fun k k1 k2 => ?_⟩
    rw [e31] at k2
    have c := X.m2.cp k k1 k2
    refine ⟨by rw [e42]; exact c.mrk, by rw [e41]; exact c.fl, by rw [e31, e42, e43, e44]; exact c.st, ?_, by rw [e46]; exact c.wt, by rw [e42, e46, e47, e48]; exact c.kb⟩
    rw [e45, kpN_same (fun c _ _ => by rw [e48])]
    exact c.sz
  refine ⟨X.wf, X.le, X.m1, m2, ?_, ⟨m2, by rw [e39]; exact X.kn.v9, by rw [e40]; exact X.kn.v0⟩, by rw [e 232 (by decide)]; exact X.w2⟩
  have H := X.hs
  exact ⟨by rw [e31]; exact H.le, by rw [e39]; exact H.v9, by rw [e40]; exact H.v0, by rw [e41, e42, e46]; exact H.fx, by rw [e43, e44, e45, e49]; exact H.cl, by rw [e44, e31]; exact H.opn, by rw [e47, e48]; exact H.kb, by rw [e31, e42]; exact H.nw, by rw [e50]; exact H.rf⟩
theorem rest_m {F : Nat} {w : Int → Int} {T : Nat} {μ ν : St} {c : Int} (hF : 100 ≤ F) (X : MX w T μ ν) (hag : B255 (ν 251)) (hc : 0 ≤ c ∧ c < w 0) : TT (f_X7_restored_L14 F 231 c T F 0 ν) (fun r => r.1 = RSt w (mkR μ).toNat (rsF (w 0) μ) (T - (mkR μ).toNat) c ∧ (∀ k, k ≠ 251 → r.2 k = ν k) ∧ B255 (r.2 251)) := by
  have h60 := X.wf.ev60
  have hle := X.le
  have hw0 : 0 ≤ w 0 ∧ w 0 ≤ 32 := ⟨X.wf.1.1, X.wf.1.2.1⟩
  have hm := mk_le X.m1
  obtain ⟨a, ea⟩ : ∃ a : Nat, mkR μ = a := ⟨(mkR μ).toNat, by omega⟩
  rw [ea, Int.toNat_natCast]
  have second : ∀ τ : St, (∀ k, k ≠ 251 → τ k = ν k) → B255 (τ 251) → (∀ d, 0 ≤ d → d < w 0 → τ 251 d = rsF (w 0) μ d) → TT (f_X7_restored_L46 F 231 c T F a τ) (fun r => r.1 = RSt w a (rsF (w 0) μ) (T - a) c ∧ (∀ k, k ≠ 251 → r.2 k = ν k) ∧ B255 (r.2 251)) := by
    intro τ h1 h2 h3
    refine lp_w (L := fun n (p : Int × St) => f_X7_restored_L46 F 231 c T n p.1 p.2) (fun m p => ∃ j : Nat, p.1 = ((a + j : Nat) : Int) ∧ a + j + m = T ∧ (∀ k, k ≠ 251 → p.2 k = ν k) ∧ B255 (p.2 251) ∧ ∀ d, 0 ≤ d → d < w 0 → p.2 251 d = RSt w a (rsF (w 0) μ) j d) (fun m n p hI ih => ?_) (T - a) F ((a : Int), τ) (by omega) ⟨0, rfl, by omega, h1, h2, h3⟩
    obtain ⟨i, τ⟩ := p
    dsimp only at hI ih ⊢
    obtain ⟨j, rfl, i2, i3, i4, i5⟩ := hI
    have e32 : τ 232 = w := (i3 232 (by decide)).trans X.w2
    rw [f_X7_restored_L46]
    simp only [tt_gt, tt_sg, tt_ite, tt_ck, tt_lk, tt_ix, tt_bo, tt_by, tt_nz, tt_ob, tt_st, tt_cpk, tt_c1, tt_c2, tt_ca, tt_cb, tt_some, kd_231, kd_0, Nat.reduceAdd, true_and, and_true, true_implies, not_true_eq_false, false_implies, not_false_eq_true, true_or, or_true]
    refine ⟨fun z => And.intro (by omega) ⟨by rw [i5 c hc.1 hc.2, show T - a = j by omega], i3, i4⟩, fun z => ?_⟩
    rw [e_isCommand (F := F) (σ := τ) ⟨by omega, by omega⟩, tt_some, e32]
    by_cases u : w (6 + 4 * ((a + j : Nat) : Int)) < 4
    · rw [if_pos u]
      refine ⟨fun v => absurd v (by decide), fun _ => ?_⟩
      have hE := X.wf.2.2 ((a + j : Nat) : Int) (by omega) (by omega)
      refine (obey_ok (F := F) (σ := τ) (e := ((a + j : Nat) : Int)) (base := 0) (k := 251) hF (by rw [e32]; exact hw0.2) ⟨by omega, by omega⟩ (by rw [e32]; exact hE) (by rw [e32]; exact u) rfl (by show _ ∧ _ ≤ ((32 : Nat) : Int); omega) (by decide) (by decide) (fun d d1 d2 => by show 0 ≤ τ 251 (0 + d) ∧ τ 251 (0 + d) ≤ 255; rw [Int.zero_add]; exact i4 d d1 d2)).mono (fun τ' hr => And.intro (by omega) (ih (m - 1) (((a + j : Nat) : Int) + 1, τ') (by omega) ⟨j + 1, by dsimp only; omega, by omega, fun k hk => (hr.1 k hk).trans (i3 k hk), ?_, ?_⟩))
      · have hap : B255 (apE w ((a + j : Nat) : Int) (fun d => τ 251 (0 + d))) := ap_255 hw0.2 hE u (fun d d1 d2 => by rw [Int.zero_add]; exact i4 d d1 d2)
        intro d d1 d2
        have := hr.2.2 d d1 d2
        rw [Int.zero_add, e32] at this
        dsimp only
        rw [this]
        exact hap d d1 d2
      · intro d d1 d2
        have := hr.2.2 d d1 (by omega)
        rw [Int.zero_add, e32] at this
        dsimp only
        rw [this]
        show _ = if _ then _ else _
        rw [if_pos u]
        exact apE_cg0 hE u (fun x x1 x2 => by rw [Int.zero_add]; exact i5 x x1 x2) ⟨d1, d2⟩
    · rw [if_neg u]
      refine ⟨fun _ => And.intro (by omega) (ih (m - 1) (((a + j : Nat) : Int) + 1, τ) (by omega) ⟨j + 1, by dsimp only; omega, by omega, i3, i4, fun d d1 d2 => ?_⟩), fun v => absurd rfl v⟩
      show τ 251 d = if _ then _ else _
      rw [if_neg u]
      exact i5 d d1 d2
  refine lp_w (L := fun n (p : Int × St) => f_X7_restored_L14 F 231 c T n p.1 p.2) (fun m p => 0 ≤ p.1 ∧ p.1 + m = w 0 ∧ (∀ k, k ≠ 251 → p.2 k = ν k) ∧ B255 (p.2 251) ∧ ∀ d, 0 ≤ d → d < p.1 → p.2 251 d = rsR μ d) (fun m n p hI ih => ?_) (w 0).toNat F (0, ν) (by omega) ⟨by dsimp only; omega, by dsimp only; omega, fun _ _ => rfl, hag, fun d d1 d2 => by dsimp only at d2; omega⟩
  obtain ⟨i, τ⟩ := p
  dsimp only at hI ih ⊢
  obtain ⟨i1, i2, i3, i4, i5⟩ := hI
  have X2 := X.fr i3
  rw [f_X7_restored_L14]
  simp only [tt_gt, tt_sg, tt_ite, tt_ck, tt_lk, tt_ix, tt_bo, tt_by, tt_nz, tt_ob, tt_st, tt_cpk, tt_c1, tt_c2, tt_ca, tt_cb, tt_some, kd_231, kd_0, Nat.reduceAdd, true_and, and_true, true_implies, not_true_eq_false, false_implies, not_false_eq_true, true_or, or_true, e_cells, X2.w2]
  refine ⟨fun z => (rf_ok hF X2).mono (fun r hr => ?_), fun z => (rd_ok hF X2 (c := i) ⟨i1, by omega⟩).mono (fun r hr => And.intro (by omega) (And.intro (by omega) (ih (m - 1) (i + 1, z_up τ 251 i r) (by omega) ⟨by dsimp only; omega, by dsimp only; omega, fun k hk => (up_ne hk).trans (i3 k hk), fun d d1 d2 => ?_, fun d d1 d2 => ?_⟩)))⟩
  · rw [hr, ea]
    refine second τ i3 i4 (fun d d1 d2 => ?_)
    rw [i5 d d1 (by omega)]
    unfold rsF
    rw [if_pos d2]
  · dsimp only
    rw [up_eq]
    dsimp only
    by_cases u : d = i
    · rw [if_pos u, hr]; exact rs_val X ⟨i1, by omega⟩
    · rw [if_neg u]; exact i4 d d1 d2
  · dsimp only at d2 ⊢
    rw [up_eq]
    dsimp only
    by_cases u : d = i
    · rw [if_pos u, hr, u]
    · rw [if_neg u]; exact i5 d d1 (by omega)
theorem q_restored {F : Nat} {σ : St} {c t : Int} (hF : 100 ≤ F) (h : GI F σ) : PP F (f_X6_restored F 0 c t σ) (f_X7_restored F 231 c t) := by
  have h60 := h.wf.ev60
  have hw0 : 0 ≤ σ 232 0 ∧ σ 232 0 ≤ 32 := ⟨h.wf.1.1, h.wf.1.2.1⟩
  have hc := e6_hasCell (F := F) (c := c) h.sc
  have ht := e6_hasTick (F := F) (t := t) h.sc h.wf
  have neg : ¬ ((0 ≤ c ∧ c < σ 232 0) ∧ 0 < σ 232 5 ∧ 0 ≤ t ∧ t ≤ evN (σ 232)) → TT (f_X7_restored F 231 c t σ) (fun r' => -2 = r'.1 ∧ GI F r'.2) := by
    intro q
    obtain ⟨T0, P0⟩ := h.self
    obtain ⟨⟨v, ν⟩, ha, hv, μ, X⟩ := P0.asksCell hF h c t
    dsimp only at hv X
    rw [if_neg q] at hv
    subst hv
    unfold f_X7_restored
    simp only [tt_gt, tt_sg, tt_ite, tt_ck, tt_lk, tt_ix, tt_bo, tt_by, tt_nz, tt_ob, tt_st, tt_cpk, tt_c1, tt_c2, tt_ca, tt_cb, tt_some, kd_231, kd_0, Nat.reduceAdd, true_and, and_true, true_implies, not_true_eq_false, false_implies, not_false_eq_true, true_or, or_true, ha, eq_self]
    exact X.gi
  unfold PP f_X6_restored
  by_cases q : (0 ≤ c ∧ c < σ 232 0) ∧ 0 < σ 232 5 ∧ 0 ≤ t ∧ t ≤ evN (σ 232)
  · rw [if_pos q.1] at hc
    rw [if_pos q.2] at ht
    simp only [tt_ob, tt_ite, tt_some, tt_gt, kd_0, true_and, hc, ht, one0, not_false_eq_true, true_implies, false_implies, not_true_eq_false, and_true, tt_c1, Nat.zero_add]
    obtain ⟨T, rfl⟩ : ∃ T : Nat, t = T := ⟨t.toNat, by omega⟩
    refine (h.play hF T q.2.2.2).mono (fun σ1 P1 => ?_)
    have hS : SR 4 σ1 (σ 232) := h.sc.mv (P1.2 4 (by omega)) (P1.2 5 (by omega)) (P1.2 6 (by omega))
    have e0 := hS.1 0 (by decide) (by decide)
    have cls := tt_all (f := z_c1 (f_X0_clear F 208 (σ 232 0) σ1) fun σ2 => f_X6_restored_L40 F 0 c T F 0 σ2) (A := Al (σ 232)) (P := fun α r => r.1 = RSt (σ 232) (mkR (ItG F (σ 232 1) T α)).toNat (rsF (σ 232 0) (ItG F (σ 232 1) T α)) (T - (mkR (ItG F (σ 232 1) T α)).toNat) c) (Q := fun r => OB 208 σ1 r.2) (al_ex h.wf) (fun α hα => rest_c hF (hα.1.mx hF h.wf hα.2 q.2.2.2) (P1.1.2.2.1 α (hα.1.dn (by omega))) hS q.1)
    simp only [tt_c1] at cls
    rw [e0]
    refine cls.mono (fun σ2 h2 => h2.mono (fun r hr => ?_))
    have P2 : Pl F σ T r.2 := P1.fr hF h (fun x x1 x2 => hr.2 x (by omega) (by omega)) (fun x hx => hr.2 x (by omega) (by omega))
    obtain ⟨⟨v, ν⟩, ha, hv, μ, X⟩ := P2.asksCell hF h c (T : Int)
    dsimp only at hv X
    rw [if_pos q] at hv
    subst hv
    obtain ⟨α, hα, e1, e2⟩ := X.al2 hF
    have hans := hr.1 α hα
    rw [← e1] at hans
    unfold f_X7_restored
    simp only [tt_gt, tt_sg, tt_ite, tt_ck, tt_lk, tt_ix, tt_bo, tt_by, tt_nz, tt_ob, tt_st, tt_cpk, tt_c1, tt_c2, tt_ca, tt_cb, tt_some, kd_231, kd_0, Nat.reduceAdd, true_and, and_true, true_implies, not_true_eq_false, false_implies, not_false_eq_true, true_or, or_true, ha, one0]
    refine (rest_m hF X.mx X.gi.ag q.1).mono (fun r' hr' => ⟨by rw [hans, hr'.1], X.gi.q hF QCl.rf X.gi.rn ⟨fun x hx => hr'.2.1 x (by omega), fun x hx => hr'.2.1 x (by omega), fun j hj => by rw [hr'.2.1 231 (by decide)], fun _ => hr'.2.2⟩⟩)
  · by_cases q1 : 0 ≤ c ∧ c < σ 232 0
    · rw [if_pos q1] at hc
      rw [if_neg (fun z => q ⟨q1, z⟩)] at ht
      simp only [tt_gt, tt_sg, tt_ite, tt_ck, tt_lk, tt_ix, tt_bo, tt_by, tt_nz, tt_ob, tt_st, tt_cpk, tt_c1, tt_c2, tt_ca, tt_cb, tt_some, kd_231, kd_0, Nat.reduceAdd, true_and, and_true, true_implies, not_true_eq_false, false_implies, not_false_eq_true, true_or, or_true, Nat.zero_add, hc, ht, one0, eq_self]
      exact neg q
    · rw [if_neg q1] at hc
      simp only [tt_gt, tt_sg, tt_ite, tt_ck, tt_lk, tt_ix, tt_bo, tt_by, tt_nz, tt_ob, tt_st, tt_cpk, tt_c1, tt_c2, tt_ca, tt_cb, tt_some, kd_231, kd_0, Nat.reduceAdd, true_and, and_true, true_implies, not_true_eq_false, false_implies, not_false_eq_true, true_or, or_true, Nat.zero_add, hc, eq_self]
      exact neg q
