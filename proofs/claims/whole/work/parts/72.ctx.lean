def Ctx (F : Nat) (w : Int → Int) (T : Nat) (μ ν σ1 : St) : Prop := (WF w) ∧ ((T : Int) ≤ evN w) ∧ (RunR 12 (w 0) (w 1) T μ σ1) ∧ (MI0 (w 0) T μ) ∧ (MI0 (w 0) (evN w).toNat ν) ∧ (Hs T μ ν) ∧ (∀ e : Nat, T = e + 1 → LEv 12 e μ σ1) ∧ (Kn w (fun _ => 0) ν) ∧ (ν 232 = w) ∧ (SR 4 σ1 w) ∧ (∀ e, 0 ≤ e → e < 60 → ν 238 e = 0) ∧ (∃ α, Gd w (fun _ => 0) (evN w).toNat α ∧ μ = ItG F (w 1) T α ∧ ν = ItG F (w 1) (evN w).toNat α) ∧ (GI F ν)
theorem Ctx.wf {F : Nat} {w : Int → Int} {T : Nat} {μ ν σ1 : St} (h : Ctx F w T μ ν σ1) : WF w := h.1
theorem Ctx.le {F : Nat} {w : Int → Int} {T : Nat} {μ ν σ1 : St} (h : Ctx F w T μ ν σ1) : (T : Int) ≤ evN w := h.2.1
theorem Ctx.cr {F : Nat} {w : Int → Int} {T : Nat} {μ ν σ1 : St} (h : Ctx F w T μ ν σ1) : RunR 12 (w 0) (w 1) T μ σ1 := h.2.2.1
theorem Ctx.m1 {F : Nat} {w : Int → Int} {T : Nat} {μ ν σ1 : St} (h : Ctx F w T μ ν σ1) : MI0 (w 0) T μ := h.2.2.2.1
theorem Ctx.m2 {F : Nat} {w : Int → Int} {T : Nat} {μ ν σ1 : St} (h : Ctx F w T μ ν σ1) : MI0 (w 0) (evN w).toNat ν := h.2.2.2.2.1
theorem Ctx.hs {F : Nat} {w : Int → Int} {T : Nat} {μ ν σ1 : St} (h : Ctx F w T μ ν σ1) : Hs T μ ν := h.2.2.2.2.2.1
theorem Ctx.lv {F : Nat} {w : Int → Int} {T : Nat} {μ ν σ1 : St} (h : Ctx F w T μ ν σ1) : ∀ e : Nat, T = e + 1 → LEv 12 e μ σ1 := h.2.2.2.2.2.2.1
theorem Ctx.kn {F : Nat} {w : Int → Int} {T : Nat} {μ ν σ1 : St} (h : Ctx F w T μ ν σ1) : Kn w (fun _ => 0) ν := h.2.2.2.2.2.2.2.1
theorem Ctx.w2 {F : Nat} {w : Int → Int} {T : Nat} {μ ν σ1 : St} (h : Ctx F w T μ ν σ1) : ν 232 = w := h.2.2.2.2.2.2.2.2.1
theorem Ctx.sr {F : Nat} {w : Int → Int} {T : Nat} {μ ν σ1 : St} (h : Ctx F w T μ ν σ1) : SR 4 σ1 w := h.2.2.2.2.2.2.2.2.2.1
theorem Ctx.go {F : Nat} {w : Int → Int} {T : Nat} {μ ν σ1 : St} (h : Ctx F w T μ ν σ1) : ∀ e, 0 ≤ e → e < 60 → ν 238 e = 0 := h.2.2.2.2.2.2.2.2.2.2.1
theorem Ctx.al {F : Nat} {w : Int → Int} {T : Nat} {μ ν σ1 : St} (h : Ctx F w T μ ν σ1) : ∃ α, Gd w (fun _ => 0) (evN w).toNat α ∧ μ = ItG F (w 1) T α ∧ ν = ItG F (w 1) (evN w).toNat α := h.2.2.2.2.2.2.2.2.2.2.2.1
theorem Ctx.gi {F : Nat} {w : Int → Int} {T : Nat} {μ ν σ1 : St} (h : Ctx F w T μ ν σ1) : GI F ν := h.2.2.2.2.2.2.2.2.2.2.2.2
def MX (w : Int → Int) (T : Nat) (μ ν : St) : Prop := (WF w) ∧ ((T : Int) ≤ evN w) ∧ (MI0 (w 0) T μ) ∧ (MI0 (w 0) (evN w).toNat ν) ∧ (Hs T μ ν) ∧ (Kn w (fun _ => 0) ν) ∧ (ν 232 = w)
theorem MX.wf {w : Int → Int} {T : Nat} {μ ν : St} (h : MX w T μ ν) : WF w := h.1
theorem MX.le {w : Int → Int} {T : Nat} {μ ν : St} (h : MX w T μ ν) : (T : Int) ≤ evN w := h.2.1
theorem MX.m1 {w : Int → Int} {T : Nat} {μ ν : St} (h : MX w T μ ν) : MI0 (w 0) T μ := h.2.2.1
theorem MX.m2 {w : Int → Int} {T : Nat} {μ ν : St} (h : MX w T μ ν) : MI0 (w 0) (evN w).toNat ν := h.2.2.2.1
theorem MX.hs {w : Int → Int} {T : Nat} {μ ν : St} (h : MX w T μ ν) : Hs T μ ν := h.2.2.2.2.1
theorem MX.kn {w : Int → Int} {T : Nat} {μ ν : St} (h : MX w T μ ν) : Kn w (fun _ => 0) ν := h.2.2.2.2.2.1
theorem MX.w2 {w : Int → Int} {T : Nat} {μ ν : St} (h : MX w T μ ν) : ν 232 = w := h.2.2.2.2.2.2
theorem Ctx.mx {F : Nat} {w : Int → Int} {T : Nat} {μ ν σ1 : St} (X : Ctx F w T μ ν σ1) : MX w T μ ν := ⟨X.wf, X.le, X.m1, X.m2, X.hs, X.kn, X.w2⟩
def Pl (F : Nat) (σ : St) (T : Nat) (σ1 : St) : Prop := RIt F (σ 232) T σ1 ∧ QCl σ σ1
theorem GI.play {F : Nat} {σ : St} (h : GI F σ) (hF : 100 ≤ F) (T : Nat) (hT : (T : Int) ≤ evN (σ 232)) : TT (f_X6_playTo F 0 T σ) (fun σ1 => Pl F σ T σ1) := by
  refine (playTo_ok hF h.wf h.sc h.rn ⟨by omega, hT⟩).mono (fun σ1 h1 => ⟨?_, fun x hx => h1.2 x (by omega)⟩)
  have := h1.1
  rw [Int.toNat_natCast] at this
  exact this
theorem GI.self {F : Nat} {σ : St} (h : GI F σ) : ∃ T, Pl F σ T σ := by
  obtain ⟨t, ht⟩ := h.rn
  exact ⟨t, ht, QCl.rf⟩
theorem Pl.asks {F : Nat} {σ : St} {T : Nat} {σ1 : St} (hF : 100 ≤ F) (h : GI F σ) (hp : Pl F σ T σ1) : TT (f_X7_asks F 231 σ1) (fun r => r.1 = (if 0 < σ 232 5 then 1 else 0) ∧ ∃ μ, Ctx F (σ 232) T μ r.2 σ1) := by
  have h60 := h.wf.ev60
  have e1 : σ1 232 = σ 232 := hp.2 232 (by omega)
  have hle := hp.1.1
  refine (asks_ok hF h.wf e1).mono (fun r hr => ?_)
  obtain ⟨r1, r2, r3, r4, α, hA, r5⟩ := hr
  have hA1 := hA.dn (s := T) (by omega)
  have it := hA.it (F := F) (l := σ 232 1) hF
  have it2 := it.2.2 T (by omega)
  refine ⟨r1, ItG F (σ 232 1) T α, h.wf, hle, hp.1.2.2.1 α hA1, it2.1, r2.mi, by rw [r5]; exact it2.2, fun e he => hp.1.2.2.2 e he α hA1, r2, by rw [r3.hi 232 (by omega), e1], h.sc.mv (hp.2 4 (by omega)) (hp.2 5 (by omega)) (hp.2 6 (by omega)), r4, ⟨α, hA, rfl, r5⟩, h.q hF hp.2 ⟨T, hp.1⟩ r3⟩
theorem Pl.asksAt {F : Nat} {σ : St} {T : Nat} {σ1 : St} (hF : 100 ≤ F) (h : GI F σ) (hp : Pl F σ T σ1) (t : Int) : TT (f_X7_asksAt F 231 t σ1) (fun r => r.1 = (if 0 < σ 232 5 ∧ 0 ≤ t ∧ t ≤ evN (σ 232) then 1 else 0) ∧ ∃ μ, Ctx F (σ 232) T μ r.2 σ1) := by
  unfold f_X7_asksAt
  simp only [tt_ob, kd_231, true_and, tt_c2]
  refine (hp.asks hF h).mono (fun r hr => ?_)
  obtain ⟨v, ν⟩ := r
  obtain ⟨hv, μ, X⟩ := hr
  dsimp only at hv X ⊢
  have et := e_isTick (F := F) (σ := ν) (by rw [X.w2]; exact X.wf.1) t
  rw [X.w2] at et
  simp only [tt_gt, tt_sg, tt_ite, tt_ck, tt_lk, tt_ix, tt_bo, tt_by, tt_nz, tt_ob, tt_st, tt_cpk, tt_c1, tt_c2, tt_ca, tt_cb, tt_some, kd_231, kd_0, Nat.reduceAdd, true_and, and_true, true_implies, not_true_eq_false, false_implies, not_false_eq_true, true_or, or_true, et]
  by_cases q : 0 < σ 232 5
  · rw [if_pos q] at hv
    subst hv
    by_cases q2 : 0 ≤ t ∧ t ≤ evN (σ 232)
    · rw [if_pos ⟨q, q2⟩]
      exact ⟨fun z => absurd z (by decide), fun _ => ⟨fun z => absurd z (by decide), fun _ => ⟨rfl, μ, X⟩⟩⟩
    · rw [if_neg (fun z => q2 z.2)]
      exact ⟨fun z => absurd z (by decide), fun _ => ⟨fun _ => ⟨rfl, μ, X⟩, fun z => absurd rfl z⟩⟩
  · rw [if_neg q] at hv
    subst hv
    rw [if_neg (fun z => q z.1)]
    exact ⟨fun _ => ⟨rfl, μ, X⟩, fun z => absurd rfl z⟩
theorem Pl.asksCell {F : Nat} {σ : St} {T : Nat} {σ1 : St} (hF : 100 ≤ F) (h : GI F σ) (hp : Pl F σ T σ1) (c t : Int) : TT (f_X7_asksCell F 231 c t σ1) (fun r => r.1 = (if (0 ≤ c ∧ c < σ 232 0) ∧ 0 < σ 232 5 ∧ 0 ≤ t ∧ t ≤ evN (σ 232) then 1 else 0) ∧ ∃ μ, Ctx F (σ 232) T μ r.2 σ1) := by
  unfold f_X7_asksCell
  simp only [tt_ob, kd_231, true_and, tt_c2]
  refine (hp.asksAt hF h t).mono (fun r hr => ?_)
  obtain ⟨v, ν⟩ := r
  obtain ⟨hv, μ, X⟩ := hr
  dsimp only at hv X ⊢
  have et := e_isCell (F := F) (σ := ν) (by rw [X.w2]; exact X.wf.1) c
  rw [X.w2] at et
  simp only [tt_gt, tt_sg, tt_ite, tt_ck, tt_lk, tt_ix, tt_bo, tt_by, tt_nz, tt_ob, tt_st, tt_cpk, tt_c1, tt_c2, tt_ca, tt_cb, tt_some, kd_231, kd_0, Nat.reduceAdd, true_and, and_true, true_implies, not_true_eq_false, false_implies, not_false_eq_true, true_or, or_true, et]
  by_cases q : 0 < σ 232 5 ∧ 0 ≤ t ∧ t ≤ evN (σ 232)
  · rw [if_pos q] at hv
    subst hv
    by_cases q2 : 0 ≤ c ∧ c < σ 232 0
    · rw [if_pos q2, if_pos ⟨q2, q⟩]
      exact ⟨fun z => absurd z (by decide), fun _ => ⟨fun z => absurd z (by decide), fun _ => ⟨rfl, μ, X⟩⟩⟩
    · rw [if_neg q2, if_neg (fun z => q2 z.1)]
      exact ⟨fun z => absurd z (by decide), fun _ => ⟨fun _ => ⟨rfl, μ, X⟩, fun z => absurd rfl z⟩⟩
  · rw [if_neg q] at hv
    subst hv
    rw [if_neg (fun z => q z.2)]
    exact ⟨fun _ => ⟨rfl, μ, X⟩, fun z => absurd rfl z⟩
theorem Pl.asksCopy {F : Nat} {σ : St} {T : Nat} {σ1 : St} (hF : 100 ≤ F) (h : GI F σ) (hp : Pl F σ T σ1) (k : Int) : TT (f_X7_asksCopy F 231 k σ1) (fun r => r.1 = (if 0 ≤ k ∧ k < r.2 231 28 then 1 else 0) ∧ ∃ μ, Ctx F (σ 232) T μ r.2 σ1) := by
  have h60 := h.wf.ev60
  unfold f_X7_asksCopy
  simp only [tt_ob, kd_231, true_and, tt_c2]
  refine (hp.asks hF h).mono (fun r hr => ?_)
  obtain ⟨v, ν⟩ := r
  obtain ⟨hv, μ, X⟩ := hr
  dsimp only at hv X ⊢
  have h30 := X.m2.n30 (by omega)
  simp only [tt_gt, tt_sg, tt_ite, tt_ck, tt_lk, tt_ix, tt_bo, tt_by, tt_nz, tt_ob, tt_st, tt_cpk, tt_c1, tt_c2, tt_ca, tt_cb, tt_some, kd_231, kd_0, Nat.reduceAdd, true_and, and_true, true_implies, not_true_eq_false, false_implies, not_false_eq_true, true_or, or_true, e_in]
  by_cases q : 0 < σ 232 5
  · rw [if_pos q] at hv
    subst hv
    by_cases q2 : 0 ≤ k ∧ k < ν 231 28
    · rw [if_pos q2, if_pos (by omega)]
      exact ⟨fun z => absurd z (by decide), fun _ => ⟨by omega, fun z => absurd z (by decide), fun _ => ⟨rfl, μ, X⟩⟩⟩
    · rw [if_neg q2, if_neg (by omega)]
      exact ⟨fun z => absurd z (by decide), fun _ => ⟨by omega, fun _ => ⟨rfl, μ, X⟩, fun z => absurd rfl z⟩⟩
  · rw [if_neg q] at hv
    subst hv
    have hN : evN (σ 232) = 0 := by
      rcases X.wf.2.1 with z | z
      · unfold evN
        have := z.2 3 (by decide) (by decide)
        have := z.2 4 (by decide) (by decide)
        omega
      · have := X.wf.1
        unfold Hd at this
        omega
    have hc := X.m2.c2
    rw [hN] at hc
    have ho := X.m2.op
    rw [if_neg (by split at hc <;> omega)]
    exact ⟨fun _ => ⟨rfl, μ, X⟩, fun z => absurd rfl z⟩
theorem WF.noev {w : Int → Int} (h : WF w) (h5 : ¬ 0 < w 5) : evN w = 0 := by
  rcases h.2.1 with z | z
  · unfold evN
    have := z.2 3 (by decide) (by decide)
    have := z.2 4 (by decide) (by decide)
    omega
  · have := h.1
    unfold Hd at this
    omega
theorem MX.st {w : Int → Int} {T : Nat} {μ ν : St} (X : MX w T μ ν) {k : Int} (hk : 0 ≤ k ∧ k < ν 231 28) {s : Int} (hs : s = 1 ∨ s = 2) : (ν 243 k = s ∧ ν 244 k ≤ T) ↔ (k < μ 231 28 ∧ μ 243 k = s) := by
  have c2 := X.m2.cp k hk.1 hk.2
  by_cases q : k < μ 231 28
  · have c1 := X.m1.cp k hk.1 q
    by_cases q2 : k = μ 231 29
    · have h1 := X.hs.opn (by omega)
      rw [← q2] at h1
      rcases c1.st with z | z
      · constructor
        · intro y
          rcases h1 with h1 | h1
          · rcases c2.st with x | x <;> omega
          · omega
        · intro y; omega
      · exact absurd q2 z.1
    · have h1 := X.hs.cl k hk.1 q q2
      rw [h1.1, h1.2.1]
      rcases c1.st with z | z
      · exact absurd z.1 q2
      · exact ⟨fun y => ⟨q, y.1⟩, fun y => ⟨y.2, z.2.2.2⟩⟩
  · have h1 := X.hs.nw k (by omega) hk.2
    constructor
    · intro y
      rcases c2.st with z | z <;> omega
    · intro y; exact absurd y.1 q
theorem Ctx.st {F : Nat} {w : Int → Int} {T : Nat} {μ ν σ1 : St} (X : Ctx F w T μ ν σ1) {k : Int} (hk : 0 ≤ k ∧ k < ν 231 28) {s : Int} (hs : s = 1 ∨ s = 2) : (ν 243 k = s ∧ ν 244 k ≤ T) ↔ (k < μ 231 28 ∧ μ 243 k = s) := X.mx.st hk hs
theorem dirR_hi {σ : St} {t : Int} {m : Nat} : ∀ n : Nat, m ≤ n → (∀ k : Nat, m ≤ k → k < n → ¬ (σ 243 k = 1 ∧ σ 244 k ≤ t)) → dirR σ n t = dirR σ m t
  | 0, h, _ => by rw [show m = 0 by omega]
  | n + 1, h, h2 => by
    by_cases q : m = n + 1
    · rw [q]
    · rw [dirR, if_neg (h2 n (by omega) (by omega))]
      exact dirR_hi n (by omega) (fun k k1 k2 => h2 k k1 (by omega))
theorem Ctx.base {F : Nat} {w : Int → Int} {T : Nat} {μ ν σ1 : St} (X : Ctx F w T μ ν σ1) : baseR ν T = baseR μ T := by
  have h1 := X.hs.le
  have h2 := X.m1.c0
  unfold baseR
  have lo : ∀ n : Nat, (n : Int) ≤ μ 231 28 → dirR ν n T = dirR μ n T := by
    intro n
    induction n with
    | zero => intro _; rfl
    | succ n ih =>
      intro hn
      have h3 := X.st (k := (n : Int)) (by omega) (Or.inl rfl)
      have c1 := X.m1.cp n (by omega) (by omega)
      rw [dirR, dirR, ih (by omega)]
      by_cases q : μ 243 n = 1
      · have h4 : μ 244 n ≤ T := by rcases c1.st with z | z <;> omega
        rw [if_pos (h3.mpr ⟨by omega, q⟩), if_pos ⟨q, h4⟩, (X.hs.fx n (by omega) (by omega)).2.1]
      · rw [if_neg (fun z => q (h3.mp z).2), if_neg (fun z => q z.1)]
  rw [← lo (μ 231 28).toNat (by omega)]
  exact dirR_hi _ (by omega) (fun k k1 k2 z => by
    have := (X.st (k := (k : Int)) (by omega) (Or.inl rfl)).mp z
    omega)
theorem Ctx.drt {F : Nat} {w : Int → Int} {T : Nat} {μ ν σ1 : St} (X : Ctx F w T μ ν σ1) (c : Int) : drt ν c T ↔ drt μ c T := by
  show baseR ν T ≤ latR (ν 240) c T ↔ baseR μ T ≤ latR (μ 240) c T
  rw [X.base, X.hs.v0]
theorem Ctx.dt {F : Nat} {w : Int → Int} {T : Nat} {μ ν σ1 : St} (X : Ctx F w T μ ν σ1) : ∀ c, 0 ≤ c → c < 32 → (bt (σ1 12 2) c ↔ c < w 0 ∧ baseR ν T ≤ latR (ν 240) c T) := fun c c1 c2 => by
  rw [X.cr.dt c c1 c2]
  exact ⟨fun z => ⟨z.1, (X.drt c).mpr z.2⟩, fun z => ⟨z.1, (X.drt c).mp z.2⟩⟩
theorem Ctx.bd {F : Nat} {w : Int → Int} {T : Nat} {μ ν σ1 : St} (X : Ctx F w T μ ν σ1) : BR 13 σ1 (w 0) (fun c => Val w (fun _ => 0) T c) := by
  refine ⟨X.cr.bd.1, fun c c1 c2 => ?_⟩
  show σ1 (12 + 1 + 1) c = _
  rw [X.cr.bd.2 c c1 c2, ← X.hs.v9]
  exact X.kn.v9 T c X.le c1 c2
theorem bc_eq {x : Int} {n : Nat} (hn : n ≤ 32) {f : Nat → Int} (h : ∀ c : Nat, c < n → (if bt x c then (1 : Int) else 0) = f c) (h2 : ∀ c : Nat, n ≤ c → c < 32 → ¬ bt x c) : bc x 32 = sm f n := by
  unfold bc
  rw [sm_ext (m := n) 32 hn (fun i i1 i2 => if_neg (h2 i i1 i2))]
  exact sm_congr n (fun i hi => h i hi)
theorem cnt {α : Type} {L : Nat → Int → Int → Option α} {P : α → Prop} (N : Nat) (f : Nat → Int) {F : Nat} (hF : N < F) (he : ∀ n, TT (L (n + 1) (sm f N) N) P) (hs : ∀ n (i : Nat), i < N → TT (L n (sm f i + f i) ((i : Int) + 1)) P → TT (L (n + 1) (sm f i) i) P) : TT (L F 0 0) P := lp_c N (sm f) hF he hs
