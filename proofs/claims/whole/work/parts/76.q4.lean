theorem go_count {e : Nat} {l : Int} {σ σ' : St} (hG : Gk e σ) (h : GoP e l σ σ') : σ' 231 28 = σ 231 28 ∨ ∃ full, BgP e full (z_up σ 250 e 0) σ' := by
  obtain ⟨g1, g2, g3⟩ := hG
  have u1 : ∀ (j v : Int), z_up σ 250 j v 231 = σ 231 := fun j v => up_ne (by decide)
  have sc : ∀ n : Nat, σ 231 29 ≠ -1 → scS l e n (z_up σ 250 e 0) 231 = σ 231 := fun n ho =>
    (sc_keep (l := l) (e := e) (Q := fun τ => τ 231 = σ 231) (fun τ c _ h _ _ _ => (kp_ne (by decide) (by decide) (by decide) (by decide)).trans h) n (z_up σ 250 e 0) (g3.resolve_left ho).2.up (u1 _ _)).2
  obtain ⟨r, hr, h⟩ := h
  rcases h with ⟨h1, rfl⟩ | ⟨h1, h2, rfl⟩ | ⟨h1, h2, h3⟩ | ⟨h1, h2, h3⟩ | ⟨h1, h2, rfl⟩ | ⟨h1, h2, rfl⟩ | ⟨h1, h2, rfl⟩
  · left; rw [u1]
  · left; rw [(kc_frame _ _ _).1, u1]
  · right; exact ⟨1, h3⟩
  · right; exact ⟨0, h3⟩
  · left; rw [sc _ (by unfold whyP at hr; omega)]
  · left; rw [cl_231.1, sc _ (by unfold whyP at hr; omega)]
  · left; rw [cl_231.1, u1]
theorem Ctx.one {F : Nat} {w : Int → Int} {e : Nat} {μ ν σ1 : St} (hF : 100 ≤ F) (X : Ctx F w (e + 1) μ ν σ1) : ∃ o : Int, ∀ k, 0 ≤ k → k < μ 231 28 → ∀ c, 0 ≤ c → c < 32 → μ 248 (32 * k + c) = e → k = o := by
  obtain ⟨α, hA, e1, e2⟩ := X.al
  have hle := X.le
  have h60 := X.wf.ev60
  have hB := hA.dn (s := e + 1) (by omega)
  have it := hB.it (F := F) (l := w 1) hF
  have it2 := it.2.2 e (by omega)
  have hg : α 238 e = 0 := hA.go e (by omega) (by omega)
  have hle2 := hB.le
  have Gk1 := (It_ok (F := F) (l := w 1) hF hA.wf hA.n0 hA.o0 e (by omega)).1
  have go := (It_go (F := F) (l := w 1) hF hA.wf hA.n0 hA.o0 e (by omega) hg).2
  rw [← e1] at it2 go
  refine ⟨ItG F (w 1) e α 231 29, fun k k1 k2 c c1 c2 hc => ?_⟩
  by_cases q : k < ItG F (w 1) e α 231 28
  · rcases it2.2.kb k k1 q c c1 c2 with z | z
    · rw [z.1] at hc
      rcases (it2.1.cp k k1 q).kb c c1 c2 with y | y <;> omega
    · exact z.2.1
  · rcases go_count Gk1 go with z | ⟨full, z⟩
    · omega
    · obtain ⟨b0, b1, b2, b3, b4, b5, b6, b7, b8, b9, b10⟩ := z
      have u1 : z_up (ItG F (w 1) e α) 250 e 0 231 = ItG F (w 1) e α 231 := up_ne (by decide)
      rw [u1] at b1 b9
      have c28 := b1 28
      rw [if_pos rfl] at c28
      rw [b9, if_pos (by omega)] at hc
      omega
theorem sm_only {f : Nat → Int} {k0 : Nat} : ∀ n : Nat, k0 < n → (∀ i, i < n → i ≠ k0 → f i = 0) → sm f n = f k0
  | 0, h, _ => absurd h (Nat.not_lt_zero _)
  | n + 1, h, h2 => by
    rw [sm]
    by_cases q : k0 = n
    · rw [sm_zero n (fun i hi => h2 i (by omega) (by omega)), q]; omega
    · rw [sm_only n (by omega) (fun i hi hn => h2 i (by omega) hn), h2 n (by omega) (fun z => q z.symm)]; omega
def svg (ν : St) (e k c : Int) : Int := if ν 247 (32 * k + c) = 0 then 0 else if ν 248 (32 * k + c) = e then 1 else 0
theorem svg_rng (ν : St) (e k c : Int) : 0 ≤ svg ν e k c ∧ svg ν e k c ≤ 1 := by
  unfold svg
  split
  · omega
  · split <;> omega
theorem saves_in {F : Nat} {w0 : Int} {ν : St} {e k x : Int} {K : Int → Int → St → Option (Int × St)} {P : Int × St → Prop} (hF : 100 ≤ F) (h2 : ν 232 0 = w0) (hw : 0 ≤ w0 ∧ w0 ≤ 32) (hk : 0 ≤ k ∧ k < 60) (hx : 0 ≤ x ∧ x ≤ 2000) (h : TT (K (x + sm (fun c => svg ν e k c) w0.toNat) (k + 1) ν) P) : TT (f_X7_saves_L34 F 231 e K F x k 0 ν) P := by
  refine lp_w (L := fun n (p : Int × Int) => f_X7_saves_L34 F 231 e K n p.1 k p.2 ν) (fun m p => ∃ j : Nat, p.2 = j ∧ (j : Int) + m = w0 ∧ p.1 = x + sm (fun c => svg ν e k c) j) (fun m n p hI ih => ?_) w0.toNat F (x, 0) (by omega) ⟨0, rfl, by omega, by rw [sm, Int.add_zero]⟩
  obtain ⟨y, i⟩ := p
  dsimp only at hI ih ⊢
  obtain ⟨j, rfl, i2, i3⟩ := hI
  have hr := sm_rng (f := fun c => svg ν e k c) (M := 1) j (fun i _ => svg_rng ν e k i)
  rw [f_X7_saves_L34]
  simp only [tt_gt, tt_sg, tt_ite, tt_ck, tt_lk, tt_ix, tt_bo, tt_by, tt_nz, tt_ob, tt_st, tt_cpk, tt_c1, tt_c2, tt_ca, tt_cb, tt_some, kd_231, kd_0, Nat.reduceAdd, true_and, and_true, true_implies, not_true_eq_false, false_implies, not_false_eq_true, true_or, or_true, e_cells, h2]
  have go : ∀ v : Int, (j : Int) < w0 → v = svg ν e k j → TT (f_X7_saves_L34 F 231 e K n (y + v) k ((j : Int) + 1) ν) P := by
    intro v hj hv
    refine ih (m - 1) (y + v, (j : Int) + 1) (by omega) ⟨j + 1, by dsimp only; omega, by omega, ?_⟩
    dsimp only
    rw [sm, i3, hv]
    omega
  refine ⟨fun z => And.intro (by omega) ?_, fun z => And.intro (by omega) (And.intro (by omega) (And.intro (by omega) ⟨fun z2 => And.intro (by omega) (And.intro (by omega) (go 0 (by omega) ?_)), fun z2 => And.intro (by omega) (And.intro (by omega) (And.intro (by omega) ⟨fun z3 => And.intro (by omega) (And.intro (by omega) (go 0 (by omega) ?_)), fun z3 => And.intro (by omega) (And.intro (by omega) (go 1 (by omega) ?_))⟩))⟩))⟩
  · rw [i3, show j = w0.toNat by omega]
    exact h
  · unfold svg; rw [if_pos z2]
  · unfold svg; rw [if_neg z2, if_neg z3]
  · unfold svg; rw [if_neg z2, if_pos (Classical.byContradiction z3)]
theorem q_saves {F : Nat} {σ : St} {t : Int} (hF : 100 ≤ F) (h : GI F σ) : PP F (f_X6_saves F 0 t σ) (f_X7_saves F 231 t) := by
  have h60 := h.wf.ev60
  have hw0 : 0 ≤ σ 232 0 ∧ σ 232 0 ≤ 32 := ⟨h.wf.1.1, h.wf.1.2.1⟩
  have ht := e6_hasEvent (F := F) (t := t) h.sc h.wf
  unfold PP f_X6_saves
  by_cases q : 0 ≤ t ∧ t < evN (σ 232)
  · rw [if_pos q] at ht
    simp only [tt_gt, tt_sg, tt_ite, tt_ck, tt_lk, tt_ix, tt_bo, tt_by, tt_nz, tt_ob, tt_st, tt_cpk, tt_c1, tt_c2, tt_ca, tt_cb, tt_some, kd_231, kd_0, Nat.reduceAdd, true_and, and_true, true_implies, not_true_eq_false, false_implies, not_false_eq_true, true_or, or_true, Nat.zero_add, ht, one0]
    obtain ⟨e, rfl⟩ : ∃ e : Nat, t = e := ⟨t.toNat, by omega⟩
    refine And.intro (by omega) ?_
    rw [show (e : Int) + 1 = ((e + 1 : Nat) : Int) by omega]
    refine (h.play hF (e + 1) (by omega)).mono (fun σ1 P1 => ?_)
    obtain ⟨⟨v, ν⟩, ha, hv, μ, X⟩ := P1.asks hF h
    dsimp only at hv X
    have h5 : 0 < σ 232 5 := Classical.byContradiction fun z => by
      have := h.wf.noev z
      omega
    rw [if_pos h5] at hv
    subst hv
    have ei := e_isEvent (F := F) (σ := ν) (by rw [X.w2]; exact X.wf.1) (e : Int)
    rw [X.w2, if_pos q] at ei
    have LE := X.lv e rfl
    have h30 := X.m2.n30 (by omega)
    have h31 := X.m1.n30 (by omega)
    have hh := X.hs.le
    rw [bitc_ok, tt_some]
    obtain ⟨o, ho⟩ := X.one hF
    have g0 : ∀ k : Nat, (k : Int) < ν 231 28 → ∀ c : Nat, c < 32 → (svg ν e k c = 1 ↔ ((k : Int) < μ 231 28 ∧ μ 247 (32 * k + c) ≠ 0 ∧ μ 248 (32 * k + c) = e)) ∧ (svg ν e k c = 0 ∨ svg ν e k c = 1) := by
      intro k hk c hc
      have hr := svg_rng ν e k c
      refine ⟨?_, by omega⟩
      by_cases z : (k : Int) < μ 231 28
      · rcases X.hs.kb k (by omega) z c (by omega) (by omega) with y | y
        · unfold svg
          rw [y.1, y.2]
          by_cases u : μ 247 (32 * (k : Int) + c) = 0
          · rw [if_pos u]
            exact ⟨fun a => absurd a (by decide), fun a => absurd u a.2.1⟩
          · rw [if_neg u]
            by_cases u2 : μ 248 (32 * (k : Int) + c) = e
            · rw [if_pos u2]; exact ⟨fun _ => ⟨z, u, u2⟩, fun _ => rfl⟩
            · rw [if_neg u2]; exact ⟨fun a => absurd a (by decide), fun a => absurd a.2.2 u2⟩
        · have : svg ν e k c = 0 := by
            unfold svg
            split
            · rfl
            · rw [if_neg (by omega)]
          rw [this]
          exact ⟨fun a => absurd a (by decide), fun a => by have := a.2.2; omega⟩
      · have hm := X.hs.nw k (by omega) hk
        have : svg ν e k c = 0 := by
          unfold svg
          split
          · rfl
          · rcases (X.m2.cp k (by omega) hk).kb c (by omega) (by omega) with y | y
            · rw [if_neg (by omega)]
            · rw [if_neg (by omega)]
        rw [this]
        exact ⟨fun a => absurd a (by decide), fun a => absurd a.1 z⟩
    have hbc : bc (σ1 12 7) 32 = sm (fun k => sm (fun c => svg ν e k c) (σ 232 0).toNat) (ν 231 28).toNat := by
      rw [sm_swap]
      refine bc_eq (by omega) (fun c hc => ?_) (fun c c1 c2 z => ?_)
      · have hc32 : c < 32 := by omega
        have h1 := LE.c7 c (by omega) (by omega)
        by_cases z : bt (σ1 12 7) c
        · rw [if_pos z]
          obtain ⟨k, k1, k2, k3, k4⟩ := h1.mp z
          clear h1 z
          obtain ⟨n, rfl⟩ : ∃ n : Nat, k = n := ⟨k.toNat, by omega⟩
          rw [sm_only (k0 := n) (ν 231 28).toNat (by omega) (fun i hi hn => ?_)]
          · exact ((g0 n (by omega) c (by omega)).1.mpr ⟨k2, k3, k4⟩).symm
          · rcases (g0 i (by omega) c (by omega)).2 with y | y
            · exact y
            · have y2 := (g0 i (by omega) c (by omega)).1.mp y
              have a1 := ho i (by omega) y2.1 c (by omega) (by omega) y2.2.2
              have a2 := ho n (by omega) k2 c (by omega) (by omega) k4
              omega
        · rw [if_neg z]
          refine (sm_zero _ (fun i hi => ?_)).symm
          have hi2 : (i : Int) < ν 231 28 := by clear h1 z; omega
          rcases (g0 i hi2 c hc32).2 with y | y
          · exact y
          · have y2 := (g0 i hi2 c hc32).1.mp y
            exact absurd (h1.mpr ⟨i, Int.natCast_nonneg i, y2⟩) z
      · obtain ⟨k, k1, k2, k3, k4⟩ := (LE.c7 c (by omega) (by omega)).mp z
        clear z
        rcases (X.m1.cp k k1 k2).kb c (by omega) (by omega) with y | y
        · exact k3 y.2
        · have := ((X.m1.cp k k1 k2).wt c (by omega) (by omega)).2 y.2.2.1
          omega
    rw [hbc]
    have rS : ∀ i : Nat, 0 ≤ sm (fun c => svg ν e i c) (σ 232 0).toNat ∧ sm (fun c => svg ν e i c) (σ 232 0).toNat ≤ 32 := fun i => by
      have := sm_rng (f := fun c => svg ν e i c) (M := 1) (σ 232 0).toNat (fun j _ => svg_rng ν e i j)
      omega
    unfold f_X7_saves
    simp only [tt_gt, tt_sg, tt_ite, tt_ck, tt_lk, tt_ix, tt_bo, tt_by, tt_nz, tt_ob, tt_st, tt_cpk, tt_c1, tt_c2, tt_ca, tt_cb, tt_some, kd_231, kd_0, Nat.reduceAdd, true_and, and_true, true_implies, not_true_eq_false, false_implies, not_false_eq_true, true_or, or_true, ha, ei, one0]
    refine cnt (L := fun n x i => f_X7_saves_L23 F 231 (e : Int) n x i ν) (ν 231 28).toNat (fun k => sm (fun c => svg ν e k c) (σ 232 0).toNat) (by omega) (fun n => ?_) (fun n i hi ht2 => ?_)
    · try dsimp only
      rw [f_X7_saves_L23]
      simp only [tt_gt, tt_sg, tt_ite, tt_ck, tt_lk, tt_ix, tt_bo, tt_by, tt_nz, tt_ob, tt_st, tt_cpk, tt_c1, tt_c2, tt_ca, tt_cb, tt_some, kd_231, kd_0, Nat.reduceAdd, true_and, and_true, true_implies, not_true_eq_false, false_implies, not_false_eq_true, true_or, or_true]
      refine ⟨fun _ => ?_, fun z => absurd z (by omega)⟩
      first
        | exact X.gi
        | exact ⟨rfl, X.gi⟩
    · have hr := sm_rng (f := fun k => sm (fun c => svg ν e k c) (σ 232 0).toNat) (M := 32) i (fun j _ => rS j)
      try dsimp only at ht2 hr ⊢
      rw [f_X7_saves_L23]
      simp only [tt_gt, tt_sg, tt_ite, tt_ck, tt_lk, tt_ix, tt_bo, tt_by, tt_nz, tt_ob, tt_st, tt_cpk, tt_c1, tt_c2, tt_ca, tt_cb, tt_some, kd_231, kd_0, Nat.reduceAdd, true_and, and_true, true_implies, not_true_eq_false, false_implies, not_false_eq_true, true_or, or_true]
      exact ⟨fun z => absurd z (by omega), fun _ => saves_in hF (by rw [X.w2]) hw0 (by omega) (by omega) ht2⟩
  · rw [if_neg q] at ht
    simp only [tt_gt, tt_sg, tt_ite, tt_ck, tt_lk, tt_ix, tt_bo, tt_by, tt_nz, tt_ob, tt_st, tt_cpk, tt_c1, tt_c2, tt_ca, tt_cb, tt_some, kd_231, kd_0, Nat.reduceAdd, true_and, and_true, true_implies, not_true_eq_false, false_implies, not_false_eq_true, true_or, or_true, Nat.zero_add, ht, eq_self]
    obtain ⟨T0, P0⟩ := h.self
    obtain ⟨⟨v, ν⟩, ha, hv, μ, X⟩ := P0.asks hF h
    dsimp only at hv X
    have ei := e_isEvent (F := F) (σ := ν) (by rw [X.w2]; exact X.wf.1) t
    rw [X.w2, if_neg q] at ei
    unfold f_X7_saves
    simp only [tt_gt, tt_sg, tt_ite, tt_ck, tt_lk, tt_ix, tt_bo, tt_by, tt_nz, tt_ob, tt_st, tt_cpk, tt_c1, tt_c2, tt_ca, tt_cb, tt_some, kd_231, kd_0, Nat.reduceAdd, true_and, and_true, true_implies, not_true_eq_false, false_implies, not_false_eq_true, true_or, or_true, ha, ei, eq_self]
    first
      | exact X.gi
      | exact ⟨fun _ => X.gi, fun _ => X.gi⟩
