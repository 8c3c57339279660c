theorem lbt_x {x d e : Int} (hx : x = 0 ∨ x = 1) (hd : 0 ≤ d ∧ d < 64) (he : 0 ≤ e ∧ e < 64) : lbt (z_lshl x d) e ↔ x = 1 ∧ e = d := by
  rcases hx with rfl | rfl
  · rw [lbt_bv he, lbv_shl hd]
    have : lbv 0 = 0#64 := rfl
    rw [this]
    simp
  · rw [lbt_one he hd]
    exact ⟨fun z => ⟨rfl, z⟩, fun z => z.2⟩
def g2 (a b x y : Int) : Int → Int := fun e => if e = b then y else if e = a then x else 0
theorem lOut_2 {T a b x y : Int} (hT : T ≤ 60) (hx : x = 0 ∨ x = 1) (hy : y = 0 ∨ y = 1) (ha : 0 ≤ a ∧ a < 60) (hb : 0 ≤ b ∧ b < 60) (hab : a ≠ b) : lOut (z_lor (z_lshl x a) (z_lshl y b)) (g2 a b x y) T := fun e e1 e2 => by
  rw [lbt_or ⟨e1, by omega⟩, lbt_x hx ⟨ha.1, by omega⟩ ⟨e1, by omega⟩, lbt_x hy ⟨hb.1, by omega⟩ ⟨e1, by omega⟩]
  unfold g2
  by_cases z : e = b
  · rw [if_pos z]
    exact ⟨fun u => by omega, fun u => Or.inr ⟨by omega, z⟩⟩
  · rw [if_neg z]
    by_cases z2 : e = a
    · rw [if_pos z2]
      exact ⟨fun u => by omega, fun u => Or.inl ⟨by omega, z2⟩⟩
    · rw [if_neg z2]
      exact ⟨fun u => by omega, fun u => absurd rfl u⟩
theorem whF_rng {w0 : Int} {t : Nat} {μ : St} (hM : MI0 w0 t μ) (ht : t ≤ 60) : 0 ≤ whF μ ∧ whF μ ≤ 960 := by
  have h30 := hM.n30 ht
  have := sm_rng (f := fun k => if μ 243 k = 1 then μ 245 k else 0) (M := 32) (μ 231 28).toNat (fun k hk => by
    have := kpN_rng μ k
    rw [← (hM.cp k (by omega) (by omega)).sz] at this
    split <;> omega)
  unfold whF
  omega
theorem pw_ok {F : Nat} {w g : Int → Int} {o : Int} {τ : St} (hF : 100 ≤ F) (hw : WF w) (hS : SR 4 τ w) (ho : lOut o g (evN w)) : TT (f_X3_play F 110 4 (τ 4 1) o τ) (fun σ1 => (∀ α, Gd w g (evN w).toNat α → RunR 110 (w 0) (w 1) (evN w).toNat (ItG F (w 1) (evN w).toNat α) σ1) ∧ QT τ σ1 ∧ σ1 213 = τ 213) := by
  have e1 := hS.1 1 (by decide) (by decide)
  rw [e1]
  exact (trial_ok (F := F) (l := w 1) hF hw hS ⟨hw.1.2.2.1, hw.1.2.2.2.1⟩ ho).mono (fun σ1 h1 => ⟨h1.1, fun x hx => h1.2 x (by omega), h1.2 213 (by omega)⟩)
def WV (F : Nat) (w : Int → Int) (a b x y : Int) : Int := whF (tri F w (g2 a b x y) (w 1))
theorem WV_rng {F : Nat} {w : Int → Int} (a b x y : Int) (hF : 100 ≤ F) (hw : WF w) : 0 ≤ WV F w a b x y ∧ WV F w a b x y ≤ 960 := by
  have h60 := hw.ev60
  exact whF_rng (tri_mi _ _ hF hw) (by omega)
theorem ww_ok {F : Nat} {w : Int → Int} {a b x y : Int} {τ : St} (hF : 100 ≤ F) (hw : WF w) (hS : SR 4 τ w) (hx : x = 0 ∨ x = 1) (hy : y = 0 ∨ y = 1) (ha : 0 ≤ a ∧ a < 60) (hb : 0 ≤ b ∧ b < 60) (hab : a ≠ b) : TT (f_X6_wholeWithout F 0 a b x y τ) (fun r => r.1 = WV F w a b x y ∧ QT τ r.2 ∧ r.2 213 = τ 213) := by
  have h60 := hw.ev60
  unfold f_X6_wholeWithout
  simp only [tt_ob, kd_0, true_and, tt_c1, Nat.zero_add, tt_gt]
  refine (pw_ok (g := g2 a b x y) hF hw hS (lOut_2 (by omega) hx hy ha hb hab)).mono (fun σ1 h1 => ?_)
  rw [sz_ok (F := F) (s := 1) hF (Or.inr rfl) (h1.1 _ (cAl_gd _ hw)) (tri_mi _ _ hF hw) (by omega), tt_some, tt_some]
  exact ⟨rfl, h1.2⟩
theorem gb_ok {F : Nat} {w : Int → Int} {a b x y who : Int} {σ τ : St} (hF : 100 ≤ F) (hw : WF w) (hS : SR 4 σ w) (h2 : τ 232 = w) (hx : x = 0 ∨ x = 1) (hy : y = 0 ∨ y = 1) (ha : 0 ≤ a ∧ a < 60) (hb : 0 ≤ b ∧ b < 60) (hab : a ≠ b) (hwho : who = 0 ∨ who = 1) : TT (f_X7_getsBy F 231 a b x y who τ) (fun r => r.1 = WV F w a b x y - 3 * (if who = 0 then x else y) ∧ QM τ r.2) := by
  have h60 := hw.ev60
  have hw1 : 0 ≤ w 1 ∧ w 1 ≤ 3 := ⟨hw.1.2.2.1, hw.1.2.2.2.1⟩
  have hwv := WV_rng (F := F) a b x y hF hw
  have last : ∀ τ2 : St, QM τ τ2 → (∀ e, 0 ≤ e → e < evN w → τ2 238 e = g2 a b x y e) → TT (z_c1 (f_X7_layAll F 231 (w 1) τ2) fun σ4 => f_X7_getsBy_L53 F 231 a b x y who F 0 0 σ4) (fun r => r.1 = WV F w a b x y - 3 * (if who = 0 then x else y) ∧ QM τ r.2) := by
    intro τ2 hq hg
    have e2 : τ2 232 = w := (hq.hi 232 (by omega)).trans h2
    simp only [tt_c1]
    refine (layAll_Laid (g := g2 a b x y) (l := w 1) hF hw e2 hg).mono (fun ν h3 => ?_)
    have kn := h3.kn hF hw e2
    have h30 := kn.mi.n30 (by omega)
    obtain ⟨α, hA, e1⟩ := h3.ex
    obtain ⟨σ', r1, r2⟩ := tri_eq (F := F) (l := w 1) hF hw hS hw1 (lOut_2 (by omega) hx hy ha hb hab) hA
    rw [← e1] at r1
    have ew : WV F w a b x y = whF ν := (wh_eq r1 r2).symm
    rw [ew] at hwv ⊢
    have rS : ∀ k : Nat, k < (ν 231 28).toNat → 0 ≤ ν 245 k ∧ ν 245 k ≤ 32 := fun k hk => by
      rw [(kn.mi.cp k (by omega) (by omega)).sz]
      exact kpN_rng ν k
    refine cnt (L := fun n x' i => f_X7_getsBy_L53 F 231 a b x y who n x' i ν) (ν 231 28).toNat (fun k => if ν 243 k = 1 then ν 245 k else 0) (by omega) (fun n => ?_) (fun n i hi ht => ?_)
    · try dsimp only
      have hwv2 : 0 ≤ sm (fun k => if ν 243 k = 1 then ν 245 k else 0) (ν 231 28).toNat ∧ sm (fun k => if ν 243 k = 1 then ν 245 k else 0) (ν 231 28).toNat ≤ 960 := hwv
      have ef : whF ν = sm (fun k => if ν 243 k = 1 then ν 245 k else 0) (ν 231 28).toNat := rfl
      rw [f_X7_getsBy_L53]
      simp only [tt_gt, tt_sg, tt_ite, tt_ck, tt_lk, tt_ix, tt_bo, tt_by, tt_nz, tt_ob, tt_st, tt_cpk, tt_c1, tt_c2, tt_ca, tt_cb, tt_some, kd_231, kd_0, Nat.reduceAdd, true_and, and_true, true_implies, not_true_eq_false, false_implies, not_false_eq_true, true_or, or_true]
      refine ⟨fun _ => ⟨fun z => And.intro (by omega) (And.intro (by omega) ⟨?_, hq.tr h3.qm⟩), fun z => And.intro (by omega) (And.intro (by omega) ⟨?_, hq.tr h3.qm⟩)⟩, fun z => absurd z (by omega)⟩
      · rw [if_neg z, ef]
      · rw [if_pos (Classical.byContradiction z), ef]
    · have hr := sm_rng (f := fun k => if ν 243 k = 1 then ν 245 k else 0) (M := 32) i (fun j hj => by have := rS j (by omega); split <;> omega)
      have hr1 := rS i hi
      try dsimp only at ht hr ⊢
      rw [f_X7_getsBy_L53]
      simp only [tt_gt, tt_sg, tt_ite, tt_ck, tt_lk, tt_ix, tt_bo, tt_by, tt_nz, tt_ob, tt_st, tt_cpk, tt_c1, tt_c2, tt_ca, tt_cb, tt_some, kd_231, kd_0, Nat.reduceAdd, true_and, and_true, true_implies, not_true_eq_false, false_implies, not_false_eq_true, true_or, or_true]
      refine ⟨fun z => absurd z (by omega), fun _ => And.intro (by omega) ⟨fun z => And.intro (by omega) (And.intro (by omega) ?_), fun z => And.intro (by omega) (And.intro (by omega) (And.intro (by omega) ?_))⟩⟩
      · rw [if_neg z] at ht; exact ht
      · rw [if_pos (Classical.byContradiction z)] at ht; exact ht
  unfold f_X7_getsBy
  simp only [tt_ob, kd_231, true_and, tt_c1, tt_gt, tt_ite]
  refine (ng_ok hF).mono (fun τ1 h1 => ?_)
  have mid : TT (f_X7_getsBy_J19 F 231 a b x y who x a (231 + 7) τ1) (fun r => r.1 = WV F w a b x y - 3 * (if who = 0 then x else y) ∧ QM τ r.2) := by
    have eN : ∀ (s t : Int) (k : Nat), k ≠ 238 → z_up (z_up τ1 238 a s) 238 b t k = τ k := fun s t k hk => by rw [up_ne hk, up_ne hk, h1.1 k hk]
    have Q : ∀ s t : Int, QM τ (z_up (z_up τ1 238 a s) 238 b t) := fun s t => ⟨fun k hk => eN s t k (by omega), fun k hk => eN s t k (by omega), fun j hj => by rw [eN s t 231 (by decide)], fun hb => by rw [eN s t 251 (by decide)]; exact hb⟩
    have e32 : ∀ s t : Int, z_up (z_up τ1 238 a s) 238 b t 232 = w := fun s t => (eN s t 232 (by decide)).trans h2
    have G : ∀ e, 0 ≤ e → e < evN w → z_up (z_up τ1 238 a x) 238 b y 238 e = g2 a b x y e := fun e e1 e2 => by
      rw [up_eq]
      dsimp only
      unfold g2
      by_cases z : e = b
      · rw [if_pos z, if_pos z]
      · rw [if_neg z, if_neg z, up_eq]
        dsimp only
        by_cases z2 : e = a
        · rw [if_pos z2, if_pos z2]
        · rw [if_neg z2, if_neg z2]
          exact h1.2 e e1 (by omega)
    unfold f_X7_getsBy_J19
    simp only [tt_gt, tt_sg, tt_ite, tt_ck, tt_lk, tt_ix, tt_bo, tt_by, tt_nz, tt_ob, tt_st, tt_cpk, tt_c1, tt_c2, tt_ca, tt_cb, tt_some, kd_231, kd_0, Nat.reduceAdd, true_and, and_true, true_implies, not_true_eq_false, false_implies, not_false_eq_true, true_or, or_true, show lnX 238 = 60 from rfl, e32]
    refine And.intro (by omega) (And.intro hx ⟨fun z => And.intro (by omega) (And.intro (by omega) ?_), fun z => And.intro (by omega) (And.intro (by omega) ?_)⟩)
    · have y0 : y = 0 := by omega
      have := last _ (Q x 0) (by intro e e1 e2; have g := G e e1 e2; rw [y0] at g ⊢; exact g)
      simp only [tt_c1] at this
      exact this
    · have y1 : y = 1 := Classical.byContradiction z
      have := last _ (Q x 1) (by rw [y1] at G ⊢; exact G)
      simp only [tt_c1] at this
      exact this
  refine ⟨fun z => ?_, fun z => ?_⟩
  · have x0 : x = 0 := by omega
    rw [x0] at mid ⊢
    exact mid
  · have x1 : x = 1 := Classical.byContradiction z
    rw [x1] at mid ⊢
    exact mid
theorem e7_areBoth {F : Nat} {w : Int → Int} {τ : St} {a b : Int} (hw : WF w) (h2 : τ 232 = w) : f_X7_areBoth F 231 a b τ = some (if (0 ≤ a ∧ a < w 3) ∧ (0 ≤ b ∧ b < w 3) ∧ a ≠ b then 1 else 0) := by
  have t1 := e_isTold (F := F) (σ := τ) (by rw [h2]; exact hw.1) a
  have t2 := e_isTold (F := F) (σ := τ) (by rw [h2]; exact hw.1) b
  rw [h2] at t1 t2
  apply TT.eq
  unfold f_X7_areBoth
  simp only [tt_gt, tt_sg, tt_ite, tt_ck, tt_lk, tt_ix, tt_bo, tt_by, tt_nz, tt_ob, tt_st, tt_cpk, tt_c1, tt_c2, tt_ca, tt_cb, tt_some, kd_231, kd_0, Nat.reduceAdd, true_and, and_true, true_implies, not_true_eq_false, false_implies, not_false_eq_true, true_or, or_true, t1, t2]
  by_cases q1 : 0 ≤ a ∧ a < w 3
  · rw [if_pos q1]
    refine ⟨fun z => absurd z (by decide), fun _ => ?_⟩
    by_cases q2 : 0 ≤ b ∧ b < w 3
    · rw [if_pos q2]
      refine ⟨fun z => absurd z (by decide), fun _ => ⟨fun z => ?_, fun z => ?_⟩⟩
      · rw [if_neg (fun y => y.2.2 z)]
      · rw [if_pos ⟨q1, q2, z⟩]
    · rw [if_neg q2, if_neg (fun y => q2 y.2.1)]
      exact ⟨fun _ => rfl, fun z => absurd rfl z⟩
  · rw [if_neg q1, if_neg (fun y => q1 y.1)]
    exact ⟨fun _ => rfl, fun z => absurd rfl z⟩
theorem q_gets {F : Nat} {σ : St} {a b x y : Int} (hF : 100 ≤ F) (h : GI F σ) : PP F (f_X6_gets F 0 a b x y σ) (f_X7_gets F 231 a b x y) := by
  have h60 := h.wf.ev60
  have h3b : 0 ≤ σ 232 3 ∧ σ 232 3 ≤ 40 := by
    have := h.wf.1
    unfold Hd at this
    omega
  have ta := e6_isTold (F := F) (t := a) h.sc
  have tb' := e6_isTold (F := F) (t := b) h.sc
  by_cases q : ((0 ≤ a ∧ a < σ 232 3) ∧ (0 ≤ b ∧ b < σ 232 3) ∧ a ≠ b) ∧ (0 ≤ x ∧ x ≤ 1) ∧ (0 ≤ y ∧ y ≤ 1)
  · rw [if_pos q.1.1] at ta
    rw [if_pos q.1.2.1] at tb'
    unfold PP f_X6_gets
    simp only [tt_gt, tt_sg, tt_ite, tt_ck, tt_lk, tt_ix, tt_bo, tt_by, tt_nz, tt_ob, tt_st, tt_cpk, tt_c1, tt_c2, tt_ca, tt_cb, tt_some, kd_231, kd_0, Nat.reduceAdd, true_and, and_true, true_implies, not_true_eq_false, false_implies, not_false_eq_true, true_or, or_true, ta, tb', one0, q.1.2.2]
    refine ⟨fun z => absurd z (by omega), fun _ => ⟨fun z => absurd z (by omega), fun _ => ⟨fun z => absurd z (by omega), fun _ => ⟨fun _ => ?_, fun z => absurd q.2.2.2 z⟩⟩⟩⟩
    have hwv := WV_rng (F := F) a b x y hF h.wf
    refine (ww_ok hF h.wf h.sc (by omega) (by omega) (by omega) (by omega) q.1.2.2).mono (fun r hr => ?_)
    rw [hr.1]
    refine And.intro (by omega) (And.intro (by omega) ?_)
    have e1 : r.2 232 = σ 232 := hr.2.1 232 (by omega)
    unfold f_X7_gets
    simp only [tt_gt, tt_sg, tt_ite, tt_ck, tt_lk, tt_ix, tt_bo, tt_by, tt_nz, tt_ob, tt_st, tt_cpk, tt_c1, tt_c2, tt_ca, tt_cb, tt_some, kd_231, kd_0, Nat.reduceAdd, true_and, and_true, true_implies, not_true_eq_false, false_implies, not_false_eq_true, true_or, or_true, e7_areBoth h.wf e1, if_pos q.1, one0, e_in, if_pos q.2.1, if_pos q.2.2]
    refine (gb_ok (σ := σ) hF h.wf h.sc e1 (by omega) (by omega) (by omega) (by omega) q.1.2.2 (Or.inl rfl)).mono (fun r' hr' => ⟨?_, h.q2 hF hr.2.1 hr'.2⟩)
    rw [hr'.1, if_pos rfl]
  · have neg : TT (f_X7_gets F 231 a b x y σ) (fun r' => -1000 = r'.1 ∧ GI F r'.2) := by
      unfold f_X7_gets
      simp only [tt_gt, tt_sg, tt_ite, tt_ck, tt_lk, tt_ix, tt_bo, tt_by, tt_nz, tt_ob, tt_st, tt_cpk, tt_c1, tt_c2, tt_ca, tt_cb, tt_some, kd_231, kd_0, Nat.reduceAdd, true_and, and_true, true_implies, not_true_eq_false, false_implies, not_false_eq_true, true_or, or_true, e7_areBoth h.wf rfl, e_in]
      by_cases q1 : (0 ≤ a ∧ a < σ 232 3) ∧ (0 ≤ b ∧ b < σ 232 3) ∧ a ≠ b
      · rw [if_pos q1]
        refine ⟨fun z => absurd z (by decide), fun _ => ?_⟩
        by_cases q2 : 0 ≤ x ∧ x ≤ 1
        · rw [if_pos q2, if_neg (fun z => q ⟨q1, q2, z⟩)]
          exact ⟨fun z => absurd z (by decide), fun _ => ⟨fun _ => h, fun z => absurd rfl z⟩⟩
        · rw [if_neg q2]
          exact ⟨fun _ => h, fun z => absurd rfl z⟩
      · rw [if_neg q1]
        exact ⟨fun _ => h, fun z => absurd rfl z⟩
    unfold PP f_X6_gets
    simp only [tt_gt, tt_sg, tt_ite, tt_ck, tt_lk, tt_ix, tt_bo, tt_by, tt_nz, tt_ob, tt_st, tt_cpk, tt_c1, tt_c2, tt_ca, tt_cb, tt_some, kd_231, kd_0, Nat.reduceAdd, true_and, and_true, true_implies, not_true_eq_false, false_implies, not_false_eq_true, true_or, or_true, ta, tb']
    refine ⟨fun _ => neg, fun z1 => ⟨fun _ => neg, fun z2 => ⟨fun _ => neg, fun z3 => ⟨fun _ => neg, fun z4 => ⟨fun _ => neg, fun z5 => ⟨fun _ => neg, fun z6 => ⟨fun z7 => ?_, fun _ => neg⟩⟩⟩⟩⟩⟩⟩
    have b1 : 0 ≤ a ∧ a < σ 232 3 := Classical.byContradiction fun y => z1 (if_neg y)
    have b2 : 0 ≤ b ∧ b < σ 232 3 := Classical.byContradiction fun y => z2 (if_neg y)
    exact absurd ⟨⟨b1, b2, z3⟩, ⟨by omega, by omega⟩, by omega, z7⟩ q
theorem p4 : ∀ p : Nat, p < 4 → z_and p 1 = ((p % 2 : Nat) : Int) ∧ z_shr p 1 = ((p / 2 : Nat) : Int) ∧ (z_xor p 1 = ((if p % 2 = 0 then p + 1 else p - 1 : Nat) : Int)) ∧ (z_xor p 2 = ((if p / 2 = 0 then p + 2 else p - 2 : Nat) : Int)) := by decide
theorem or_0 {x : Int} (h : iR x) : z_or x 0 = x := bt_ext iR_or h (fun c c1 c2 => by
  rw [bt_or ⟨c1, c2⟩]
  exact ⟨fun z => z.elim id (fun z => absurd z (bt_zero ⟨c1, c2⟩)), fun z => Or.inl z⟩)
def rsC (F : Nat) (w : Int → Int) (a b : Int) (p : Nat) : Prop := WV F w a b (1 - ((p % 2 : Nat) : Int)) ((p / 2 : Nat) : Int) - WV F w a b ((p % 2 : Nat) : Int) ((p / 2 : Nat) : Int) - 3 * (1 - 2 * ((p % 2 : Nat) : Int)) ≤ 0 ∧ WV F w a b ((p % 2 : Nat) : Int) (1 - ((p / 2 : Nat) : Int)) - WV F w a b ((p % 2 : Nat) : Int) ((p / 2 : Nat) : Int) - 3 * (1 - 2 * ((p / 2 : Nat) : Int)) ≤ 0
def RsP (F : Nat) (w : Int → Int) (a b : Int) : Nat → Int → Prop
  | 0, x => x = 0
  | p + 1, x => ∃ y, RsP F w a b p y ∧ ((rsC F w a b p ∧ x = z_or y (z_shl 1 p)) ∨ (¬ rsC F w a b p ∧ x = y))
theorem RsP.one {F : Nat} {w : Int → Int} {a b : Int} : ∀ {p : Nat} {x x' : Int}, RsP F w a b p x → RsP F w a b p x' → x = x'
  | 0, _, _, h, h' => by rw [h, h']
  | p + 1, _, _, ⟨y, h1, h2⟩, ⟨y', h1', h2'⟩ => by
    have e := RsP.one h1 h1'
    subst e
    rcases h2 with ⟨c, rfl⟩ | ⟨c, rfl⟩
    · rcases h2' with ⟨c', rfl⟩ | ⟨c', rfl⟩
      · rfl
      · exact absurd c c'
    · rcases h2' with ⟨c', rfl⟩ | ⟨c', rfl⟩
      · exact absurd c' c
      · rfl
theorem RsP.ir {F : Nat} {w : Int → Int} {a b : Int} : ∀ {p : Nat} {x : Int}, RsP F w a b p x → iR x
  | 0, _, h => by rw [h]; exact iR_0
  | p + 1, _, ⟨y, h1, h2⟩ => by
    rcases h2 with ⟨c, rfl⟩ | ⟨c, rfl⟩
    · exact iR_or
    · exact h1.ir
theorem q_rests {F : Nat} {σ : St} {a b : Int} (hF : 100 ≤ F) (h : GI F σ) : PP F (f_X6_rests F 0 a b σ) (f_X7_rests F 231 a b) := by
  have h60 := h.wf.ev60
  have h3b : 0 ≤ σ 232 3 ∧ σ 232 3 ≤ 40 := by
    have := h.wf.1
    unfold Hd at this
    omega
  have ta := e6_isTold (F := F) (t := a) h.sc
  have tb' := e6_isTold (F := F) (t := b) h.sc
  have WR := fun x y : Int => WV_rng (F := F) a b x y hF h.wf
  by_cases q : (0 ≤ a ∧ a < σ 232 3) ∧ (0 ≤ b ∧ b < σ 232 3) ∧ a ≠ b
  · rw [if_pos q.1] at ta
    rw [if_pos q.2.1] at tb'
    have key : ∀ (τ : St) (v : Int), QT σ τ → RsP F (σ 232) a b 4 v → TT (f_X7_rests F 231 a b τ) (fun r' => v = r'.1 ∧ GI F r'.2) := by
      intro τ v hq hv
      have e1 : τ 232 = σ 232 := hq 232 (by omega)
      unfold f_X7_rests
      simp only [tt_gt, tt_sg, tt_ite, tt_ck, tt_lk, tt_ix, tt_bo, tt_by, tt_nz, tt_ob, tt_st, tt_cpk, tt_c1, tt_c2, tt_ca, tt_cb, tt_some, kd_231, kd_0, Nat.reduceAdd, true_and, and_true, true_implies, not_true_eq_false, false_implies, not_false_eq_true, true_or, or_true, e7_areBoth h.wf e1, if_pos q, one0]
      refine lp_w (L := fun n (p : Int × Int × St) => f_X7_rests_L17 F 231 a b n p.1 p.2.1 p.2.2) (fun m p => ∃ j : Nat, p.2.1 = j ∧ j + m = 4 ∧ RsP F (σ 232) a b j p.1 ∧ QM τ p.2.2) (fun m n p hI ih => ?_) 4 F (0, 0, τ) (by omega) ⟨0, rfl, rfl, rfl, QM.rf⟩
      obtain ⟨x, i, τ2⟩ := p
      dsimp only at hI ih ⊢
      obtain ⟨j, rfl, i2, i3, i4⟩ := hI
      have gb : ∀ (τ3 : St) (x y who : Int), QM τ τ3 → (x = 0 ∨ x = 1) → (y = 0 ∨ y = 1) → (who = 0 ∨ who = 1) → TT (f_X7_getsBy F 231 a b x y who τ3) (fun r => r.1 = WV F (σ 232) a b x y - 3 * (if who = 0 then x else y) ∧ QM τ r.2) := fun τ3 x y who hq3 hx hy hwh => (gb_ok (σ := σ) hF h.wf h.sc ((hq3.hi 232 (by omega)).trans e1) hx hy (by omega) (by omega) q.2.2 hwh).mono (fun r hr => ⟨hr.1, hq3.tr hr.2⟩)
      rw [f_X7_rests_L17]
      simp only [tt_gt, tt_sg, tt_ite, tt_ck, tt_lk, tt_ix, tt_bo, tt_by, tt_nz, tt_ob, tt_st, tt_cpk, tt_c1, tt_c2, tt_ca, tt_cb, tt_some, kd_231, kd_0, Nat.reduceAdd, true_and, and_true, true_implies, not_true_eq_false, false_implies, not_false_eq_true, true_or, or_true]
      refine ⟨fun u => ⟨hv.one (by rw [show (4 : Nat) = j by omega]; exact i3), h.q2 hF hq i4⟩, fun u => ?_⟩
      obtain ⟨b1, b2, -, -⟩ := p4 j (by omega)
      have hx : ((j % 2 : Nat) : Int) = 0 ∨ ((j % 2 : Nat) : Int) = 1 := by omega
      have hy : ((j / 2 : Nat) : Int) = 0 ∨ ((j / 2 : Nat) : Int) = 1 := by omega
      rw [b1, b2]
      have fin : ∀ (c : Int) (τ3 : St), QM τ τ3 → ((c = 1 ∧ rsC F (σ 232) a b j) ∨ (c = 0 ∧ ¬ rsC F (σ 232) a b j)) → TT (f_X7_rests_J94 F 231 a b (f_X7_rests_L17 F 231 a b n) x j c τ3) (fun r' => v = r'.1 ∧ GI F r'.2) := by
        intro c τ3 hq3 hc
        unfold f_X7_rests_J94
        simp only [tt_gt, tt_sg, tt_ite, tt_ck, tt_lk, tt_ix, tt_bo, tt_by, tt_nz, tt_ob, tt_st, tt_cpk, tt_c1, tt_c2, tt_ca, tt_cb, tt_some, kd_231, kd_0, Nat.reduceAdd, true_and, and_true, true_implies, not_true_eq_false, false_implies, not_false_eq_true, true_or, or_true]
        rcases hc with ⟨rfl, hc⟩ | ⟨rfl, hc⟩
        · exact ⟨fun z => absurd z (by decide), fun _ => And.intro (by omega) (ih (m - 1) (z_or x (z_shl 1 j), (j : Int) + 1, τ3) (by omega) ⟨j + 1, by dsimp only; omega, by omega, ⟨x, i3, Or.inl ⟨hc, rfl⟩⟩, hq3⟩)⟩
        · rw [or_0 i3.ir]
          exact ⟨fun _ => And.intro (by omega) (ih (m - 1) (x, (j : Int) + 1, τ3) (by omega) ⟨j + 1, by dsimp only; omega, by omega, ⟨x, i3, Or.inr ⟨hc, rfl⟩⟩, hq3⟩), fun z => absurd rfl z⟩
      refine (gb τ2 _ _ 0 i4 hx hy (Or.inl rfl)).mono (fun r1 h1 => And.intro (by omega) ((gb r1.2 (1 - ((j % 2 : Nat) : Int)) _ 0 h1.2 (by omega) hy (Or.inl rfl)).mono (fun r2 h2 => ?_)))
      rw [if_pos rfl] at h1 h2
      refine ⟨fun z => fin 0 r2.2 h2.2 (Or.inr ⟨rfl, fun c => ?_⟩), fun z => ?_⟩
      · have := c.1; omega
      · refine (gb r2.2 _ _ 1 h2.2 hx hy (Or.inr rfl)).mono (fun r3 h3 => And.intro (by omega) ((gb r3.2 _ (1 - ((j / 2 : Nat) : Int)) 1 h3.2 hx (by omega) (Or.inr rfl)).mono (fun r4 h4 => ?_)))
        rw [if_neg (by decide)] at h3 h4
        refine ⟨fun z2 => fin 0 r4.2 h4.2 (Or.inr ⟨rfl, fun c => ?_⟩), fun z2 => fin 1 r4.2 h4.2 (Or.inl ⟨rfl, ?_, ?_⟩)⟩
        · have := c.2; omega
        · omega
        · omega
    unfold PP f_X6_rests
    simp only [tt_gt, tt_sg, tt_ite, tt_ck, tt_lk, tt_ix, tt_bo, tt_by, tt_nz, tt_ob, tt_st, tt_cpk, tt_c1, tt_c2, tt_ca, tt_cb, tt_some, kd_231, kd_0, Nat.reduceAdd, true_and, and_true, true_implies, not_true_eq_false, false_implies, not_false_eq_true, true_or, or_true, ta, tb', one0, q.2.2]
    have second : ∀ τ : St, QT σ τ → (∀ p : Nat, p < 4 → τ 213 p = WV F (σ 232) a b ((p % 2 : Nat) : Int) ((p / 2 : Nat) : Int)) → TT (f_X6_rests_L60 F 0 a b F 0 0 τ) (fun r => TT (f_X7_rests F 231 a b r.2) (fun r' => r.1 = r'.1 ∧ GI F r'.2)) := by
      intro τ hq hO
      refine lp_w (L := fun n (p : Int × Int) => f_X6_rests_L60 F 0 a b n p.1 p.2 τ) (fun m p => ∃ j : Nat, p.2 = j ∧ j + m = 4 ∧ RsP F (σ 232) a b j p.1) (fun m n p hI ih => ?_) 4 F (0, 0) (by omega) ⟨0, rfl, rfl, rfl⟩
      obtain ⟨x, i⟩ := p
      dsimp only at hI ih ⊢
      obtain ⟨j, rfl, i2, i3⟩ := hI
      rw [f_X6_rests_L60]
      simp only [tt_gt, tt_sg, tt_ite, tt_ck, tt_lk, tt_ix, tt_bo, tt_by, tt_nz, tt_ob, tt_st, tt_cpk, tt_c1, tt_c2, tt_ca, tt_cb, tt_some, kd_231, kd_0, Nat.reduceAdd, true_and, and_true, true_implies, not_true_eq_false, false_implies, not_false_eq_true, true_or, or_true, Nat.zero_add]
      refine ⟨fun u => key τ x hq (by rw [show (4 : Nat) = j by omega]; exact i3), fun u => ?_⟩
      obtain ⟨b1, b2, b3, b4⟩ := p4 j (by omega)
      have j4 : j < 4 := by omega
      have o0 := hO j j4
      have o1 := hO (if j % 2 = 0 then j + 1 else j - 1) (by split <;> omega)
      have o2 := hO (if j / 2 = 0 then j + 2 else j - 2) (by split <;> omega)
      have m1 : (((if j % 2 = 0 then j + 1 else j - 1) % 2 : Nat) : Int) = 1 - ((j % 2 : Nat) : Int) ∧ (((if j % 2 = 0 then j + 1 else j - 1) / 2 : Nat) : Int) = ((j / 2 : Nat) : Int) := by split <;> omega
      have m2 : (((if j / 2 = 0 then j + 2 else j - 2) % 2 : Nat) : Int) = ((j % 2 : Nat) : Int) ∧ (((if j / 2 = 0 then j + 2 else j - 2) / 2 : Nat) : Int) = 1 - ((j / 2 : Nat) : Int) := by split <;> omega
      rw [m1.1, m1.2] at o1
      rw [m2.1, m2.2] at o2
      rw [b1, b2, b3, b4, o0, o1, o2]
      have w0 := WR ((j % 2 : Nat) : Int) ((j / 2 : Nat) : Int)
      have w1 := WR (1 - ((j % 2 : Nat) : Int)) ((j / 2 : Nat) : Int)
      have w2 := WR ((j % 2 : Nat) : Int) (1 - ((j / 2 : Nat) : Int))
      have c1 : 0 ≤ (((if j % 2 = 0 then j + 1 else j - 1 : Nat)) : Int) ∧ (((if j % 2 = 0 then j + 1 else j - 1 : Nat)) : Int) < 4 := by split <;> omega
      have c2 : 0 ≤ (((if j / 2 = 0 then j + 2 else j - 2 : Nat)) : Int) ∧ (((if j / 2 = 0 then j + 2 else j - 2 : Nat)) : Int) < 4 := by split <;> omega
      refine And.intro c1 (And.intro (by omega) (And.intro (by omega) (And.intro (by omega) (And.intro (by omega) (And.intro (by omega) (And.intro (by omega) (And.intro c2 (And.intro (by omega) (And.intro (by omega) (And.intro (by omega) (And.intro (by omega) (And.intro (by omega) (And.intro (by omega) ?_)))))))))))))
      refine ⟨fun z => And.intro (by omega) (ih (m - 1) (x, (j : Int) + 1) (by omega) ⟨j + 1, by dsimp only; omega, by omega, ⟨x, i3, Or.inr ⟨fun c => ?_, rfl⟩⟩⟩), fun z => ⟨fun z2 => And.intro (by omega) (ih (m - 1) (x, (j : Int) + 1) (by omega) ⟨j + 1, by dsimp only; omega, by omega, ⟨x, i3, Or.inr ⟨fun c => ?_, rfl⟩⟩⟩), fun z2 => And.intro (by omega) (ih (m - 1) (z_or x (z_shl 1 j), (j : Int) + 1) (by omega) ⟨j + 1, by dsimp only; omega, by omega, ⟨x, i3, Or.inl ⟨⟨by omega, by omega⟩, rfl⟩⟩⟩)⟩⟩
      · have := c.1; omega
      · have := c.2; omega
    refine lp_w (L := fun n (p : Int × St) => f_X6_rests_L26 F 0 a b n p.1 p.2) (fun m p => ∃ j : Nat, p.1 = j ∧ j + m = 4 ∧ QT σ p.2 ∧ ∀ p' : Nat, p' < j → p.2 213 p' = WV F (σ 232) a b ((p' % 2 : Nat) : Int) ((p' / 2 : Nat) : Int)) (fun m n p hI ih => ?_) 4 F (0, σ) (by omega) ⟨0, rfl, rfl, QT.rf, fun p' hp => absurd hp (Nat.not_lt_zero p')⟩
    obtain ⟨i, τ⟩ := p
    dsimp only at hI ih ⊢
    obtain ⟨j, rfl, i2, i3, i4⟩ := hI
    rw [f_X6_rests_L26]
    simp only [tt_gt, tt_sg, tt_ite, tt_ck, tt_lk, tt_ix, tt_bo, tt_by, tt_nz, tt_ob, tt_st, tt_cpk, tt_c1, tt_c2, tt_ca, tt_cb, tt_some, kd_231, kd_0, Nat.reduceAdd, true_and, and_true, true_implies, not_true_eq_false, false_implies, not_false_eq_true, true_or, or_true, Nat.zero_add]
    refine ⟨fun u => second τ i3 (fun p' hp => i4 p' (by omega)), fun u => ?_⟩
    obtain ⟨b1, b2, -, -⟩ := p4 j (by omega)
    rw [b1, b2]
    refine (ww_ok hF h.wf (h.sc.qt i3) (by omega) (by omega) (by omega) (by omega) q.2.2).mono (fun r hr => And.intro (by omega) (And.intro (by omega) (ih (m - 1) ((j : Int) + 1, z_up r.2 213 j r.1) (by omega) ⟨j + 1, by dsimp only; omega, by omega, fun x hx => by dsimp only; rw [up_ne (by omega), hr.2.1 x hx, i3 x hx], fun p' hp => ?_⟩)))
    dsimp only
    rw [up_eq]
    dsimp only
    by_cases z : p' = j
    · rw [if_pos (by omega), hr.1, z]
    · rw [if_neg (by omega)]
      rw [hr.2.2]
      exact i4 p' (by omega)
  · have neg : TT (f_X7_rests F 231 a b σ) (fun r' => -2 = r'.1 ∧ GI F r'.2) := by
      unfold f_X7_rests
      simp only [tt_gt, tt_sg, tt_ite, tt_ck, tt_lk, tt_ix, tt_bo, tt_by, tt_nz, tt_ob, tt_st, tt_cpk, tt_c1, tt_c2, tt_ca, tt_cb, tt_some, kd_231, kd_0, Nat.reduceAdd, true_and, and_true, true_implies, not_true_eq_false, false_implies, not_false_eq_true, true_or, or_true, e7_areBoth h.wf rfl, if_neg q, eq_self]
      exact h
    unfold PP f_X6_rests
    simp only [tt_gt, tt_sg, tt_ite, tt_ck, tt_lk, tt_ix, tt_bo, tt_by, tt_nz, tt_ob, tt_st, tt_cpk, tt_c1, tt_c2, tt_ca, tt_cb, tt_some, kd_231, kd_0, Nat.reduceAdd, true_and, and_true, true_implies, not_true_eq_false, false_implies, not_false_eq_true, true_or, or_true, ta, tb']
    refine ⟨fun _ => neg, fun z1 => ⟨fun _ => neg, fun z2 => ⟨fun z3 => ?_, fun _ => neg⟩⟩⟩
    have b1 : 0 ≤ a ∧ a < σ 232 3 := Classical.byContradiction fun y => z1 (if_neg y)
    have b2 : 0 ≤ b ∧ b < σ 232 3 := Classical.byContradiction fun y => z2 (if_neg y)
    exact absurd ⟨b1, b2, z3⟩ q
