def cAl (w g : Int → Int) : St := fun k j => if k = 231 then (if j = 29 then -1 else 0) else if k = 232 then w j else if k = 238 then g j else if k = 239 then Val w g (j / 32).toNat (j % 32) else if k = 240 then chg w g (j / 32).toNat (j % 32) else 0
theorem cAl_gd {w : Int → Int} (g : Int → Int) (hw : WF w) : Gd w g (evN w).toNat (cAl w g) := by
  have h60 := hw.ev60
  refine ⟨hw, by show _ ≤ evN w; omega, rfl, rfl, ⟨fun s c _ c1 c2 => ?_, fun s c _ c1 c2 => ?_⟩, rfl, fun _ _ _ => rfl, fun _ _ _ => rfl⟩
  · show Val w g ((32 * (s : Int) + c) / 32).toNat ((32 * (s : Int) + c) % 32) = Val w g s c
    rw [show ((32 * (s : Int) + c) / 32).toNat = s by omega, show (32 * (s : Int) + c) % 32 = c by omega]
  · show chg w g ((32 * (s : Int) + c) / 32).toNat ((32 * (s : Int) + c) % 32) = chg w g s c
    rw [show ((32 * (s : Int) + c) / 32).toNat = s by omega, show (32 * (s : Int) + c) % 32 = c by omega]
def tri (F : Nat) (w g : Int → Int) (l : Int) : St := ItG F l (evN w).toNat (cAl w g)
theorem tri_mi {F : Nat} {w : Int → Int} (g : Int → Int) (l : Int) (hF : 100 ≤ F) (hw : WF w) : MI0 (w 0) (evN w).toNat (tri F w g l) := ((cAl_gd g hw).it (F := F) (l := l) hF).1
theorem tri_eq {F : Nat} {w g : Int → Int} {l o : Int} {σ α : St} (hF : 100 ≤ F) (hw : WF w) (hS : SR 4 σ w) (hl : 0 ≤ l ∧ l ≤ 3) (ho : lOut o g (evN w)) (hA : Gd w g (evN w).toNat α) : ∃ σ', RunR 110 (w 0) l (evN w).toNat (ItG F l (evN w).toNat α) σ' ∧ RunR 110 (w 0) l (evN w).toNat (tri F w g l) σ' := by
  obtain ⟨σ', -, h2⟩ := trial_ok (F := F) (l := l) (o := o) hF hw hS hl ho
  exact ⟨σ', h2.1 α hA, h2.1 _ (cAl_gd g hw)⟩
def svF (w0 : Int) (μ : St) : Int := sm (fun k => sm (fun c => if μ 247 (32 * (k : Int) + c) = 0 then 0 else 1) w0.toNat) (μ 231 28).toNat
def whF (μ : St) : Int := sm (fun k => if μ 243 k = 1 then μ 245 k else 0) (μ 231 28).toNat
theorem sv_eq {b : Nat} {w0 l : Int} {t : Nat} {μ μ' σ : St} (hw : w0 ≤ 32) (h : RunR b w0 l t μ σ) (h' : RunR b w0 l t μ' σ) : svF w0 μ = svF w0 μ' := by
  have e : μ 231 28 = μ' 231 28 := by rw [← h.cn, h'.cn]
  unfold svF
  rw [← e]
  refine sm_congr _ (fun k hk => sm_congr _ (fun c hc => ?_))
  have h1 := (h.cd k (by omega) (by omega)).rs c (by omega) (by omega)
  have h2 := (h'.cd k (by omega) (by omega)).rs c (by omega) (by omega)
  by_cases z : μ 247 (32 * (k : Int) + c) = 0
  · rw [if_pos z, if_pos (Classical.byContradiction fun y => (h1.mp (h2.mpr y)) z)]
  · rw [if_neg z, if_neg (h2.mp (h1.mpr z))]
theorem wh_eq {b : Nat} {w0 l : Int} {t : Nat} {μ μ' σ : St} (h : RunR b w0 l t μ σ) (h' : RunR b w0 l t μ' σ) : whF μ = whF μ' := by
  have e : μ 231 28 = μ' 231 28 := by rw [← h.cn, h'.cn]
  unfold whF
  rw [← e]
  refine sm_congr _ (fun k hk => ?_)
  have h1 := (h.cd k (by omega) (by omega)).st
  have h2 := (h'.cd k (by omega) (by omega)).st
  have h3 := (h.cc k (by omega) (by omega)).sz
  have h4 := (h'.cc k (by omega) (by omega)).sz
  rw [← h1, ← h2, ← h3, ← h4]
theorem dr_eq {b : Nat} {w0 l : Int} {t : Nat} {μ μ' σ : St} (h : RunR b w0 l t μ σ) (h' : RunR b w0 l t μ' σ) {c : Int} (hc : 0 ≤ c ∧ c < 32) (hw : c < w0) : drt μ c t ↔ drt μ' c t := by
  have h1 := h.dt c hc.1 hc.2
  have h2 := h'.dt c hc.1 hc.2
  exact ⟨fun z => (h2.mp (h1.mpr ⟨hw, z⟩)).2, fun z => (h1.mp (h2.mpr ⟨hw, z⟩)).2⟩
def QT (σ σ' : St) : Prop := ∀ x, (x < 110 ∨ 213 < x) → σ' x = σ x
theorem QT.rf {σ : St} : QT σ σ := fun _ _ => rfl
theorem QT.tr {a b c : St} (h : QT a b) (h2 : QT b c) : QT a c := fun x q => (h2 x q).trans (h x q)
theorem SR.qt {σ σ' : St} {w : Int → Int} (h : SR 4 σ w) (hq : QT σ σ') : SR 4 σ' w := h.mv (hq 4 (by omega)) (hq 5 (by omega)) (hq 6 (by omega))
theorem GI.qt {F : Nat} {σ τ : St} (h : GI F σ) (hF : 100 ≤ F) (hq : QT σ τ) : ∃ T, Pl F σ T τ := by
  obtain ⟨T, hp⟩ := h.self
  exact ⟨T, hp.fr hF h (fun x x1 x2 => hq x (by omega)) (fun x hx => hq x (by omega))⟩
theorem GI.q2 {F : Nat} {σ τ ν : St} (h : GI F σ) (hF : 100 ≤ F) (hq : QT σ τ) (hm : QM τ ν) : GI F ν := h.q hF (fun x hx => hq x (by omega)) (h.rn.fr hF h.wf (fun x x1 x2 => hq x (by omega))) hm
theorem ar_ok {F : Nat} {w0 l : Int} {t : Nat} {μ σ1 : St} (hF : 100 ≤ F) (hw : 0 ≤ w0 ∧ w0 ≤ 32) (hC : RunR 110 w0 l t μ σ1) (hM : MI0 w0 t μ) (ht : t ≤ 60) : f_X3_allRescued F 110 σ1 = some (svF w0 μ) := by
  have h30 := hM.n30 ht
  have rS : ∀ k : Nat, 0 ≤ sm (fun c => if μ 247 (32 * (k : Int) + c) = 0 then 0 else 1) w0.toNat ∧ sm (fun c => if μ 247 (32 * (k : Int) + c) = 0 then 0 else 1) w0.toNat ≤ 32 := fun k => by
    have := sm_rng (f := fun c => if μ 247 (32 * (k : Int) + c) = 0 then 0 else 1) (M := 1) w0.toNat (fun i _ => by split <;> omega)
    omega
  apply TT.eq
  unfold f_X3_allRescued svF
  simp only [tt_gt, tt_sg, tt_ite, tt_ck, tt_lk, tt_ix, tt_bo, tt_by, tt_nz, tt_ob, tt_st, tt_cpk, tt_c1, tt_c2, tt_ca, tt_cb, tt_some, kd_231, kd_0, Nat.reduceAdd, true_and, and_true, true_implies, not_true_eq_false, false_implies, not_false_eq_true, true_or, or_true, show kdX 110 = 3 from rfl]
  refine cnt (L := fun n x i => f_X3_allRescued_L4 F 110 σ1 n x i) (μ 231 28).toNat (fun k => sm (fun c => if μ 247 (32 * (k : Int) + c) = 0 then 0 else 1) w0.toNat) (by omega) (fun n => ?_) (fun n i hi ht => ?_)
  · try dsimp only
    rw [f_X3_allRescued_L4]
    simp only [tt_gt, tt_sg, tt_ite, tt_ck, tt_lk, tt_ix, tt_bo, tt_by, tt_nz, tt_ob, tt_st, tt_cpk, tt_c1, tt_c2, tt_ca, tt_cb, tt_some, kd_231, kd_0, Nat.reduceAdd, true_and, and_true, true_implies, not_true_eq_false, false_implies, not_false_eq_true, true_or, or_true, hC.cn]
    exact ⟨fun _ => trivial, fun z => absurd z (by omega)⟩
  · have hr := sm_rng (f := fun k => sm (fun c => if μ 247 (32 * (k : Int) + c) = 0 then 0 else 1) w0.toNat) (M := 32) i (fun j _ => rS j)
    have hr1 := rS i
    have C2 := hC.cd i (by omega) (by omega)
    have e1 := bc_rs hw (hM.cp i (by omega) (by omega)) C2
    rw [Int.toNat_natCast] at e1
    try dsimp only at ht hr ⊢
    rw [f_X3_allRescued_L4]
    simp only [tt_gt, tt_sg, tt_ite, tt_ck, tt_lk, tt_ix, tt_bo, tt_by, tt_nz, tt_ob, tt_st, tt_cpk, tt_c1, tt_c2, tt_ca, tt_cb, tt_some, kd_231, kd_0, Nat.reduceAdd, true_and, and_true, true_implies, not_true_eq_false, false_implies, not_false_eq_true, true_or, or_true, hC.cn, Int.toNat_natCast, bitc_ok, e1]
    exact ⟨fun z => absurd z (by omega), fun _ => ⟨fun z => absurd z (by omega), fun _ => And.intro (by omega) (And.intro (by omega) (And.intro (by omega) ht))⟩⟩
theorem svF_rng {w0 : Int} {t : Nat} {μ : St} (hw : 0 ≤ w0 ∧ w0 ≤ 32) (hM : MI0 w0 t μ) (ht : t ≤ 60) : 0 ≤ svF w0 μ ∧ svF w0 μ ≤ 960 := by
  have h30 := hM.n30 ht
  have := sm_rng (f := fun k => sm (fun c => if μ 247 (32 * (k : Int) + c) = 0 then 0 else 1) w0.toNat) (M := 32) (μ 231 28).toNat (fun k _ => by
    have := sm_rng (f := fun c => if μ 247 (32 * (k : Int) + c) = 0 then 0 else 1) (M := 1) w0.toNat (fun i _ => by split <;> omega)
    omega)
  unfold svF
  omega
theorem rb_ok {F : Nat} {w : Int → Int} {l : Int} {τ : St} (hF : 100 ≤ F) (hw : WF w) (hS : SR 4 τ w) (hl : 0 ≤ l ∧ l ≤ 3) : TT (f_X6_rescuedByLaw F 0 l τ) (fun r => r.1 = svF (w 0) (tri F w (fun _ => 0) l) ∧ QT τ r.2) := by
  have h60 := hw.ev60
  have hw0 : 0 ≤ w 0 ∧ w 0 ≤ 32 := ⟨hw.1.1, hw.1.2.1⟩
  unfold f_X6_rescuedByLaw
  simp only [tt_ob, kd_0, true_and, tt_c1, Nat.zero_add, tt_some, tt_gt]
  refine (trial_ok (F := F) (g := fun _ => 0) (l := l) hF hw hS hl (lOut_0 (by omega))).mono (fun σ1 h1 => ?_)
  rw [ar_ok hF hw0 (h1.1 _ (cAl_gd _ hw)) (tri_mi _ l hF hw) (by omega), tt_some]
  exact ⟨rfl, fun x hx => h1.2 x (by omega)⟩
theorem sb_ok {F : Nat} {w : Int → Int} {l : Int} {σ τ : St} (hF : 100 ≤ F) (hw : WF w) (hS : SR 4 σ w) (hl : 0 ≤ l ∧ l ≤ 3) (h2 : τ 232 = w) (hg : ∀ e, 0 ≤ e → e < 60 → τ 238 e = 0) : TT (f_X7_savedBy F 231 l τ) (fun r => r.1 = svF (w 0) (tri F w (fun _ => 0) l) ∧ QM τ r.2 ∧ ∀ e, 0 ≤ e → e < 60 → r.2 238 e = 0) := by
  have h60 := hw.ev60
  have hw0 : 0 ≤ w 0 ∧ w 0 ≤ 32 := ⟨hw.1.1, hw.1.2.1⟩
  unfold f_X7_savedBy
  simp only [tt_ob, kd_231, true_and, tt_c1]
  refine (layAll_Laid (g := fun _ => 0) (l := l) hF hw h2 (fun e e1 e2 => hg e e1 (by omega))).mono (fun ν h3 => ?_)
  have kn := h3.kn hF hw h2
  have e32 : ν 232 = w := (h3.qm.hi 232 (by omega)).trans h2
  have h30 := kn.mi.n30 (by omega)
  obtain ⟨α, hA, e1⟩ := h3.ex
  obtain ⟨σ', r1, r2⟩ := tri_eq (F := F) (l := l) hF hw hS hl (lOut_0 (by omega)) hA
  rw [← e1] at r1
  rw [← sv_eq hw0.2 r1 r2]
  have rS : ∀ k : Nat, 0 ≤ sm (fun c => if ν 247 (32 * (k : Int) + c) = 0 then 0 else 1) (w 0).toNat ∧ sm (fun c => if ν 247 (32 * (k : Int) + c) = 0 then 0 else 1) (w 0).toNat ≤ 32 := fun k => by
    have := sm_rng (f := fun c => if ν 247 (32 * (k : Int) + c) = 0 then 0 else 1) (M := 1) (w 0).toNat (fun i _ => by split <;> omega)
    omega
  simp only [tt_gt]
  refine cnt (L := fun n x i => f_X7_savedBy_L9 F 231 l n x i ν) (ν 231 28).toNat (fun k => sm (fun c => if ν 247 (32 * (k : Int) + c) = 0 then 0 else 1) (w 0).toNat) (by omega) (fun n => ?_) (fun n i hi ht => ?_)
  · try dsimp only
    rw [f_X7_savedBy_L9]
    simp only [tt_gt, tt_sg, tt_ite, tt_ck, tt_lk, tt_ix, tt_bo, tt_by, tt_nz, tt_ob, tt_st, tt_cpk, tt_c1, tt_c2, tt_ca, tt_cb, tt_some, kd_231, kd_0, Nat.reduceAdd, true_and, and_true, true_implies, not_true_eq_false, false_implies, not_false_eq_true, true_or, or_true]
    refine ⟨fun _ => ⟨rfl, h3.qm, fun e e1 e2 => by rw [h3.ot 238 (by omega)]; exact hg e e1 e2⟩, fun z => absurd z (by omega)⟩
  · have hr := sm_rng (f := fun k => sm (fun c => if ν 247 (32 * (k : Int) + c) = 0 then 0 else 1) (w 0).toNat) (M := 32) i (fun j _ => rS j)
    have hr1 := rS i
    try dsimp only at ht hr ⊢
    rw [f_X7_savedBy_L9]
    simp only [tt_gt, tt_sg, tt_ite, tt_ck, tt_lk, tt_ix, tt_bo, tt_by, tt_nz, tt_ob, tt_st, tt_cpk, tt_c1, tt_c2, tt_ca, tt_cb, tt_some, kd_231, kd_0, Nat.reduceAdd, true_and, and_true, true_implies, not_true_eq_false, false_implies, not_false_eq_true, true_or, or_true, sv_ok (F := F) (ν := ν) (k := (i : Int)) hF (by rw [e32]) hw0 ⟨by omega, by omega⟩]
    exact ⟨fun z => absurd z (by omega), fun _ => And.intro (by omega) (And.intro (by omega) ht)⟩
theorem q_by {F : Nat} {σ : St} {l : Int} (hF : 100 ≤ F) (h : GI F σ) : PP F (f_X6_by F 0 l σ) (f_X7_by F 231 l) := by
  have h60 := h.wf.ev60
  have h0 := h.sc.1 0 (by decide) (by decide)
  have hst := h.wf.st
  have neg : ¬ (0 < σ 232 5 ∧ 0 ≤ l ∧ l ≤ 3) → TT (f_X7_by F 231 l σ) (fun r' => -2 = r'.1 ∧ GI F r'.2) := by
    intro q
    obtain ⟨T0, P0⟩ := h.self
    obtain ⟨⟨v, ν⟩, ha, hv, μ, X⟩ := P0.asks hF h
    dsimp only at hv X
    unfold f_X7_by
    by_cases q5 : 0 < σ 232 5
    · rw [if_pos q5] at hv
      subst hv
      simp only [tt_gt, tt_sg, tt_ite, tt_ck, tt_lk, tt_ix, tt_bo, tt_by, tt_nz, tt_ob, tt_st, tt_cpk, tt_c1, tt_c2, tt_ca, tt_cb, tt_some, kd_231, kd_0, Nat.reduceAdd, true_and, and_true, true_implies, not_true_eq_false, false_implies, not_false_eq_true, true_or, or_true, ha, one0, e_in, if_neg (show ¬ (0 ≤ l ∧ l ≤ 3) from fun z => q ⟨q5, z⟩), eq_self]
      exact X.gi
    · rw [if_neg q5] at hv
      subst hv
      simp only [tt_gt, tt_sg, tt_ite, tt_ck, tt_lk, tt_ix, tt_bo, tt_by, tt_nz, tt_ob, tt_st, tt_cpk, tt_c1, tt_c2, tt_ca, tt_cb, tt_some, kd_231, kd_0, Nat.reduceAdd, true_and, and_true, true_implies, not_true_eq_false, false_implies, not_false_eq_true, true_or, or_true, ha, eq_self]
      exact X.gi
  unfold PP f_X6_by
  simp only [tt_ob, kd_0, true_and, tt_c1, Nat.zero_add, e4_exists (F := F) (s := 4) (σ := σ) rfl, h0, tt_some, tt_ite, tt_gt, tt_c2]
  refine ⟨fun z => neg (fun y => ?_), fun z => ⟨fun z2 => neg (fun y => by omega), fun z2 => ⟨fun z3 => ?_, fun z3 => neg (fun y => by omega)⟩⟩⟩
  · rw [if_pos (by omega)] at z; exact absurd z (by decide)
  · have q5 : 0 < σ 232 5 := Classical.byContradiction fun y => z (by rw [if_neg (by omega)])
    refine (rb_ok hF h.wf h.sc ⟨by omega, z3⟩).mono (fun r hr => ?_)
    obtain ⟨T0, P0⟩ := h.qt hF hr.2
    have e1 : r.2 232 = σ 232 := hr.2 232 (by omega)
    obtain ⟨⟨v, ν⟩, ha, hv, hk, hq, hg, -⟩ := asks_ok hF h.wf e1
    dsimp only at hv hk hq hg
    rw [if_pos q5] at hv
    subst hv
    unfold f_X7_by
    simp only [tt_gt, tt_sg, tt_ite, tt_ck, tt_lk, tt_ix, tt_bo, tt_by, tt_nz, tt_ob, tt_st, tt_cpk, tt_c1, tt_c2, tt_ca, tt_cb, tt_some, kd_231, kd_0, Nat.reduceAdd, true_and, and_true, true_implies, not_true_eq_false, false_implies, not_false_eq_true, true_or, or_true, ha, one0, e_in, if_pos (show 0 ≤ l ∧ l ≤ 3 by omega)]
    refine (sb_ok (l := l) hF h.wf h.sc ⟨by omega, z3⟩ ((hq.hi 232 (by omega)).trans e1) hg).mono (fun r' hr' => ⟨by rw [hr.1, hr'.1], h.q2 hF hr.2 (hq.tr hr'.2.1)⟩)
def lbR (V : Nat → Int) : Nat → Int × Int
  | 0 => (0, V 0)
  | j + 1 => if (lbR V j).2 ≤ V (j + 1) then lbR V j else (((j + 1 : Nat) : Int), V (j + 1))
theorem q_law {F : Nat} {σ : St} (hF : 100 ≤ F) (h : GI F σ) : PP F (f_X6_law F 0 σ) (f_X7_law F 231) := by
  have h60 := h.wf.ev60
  have h0 := h.sc.1 0 (by decide) (by decide)
  have hst := h.wf.st
  unfold PP f_X6_law
  simp only [tt_ob, kd_0, true_and, tt_c1, Nat.zero_add, e4_exists (F := F) (s := 4) (σ := σ) rfl, h0, tt_some, tt_ite, tt_gt, tt_c2]
  refine ⟨fun z => ?_, fun z => ?_⟩
  · have q5 : 0 < σ 232 5 := Classical.byContradiction fun y => z (by rw [if_neg (by omega)])
    refine (rb_ok (l := 0) hF h.wf h.sc (by decide)).mono (fun r0 hr0 => ?_)
    have key : ∀ τ : St, QT σ τ → TT (f_X7_law F 231 τ) (fun r' => (lbR (fun j => svF (σ 232 0) (tri F (σ 232) (fun _ => 0) j)) 3).1 = r'.1 ∧ GI F r'.2) := by
      intro τ hq
      have e1 : τ 232 = σ 232 := hq 232 (by omega)
      obtain ⟨⟨v, ν⟩, ha, hv, hk, hqm, hg, -⟩ := asks_ok hF h.wf e1
      dsimp only at hv hk hqm hg
      rw [if_pos q5] at hv
      subst hv
      unfold f_X7_law
      simp only [tt_gt, tt_sg, tt_ite, tt_ck, tt_lk, tt_ix, tt_bo, tt_by, tt_nz, tt_ob, tt_st, tt_cpk, tt_c1, tt_c2, tt_ca, tt_cb, tt_some, kd_231, kd_0, Nat.reduceAdd, true_and, and_true, true_implies, not_true_eq_false, false_implies, not_false_eq_true, true_or, or_true, ha, one0]
      refine (sb_ok (l := 0) hF h.wf h.sc (by decide) ((hqm.hi 232 (by omega)).trans e1) hg).mono (fun r1 hr1 => ?_)
      refine lp_w (L := fun n (p : Int × Int × Int × St) => f_X7_law_L20 F 231 n p.1 p.2.1 p.2.2.1 p.2.2.2) (fun m p => ∃ j : Nat, p.2.2.1 = j + 1 ∧ j + m = 3 ∧ (p.1, p.2.1) = lbR (fun j => svF (σ 232 0) (tri F (σ 232) (fun _ => 0) j)) j ∧ QM τ p.2.2.2 ∧ ∀ e, 0 ≤ e → e < 60 → p.2.2.2 238 e = 0) (fun m n p hI ih => ?_) 3 F (0, r1.1, 1, r1.2) (by omega) ⟨0, rfl, rfl, by rw [hr1.1]; rfl, hqm.tr hr1.2.1, hr1.2.2⟩
      obtain ⟨x, y, i, τ2⟩ := p
      dsimp only at hI ih ⊢
      obtain ⟨j, rfl, i2, i3, i4, i5⟩ := hI
      rw [f_X7_law_L20]
      simp only [tt_gt, tt_sg, tt_ite, tt_ck, tt_lk, tt_ix, tt_bo, tt_by, tt_nz, tt_ob, tt_st, tt_cpk, tt_c1, tt_c2, tt_ca, tt_cb, tt_some, kd_231, kd_0, Nat.reduceAdd, true_and, and_true, true_implies, not_true_eq_false, false_implies, not_false_eq_true, true_or, or_true]
      refine ⟨fun u => ⟨by rw [show (3 : Nat) = j by omega, ← i3], h.q2 hF hq i4⟩, fun u => ?_⟩
      refine (sb_ok (l := (j : Int) + 1) hF h.wf h.sc (by omega) ((i4.hi 232 (by omega)).trans e1) i5).mono (fun r2 hr2 => ?_)
      have e2 : r2.1 = svF (σ 232 0) (tri F (σ 232) (fun _ => 0) ((j + 1 : Nat) : Int)) := by rw [hr2.1]; rfl
      refine ⟨fun a => And.intro (by omega) (ih (m - 1) ((j : Int) + 1, r2.1, (j : Int) + 1 + 1, r2.2) (by omega) ⟨j + 1, by dsimp only; omega, by omega, ?_, i4.tr hr2.2.1, hr2.2.2⟩), fun a => And.intro (by omega) (ih (m - 1) (x, y, (j : Int) + 1 + 1, r2.2) (by omega) ⟨j + 1, by dsimp only; omega, by omega, ?_, i4.tr hr2.2.1, hr2.2.2⟩)⟩
      · rw [lbR, if_neg (by rw [← i3]; dsimp only; omega), e2]; rfl
      · rw [lbR, if_pos (by rw [← i3]; dsimp only; omega)]; exact i3
    refine lp_w (L := fun n (p : Int × Int × Int × St) => f_X6_law_L23 F 0 n p.1 p.2.1 p.2.2.1 p.2.2.2) (fun m p => ∃ j : Nat, p.2.2.1 = j + 1 ∧ j + m = 3 ∧ (p.1, p.2.1) = lbR (fun j => svF (σ 232 0) (tri F (σ 232) (fun _ => 0) j)) j ∧ QT σ p.2.2.2) (fun m n p hI ih => ?_) 3 F (0, r0.1, 1, r0.2) (by omega) ⟨0, rfl, rfl, by rw [hr0.1]; rfl, hr0.2⟩
    obtain ⟨x, y, i, τ⟩ := p
    dsimp only at hI ih ⊢
    obtain ⟨j, rfl, i2, i3, i4⟩ := hI
    rw [f_X6_law_L23]
    simp only [tt_gt, tt_sg, tt_ite, tt_ck, tt_lk, tt_ix, tt_bo, tt_by, tt_nz, tt_ob, tt_st, tt_cpk, tt_c1, tt_c2, tt_ca, tt_cb, tt_some, kd_231, kd_0, Nat.reduceAdd, true_and, and_true, true_implies, not_true_eq_false, false_implies, not_false_eq_true, true_or, or_true]
    refine ⟨fun u => ?_, fun u => ?_⟩
    · have := key τ i4
      rw [show (3 : Nat) = j by omega, ← i3] at this
      exact this
    · refine (rb_ok (l := (j : Int) + 1) hF h.wf (h.sc.qt i4) (by omega)).mono (fun r2 hr2 => ?_)
      have e2 : r2.1 = svF (σ 232 0) (tri F (σ 232) (fun _ => 0) ((j + 1 : Nat) : Int)) := by rw [hr2.1]; rfl
      refine ⟨fun a => And.intro (by omega) (ih (m - 1) (x, y, (j : Int) + 1 + 1, r2.2) (by omega) ⟨j + 1, by dsimp only; omega, by omega, ?_, i4.tr hr2.2⟩), fun a => And.intro (by omega) (ih (m - 1) ((j : Int) + 1, r2.1, (j : Int) + 1 + 1, r2.2) (by omega) ⟨j + 1, by dsimp only; omega, by omega, ?_, i4.tr hr2.2⟩)⟩
      · rw [lbR, if_pos (by rw [← i3]; dsimp only; omega)]; exact i3
      · rw [lbR, if_neg (by rw [← i3]; dsimp only; omega), e2]; rfl
  · obtain ⟨T0, P0⟩ := h.self
    obtain ⟨⟨v, ν⟩, ha, hv, μ, X⟩ := P0.asks hF h
    dsimp only at hv X
    rw [if_neg (fun y => z (by rw [if_pos (by omega)]; decide))] at hv
    subst hv
    unfold f_X7_law
    simp only [tt_gt, tt_sg, tt_ite, tt_ck, tt_lk, tt_ix, tt_bo, tt_by, tt_nz, tt_ob, tt_st, tt_cpk, tt_c1, tt_c2, tt_ca, tt_cb, tt_some, kd_231, kd_0, Nat.reduceAdd, true_and, and_true, true_implies, not_true_eq_false, false_implies, not_false_eq_true, true_or, or_true, ha, eq_self]
    exact X.gi
