def C7 (κ κ' : St) : Prop := (∀ x, x ≠ 231 → x ≠ 237 → κ' x = κ x) ∧ ∀ j, j < 8 ∨ 13 < j → κ' 231 j = κ 231 j
def E7 (κ κ' : St) : Prop := ∀ x, x ≠ 237 → κ' x = κ x
theorem B7.c {κ κ' : St} (h : B7 κ κ') : C7 κ κ' := ⟨fun x x1 _ => h.1 x x1, h.2⟩
theorem E7.c {κ κ' : St} (h : E7 κ κ') : C7 κ κ' := ⟨fun x _ x2 => h x x2, fun j _ => by rw [h 231 (by decide)]⟩
theorem C7.tr {a b c : St} (h : C7 a b) (h' : C7 b c) : C7 a c := ⟨fun x x1 x2 => (h'.1 x x1 x2).trans (h.1 x x1 x2), fun j hj => (h'.2 j hj).trans (h.2 j hj)⟩
theorem E7.tr {a b c : St} (h : E7 a b) (h' : E7 b c) : E7 a c := fun x hx => (h' x hx).trans (h x hx)
theorem E7.up {κ : St} {j v : Int} : E7 κ (z_up κ 237 j v) := fun x hx => up_ne hx
theorem DD.e {τ κ κ' : St} (h : DD τ κ) (e : E7 κ κ') : DD τ κ' := by
  refine ⟨?_, ?_, ?_⟩
  · rw [e 231 (by decide)]; exact h.k1
  · rw [e 231 (by decide)]; exact h.k2
  · rw [e 231 (by decide)]; exact h.kn
theorem JT.mv {T : Int → Int} {L : Int} {τ τ' κ κ' : St} (h : JT T L τ κ) (e1 : τ' 1 = τ 1) (e2 : τ' 2 = τ 2) (e : E7 κ κ') : JT T L τ' κ' := by
  have a := e 231 (by decide)
  have b := e 235 (by decide)
  obtain ⟨⟨p1, p2, p3, p4, p5, p6, p7, p8, p9, p10⟩, q1, q2, q3, q4⟩ := h
  refine ⟨⟨p1, ?_, ?_, ?_, ?_, ?_, ?_, ?_, ?_, ?_⟩, ?_, ?_, ?_, ?_⟩
  · rw [e1]; exact p2
  · rw [a]; exact p3
  · rw [e2, b]; exact p4
  · rw [e1, a]; exact p5
  · rw [a]; exact p6
  · rw [e1]; exact p7
  · rw [e1]; exact p8
  · rw [a]; exact p9
  · rw [a]; exact p10
  · rw [e1, a]; exact q1
  · rw [e1, a]; exact q2
  · rw [a]; exact q3
  · rw [e1, a]; exact q4
def lnS (κ : St) : St := z_up κ 237 5 (κ 237 5 + 1)
theorem dead_J40 {F : Nat} {κ : St} (h : ¬ κ 231 12 = 0) (h5 : 0 ≤ κ 237 5 ∧ κ 237 5 ≤ 1000) : f_X7_readText_J40 F 231 κ = some (lnS κ) := by
  apply TT.eq
  unfold f_X7_readText_J40
  simp only [tt_gt, tt_sg, tt_ite, tt_ck, tt_lk, tt_ix, tt_bo, tt_by, tt_nz, tt_ob, tt_st, tt_cpk, tt_c1, tt_c2, tt_ca, tt_cb, tt_some, kd_231, kd_0, Nat.reduceAdd, true_and, and_true, true_implies, not_true_eq_false, false_implies, not_false_eq_true, true_or, or_true, e_good7, if_neg h]
  first
    | exact And.intro (by omega) (And.intro (by omega) (And.intro (by omega) rfl))
    | exact And.intro (by omega) (And.intro (by omega) rfl)
theorem live_J40 {F : Nat} {κ : St} {P : St → Prop} (h : κ 231 12 = 0) (ha : TT (f_X7_advance F 231 κ) (fun κ' => (0 ≤ κ' 237 5 ∧ κ' 237 5 ≤ 1000) ∧ P (lnS κ'))) : TT (f_X7_readText_J40 F 231 κ) P := by
  unfold f_X7_readText_J40
  simp only [tt_gt, tt_sg, tt_ite, tt_ck, tt_lk, tt_ix, tt_bo, tt_by, tt_nz, tt_ob, tt_st, tt_cpk, tt_c1, tt_c2, tt_ca, tt_cb, tt_some, kd_231, kd_0, Nat.reduceAdd, true_and, and_true, true_implies, not_true_eq_false, false_implies, not_false_eq_true, true_or, or_true, e_good7, if_pos h]
  refine ⟨fun y => absurd y (by decide), fun _ => ha.mono (fun κ' hk => ?_)⟩
  have := hk.1
  first
    | exact And.intro (by omega) (And.intro (by omega) (And.intro (by omega) hk.2))
    | exact And.intro (by omega) (And.intro (by omega) hk.2)
def FRG (F : Nat) (Q : St → Prop) (κ : St) : Prop := (¬ κ 231 12 = 0 → TT (f_X7_readText_J40 F 231 κ) Q) ∧ (κ 231 12 = 0 → (κ 231 10 = 3 → TT (f_X7_readText_J40 F 231 κ) Q) ∧ (¬ κ 231 10 = 3 → TT (f_X7_errs F 231 1 κ) (fun κ1 => TT (f_X7_readText_J40 F 231 κ1) Q)))
theorem txt_first {F : Nat} {κ : St} {Q : St → Prop} (h5 : κ 237 5 = 0) (h : TT (f_X7_readFirst F 231 κ) (FRG F Q)) : TT (f_X7_readText F 231 κ) Q := by
  unfold f_X7_readText
  simp only [tt_gt, tt_sg, tt_ite, tt_ck, tt_lk, tt_ix, tt_bo, tt_by, tt_nz, tt_ob, tt_st, tt_cpk, tt_c1, tt_c2, tt_ca, tt_cb, tt_some, kd_231, kd_0, Nat.reduceAdd, true_and, and_true, true_implies, not_true_eq_false, false_implies, not_false_eq_true, true_or, or_true, h5, e_good7]
  refine And.intro (by decide) ?_
  refine h.mono (fun κ6 h6 => ⟨fun z => h6.1 (fun y => ?_), fun z => h6.2 (Classical.byContradiction (fun y => z (if_neg y)))⟩)
  rw [if_pos y] at z
  exact absurd z (by decide)
theorem txt_next {F : Nat} {κ : St} {Q : St → Prop} (h5 : ¬ κ 237 5 = 0) (h : TT (f_X7_readNext F 231 κ) (FRG F Q)) : TT (f_X7_readText F 231 κ) Q := by
  unfold f_X7_readText
  simp only [tt_gt, tt_sg, tt_ite, tt_ck, tt_lk, tt_ix, tt_bo, tt_by, tt_nz, tt_ob, tt_st, tt_cpk, tt_c1, tt_c2, tt_ca, tt_cb, tt_some, kd_231, kd_0, Nat.reduceAdd, true_and, and_true, true_implies, not_true_eq_false, false_implies, not_false_eq_true, true_or, or_true, e_good7]
  refine And.intro (by decide) ⟨fun _ => ?_, fun y => absurd h5 y⟩
  refine h.mono (fun κ6 h6 => ⟨fun z => h6.1 (fun y => ?_), fun z => h6.2 (Classical.byContradiction (fun y => z (if_neg y)))⟩)
  rw [if_pos y] at z
  exact absurd z (by decide)
theorem frg_dead {F : Nat} {κ : St} {Q : St → Prop} (h : ¬ κ 231 12 = 0) (h5 : 0 ≤ κ 237 5 ∧ κ 237 5 ≤ 1000) (hQ : Q (lnS κ)) : FRG F Q κ := ⟨fun _ => ⟨_, dead_J40 h h5, hQ⟩, fun y => absurd y h⟩
def SgQ (T : Int → Int) (L : Int) (τ κ : St) (r : Int × St) (κ' : St) : Prop := Oc T L r κ' ∧ B6 τ r.2 ∧ C7 κ κ' ∧ κ' 237 = fun j => if j = 5 then κ 237 5 + 1 else κ 237 j
theorem JT.sign {F : Nat} {T : Int → Int} {L : Int} {τ κ : St} (hF : 1000 ≤ F) (h : JT T L τ κ) (h5 : 0 ≤ κ 237 5 ∧ κ 237 5 ≤ 900) : TT (f_X2_passSign F 1 τ) (fun r => (r.1 = 0 ∨ r.1 = 1) ∧ FRG F (SgQ T L τ κ r) κ) := by
  have g1 := h.jp.g1
  have ln : ∀ κ1 : St, (∀ x, x ≠ 231 → κ1 x = κ x) → lnS κ1 237 = fun j => if j = 5 then κ 237 5 + 1 else κ 237 j := fun κ1 o => by
    unfold lnS
    rw [up_eq, o 237 (by decide)]
  unfold f_X2_passSign FRG
  simp only [tt_gt, tt_sg, tt_ite, tt_ck, tt_lk, tt_ix, tt_bo, tt_by, tt_nz, tt_ob, tt_st, tt_cpk, tt_c1, tt_c2, tt_ca, tt_cb, tt_some, kd_231, kd_0, Nat.reduceAdd, true_and, and_true, true_implies, not_true_eq_false, false_implies, not_false_eq_true, true_or, or_true, show kdX 1 = 2 from rfl, h.ty, e_fail]
  refine ⟨fun z => (h.jp.adv hF).mono (fun τ' h1 => ⟨fun y => absurd g1 y, fun _ => ⟨fun _ => live_J40 g1 (h1.mono (fun κ' h2 => ⟨?_, Or.inl ⟨rfl, h2.1.mv rfl rfl E7.up⟩, h2.2.1.b, h2.2.2.b.c.tr E7.up.c, ln κ' h2.2.2.1⟩)), fun y => absurd z y⟩⟩), fun z => ⟨fun y => absurd g1 y, fun _ => ⟨fun y => absurd y z, fun _ => ⟨erS 1 κ, live_errs g1, lnS (erS 1 κ), dead_J40 ?_ ?_, Or.inr ⟨rfl, (h.fl (by decide)).e E7.up⟩, flS_b _ _, (erS_b _ _).c.tr E7.up.c, ln _ (erS_b _ _).1⟩⟩⟩⟩
  · rw [h2.2.2.1 237 (by decide)]; omega
  · rw [erS_12]; decide
  · rw [(erS_b 1 κ).1 237 (by decide)]; omega
theorem dead_c {F wd : Nat} {κ : St} {a b : Int} {P : Int × St → Prop} (hF : 1000 ≤ F) (hw : wd < 13) (h : ¬ κ 231 12 = 0) (hP : P (0, κ)) : TT (f_X7_toldBy F 231 wd a b κ) P := ⟨_, dead_told hF hw h, hP⟩
theorem told_i {F wd : Nat} {κ : St} {a b : Int} {P : Int × St → Prop} (hw : wd < 13) (h : TT (f_X7_expects F 231 wd κ) (fun κ1 => TT (f_X7_number F 231 a b κ1) P)) : TT (f_X7_toldBy F 231 wd a b κ) P := by
  unfold f_X7_toldBy
  simp only [tt_gt, tt_sg, tt_ite, tt_ck, tt_lk, tt_ix, tt_bo, tt_by, tt_nz, tt_ob, tt_st, tt_cpk, tt_c1, tt_c2, tt_ca, tt_cb, tt_some, kd_231, kd_0, Nat.reduceAdd, true_and, and_true, true_implies, not_true_eq_false, false_implies, not_false_eq_true, true_or, or_true, hw]
  exact h
theorem first_i {F : Nat} {κ : St} {P : St → Prop} (h : TT (f_X7_expects F 231 0 κ) (fun κ1 => TT (f_X7_toldBy F 231 1 2 32 κ1) (fun r => TT (f_X7_toldBy F 231 2 0 3 (z_up r.2 237 0 r.1)) (fun r => TT (f_X7_toldBy F 231 3 0 10 (z_up r.2 237 1 r.1)) (fun r => P (z_up r.2 237 2 r.1)))))) : TT (f_X7_readFirst F 231 κ) P := by
  unfold f_X7_readFirst
  simp only [tt_gt, tt_sg, tt_ite, tt_ck, tt_lk, tt_ix, tt_bo, tt_by, tt_nz, tt_ob, tt_st, tt_cpk, tt_c1, tt_c2, tt_ca, tt_cb, tt_some, kd_231, kd_0, Nat.reduceAdd, true_and, and_true, true_implies, not_true_eq_false, false_implies, not_false_eq_true, true_or, or_true]
  refine h.mono (fun κ1 h1 => h1.mono (fun r1 h2 => And.intro (by decide) (h2.mono (fun r2 h3 => And.intro (by decide) (h3.mono (fun r3 h4 => And.intro (by decide) h4))))))
theorem d3 {F : Nat} {κ : St} {P : St → Prop} (hF : 1000 ≤ F) (h : ¬ κ 231 12 = 0) (hP : P (z_up κ 237 2 0)) : TT (f_X7_toldBy F 231 3 0 10 κ) (fun r => P (z_up r.2 237 2 r.1)) := dead_c hF (by decide) h hP
theorem d2 {F : Nat} {κ : St} {P : St → Prop} (hF : 1000 ≤ F) (h : ¬ κ 231 12 = 0) (hP : P (z_up (z_up κ 237 1 0) 237 2 0)) : TT (f_X7_toldBy F 231 2 0 3 κ) (fun r => TT (f_X7_toldBy F 231 3 0 10 (z_up r.2 237 1 r.1)) (fun r => P (z_up r.2 237 2 r.1))) := dead_c hF (by decide) h (d3 hF (by rw [up_ne (by decide)]; exact h) hP)
theorem d1 {F : Nat} {κ : St} {P : St → Prop} (hF : 1000 ≤ F) (h : ¬ κ 231 12 = 0) (hP : P (z_up (z_up (z_up κ 237 0 0) 237 1 0) 237 2 0)) : TT (f_X7_toldBy F 231 1 2 32 κ) (fun r => TT (f_X7_toldBy F 231 2 0 3 (z_up r.2 237 0 r.1)) (fun r => TT (f_X7_toldBy F 231 3 0 10 (z_up r.2 237 1 r.1)) (fun r => P (z_up r.2 237 2 r.1)))) := dead_c hF (by decide) h (d2 hF (by rw [up_ne (by decide)]; exact h) hP)
def C6 (τ τ' : St) : Prop := (∀ x, x ≠ 1 → x ≠ 3 → x ≠ 7 → x ≠ 8 → x ≠ 9 → τ' x = τ x) ∧ ((∀ e, 0 ≤ e → e < 60 → 0 ≤ τ 8 e ∧ τ 8 e ≤ 8) → ∀ e, 0 ≤ e → e < 60 → 0 ≤ τ' 8 e ∧ τ' 8 e ≤ 8)
theorem C6.tr {a b c : St} (h : C6 a b) (h' : C6 b c) : C6 a c := ⟨fun x x1 x2 x3 x4 x5 => (h'.1 x x1 x2 x3 x4 x5).trans (h.1 x x1 x2 x3 x4 x5), fun y => h'.2 (h.2 y)⟩
theorem B6.c {τ τ' : St} (h : B6 τ τ') : C6 τ τ' := ⟨fun x x1 _ _ _ _ => h x x1, fun y => by rw [h 8 (by decide)]; exact y⟩
theorem c6_7 {τ : St} {j v : Int} : C6 τ (z_up τ 7 j v) := ⟨fun x _ _ x3 _ _ => up_ne x3, fun y => by rw [up_ne (by decide)]; exact y⟩
def TxQ (T : Int → Int) (L : Int) (τ : St) (κ : St) (n : Int) (r : Int × St) (κ' : St) : Prop := (Oc T L r κ') ∧ (C6 τ r.2) ∧ (C7 κ κ') ∧ (r.1 = 1 → WF (κ' 237) ∧ SR 7 r.2 (κ' 237) ∧ κ' 237 4 = 0 ∧ κ' 237 3 = n ∧ κ' 237 5 = n + 1)
theorem TxQ.oc {T : Int → Int} {L : Int} {τ : St} {κ : St} {n : Int} {r : Int × St} {κ' : St} (h : TxQ T L τ κ n r κ') : Oc T L r κ' := h.1
theorem TxQ.c6 {T : Int → Int} {L : Int} {τ : St} {κ : St} {n : Int} {r : Int × St} {κ' : St} (h : TxQ T L τ κ n r κ') : C6 τ r.2 := h.2.1
theorem TxQ.c7 {T : Int → Int} {L : Int} {τ : St} {κ : St} {n : Int} {r : Int × St} {κ' : St} (h : TxQ T L τ κ n r κ') : C7 κ κ' := h.2.2.1
theorem TxQ.ok {T : Int → Int} {L : Int} {τ : St} {κ : St} {n : Int} {r : Int × St} {κ' : St} (h : TxQ T L τ κ n r κ') : r.1 = 1 → WF (κ' 237) ∧ SR 7 r.2 (κ' 237) ∧ κ' 237 4 = 0 ∧ κ' 237 3 = n ∧ κ' 237 5 = n + 1 := h.2.2.2
theorem tx_dead {F : Nat} {T : Int → Int} {L n : Int} {τ κ τk κk κ6 : St} (hd : DD τk κk) (e : E7 κk κ6) (c6 : C6 τ τk) (c7 : C7 κ κk) (h5 : 0 ≤ κ6 237 5 ∧ κ6 237 5 ≤ 1000) : FRG F (TxQ T L τ κ n (0, τk)) κ6 :=
  frg_dead (hd.e e).kn h5 ⟨Or.inr ⟨rfl, (hd.e e).e E7.up⟩, c6, c7.tr (e.c.tr E7.up.c), fun y => absurd y (by dsimp only; decide)⟩
