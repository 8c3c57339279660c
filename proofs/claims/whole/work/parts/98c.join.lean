theorem TkS.u {T : Int → Int} {L p ty st en nu ty' st' en' nu' : Int} (h : TkS T L p ty st en 100000 nu) (h' : TkS T L p ty' st' en' 99999 nu') : ty = ty' ∧ st = st' ∧ en = en' ∧ p ≤ st' ∧ st' ≤ en' ∧ en' ≤ L ∧ (ty' = 2 → 0 ≤ nu ∧ (nu ≤ 99999 → nu' = nu) ∧ (¬ nu ≤ 99999 → nu' = 99999)) := by
  have e := h.1.u h'.1
  subst e
  have p1 := h.1.1
  have p2 := h.1.2.1
  by_cases q : st < L
  rotate_left
  · have a := h.2.1 q
    have b := h'.2.1 q
    refine ⟨by omega, rfl, by omega, by omega, by omega, by omega, fun y => absurd y (by omega)⟩
  have a := h.2.2 q
  have b := h'.2.2 q
  by_cases ql : ltP (T st)
  · have a1 := a.1 ql
    have b1 := b.1 ql
    have e := a1.2.u b1.2
    subst e
    exact ⟨by omega, rfl, rfl, p1, a1.2.1, a1.2.2.1, fun y => absurd y (by omega)⟩
  have a := a.2 ql
  have b := b.2 ql
  by_cases qd : dgP (T st)
  · have a1 := a.1 qd
    have b1 := b.1 qd
    have e := a1.2.1.u b1.2.1
    subst e
    have r := nm_rel (T := T) (st := st) (en - st).toNat (fun i i1 i2 => a1.2.1.2.2.1 i i1 (by omega))
    rw [← a1.2.2, ← b1.2.2] at r
    exact ⟨by omega, rfl, rfl, p1, a1.2.1.1, a1.2.1.2.1, fun _ => ⟨r.1.1, r.2.1, r.2.2⟩⟩
  have a := a.2 qd
  have b := b.2 qd
  by_cases q9 : T st = 59
  · have a1 := a.1 q9
    have b1 := b.1 q9
    exact ⟨by omega, rfl, by omega, p1, by omega, by omega, fun y => absurd y (by omega)⟩
  · have a1 := a.2 q9
    have b1 := b.2 q9
    exact ⟨by omega, rfl, by omega, p1, by omega, by omega, fun y => absurd y (by omega)⟩
def JP (T : Int → Int) (L : Int) (τ : St) (κ : St) : Prop := (0 ≤ L ∧ L ≤ 700) ∧ (τ 1 0 = L) ∧ (κ 231 7 = L) ∧ (∀ i, 0 ≤ i → i < L → τ 2 i = T i ∧ κ 235 i = T i ∧ -128 ≤ T i ∧ T i < 128) ∧ (τ 1 7 = κ 231 8) ∧ (0 ≤ κ 231 8 ∧ κ 231 8 ≤ L) ∧ (τ 1 1 = 0) ∧ (τ 1 2 = -1) ∧ (κ 231 12 = 0) ∧ (κ 231 13 = -1)
theorem JP.l0 {T : Int → Int} {L : Int} {τ : St} {κ : St} (h : JP T L τ κ) : 0 ≤ L ∧ L ≤ 700 := h.1
theorem JP.c0 {T : Int → Int} {L : Int} {τ : St} {κ : St} (h : JP T L τ κ) : τ 1 0 = L := h.2.1
theorem JP.m0 {T : Int → Int} {L : Int} {τ : St} {κ : St} (h : JP T L τ κ) : κ 231 7 = L := h.2.2.1
theorem JP.tp {T : Int → Int} {L : Int} {τ : St} {κ : St} (h : JP T L τ κ) : ∀ i, 0 ≤ i → i < L → τ 2 i = T i ∧ κ 235 i = T i ∧ -128 ≤ T i ∧ T i < 128 := h.2.2.2.1
theorem JP.en {T : Int → Int} {L : Int} {τ : St} {κ : St} (h : JP T L τ κ) : τ 1 7 = κ 231 8 := h.2.2.2.2.1
theorem JP.rg {T : Int → Int} {L : Int} {τ : St} {κ : St} (h : JP T L τ κ) : 0 ≤ κ 231 8 ∧ κ 231 8 ≤ L := h.2.2.2.2.2.1
theorem JP.f1 {T : Int → Int} {L : Int} {τ : St} {κ : St} (h : JP T L τ κ) : τ 1 1 = 0 := h.2.2.2.2.2.2.1
theorem JP.f2 {T : Int → Int} {L : Int} {τ : St} {κ : St} (h : JP T L τ κ) : τ 1 2 = -1 := h.2.2.2.2.2.2.2.1
theorem JP.g1 {T : Int → Int} {L : Int} {τ : St} {κ : St} (h : JP T L τ κ) : κ 231 12 = 0 := h.2.2.2.2.2.2.2.2.1
theorem JP.g2 {T : Int → Int} {L : Int} {τ : St} {κ : St} (h : JP T L τ κ) : κ 231 13 = -1 := h.2.2.2.2.2.2.2.2.2
def JT (T : Int → Int) (L : Int) (τ : St) (κ : St) : Prop := (JP T L τ κ) ∧ (τ 1 5 = κ 231 10) ∧ (τ 1 6 = κ 231 9) ∧ (0 ≤ κ 231 9 ∧ κ 231 9 ≤ κ 231 8) ∧ (κ 231 10 = 2 → 0 ≤ τ 1 8 ∧ (τ 1 8 ≤ 99999 → κ 231 11 = τ 1 8) ∧ (¬ τ 1 8 ≤ 99999 → κ 231 11 = 99999))
theorem JT.jp {T : Int → Int} {L : Int} {τ : St} {κ : St} (h : JT T L τ κ) : JP T L τ κ := h.1
theorem JT.ty {T : Int → Int} {L : Int} {τ : St} {κ : St} (h : JT T L τ κ) : τ 1 5 = κ 231 10 := h.2.1
theorem JT.st {T : Int → Int} {L : Int} {τ : St} {κ : St} (h : JT T L τ κ) : τ 1 6 = κ 231 9 := h.2.2.1
theorem JT.rs {T : Int → Int} {L : Int} {τ : St} {κ : St} (h : JT T L τ κ) : 0 ≤ κ 231 9 ∧ κ 231 9 ≤ κ 231 8 := h.2.2.2.1
theorem JT.nu {T : Int → Int} {L : Int} {τ : St} {κ : St} (h : JT T L τ κ) : κ 231 10 = 2 → 0 ≤ τ 1 8 ∧ (τ 1 8 ≤ 99999 → κ 231 11 = τ 1 8) ∧ (¬ τ 1 8 ≤ 99999 → κ 231 11 = 99999) := h.2.2.2.2
theorem JP.adv {F : Nat} {T : Int → Int} {L : Int} {τ κ : St} (hF : 1000 ≤ F) (h : JP T L τ κ) : TT (f_X2_advance F 1 τ) (fun τ' => TT (f_X7_advance F 231 κ) (fun κ' => JT T L τ' κ' ∧ A6 τ τ' ∧ A7 κ κ')) := by
  refine (adv6 hF h.l0 h.c0 (fun i i1 i2 => (h.tp i i1 i2).1) (by rw [h.en]; exact h.rg)).mono (fun τ' h1 => ?_)
  refine (adv7 hF h.l0 h.m0 (fun i i1 i2 => (h.tp i i1 i2).2) h.rg).mono (fun κ' h2 => ?_)
  obtain ⟨a, t⟩ := h1
  obtain ⟨b, t'⟩ := h2
  rw [h.en] at t
  have u := t.u t'
  have r := h.rg
  refine ⟨⟨⟨h.l0, ?_, ?_, fun i i1 i2 => ?_, u.2.2.1, by omega, ?_, ?_, ?_, ?_⟩, u.1, u.2.1, by omega, u.2.2.2.2.2.2⟩, a, b⟩
  · rw [a.2 0 (by decide) (by decide) (by decide) (by decide)]; exact h.c0
  · rw [b.2 7 (by decide) (by decide) (by decide) (by decide)]; exact h.m0
  · rw [a.1 2 (by decide), b.1 235 (by decide)]; exact h.tp i i1 i2
  · rw [a.2 1 (by decide) (by decide) (by decide) (by decide)]; exact h.f1
  · rw [a.2 2 (by decide) (by decide) (by decide) (by decide)]; exact h.f2
  · rw [b.2 12 (by decide) (by decide) (by decide) (by decide)]; exact h.g1
  · rw [b.2 13 (by decide) (by decide) (by decide) (by decide)]; exact h.g2
def wl (wd : Nat) : Int := ((slX.getD wd 0 : Nat) : Int)
def wc (wd : Nat) (i : Int) : Int := z_i2c (z_and (z_sb wd i) 255)
theorem wl_r : ∀ wd : Nat, wd < 13 → 0 < wl wd ∧ wl wd ≤ 6 ∧ z_shr ((slX.getD wd 0 : Nat) : Int) 0 = wl wd := by decide +kernel
theorem wc_r : ∀ wd : Nat, wd < 13 → ∀ i : Nat, i < 6 → 0 ≤ wc wd i ∧ wc wd i < 65536 := by decide +kernel
theorem e_len {F wd : Nat} {σ : St} (h : wd < 13) : f_J0_length_8abf5 F wd σ = some (wl wd) := by
  apply TT.eq
  unfold f_J0_length_8abf5 f_J0_coder_7d493
  simp only [tt_gt, tt_sg, tt_ite, tt_ck, tt_lk, tt_ix, tt_bo, tt_by, tt_nz, tt_ob, tt_st, tt_cpk, tt_c1, tt_c2, tt_ca, tt_cb, tt_some, kd_231, kd_0, Nat.reduceAdd, true_and, and_true, true_implies, not_true_eq_false, false_implies, not_false_eq_true, true_or, or_true, h]
  exact ⟨fun y => absurd y (by decide), fun _ => And.intro (by decide) (wl_r wd h).2.2⟩
theorem e_lat {F wd : Nat} {σ : St} (h : wd < 13) : f_J0_isLatin1_aae02 F wd σ = some 1 := by
  apply TT.eq
  unfold f_J0_isLatin1_aae02
  simp only [tt_gt, tt_sg, tt_ite, tt_ck, tt_lk, tt_ix, tt_bo, tt_by, tt_nz, tt_ob, tt_st, tt_cpk, tt_c1, tt_c2, tt_ca, tt_cb, tt_some, kd_231, kd_0, Nat.reduceAdd, true_and, and_true, true_implies, not_true_eq_false, false_implies, not_false_eq_true, true_or, or_true, h]
  exact ⟨fun y => absurd y (by decide), fun _ => trivial⟩
theorem e_cki {F : Nat} {σ : St} {i n : Int} (h : 0 ≤ i ∧ i < n) : f_J0_checkIndex_df160 F i n σ = some () := by
  unfold f_J0_checkIndex_df160 f_J3_checkIndex_8e157
  rw [if_neg (by omega), if_pos h.2]
  rfl
theorem e_c1 {F wd : Nat} {σ : St} {i : Int} (h : wd < 13) (i1 : 0 ≤ i) (i2 : i < wl wd) : f_J1_charAt_3b067 F wd i σ = some (wc wd i) := by
  have hl := wl_r wd h
  have hc := wc_r wd h i.toNat (by omega)
  rw [show ((i.toNat : Nat) : Int) = i by omega] at hc
  have i3 : i < ((slX.getD wd 0 : Nat) : Int) := i2
  apply TT.eq
  unfold f_J1_charAt_3b067
  simp only [tt_gt, tt_sg, tt_ite, tt_ck, tt_lk, tt_ix, tt_bo, tt_by, tt_nz, tt_ob, tt_st, tt_cpk, tt_c1, tt_c2, tt_ca, tt_cb, tt_some, kd_231, kd_0, Nat.reduceAdd, true_and, and_true, true_implies, not_true_eq_false, false_implies, not_false_eq_true, true_or, or_true, h, e_cki (F := F) (σ := σ) ⟨i1, i3⟩]
  exact And.intro ⟨i1, i3⟩ (And.intro hc rfl)
theorem e_char {F wd : Nat} {σ : St} {i : Int} (h : wd < 13) (i1 : 0 ≤ i) (i2 : i < wl wd) : f_J0_charAt_5068e F wd i σ = some (wc wd i) := by
  have hl := wl_r wd h
  have hc := wc_r wd h i.toNat (by omega)
  rw [show ((i.toNat : Nat) : Int) = i by omega] at hc
  apply TT.eq
  unfold f_J0_charAt_5068e
  simp only [tt_gt, tt_sg, tt_ite, tt_ck, tt_lk, tt_ix, tt_bo, tt_by, tt_nz, tt_ob, tt_st, tt_cpk, tt_c1, tt_c2, tt_ca, tt_cb, tt_some, kd_231, kd_0, Nat.reduceAdd, true_and, and_true, true_implies, not_true_eq_false, false_implies, not_false_eq_true, true_or, or_true, h, e_lat (F := F) (σ := σ) h, e_c1 (F := F) (σ := σ) h i1 i2]
  exact ⟨fun y => absurd y (by decide), fun _ => hc⟩
def WdP (T : Int → Int) (ty st en : Int) (wd : Nat) : Prop := ty = 1 ∧ en - st = wl wd ∧ ∀ i, 0 ≤ i → i < wl wd → T (st + i) = wc wd i
theorem e_good7 {F : Nat} {κ : St} : f_X7_good F 231 κ = some (if κ 231 12 = 0 then 1 else 0) := by
  apply TT.eq
  unfold f_X7_good
  simp only [tt_gt, tt_sg, tt_ite, tt_ck, tt_lk, tt_ix, tt_bo, tt_by, tt_nz, tt_ob, tt_st, tt_cpk, tt_c1, tt_c2, tt_ca, tt_cb, tt_some, kd_231, kd_0, Nat.reduceAdd, true_and, and_true, true_implies, not_true_eq_false, false_implies, not_false_eq_true, true_or, or_true]
  exact ⟨fun z => by rw [if_neg z], fun z => by rw [if_pos (Classical.byContradiction z)]⟩
theorem JT.is6 {F wd : Nat} {T : Int → Int} {L : Int} {τ κ : St} (hF : 1000 ≤ F) (h : JT T L τ κ) (hw : wd < 13) : TT (f_X2_isWord F 1 wd τ) (fun b => (b = 1 ∧ WdP T (κ 231 10) (κ 231 9) (κ 231 8) wd) ∨ (b = 0 ∧ ¬ WdP T (κ 231 10) (κ 231 9) (κ 231 8) wd)) := by
  have hl := wl_r wd hw
  have j := h.jp
  have r1 := j.rg
  have r2 := h.rs
  have l0 := j.l0
  unfold f_X2_isWord
  simp only [tt_gt, tt_sg, tt_ite, tt_ck, tt_lk, tt_ix, tt_bo, tt_by, tt_nz, tt_ob, tt_st, tt_cpk, tt_c1, tt_c2, tt_ca, tt_cb, tt_some, kd_231, kd_0, Nat.reduceAdd, true_and, and_true, true_implies, not_true_eq_false, false_implies, not_false_eq_true, true_or, or_true, show kdX 1 = 2 from rfl, hw, h.ty, h.st, j.en, e_len (F := F) (σ := τ) hw]
  refine ⟨fun z => Or.inr (fun y => z y.1), fun z => And.intro (by omega) ⟨fun z2 => ?_, fun z2 => Or.inr (fun y => z2 y.2.1)⟩⟩
  refine lp_w (L := fun n (p : Int) => f_X2_isWord_L28 F 1 wd τ n p) (fun m p => 0 ≤ p ∧ p + m = wl wd ∧ ∀ i, 0 ≤ i → i < p → T (κ 231 9 + i) = wc wd i) (fun m n p hI ih => ?_) (wl wd).toNat F 0 (by omega) ⟨by omega, by omega, fun i i1 i2 => absurd i2 (by omega)⟩
  obtain ⟨i1, i2, i3⟩ := hI
  rw [f_X2_isWord_L28]
  simp only [tt_gt, tt_sg, tt_ite, tt_ck, tt_lk, tt_ix, tt_bo, tt_by, tt_nz, tt_ob, tt_st, tt_cpk, tt_c1, tt_c2, tt_ca, tt_cb, tt_some, kd_231, kd_0, Nat.reduceAdd, true_and, and_true, true_implies, not_true_eq_false, false_implies, not_false_eq_true, true_or, or_true, h.st, e_len (F := F) (σ := τ) hw]
  refine ⟨fun y => Or.inl ⟨Classical.byContradiction z, z2, fun i k1 k2 => i3 i k1 (by omega)⟩, fun y => And.intro (by omega) ?_⟩
  rw [e_byte (F := F) (x := κ 231 9 + p) l0.2 j.c0 (fun i i1 i2 => (j.tp i i1 i2).1) (by omega) (by omega), e_char hw i1 (by omega)]
  simp only [tt_some]
  refine ⟨fun y2 => And.intro (by omega) (ih (m - 1) (p + 1) (by omega) ⟨by omega, by omega, fun i k1 k2 => ?_⟩), fun y2 => Or.inr (fun u => y2 (u.2.2 p i1 (by omega)))⟩
  by_cases u : i = p
  · rw [u]; exact y2
  · exact i3 i k1 (by omega)
theorem JT.is7 {F wd : Nat} {T : Int → Int} {L : Int} {τ κ : St} (hF : 1000 ≤ F) (h : JT T L τ κ) (hw : wd < 13) : TT (f_X7_is F 231 wd κ) (fun b => (b = 1 ∧ WdP T (κ 231 10) (κ 231 9) (κ 231 8) wd) ∨ (b = 0 ∧ ¬ WdP T (κ 231 10) (κ 231 9) (κ 231 8) wd)) := by
  have hl := wl_r wd hw
  have j := h.jp
  have r1 := j.rg
  have r2 := h.rs
  have l0 := j.l0
  have z0 : ¬ WdP T (κ 231 10) (κ 231 9) (κ 231 8) wd → TT (f_X7_is_L39 F 231 wd κ F 0 0) (fun b => (b = 1 ∧ WdP T (κ 231 10) (κ 231 9) (κ 231 8) wd) ∨ (b = 0 ∧ ¬ WdP T (κ 231 10) (κ 231 9) (κ 231 8) wd)) := fun q => by
    obtain ⟨f, rfl⟩ : ∃ f, F = f + 1 := ⟨F - 1, by omega⟩
    rw [f_X7_is_L39]
    simp only [tt_gt, tt_sg, tt_ite, tt_ck, tt_lk, tt_ix, tt_bo, tt_by, tt_nz, tt_ob, tt_st, tt_cpk, tt_c1, tt_c2, tt_ca, tt_cb, tt_some, kd_231, kd_0, Nat.reduceAdd, true_and, and_true, true_implies, not_true_eq_false, false_implies, not_false_eq_true, true_or, or_true, e_len (F := f + 1) (σ := κ) hw]
    exact ⟨fun y => absurd y (by omega), fun _ => Or.inr q⟩
  unfold f_X7_is
  simp only [tt_gt, tt_sg, tt_ite, tt_ck, tt_lk, tt_ix, tt_bo, tt_by, tt_nz, tt_ob, tt_st, tt_cpk, tt_c1, tt_c2, tt_ca, tt_cb, tt_some, kd_231, kd_0, Nat.reduceAdd, true_and, and_true, true_implies, not_true_eq_false, false_implies, not_false_eq_true, true_or, or_true, hw, e_good7, j.g1, if_true, e_len (F := F) (σ := κ) hw]
  refine ⟨fun y => absurd y (by decide), fun _ => ⟨fun z => z0 (fun y => z y.1), fun z => And.intro (by omega) ⟨fun z2 => z0 (fun y => z2 y.2.1), fun z2 => ?_⟩⟩⟩
  refine lp_w (L := fun n (p : Int × Int) => f_X7_is_L39 F 231 wd κ n p.1 p.2) (fun m p => 0 ≤ p.2 ∧ p.2 + m = wl wd ∧ ((p.1 = 1 ∧ ∀ i, 0 ≤ i → i < p.2 → T (κ 231 9 + i) = wc wd i) ∨ (p.1 = 0 ∧ ¬ WdP T (κ 231 10) (κ 231 9) (κ 231 8) wd))) (fun m n p hI ih => ?_) (wl wd).toNat F (1, 0) (by omega) ⟨by dsimp only; omega, by dsimp only; omega, Or.inl ⟨rfl, fun i i1 i2 => absurd i2 (by dsimp only; omega)⟩⟩
  obtain ⟨b, p⟩ := p
  dsimp only at hI ih ⊢
  obtain ⟨i1, i2, i3⟩ := hI
  rw [f_X7_is_L39]
  simp only [tt_gt, tt_sg, tt_ite, tt_ck, tt_lk, tt_ix, tt_bo, tt_by, tt_nz, tt_ob, tt_st, tt_cpk, tt_c1, tt_c2, tt_ca, tt_cb, tt_some, kd_231, kd_0, Nat.reduceAdd, true_and, and_true, true_implies, not_true_eq_false, false_implies, not_false_eq_true, true_or, or_true, e_len (F := F) (σ := κ) hw]
  rcases i3 with i3 | i3
  rotate_left
  · rw [i3.1]
    exact ⟨fun _ => And.intro (Or.inl rfl) (Or.inr ⟨rfl, i3.2⟩), fun _ => ⟨fun _ => And.intro (Or.inl rfl) (Or.inr ⟨rfl, i3.2⟩), fun y => absurd rfl y⟩⟩
  · obtain ⟨rfl, i3⟩ := i3
    refine ⟨fun y => And.intro (Or.inr rfl) (Or.inl ⟨rfl, Classical.byContradiction z, Classical.byContradiction z2, fun i k1 k2 => i3 i k1 (by omega)⟩), fun y => ⟨fun y2 => absurd y2 (by decide), fun _ => And.intro (by omega) (And.intro (by omega) ?_)⟩⟩
    have z2' : κ 231 8 - κ 231 9 = wl wd := Classical.byContradiction z2
    rw [(j.tp (κ 231 9 + p) (by omega) (by omega)).2.1, e_char hw i1 (by omega)]
    simp only [tt_some]
    refine ⟨fun y2 => And.intro (by omega) (ih (m - 1) (0, p + 1) (by omega) ⟨by dsimp only; omega, by dsimp only; omega, Or.inr ⟨rfl, fun u => y2 (u.2.2 p i1 (by omega))⟩⟩), fun y2 => And.intro (by omega) (ih (m - 1) (1, p + 1) (by omega) ⟨by dsimp only; omega, by dsimp only; omega, Or.inl ⟨rfl, fun i k1 k2 => ?_⟩⟩)⟩
    dsimp only at k2
    by_cases u : i = p
    · rw [u]; exact Classical.byContradiction y2
    · exact i3 i k1 (by omega)
