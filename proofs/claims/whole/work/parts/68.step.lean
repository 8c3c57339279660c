theorem sc_247 {l : Int} {t n : Nat} {μ : St} (hS : Sok μ) (h : ∀ c, 0 ≤ c → c < 32 → μ 248 (32 * μ 231 29 + c) = -1 → μ 247 (32 * μ 231 29 + c) = 0) : ∀ c, 0 ≤ c → c < 32 → scS l t n μ 247 (32 * μ 231 29 + c) = μ 247 (32 * μ 231 29 + c) := by
  have k := (sc_keep (l := l) (e := t) (Q := fun τ => τ 231 = μ 231 ∧ τ 232 = μ 232 ∧ (∀ c, 0 ≤ c → c < 32 → τ 247 (32 * μ 231 29 + c) = μ 247 (32 * μ 231 29 + c)) ∧ ∀ c, 0 ≤ c → c < 32 → τ 248 (32 * μ 231 29 + c) = -1 → μ 248 (32 * μ 231 29 + c) = -1) (fun τ c s1 hq c1 c2 hl => ?_) n μ hS ⟨rfl, rfl, fun _ _ _ => rfl, fun _ _ _ z => z⟩).2
  · exact k.2.2.1
  · obtain ⟨q1, q2, q3, q4⟩ := hq
    refine ⟨(kp_ne (by decide) (by decide) (by decide) (by decide)).trans q1, (kp_ne (by decide) (by decide) (by decide) (by decide)).trans q2, fun d d1 d2 => ?_, fun d d1 d2 => ?_⟩
    · rw [kp_247, q1]
      by_cases z : d = c
      · rw [if_pos (by omega)]
        have h3 := hl.2
        rw [q1] at h3
        rw [z]
        exact (h c c1 (by have := s1.2.1; omega) (q4 c c1 (by have := s1.2.1; omega) h3)).symm
      · rw [if_neg (by omega)]; exact q3 d d1 d2
    · rw [kp_248, q1]
      by_cases z : d = c
      · rw [if_pos (by omega)]; omega
      · rw [if_neg (by omega)]; exact q4 d d1 d2
theorem RunR.m250 {b : Nat} {w0 l : Int} {t : Nat} {μ σ : St} {j v : Int} (h : RunR b w0 l t μ σ) : RunR b w0 l t (z_up μ 250 j v) σ := by
  have e : ∀ x, x ≠ 250 → z_up μ 250 j v x = μ x := fun x h => up_ne h
  have hdir : ∀ (m : Nat) (s : Int), dirR (z_up μ 250 j v) m s = dirR μ m s := fun m s => dirR_same m (fun k _ => by rw [e 242 (by decide), e 243 (by decide), e 244 (by decide)]; exact ⟨rfl, rfl, rfl⟩)
  refine ⟨by rw [e 239 (by decide)]; exact h.bd, h.n8, h.n9, by rw [e 231 (by decide)]; exact h.cn, by rw [e 231 (by decide)]; exact h.op, ?_, h.dr, fun c c1 c2 => ?_, by rw [e 240 (by decide)]; exact h.la, by rw [e 240 (by decide)]; exact h.cb, fun k k1 k2 => ?_, fun k k1 k2 => ?_⟩
  · rw [e 231 (by decide), hwR_same _ (fun k _ => by rw [e 243 (by decide)])]; exact h.aw
  · rw [h.dt c c1 c2]
    unfold drt baseR
    rw [hdir, e 231 (by decide), e 240 (by decide)]
  · rw [e 231 (by decide)] at k2
    have hc := h.cc k k1 k2
    exact ⟨by rw [e 245 (by decide)]; exact hc.sz, hc.wr, hc.hr, by rw [e 246 (by decide)]; exact hc.wt, by rw [e 248 (by decide)]; exact hc.hd, by rw [e 248 (by decide), e 239 (by decide), e 242 (by decide)]; exact hc.ct, by rw [e 245 (by decide), e 249 (by decide)]; exact hc.tn⟩
  · rw [e 231 (by decide)] at k2
    have hc := h.cd k k1 k2
    exact ⟨by rw [e 241 (by decide)]; exact hc.fl, by rw [e 242 (by decide)]; exact hc.mk1, by rw [e 243 (by decide)]; exact hc.st, by rw [e 244 (by decide)]; exact hc.en, hc.rr, by rw [e 247 (by decide)]; exact hc.rs⟩
theorem scan_cr {F b : Nat} {w0 l n : Int} {t : Nat} {μ σ : St} (hF : 100 ≤ F) (hb : b = 12 ∨ b = 110) (hw : μ 232 0 = w0) (hw2 : 0 ≤ w0 ∧ w0 ≤ 32) (hl : 0 ≤ l ∧ l ≤ 3) (ht : t < 60) (hre : σ b 1 = t + 1) (hn : 0 ≤ n ∧ n ≤ 32) (hM : MI0 w0 t μ) (h30 : μ 231 28 ≤ 30) (ho : μ 231 29 ≠ -1) (hS : Sok μ) (hL : Lv w0 t μ) (hv : Vs t μ) (hc : ∀ c, 0 ≤ c → c < 32 → μ 240 (32 * t + c) = 0) (h : RunR b w0 l t μ σ) : TT (f_X3_keepNext F b n σ) (fun σ' => RunR b w0 l (t + 1) (scS l t n.toNat μ) σ' ∧ Fb b σ σ' ∧ (∀ j, σ' b j = σ b j) ∧ ∀ c, 0 ≤ c → c < 32 → scS l t n.toNat μ 247 (32 * μ 231 29 + c) = μ 247 (32 * μ 231 29 + c)) := by
  have ho2 := hM.op.resolve_left ho
  have hK := kd_cpb hb (k := μ 231 29) ⟨ho2.2, by omega⟩
  have md := sc_mid (l := l) (t := t) (w0 := w0) (n := n.toNat) (μ := μ) hS hw
  have mo : ∀ x, x ≠ 245 → x ≠ 247 → x ≠ 248 → x ≠ 249 → scS l t n.toNat μ x = μ x := md.oth
  have e31 := mo 231 (by decide) (by decide) (by decide) (by decide)
  have e41 := mo 241 (by decide) (by decide) (by decide) (by decide)
  have e42 := mo 242 (by decide) (by decide) (by decide) (by decide)
  have e43 := mo 243 (by decide) (by decide) (by decide) (by decide)
  have e44 := mo 244 (by decide) (by decide) (by decide) (by decide)
  have hH : Hs t μ (scS l t n.toNat μ) := Hs.mid hM md
  have h47 := sc_247 (l := l) (t := t) (n := n.toNat) (μ := μ) hS (fun c c1 c2 z => by
    rcases (hM.cp _ ho2.2 (by omega)).kb c c1 c2 with y | y
    · exact y.2
    · have := (hM.cp _ ho2.2 (by omega)).mrk
      omega)
  refine (knext_ok (F := F) (b := b) (w0 := w0) (l := l) (t := t) (n := n) (μ := μ) (σ := σ) hF (kd_run hb).1 (kd_run hb).2.1 hK rfl ⟨ho2.2, by rw [h.cn]; omega, by rw [h.cn]; exact h30⟩ h.op hw hw2 h.n8 h.n9 hl ht hre h.bd h.cb hn (h.cc _ ho2.2 (by omega)) hS hL).mono (fun σ' h1 => ?_)
  obtain ⟨g1, g2⟩ := h1
  rw [e31] at g2
  have ao : ∀ x, x ≠ b + 7 + 1 + 3 * (μ 231 29).toNat → x ≠ b + 7 + 1 + 3 * (μ 231 29).toNat + 1 → x ≠ b + 7 + 1 + 3 * (μ 231 29).toNat + 2 → σ' x = σ x := g1.oth
  have hcc : ∀ k, 0 ≤ k → k < μ 231 28 → CC (b + 7 + 1 + 3 * k.toNat) k (scS l t n.toNat μ) σ' := fun k k1 k2 => by
    by_cases q : k = μ 231 29
    · rw [q]; exact g2
    · exact (CC.hs hM hH ⟨k1, k2⟩ q (h.cc k k1 k2)).mv (ao _ (by omega) (by omega) (by omega)) (ao _ (by omega) (by omega) (by omega)) (ao _ (by omega) (by omega) (by omega))
  have hcd : ∀ k, 0 ≤ k → k < μ 231 28 → CD (b + 7 + 1 + 3 * k.toNat) k (scS l t n.toNat μ) σ' := fun k k1 k2 => by
    by_cases q : k = μ 231 29
    · rw [q]
      have hd := (h.cd _ ho2.2 (by omega)).mv (σ' := σ') g1.slo
      exact ⟨by rw [e41]; exact hd.fl, by rw [e42]; exact hd.mk1, by rw [e43]; exact hd.st, by rw [e44]; exact hd.en, hd.rr, fun c c1 c2 => by rw [h47 c c1 c2]; exact hd.rs c c1 c2⟩
    · exact (CD.hs hH ⟨k1, k2⟩ q (h.cd k k1 k2)).mv (fun j _ _ => by rw [ao _ (by omega) (by omega) (by omega)])
  have hrun : ∀ x, x ≤ b + 7 → σ' x = σ x := fun x hx => ao x (by omega) (by omega) (by omega)
  refine ⟨?_, g1.fb (by omega), fun j => by rw [hrun b (by omega)], h47⟩
  have hmid : RunR b w0 l (t + 1) (scS l t n.toNat μ) σ' := by
    have e39 := mo 239 (by decide) (by decide) (by decide) (by decide)
    have e40 := mo 240 (by decide) (by decide) (by decide) (by decide)
    have hla : ∀ c, 0 ≤ c → c < 32 → latR (μ 240) c (t + 1) = latR (μ 240) c t := fun c c1 c2 => by
      rw [latR, if_pos (hc c c1 c2)]
    have hbs : baseR (scS l t n.toNat μ) ((t + 1 : Nat) : Int) = baseR μ t := by
      rw [← base_next hM]
      unfold baseR
      rw [e31]
      exact dirR_same _ (fun k hk => by rw [e42, e43, e44]; exact ⟨rfl, rfl, rfl⟩)
    refine ⟨⟨by rw [hrun _ (by omega)]; exact h.bd.1, fun c c1 c2 => ?_⟩, by rw [hrun _ (by omega)]; exact h.n8, by rw [hrun _ (by omega)]; exact h.n9, by rw [hrun _ (by omega), e31]; exact h.cn, by rw [hrun _ (by omega), e31]; exact h.op, ?_, by rw [hrun _ (by omega)]; exact h.dr, fun c c1 c2 => ?_, fun c c1 c2 => ?_, fun e he1 he2 c c1 c2 => ?_, by rw [e31]; exact hcc, by rw [e31]; exact hcd⟩
    · rw [hrun _ (by omega), h.bd.2 c c1 c2, e39]
      dsimp only
      rw [hv c c1 c2 (hc c c1 c2)]
    · rw [hrun _ (by omega), e31, hwR_same _ (fun k _ => by rw [e43])]; exact h.aw
    · rw [hrun _ (by omega), h.dt c c1 c2]
      unfold drt
      rw [e40, hla c c1 c2, hbs]
    · rw [hrun _ (by omega), e40, hla c c1 (by omega)]; exact h.la c c1 c2
    · rw [hrun _ (by omega), h.cb e he1 he2 c c1 c2, e40]
      constructor
      · exact fun z => ⟨by omega, z.2⟩
      · refine fun z => ⟨?_, z.2⟩
        apply Classical.byContradiction
        intro q
        have : e = t := by omega
        rw [this] at z
        exact z.2 (hc c c1 c2)
  exact hmid
def StP (b : Nat) (w0 l : Int) (t : Nat) (μ' σ σ' : St) : Prop := (RunR b w0 l (t + 1) μ' σ') ∧ (Fb b σ σ') ∧ (σ' b 1 = t + 1) ∧ (σ' b 5 = μ' 250 t) ∧ (iR (σ' b 6)) ∧ (∀ c, 0 ≤ c → c < 32 → (bt (σ' b 6) c ↔ μ' 240 (32 * t + c) ≠ 0)) ∧ (iR (σ' b 7)) ∧ (∀ c, 0 ≤ c → c < 32 → (bt (σ' b 7) c ↔ ∃ k, 0 ≤ k ∧ k < μ' 231 28 ∧ μ' 247 (32 * k + c) ≠ 0 ∧ μ' 248 (32 * k + c) = t))
theorem StP.cr {b : Nat} {w0 l : Int} {t : Nat} {μ' σ σ' : St} (h : StP b w0 l t μ' σ σ') : RunR b w0 l (t + 1) μ' σ' := h.1
theorem StP.fb {b : Nat} {w0 l : Int} {t : Nat} {μ' σ σ' : St} (h : StP b w0 l t μ' σ σ') : Fb b σ σ' := h.2.1
theorem StP.s1 {b : Nat} {w0 l : Int} {t : Nat} {μ' σ σ' : St} (h : StP b w0 l t μ' σ σ') : σ' b 1 = t + 1 := h.2.2.1
theorem StP.s5 {b : Nat} {w0 l : Int} {t : Nat} {μ' σ σ' : St} (h : StP b w0 l t μ' σ σ') : σ' b 5 = μ' 250 t := h.2.2.2.1
theorem StP.r6 {b : Nat} {w0 l : Int} {t : Nat} {μ' σ σ' : St} (h : StP b w0 l t μ' σ σ') : iR (σ' b 6) := h.2.2.2.2.1
theorem StP.c6 {b : Nat} {w0 l : Int} {t : Nat} {μ' σ σ' : St} (h : StP b w0 l t μ' σ σ') : ∀ c, 0 ≤ c → c < 32 → (bt (σ' b 6) c ↔ μ' 240 (32 * t + c) ≠ 0) := h.2.2.2.2.2.1
theorem StP.r7 {b : Nat} {w0 l : Int} {t : Nat} {μ' σ σ' : St} (h : StP b w0 l t μ' σ σ') : iR (σ' b 7) := h.2.2.2.2.2.2.1
theorem StP.c7 {b : Nat} {w0 l : Int} {t : Nat} {μ' σ σ' : St} (h : StP b w0 l t μ' σ σ') : ∀ c, 0 ≤ c → c < 32 → (bt (σ' b 7) c ↔ ∃ k, 0 ≤ k ∧ k < μ' 231 28 ∧ μ' 247 (32 * k + c) ≠ 0 ∧ μ' 248 (32 * k + c) = t) := h.2.2.2.2.2.2.2
theorem step_ok {F b : Nat} {w g : Int → Int} {l : Int} {t : Nat} {α σ : St} (hF : 100 ≤ F) (hb : b = 12 ∨ b = 110) (hw : WF w) (hSR : SR 4 σ w) (ht : (t : Int) < evN w) (hg : g t = 0) (hl : 0 ≤ l ∧ l ≤ 3) (hA : Gd w g (t + 1) α) (h : RunR b (w 0) l t (ItG F l t α) σ) : TT (f_X3_step F b 4 t σ) (StP b (w 0) l t (ItG F l (t + 1) α) σ) := by
  have h60 := hw.ev60
  have kr := kd_run hb
  have hw2 : 0 ≤ w 0 ∧ w 0 ≤ 32 := ⟨hw.1.1, hw.1.2.1⟩
  have hle := hA.le
  have hA0 := hA.dn (s := t) (by omega)
  obtain ⟨i1, i2, -⟩ := hA0.it (F := F) (l := l) hF
  obtain ⟨g1, fr⟩ := It_ok (F := F) (l := l) hF hA.wf hA.n0 hA.o0 t (by omega)
  have hgo := (It_go (F := F) (l := l) hF hA.wf hA.n0 hA.o0 t (by omega) (by rw [hA.go t (by omega) (by omega)]; exact hg)).2
  have e32 : ItG F l t α 232 = α 232 := fr.1 232 (by decide) (by omega)
  have e39 : ItG F l t α 239 = α 239 := fr.1 239 (by decide) (by omega)
  have e40 : ItG F l t α 240 = α 240 := fr.1 240 (by decide) (by omega)
  have hk : α 232 (6 + 4 * (t : Int)) = w (6 + 4 * t) := hA.ev _ (by omega) (by omega)
  have hn0 : α 232 (6 + 4 * (t : Int) + 1 + 0) = w (6 + 4 * t + 1 + 0) := hA.ev _ (by omega) (by omega)
  have hn1 : α 232 (6 + 4 * (t : Int) + 1 + 1) = w (6 + 4 * t + 1 + 1) := hA.ev _ (by omega) (by omega)
  have hn2 : α 232 (6 + 4 * (t : Int) + 1 + 2) = w (6 + 4 * t + 1 + 2) := hA.ev _ (by omega) (by omega)
  have hg2 : α 238 (t : Int) = 0 := by rw [hA.go t (by omega) (by omega)]; exact hg
  have hE := hw.2.2 t (by omega) ht
  generalize ItG F l (t + 1) α = μ' at hgo ⊢
  generalize ItG F l t α = μ at *
  have vt : ∀ c, 0 ≤ c → c < 32 → μ 239 (32 * t + c) = Val (α 232) (α 238) t c := fun c c1 c2 => by rw [e39]; exact hA.vl.1 t c (by omega) c1 c2
  have vt1 : ∀ c, 0 ≤ c → c < 32 → μ 239 (32 * ((t + 1 : Nat) : Int) + c) = Val (α 232) (α 238) (t + 1) c := fun c c1 c2 => by rw [e39]; exact hA.vl.1 (t + 1) c (by omega) c1 c2
  have ct : ∀ c, 0 ≤ c → c < 32 → μ 240 (32 * t + c) = chg (α 232) (α 238) t c := fun c c1 c2 => by rw [e40]; exact hA.vl.2 t c (by omega) c1 c2
  have hchg : ∀ c, 0 ≤ c → c < 32 → (μ 240 (32 * t + c) ≠ 0 ↔ μ 239 (32 * ((t + 1 : Nat) : Int) + c) ≠ μ 239 (32 * t + c)) := fun c c1 c2 => by
    rw [ct c c1 c2, vt c c1 c2, vt1 c c1 c2]
    unfold chg
    split
    · rename_i z; exact ⟨fun y => absurd rfl y, fun y => absurd z.symm y⟩
    · rename_i z; exact ⟨fun _ y => z y.symm, fun _ => by decide⟩
  have hv : Vs t μ := fun c c1 c2 z => Classical.byContradiction fun y => (hchg c c1 c2).mpr y z
  have hcw : ∀ c, 0 ≤ c → c < 32 → μ 240 (32 * t + c) ≠ 0 → c < w 0 := fun c c1 c2 z => by
    apply Classical.byContradiction
    intro y
    apply (hchg c c1 c2).mp z
    rw [vt c c1 c2, vt1 c c1 c2, val_hi hA.wf t c (by omega) (by rw [hA.w0]; omega), val_hi hA.wf (t + 1) c (by omega) (by rw [hA.w0]; omega)]
  have hno : 4 ≤ w (6 + 4 * (t : Int)) → ∀ c, 0 ≤ c → c < 32 → μ 240 (32 * t + c) = 0 := fun y c c1 c2 => by
    rw [ct c c1 c2]
    exact chg_non (Or.inr (by rw [hk]; exact y))
  have h232 : μ 232 0 = w 0 := by rw [e32]; exact hA.w0
  obtain ⟨m1, m2, m3⟩ := mi_step g1 h232 hw2 i1 i2 hv (fun y => by rw [e32, hk] at y; exact hno y) hgo
  have h2c := i1.c2
  have hc0 := i1.c0
  have h30 : μ 231 28 ≤ 30 := by split at h2c <;> omega
  obtain ⟨r, hr, hgo⟩ := hgo
  rw [e32, hk] at hr
  unfold f_X3_step
  simp only [tt_gt, tt_sg, tt_ite, tt_ck, tt_lk, tt_ix, tt_bo, tt_by, tt_nz, tt_ob, tt_st, tt_cpk, tt_c1, tt_c2, tt_ca, tt_cb, tt_some, kd_231, kd_0, Nat.reduceAdd, true_and, and_true, true_implies, not_true_eq_false, false_implies, not_false_eq_true, true_or, or_true, kr.1, show kdX 4 = 4 from rfl]
  refine And.intro (by omega) ?_
  generalize hσ3 : z_up (z_up (z_up σ b 1 ((t : Int) + 1)) b 6 0) b 7 0 = σ3
  have s3 : ∀ x, x ≠ b → σ3 x = σ x := fun x hx => by rw [← hσ3, up_ne hx, up_ne hx, up_ne hx]
  have h3 : RunR b (w 0) l t μ σ3 := by rw [← hσ3]; exact ((h.up (Or.inl rfl)).up (Or.inr (Or.inr (Or.inl rfl)))).up (Or.inr (Or.inr (Or.inr rfl)))
  have b3 : σ3 b 1 = (t : Int) + 1 ∧ σ3 b 6 = 0 ∧ σ3 b 7 = 0 := by
    rw [← hσ3]
    simp only [up_eq]
    exact ⟨rfl, rfl, rfl⟩
  have hSR3 : SR 4 σ3 w := hSR.mv (s3 4 (by omega)) (s3 5 (by omega)) (s3 6 (by omega))
  rw [e4_kindOf (F := F) rfl hSR3 hw ⟨by omega, ht⟩, tt_some]
  refine (refusal_ok (F := F) kr.1 h3 ⟨hE.1, hE.2.1⟩).mono (fun r' hr' => ?_)
  have hrr := whyP_one hr' hr
  subst hrr
  generalize hσ4 : z_up σ3 b 5 r' = σ4
  have s4 : ∀ x, x ≠ b → σ4 x = σ x := fun x hx => by rw [← hσ4, up_ne hx]; exact s3 x hx
  have h4 : RunR b (w 0) l t μ σ4 := by rw [← hσ4]; exact h3.up (Or.inr (Or.inl rfl))
  have b4 : σ4 b 1 = (t : Int) + 1 ∧ σ4 b 6 = 0 ∧ σ4 b 7 = 0 ∧ σ4 b 5 = r' := by
    rw [← hσ4]
    simp only [up_eq]
    exact ⟨b3.1, b3.2.1, b3.2.2, rfl⟩
  have hSR4 : SR 4 σ4 w := hSR.mv (s4 4 (by omega)) (s4 5 (by omega)) (s4 6 (by omega))
  have f4 : Fb b σ σ4 := fun x hx => s4 x (by omega)
  rw [b4.2.2.2]
  have e : ∀ x v, x ≠ 250 → z_up μ 250 t v x = μ x := fun x v h => up_ne h
  have z250 : ∀ v, z_up μ 250 t v 250 t = v := fun v => by rw [up_eq]; exact if_pos rfl
  have fin : ∀ σ' : St, RunR b (w 0) l (t + 1) μ' σ' → Fb b σ4 σ' → (∀ j, j = 1 ∨ j = 5 ∨ j = 6 ∨ j = 7 → σ' b j = σ4 b j) → μ' 250 t = r' → 4 ≤ w (6 + 4 * (t : Int)) → μ' 240 = μ 240 → (∀ k, 0 ≤ k → k < μ' 231 28 → ∀ c, 0 ≤ c → c < 32 → μ' 247 (32 * k + c) ≠ 0 → μ' 248 (32 * k + c) ≠ t) → StP b (w 0) l t μ' σ σ' := by
    intro σ' a1 a2 a3 a4 a5 a6 a7
    refine ⟨a1, f4.tr a2, by rw [a3 1 (by omega)]; exact b4.1, by rw [a3 5 (by omega), a4]; exact b4.2.2.2, by rw [a3 6 (by omega), b4.2.1]; exact iR_0, fun c c1 c2 => ?_, by rw [a3 7 (by omega), b4.2.2.1]; exact iR_0, fun c c1 c2 => ?_⟩
    · rw [a3 6 (by omega), b4.2.1, a6]
      exact ⟨fun y => absurd y (bt_zero ⟨c1, c2⟩), fun y => absurd (hno a5 c c1 c2) y⟩
    · rw [a3 7 (by omega), b4.2.2.1]
      exact ⟨fun y => absurd y (bt_zero ⟨c1, c2⟩), fun ⟨k, k1, k2, k3, k4⟩ => absurd k4 (a7 k k1 k2 c c1 c2 k3)⟩
  have old : ∀ k, 0 ≤ k → k < μ 231 28 → ∀ c, 0 ≤ c → c < 32 → μ 247 (32 * k + c) ≠ 0 → μ 248 (32 * k + c) ≠ t := fun k k1 k2 c c1 c2 y => by
    rcases (i1.cp k k1 k2).kb c c1 c2 with z | z
    · exact absurd z.2 y
    · omega
  have M1 : MI0 (w 0) t (z_up μ 250 t 0) := i1.up
  have L1 : Lv (w 0) t (z_up μ 250 t 0) := by
    intro q1 c c1 c2 q2
    unfold lft at q2
    rw [e 231 0 (by decide)] at q1 ⊢
    rw [e 231 0 (by decide), e 246 0 (by decide), e 248 0 (by decide)] at q2
    rw [e 239 0 (by decide), e 242 0 (by decide)]
    exact i2 q1 c c1 c2 q2
  have C1 : RunR b (w 0) l t (z_up μ 250 t 0) σ4 := h4.m250
  have V1 : Vs t (z_up μ 250 t 0) := by
    unfold Vs
    rw [e 239 0 (by decide), e 240 0 (by decide)]
    exact hv
  have bgo : ∀ full : Int, BgP t full (z_up μ 250 t 0) μ' → ∀ k, 0 ≤ k → k < μ' 231 28 → ∀ c, 0 ≤ c → c < 32 → μ' 247 (32 * k + c) ≠ 0 → μ' 248 (32 * k + c) ≠ t := by
    intro full hB k k1 k2 c c1 c2 y
    obtain ⟨b0, bb1, b2, b3, b4, b5, b6, b7, b8, b9, b10⟩ := hB
    rw [e 231 0 (by decide)] at bb1 b8 b9
    rw [bb1, if_pos rfl] at k2
    rw [b8] at y
    rw [b9]
    rw [e 247 0 (by decide)] at y
    rw [e 248 0 (by decide)]
    by_cases qk : k = μ 231 28
    · rw [if_pos (by omega)] at y; exact absurd rfl y
    · rw [if_neg (by omega)] at y ⊢
      exact old k k1 (by omega) c c1 c2 y
  have sco : ∀ ν : St, Hs t μ ν → ν 231 28 = μ 231 28 → (∀ c, 0 ≤ c → c < 32 → ν 247 (32 * μ 231 29 + c) = μ 247 (32 * μ 231 29 + c)) → ∀ k, 0 ≤ k → k < ν 231 28 → ∀ c, 0 ≤ c → c < 32 → ν 247 (32 * k + c) ≠ 0 → ν 248 (32 * k + c) ≠ t := by
    intro ν hH hcn h47 k k1 k2 c c1 c2 y
    rw [hcn] at k2
    rcases hH.kb k k1 k2 c c1 c2 with z | z
    · rw [z.2] at y
      rw [z.1]
      exact old k k1 k2 c c1 c2 y
    · rw [z.2.1, h47 c c1 c2, ← z.2.1] at y
      rcases (i1.cp k k1 k2).kb c c1 c2 with x | x
      · exact absurd x.2 y
      · have := (i1.cp k k1 k2).mrk
        omega
  rcases hgo with ⟨h1, rfl⟩ | ⟨h1, h2, rfl⟩ | ⟨h1, h2, hB⟩ | ⟨h1, h2, hB⟩ | ⟨h1, h2, rfl⟩ | ⟨h1, h2, rfl⟩ | ⟨h1, h2, rfl⟩
  · have hk4 : 4 ≤ w (6 + 4 * (t : Int)) := by unfold whyP at hr; omega
    refine ⟨fun y => absurd y h1, fun _ => fin σ4 ?_ Fb.rf (fun _ _ => rfl) (z250 r') hk4 (e 240 r' (by decide)) ?_⟩
    · exact (h4.adv i1 hw2.2 hv (hno hk4) rfl rfl rfl (fun _ _ => rfl) (fun _ _ => Iff.rfl) (fun _ _ _ => rfl) h4.cc h4.cd).m250
    · rw [e 231 r' (by decide), e 247 r' (by decide), e 248 r' (by decide)]
      exact old
  · rw [e32, hk] at h2
    refine ⟨fun _ => ⟨fun y => absurd y (by omega), fun _ => ⟨fun y => absurd y (by omega), fun _ => ⟨fun y => absurd y (by omega), fun _ => ⟨fun y => absurd y (by omega), fun _ => ⟨fun y => absurd y (by omega), fun _ => ?_⟩⟩⟩⟩⟩, fun y => absurd h1 y⟩
    rw [h232] at m1 m2 m3 ⊢
    have hc := command_ok (F := F) (b := b) (w0 := w 0) (l := l) (t := t) (w := w) (μ := z_up μ 250 t 0) (σ := σ4) hF hb hw hSR4 ht h2 rfl (by rw [e 232 0 (by decide)]; exact h232) hw2 M1 (by rw [e 231 0 (by decide)]; exact h30) (by rw [e 231 0 (by decide)]; exact g1.2.2.imp id (fun z => z.2.up)) L1 V1 C1 b4.2.2.1 (by rw [e 239 0 (by decide)]; exact fun c c1 c2 => by dsimp only; rw [vt c c1 c2]; exact val_255 hA.wf t (by omega) c c1 c2) (by
      rw [e 239 0 (by decide)]
      intro c c1 c2
      rw [vt1 c c1 c2, Val, if_pos ⟨hg2, by rw [hk]; exact h2⟩]
      have hap : apE (α 232) t = apE w t := by unfold apE; rw [hk, hn0, hn1, hn2]
      rw [hap]
      exact apE_congr hw.1.2.1 hE h2 (fun d d1 d2 => (vt d d1 d2).symm) ⟨c1, c2⟩) (by rw [e 239 0 (by decide), e 240 0 (by decide)]; exact hchg) (by rw [e 240 0 (by decide)]; exact hcw)
    refine hc.mono (fun σ' q => ⟨q.cr, f4.tr q.fb, by rw [q.s1]; exact b4.1, ?_, q.r6, fun c c1 c2 => ?_, q.r7, fun c c1 c2 => ?_⟩)
    · have md := kc_mid (t := t) (w0 := w 0) (μ := z_up μ 250 t 0) (by rw [e 231 0 (by decide)]; exact g1.2.2.imp id (fun z => z.2.up)) (by rw [e 232 0 (by decide)]; exact h232) hw2.1
      rw [e 232 0 (by decide), h232] at md
      rw [q.s5, b4.2.2.2, h1, md.oth 250 (by decide) (by decide) (by decide) (by decide), z250]
    · rw [q.c6 c c1 c2, (kc_frame _ _ _).2.2]
    · rw [q.c7 c c1 c2, e 231 0 (by decide), e 240 0 (by decide), (kc_frame _ _ _).1, e 231 0 (by decide)]
      constructor
      · intro y
        have ho2 := i1.op.resolve_left y.1
        have kr2 := (kc_rows (t := t) (w 0).toNat 0 (z_up μ 250 t 0) (by rw [e 231 0 (by decide)]; exact y.1) c).1 ⟨c1, by have := hcw c c1 c2 y.2.1; omega, by rw [e 240 0 (by decide)]; exact y.2.1, y.2.2⟩
        rw [e 231 0 (by decide)] at kr2
        exact ⟨μ 231 29, ho2.2, by omega, by rw [kr2.1]; decide, kr2.2⟩
      · rintro ⟨k, k1, k2, k3, k4⟩
        by_cases qk : k = μ 231 29
        · have ho : μ 231 29 ≠ -1 := by omega
          have kr2 := kc_rows (t := t) (w 0).toNat 0 (z_up μ 250 t 0) (by rw [e 231 0 (by decide)]; exact ho) c
          rw [e 231 0 (by decide), e 247 0 (by decide), e 248 0 (by decide)] at kr2
          rw [qk] at k3 k4 k1 k2
          by_cases qc : kcC t (w 0).toNat 0 (z_up μ 250 t 0) c
          · have := qc.2.2
            rw [e 240 0 (by decide)] at this
            exact ⟨ho, this.1, this.2⟩
          · have y := kr2.2 qc
            rw [y.1] at k3
            rw [y.2] at k4
            exact absurd k4 (old _ k1 k2 c c1 c2 k3)
        · rcases m3.kb k k1 k2 c c1 c2 with y | y
          · rw [y.2] at k3
            rw [y.1] at k4
            exact absurd k4 (old _ k1 k2 c c1 c2 k3)
          · exact absurd y.2.1 qk
  · rw [e32, hk] at h2
    have ho : μ 231 29 = -1 := by unfold whyP at hr; omega
    refine ⟨fun _ => ⟨fun _ => ?_, fun y => absurd h2 y⟩, fun y => absurd h1 y⟩
    refine (allCells_ok (F := F) kr.1 hw2 h4.n8).mono (fun W hW => ?_)
    refine (begin_ok (F := F) (b := b) (l := l) (full := 1) (W := W) hb hw2 (by omega) M1 (by rw [e 232 0 (by decide)]; exact h232) (by rw [e 231 0 (by decide)]; exact ho) (Or.inr rfl) V1 (by rw [e 240 0 (by decide)]; exact hno (by omega)) hB (Hs.bg M1 (by rw [e 231 0 (by decide)]; exact ho) hB) C1 hW.1 (fun c c1 c2 => by rw [hW.2 c c1 c2]; exact ⟨fun z => ⟨z, Or.inl (by decide)⟩, fun z => z.1⟩)).mono (fun σ' q => fin σ' q.1 q.2.1 q.2.2 ?_ (by omega) ?_ ?_)
    · rw [hB.1 250 (by decide) (by omega), z250, h1]
    · rw [hB.1 240 (by decide) (by omega), e 240 0 (by decide)]
    · exact bgo 1 hB
  · rw [e32, hk] at h2
    have ho : μ 231 29 = -1 := by unfold whyP at hr; omega
    refine ⟨fun _ => ⟨fun y => absurd y (by omega), fun _ => ⟨fun _ => ?_, fun y => absurd h2 y⟩⟩, fun y => absurd h1 y⟩
    refine (begin_ok (F := F) (b := b) (l := l) (full := 0) (W := σ4 b 2) hb hw2 (by omega) M1 (by rw [e 232 0 (by decide)]; exact h232) (by rw [e 231 0 (by decide)]; exact ho) (Or.inl rfl) V1 (by rw [e 240 0 (by decide)]; exact hno (by omega)) hB (Hs.bg M1 (by rw [e 231 0 (by decide)]; exact ho) hB) C1 C1.dr (fun c c1 c2 => by rw [C1.dt c c1 c2]; exact ⟨fun z => ⟨z.1, Or.inr z.2⟩, fun z => ⟨z.1, z.2.resolve_left (by decide)⟩⟩)).mono (fun σ' q => fin σ' q.1 q.2.1 q.2.2 ?_ (by omega) ?_ ?_)
    · rw [hB.1 250 (by decide) (by omega), z250, h1]
    · rw [hB.1 240 (by decide) (by omega), e 240 0 (by decide)]
    · exact bgo 0 hB
  · rw [e32, hk] at h2
    rw [e32, hn0] at m1 m2 m3 fin ⊢
    have ho : μ 231 29 ≠ -1 := by unfold whyP at hr; omega
    have hS := (g1.2.2.resolve_left ho).2.up (e := (t : Int)) (v := 0)
    have hnn := hE.2.2.2.2.2.2.1 h2
    refine ⟨fun _ => ⟨fun y => absurd y (by omega), fun _ => ⟨fun y => absurd y (by omega), fun _ => ⟨fun _ => ?_, fun y => absurd h2 y⟩⟩⟩, fun y => absurd h1 y⟩
    rw [e4_numberOf (F := F) (j := 0) rfl hSR4 hw ⟨by omega, ht⟩ (by decide), tt_some]
    refine (scan_cr (F := F) (b := b) (w0 := w 0) (l := l) (t := t) hF hb (by rw [e 232 0 (by decide)]; exact h232) hw2 hl (by omega) b4.1 (by omega) M1 (by rw [e 231 0 (by decide)]; exact h30) (by rw [e 231 0 (by decide)]; exact ho) hS L1 V1 (by rw [e 240 0 (by decide)]; exact hno (by omega)) C1).mono (fun σ' q => fin σ' q.1 q.2.1 (fun j _ => q.2.2.1 j) ?_ (by omega) ?_ ?_)
    · have md := sc_mid (l := l) (t := t) (w0 := w 0) (n := (w (6 + 4 * (t : Int) + 1 + 0)).toNat) (μ := z_up μ 250 t 0) hS (by rw [e 232 0 (by decide)]; exact h232)
      rw [md.oth 250 (by decide) (by decide) (by decide) (by decide), z250, h1]
    · rw [m3.v0]
    · exact sco _ m3 (by have md := sc_mid (l := l) (t := t) (w0 := w 0) (n := (w (6 + 4 * (t : Int) + 1 + 0)).toNat) (μ := z_up μ 250 t 0) hS (by rw [e 232 0 (by decide)]; exact h232); rw [md.oth 231 (by decide) (by decide) (by decide) (by decide), e 231 0 (by decide)]) (by have := q.2.2.2; rw [e 231 0 (by decide), e 247 0 (by decide)] at this; exact this)
  · rw [e32, hk] at h2
    have ho : μ 231 29 ≠ -1 := by unfold whyP at hr; omega
    have hS := (g1.2.2.resolve_left ho).2.up (e := (t : Int)) (v := 0)
    have md := sc_mid (l := l) (t := t) (w0 := w 0) (n := 32) (μ := z_up μ 250 t 0) hS (by rw [e 232 0 (by decide)]; exact h232)
    have e31 : scS l t 32 (z_up μ 250 t 0) 231 = μ 231 := (md.oth 231 (by decide) (by decide) (by decide) (by decide)).trans (e 231 0 (by decide))
    refine ⟨fun _ => ⟨fun y => absurd y (by omega), fun _ => ⟨fun y => absurd y (by omega), fun _ => ⟨fun y => absurd y (by omega), fun _ => ⟨fun _ => ?_, fun y => absurd h2 y⟩⟩⟩⟩, fun y => absurd h1 y⟩
    refine (scan_cr (F := F) (b := b) (w0 := w 0) (l := l) (t := t) (n := 32) hF hb (by rw [e 232 0 (by decide)]; exact h232) hw2 hl (by omega) b4.1 (by omega) M1 (by rw [e 231 0 (by decide)]; exact h30) (by rw [e 231 0 (by decide)]; exact ho) hS L1 V1 (by rw [e 240 0 (by decide)]; exact hno (by omega)) C1).mono (fun σ5 q => And.intro (by omega) ?_)
    obtain ⟨q1, q2, q3, q4⟩ := q
    rw [show Int.toNat 32 = 32 from rfl] at q1 q4
    refine (whole_ok (F := F) hF hb hw2 (M1.mid md) (by rw [e31]; exact h30) (by rw [e31]; exact ho) q1).mono (fun σ' p => fin σ' p.1 (q2.tr p.2.1) (fun j hj => (p.2.2 j hj).trans (q3 j)) ?_ (by omega) ?_ ?_)
    · unfold clS
      rw [up_ne (by decide), up_ne (by decide), up_ne (by decide), md.oth 250 (by decide) (by decide) (by decide) (by decide), z250, h1]
    · rw [m3.v0]
    · exact sco _ m3 (by rw [cl_231.1, e31]) (by
        rw [e 231 0 (by decide), e 247 0 (by decide)] at q4
        unfold clS
        rw [up_ne (by decide), up_ne (by decide), up_ne (by decide)]
        exact q4)
  · rw [e32, hk] at h2
    have ho : μ 231 29 ≠ -1 := by unfold whyP at hr; omega
    refine ⟨fun _ => ⟨fun y => absurd y (by omega), fun _ => ⟨fun y => absurd y (by omega), fun _ => ⟨fun y => absurd y (by omega), fun _ => ⟨fun y => absurd y (by omega), fun _ => ⟨fun _ => And.intro (by omega) ?_, fun y => absurd h2 y⟩⟩⟩⟩⟩, fun y => absurd h1 y⟩
    have hadv := C1.adv M1 hw2.2 V1 (by rw [e 240 0 (by decide)]; exact hno (by omega)) rfl rfl rfl (fun _ _ => rfl) (fun _ _ => Iff.rfl) (fun _ _ _ => rfl) C1.cc C1.cd
    refine (tear_ok (F := F) hb (M1.mid Mid.rf) (by rw [e 231 0 (by decide)]; exact h30) (by rw [e 231 0 (by decide)]; exact ho) hadv).mono (fun σ' p => fin σ' p.1 p.2.1 p.2.2 ?_ (by omega) ?_ ?_)
    · unfold clS
      rw [up_ne (by decide), up_ne (by decide), up_ne (by decide), z250, h1]
    · rw [m3.v0]
    · exact sco _ m3 (by rw [cl_231.1, e 231 0 (by decide)]) (by
        unfold clS
        rw [up_ne (by decide), up_ne (by decide), up_ne (by decide), e 247 0 (by decide)]
        exact fun _ _ _ => rfl)
