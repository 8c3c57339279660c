def LC (F : Nat) (w : Int → Int) (k : Nat) (c : Int) (τ0 τ : St) (s : Nat) : Prop := (QM τ0 τ) ∧ (τ 231 37 = sm (fun t => wtR (w 2) (10 - w 2) t k) s) ∧ (τ 231 38 = sm (fun t => wtR (w 2) (10 - w 2) t k * dT F w (gC (evN w) k (rv k t)) c) s) ∧ (τ 231 39 = sm (fun t => wtR (w 2) (10 - w 2) t k * cT F w (gC (evN w) k (rv k t))) s)
theorem LC.qm {F : Nat} {w : Int → Int} {k : Nat} {c : Int} {τ0 τ : St} {s : Nat} (h : LC F w k c τ0 τ s) : QM τ0 τ := h.1
theorem LC.a7 {F : Nat} {w : Int → Int} {k : Nat} {c : Int} {τ0 τ : St} {s : Nat} (h : LC F w k c τ0 τ s) : τ 231 37 = sm (fun t => wtR (w 2) (10 - w 2) t k) s := h.2.1
theorem LC.a8 {F : Nat} {w : Int → Int} {k : Nat} {c : Int} {τ0 τ : St} {s : Nat} (h : LC F w k c τ0 τ s) : τ 231 38 = sm (fun t => wtR (w 2) (10 - w 2) t k * dT F w (gC (evN w) k (rv k t)) c) s := h.2.2.1
theorem LC.a9 {F : Nat} {w : Int → Int} {k : Nat} {c : Int} {τ0 τ : St} {s : Nat} (h : LC F w k c τ0 τ s) : τ 231 39 = sm (fun t => wtR (w 2) (10 - w 2) t k * cT F w (gC (evN w) k (rv k t))) s := h.2.2.2
theorem qm_up {τ0 τ : St} {j v : Int} (h : QM τ0 τ) (hj : j = 37 ∨ j = 38 ∨ j = 39) : QM τ0 (z_up τ 231 j v) := ⟨fun x hx => by rw [up_ne (by omega)]; exact h.lo x hx, fun x hx => by rw [up_ne (by omega)]; exact h.hi x hx, fun i hi => by rw [up_eq]; dsimp only; rw [if_neg (by omega)]; exact h.sl i hi, fun hb => by rw [up_ne (by decide)]; exact h.ag hb⟩
theorem lc_in {F : Nat} {w : Int → Int} {k s : Nat} {c : Int} {τ0 τ1 σ : St} {K : Int → St → Option St} {P : St → Prop} (hF : 100 ≤ F) (hw : WF w) (hS : SR 4 σ w) (h2 : τ0 232 = w) (hk : k ≤ 6) (hkN : (k : Int) ≤ evN w) (hs : s < 2 ^ k) (hc : 0 ≤ c ∧ c < w 0) (hL : LC F w k c τ0 τ1 s) (hg : ∀ e, 0 ≤ e → e < 60 → τ1 238 e = 0) (hK : ∀ τ', LC F w k c τ0 τ' (s + 1) → TT (K ((s : Int) + 1) τ') P) : TT (f_X7_layChance_L34 F 231 k c K F s 1 0 τ1) P := by
  have h60 := hw.ev60
  have hw0 : 0 ≤ w 0 ∧ w 0 ≤ 32 := ⟨hw.1.1, hw.1.2.1⟩
  have hw1 : 0 ≤ w 1 ∧ w 1 ≤ 3 := ⟨hw.1.2.2.1, hw.1.2.2.2.1⟩
  obtain ⟨hp, hq⟩ := hyp hw
  obtain ⟨-, h64⟩ := sh2 k hk
  have p10 := pw10 k hk
  have hN : (((evN w).toNat : Nat) : Int) = evN w := by omega
  have wr := fun t : Nat => wtR_rng hp hq t k
  have b7 := sm_rng (f := fun t => wtR (w 2) (10 - w 2) t k) (M := 1000000) s (fun t _ => ⟨(wr t).1, by have := (wr t).2; omega⟩)
  have b8 := sm_rng (f := fun t => wtR (w 2) (10 - w 2) t k * dT F w (gC (evN w) k (rv k t)) c) (M := 1000000 * 32) s (fun t _ => mul_rng ⟨(wr t).1, by have := (wr t).2; omega⟩ ⟨(dT_01 F w _ c).1, by have := (dT_01 F w (gC (evN w) k (rv k t)) c).2; omega⟩)
  have b9 := sm_rng (f := fun t => wtR (w 2) (10 - w 2) t k * cT F w (gC (evN w) k (rv k t))) (M := 1000000 * 32) s (fun t _ => mul_rng ⟨(wr t).1, by have := (wr t).2; omega⟩ (cT_rng F _ hw0))
  have ws := wr s
  have w8 := mul_rng (x := wtR (w 2) (10 - w 2) s k) (M := 1000000) ⟨ws.1, by omega⟩ (cT_rng F (gC (evN w) k (rv k s)) hw0)
  refine lp_w (L := fun n (p : Int × Int × St) => f_X7_layChance_L34 F 231 k c K n s p.1 p.2.1 p.2.2) (fun m p => ∃ i : Nat, p.2.1 = i ∧ i + m = k ∧ p.1 = wtR (w 2) (10 - w 2) s i ∧ (∀ x, x ≠ 238 → p.2.2 x = τ1 x) ∧ ∀ e, 0 ≤ e → e < 60 → p.2.2 238 e = if (evN w - i ≤ e ∧ e < evN w) ∧ s.testBit (evN w - 1 - e).toNat = true then 1 else 0) (fun m n p hI ih => ?_) k F (1, 0, τ1) (by omega) ⟨0, rfl, by omega, rfl, fun _ _ => rfl, fun e e1 e2 => by dsimp only; rw [if_neg (by omega)]; exact hg e e1 e2⟩
  obtain ⟨v, y, τ2⟩ := p
  dsimp only at hI ih ⊢
  obtain ⟨i, rfl, i2, i3, i4, i5⟩ := hI
  have q1 : QM τ1 τ2 := ⟨fun x hx => i4 x (by omega), fun x hx => i4 x (by omega), fun j hj => by rw [i4 231 (by decide)], fun hb => by rw [i4 251 (by decide)]; exact hb⟩
  have q2 : QM τ0 τ2 := hL.qm.tr q1
  have e32 : τ2 232 = w := (q2.hi 232 (by omega)).trans h2
  have ee := e_events (F := F) (σ := τ2) (by rw [e32]; exact hw.1)
  rw [e32] at ee
  have hv := wtR_rng hp hq s i
  have p10i := pw10 i (by omega)
  rw [f_X7_layChance_L34]
  simp only [tt_gt, tt_sg, tt_ite, tt_ck, tt_lk, tt_ix, tt_bo, tt_by, tt_nz, tt_ob, tt_st, tt_cpk, tt_c1, tt_c2, tt_ca, tt_cb, tt_some, kd_231, kd_0, Nat.reduceAdd, true_and, and_true, true_implies, not_true_eq_false, false_implies, not_false_eq_true, true_or, or_true, e32, ee, cmp_0]
  refine ⟨fun z => ⟨fun z2 => And.intro (by omega) ?_, fun z2 => And.intro (by omega) ?_⟩, fun z => And.intro (by omega) (And.intro (by omega) ?_)⟩
  · have hik : i = k := by omega
    subst hik
    rw [i3] at z2 ⊢
    have hgone : ∀ e, 0 ≤ e → e < evN w → τ2 238 e = gC (evN w) i (rv i s) e := fun e e1 e2 => by
      rw [i5 e e1 (by omega)]
      unfold gC
      by_cases u : evN w - i ≤ e ∧ e < evN w
      · have hb : (rv i s).testBit (e - (evN w - i)).toNat = s.testBit (evN w - 1 - e).toNat := by
          rw [rv_bit i s _ (by omega)]
          congr 1
          omega
        rw [hb]
      · rw [if_neg (fun y => u y.1), if_neg (fun y => u y.1)]
    refine (layAll_Laid (g := gC (evN w) i (rv i s)) (l := w 1) hF hw e32 hgone).mono (fun ν h3 => ?_)
    have kn := h3.kn hF hw e32
    have n30 := kn.mi.n30 (by omega)
    have q3 : QM τ0 ν := q2.tr h3.qm
    obtain ⟨α, hA, e1⟩ := h3.ex
    have hrv := rv_lt i s
    obtain ⟨σ', r1, r2⟩ := tri_eq (F := F) (l := w 1) hF hw hS hw1 (lOut_C h60.2 hkN (show rv i s < 4294967296 by omega)) hA
    rw [← e1] at r1
    have e37 : ν 231 37 = τ1 231 37 := by rw [h3.os 37 (by decide) (by decide), i4 231 (by decide)]
    have e38 : ν 231 38 = τ1 231 38 := by rw [h3.os 38 (by decide) (by decide), i4 231 (by decide)]
    have e39 : ν 231 39 = τ1 231 39 := by rw [h3.os 39 (by decide) (by decide), i4 231 (by decide)]
    rw [e37, hL.a7]
    have u38 : ∀ x : Int, z_up ν 231 37 x 231 38 = ν 231 38 := fun x => by rw [up_eq]; exact if_neg (by decide)
    have hde := fun d : Int => fun (hd : 0 ≤ d ∧ d < w 0) => dr_eq r1 r2 (c := d) ⟨hd.1, by omega⟩ hd.2
    have hsm : ∀ x : Int, ∀ j : Int, z_up ν 231 37 x 240 = ν 240 := fun x j => up_ne (by decide)
    refine And.intro (by omega) (And.intro (by omega) ?_)
    rw [u38, e38, hL.a8]
    have tail : ∀ (d x : Int), x = sm (fun t => wtR (w 2) (10 - w 2) t i) s + wtR (w 2) (10 - w 2) s i → d = wtR (w 2) (10 - w 2) s i * dT F w (gC (evN w) i (rv i s)) c → TT (f_X7_layChance_J164 F 231 i c K s (wtR (w 2) (10 - w 2) s i) d (sm (fun t => wtR (w 2) (10 - w 2) t i * dT F w (gC (evN w) i (rv i t)) c) s) 231 (z_up ν 231 37 x)) P := by
      intro d x hx hd
      have hdr := mul_rng (x := wtR (w 2) (10 - w 2) s i) (M := 1000000) ⟨ws.1, by omega⟩ (show 0 ≤ dT F w (gC (evN w) i (rv i s)) c ∧ dT F w (gC (evN w) i (rv i s)) c ≤ 32 by have := dT_01 F w (gC (evN w) i (rv i s)) c; omega)
      rw [← hd] at hdr
      unfold f_X7_layChance_J164
      simp only [tt_gt, tt_sg, tt_ite, tt_ck, tt_lk, tt_ix, tt_bo, tt_by, tt_nz, tt_ob, tt_st, tt_cpk, tt_c1, tt_c2, tt_ca, tt_cb, tt_some, kd_231, kd_0, Nat.reduceAdd, true_and, and_true, true_implies, not_true_eq_false, false_implies, not_false_eq_true, true_or, or_true]
      generalize hν7 : z_up (z_up ν 231 37 x) 231 38 (sm (fun t => wtR (w 2) (10 - w 2) t i * dT F w (gC (evN w) i (rv i t)) c) s + d) = ν7
      have o7 : ∀ x, x ≠ 231 → ν7 x = ν x := fun x hx => by rw [← hν7, up_ne hx, up_ne hx]
      have s7 : ∀ j, ν7 231 j = if j = 38 then sm (fun t => wtR (w 2) (10 - w 2) t i * dT F w (gC (evN w) i (rv i t)) c) s + d else if j = 37 then x else ν 231 j := fun j => by
        rw [← hν7, up_eq]
        dsimp only
        rw [up_eq]
      have e72 : ν7 232 = w := by rw [o7 232 (by decide)]; exact (h3.qm.hi 232 (by omega)).trans e32
      have ee7 := e_events (F := F) (σ := ν7) (by rw [e72]; exact hw.1)
      rw [e72] at ee7
      have e739 : ν7 231 39 = τ1 231 39 := by rw [s7, if_neg (by decide), if_neg (by decide), e39]
      have hb7 : baseR ν7 (evN w) = baseR ν (evN w) := by
        unfold baseR
        rw [s7, if_neg (by decide), if_neg (by decide)]
        exact dirR_same _ (fun k _ => by rw [o7 242 (by decide), o7 243 (by decide), o7 244 (by decide)]; exact ⟨rfl, rfl, rfl⟩)
      have dd := dF_ok (F := F) (ν := ν7) (lo := 0) (hi := 32) (T := (evN w).toNat) hF e72 hw0 (by omega) (by rw [s7, if_neg (by decide), if_neg (by decide)]; exact n30) (by omega)
      rw [hN] at dd
      rw [ee7, tt_some, e739, hL.a9]
      refine And.intro (by omega) (And.intro (by omega) ?_)
      refine dd.mono (fun r hr => ?_)
      have hcT : r = cT F w (gC (evN w) i (rv i s)) := by
        rw [hr]
        unfold cT
        rw [show ((if (32 : Int) ≤ w 0 then 32 else w 0) - 0).toNat = (w 0).toNat by split <;> omega]
        refine sm_congr _ (fun d hd => ?_)
        have := hde d ⟨by omega, by omega⟩
        unfold dT
        rw [Int.zero_add, hb7, o7 240 (by decide)]
        by_cases u : baseR ν (evN w) ≤ latR (ν 240) d (evN w).toNat
        · rw [if_pos u, if_pos (this.mp (by show baseR ν _ ≤ _; rw [hN]; exact u))]
        · rw [if_neg u, if_neg (fun y => u (by have := this.mpr y; rw [show drt ν d (evN w).toNat ↔ baseR ν (((evN w).toNat : Nat) : Int) ≤ latR (ν 240) d (evN w).toNat from Iff.rfl, hN] at this; exact this))]
      rw [hcT]
      refine And.intro (by omega) (And.intro (by omega) (And.intro (by omega) (And.intro (by omega) (hK _ ⟨?_, ?_, ?_, ?_⟩))))
      · rw [← hν7]
        exact qm_up (qm_up (qm_up q3 (Or.inl rfl)) (Or.inr (Or.inl rfl))) (Or.inr (Or.inr rfl))
      · rw [up_eq]
        dsimp only
        rw [if_neg (by decide), s7, if_neg (by decide), if_pos rfl, hx, sm]
      · rw [up_eq]
        dsimp only
        rw [if_neg (by decide), s7, if_pos rfl, hd, sm]
      · rw [up_eq]
        dsimp only
        rw [if_pos rfl, sm]
    have eb6 : ∀ x : Int, baseR (z_up ν 231 37 x) (evN w) = baseR ν (evN w) := fun x => by
      unfold baseR
      rw [up_eq]
      dsimp only
      rw [if_neg (by decide)]
      exact dirR_same _ (fun k _ => by rw [up_ne (by decide), up_ne (by decide), up_ne (by decide)]; exact ⟨rfl, rfl, rfl⟩)
    have e62 : ∀ x : Int, z_up ν 231 37 x 232 = w := fun x => by rw [up_ne (by decide)]; exact (h3.qm.hi 232 (by omega)).trans e32
    generalize hX : sm (fun t => wtR (w 2) (10 - w 2) t i) s + wtR (w 2) (10 - w 2) s i = X
    have ee6 := e_events (F := F) (σ := z_up ν 231 37 X) (by rw [e62]; exact hw.1)
    rw [e62] at ee6
    rw [ee6, tt_some]
    have d6 := e_isDirtyAt (F := F) (σ := z_up ν 231 37 X) (c := c) hF ⟨hc.1, by omega⟩ (evN w).toNat (by omega) (by rw [up_eq]; dsimp only; rw [if_neg (by decide)]; omega)
    rw [hN] at d6
    refine d6.mono (fun r hr => ?_)
    have hdd : drt (z_up ν 231 37 X) c (evN w).toNat ↔ dT F w (gC (evN w) i (rv i s)) c = 1 := by
      have := hde c hc
      have e1 : drt (z_up ν 231 37 X) c (evN w).toNat ↔ drt ν c (evN w).toNat := by
        show baseR (z_up ν 231 37 X) (((evN w).toNat : Nat) : Int) ≤ latR (z_up ν 231 37 X 240) c (evN w).toNat ↔ baseR ν (((evN w).toNat : Nat) : Int) ≤ latR (ν 240) c (evN w).toNat
        rw [hN, eb6, up_ne (show (240 : Nat) ≠ 231 by decide)]
      rw [e1, this]
      unfold dT
      constructor
      · intro y; exact if_pos y
      · intro y
        apply Classical.byContradiction
        intro u
        rw [if_neg u] at y
        exact absurd y (by decide)
    have h01 := dT_01 F w (gC (evN w) i (rv i s)) c
    rcases hr with ⟨rfl, hr⟩ | ⟨rfl, hr⟩
    · refine ⟨fun u => absurd u (by decide), fun _ => tail _ X hX.symm ?_⟩
      rw [hdd.mp hr, Int.mul_one]
    · refine ⟨fun _ => tail 0 X hX.symm ?_, fun u => absurd rfl u⟩
      have : dT F w (gC (evN w) i (rv i s)) c = 0 := by
        have : ¬ dT F w (gC (evN w) i (rv i s)) c = 1 := fun y => hr (hdd.mpr y)
        omega
      rw [this, Int.mul_zero]
  · have hik : i = k := by omega
    subst hik
    have v0 : wtR (w 2) (10 - w 2) s i = 0 := by rw [← i3]; exact Classical.byContradiction z2
    refine hK τ2 ⟨q2, ?_, ?_, ?_⟩
    · rw [i4 231 (by decide), hL.a7, sm, v0, Int.add_zero]
    · rw [i4 231 (by decide), hL.a8, sm, v0, Int.zero_mul, Int.add_zero]
    · rw [i4 231 (by decide), hL.a9, sm, v0, Int.zero_mul, Int.add_zero]
  · have hb := e7_bit (F := F) (s := s) (i := i) (σ := τ2) (by omega) (by omega)
    rw [hb, tt_some]
    have step : ∀ b : Int, b = (if s.testBit i = true then 1 else 0) → TT (f_X7_layChance_J68 F 231 k c K (f_X7_layChance_L34 F 231 k c K n) s v i b (evN w - 1 - i) 238 τ2) P := by
      intro b hbb
      have h01 : b = 0 ∨ b = 1 := by rw [hbb]; split <;> omega
      have hb2 := e7_bit (F := F) (s := s) (i := i) (σ := z_up τ2 238 (evN w - 1 - i) b) (by omega) (by omega)
      have e92 : z_up τ2 238 (evN w - 1 - i) b 232 = w := (up_ne (by decide)).trans e32
      have I : (∀ x, x ≠ 238 → z_up τ2 238 (evN w - 1 - i) b x = τ1 x) ∧ ∀ e, 0 ≤ e → e < 60 → z_up τ2 238 (evN w - 1 - i) b 238 e = if (evN w - ((i + 1 : Nat) : Int) ≤ e ∧ e < evN w) ∧ s.testBit (evN w - 1 - e).toNat = true then 1 else 0 := by
        refine ⟨fun x hx => (up_ne hx).trans (i4 x hx), fun e e1 e2 => ?_⟩
        rw [up_eq]
        dsimp only
        by_cases u : e = evN w - 1 - i
        · rw [if_pos u, hbb, show (evN w - 1 - e).toNat = i by omega]
          by_cases u2 : s.testBit i = true
          · rw [if_pos u2, if_pos ⟨by omega, u2⟩]
          · rw [if_neg u2, if_neg (fun y => u2 y.2)]
        · rw [if_neg u, i5 e e1 e2]
          by_cases u2 : (evN w - i ≤ e ∧ e < evN w) ∧ s.testBit (evN w - 1 - e).toNat = true
          · rw [if_pos u2, if_pos ⟨by omega, u2.2⟩]
          · rw [if_neg u2, if_neg (fun y => u2 ⟨by omega, y.2⟩)]
      have hv1 := wtR_rng hp hq s (i + 1)
      have p10i1 := pw10 (i + 1) (by omega)
      unfold f_X7_layChance_J68
      simp only [tt_gt, tt_sg, tt_ite, tt_ck, tt_lk, tt_ix, tt_bo, tt_by, tt_nz, tt_ob, tt_st, tt_cpk, tt_c1, tt_c2, tt_ca, tt_cb, tt_some, kd_231, kd_0, Nat.reduceAdd, true_and, and_true, true_implies, not_true_eq_false, false_implies, not_false_eq_true, true_or, or_true, show lnX 238 = 60 from rfl, hb2, e92]
      refine And.intro (by omega) (And.intro h01 ⟨fun u => And.intro (by omega) (And.intro (by omega) ?_), fun u => And.intro (by omega) ?_⟩)
      · have hnb : ¬ s.testBit i = true := fun y => u (if_pos y)
        have e1 : v * (10 - w 2) = wtR (w 2) (10 - w 2) s (i + 1) := by rw [wtR, if_neg hnb, i3]
        rw [e1]
        exact And.intro (by omega) (And.intro (by omega) (ih (m - 1) (wtR (w 2) (10 - w 2) s (i + 1), (i : Int) + 1, z_up τ2 238 (evN w - 1 - i) b) (by omega) ⟨i + 1, by dsimp only; omega, by omega, rfl, I.1, I.2⟩))
      · have hnb : s.testBit i = true := Classical.byContradiction fun y => u (by rw [if_neg y]; decide)
        have e1 : v * w 2 = wtR (w 2) (10 - w 2) s (i + 1) := by rw [wtR, if_pos hnb, i3]
        rw [e1]
        exact And.intro (by omega) (And.intro (by omega) (ih (m - 1) (wtR (w 2) (10 - w 2) s (i + 1), (i : Int) + 1, z_up τ2 238 (evN w - 1 - i) b) (by omega) ⟨i + 1, by dsimp only; omega, by omega, rfl, I.1, I.2⟩))
    by_cases u : s.testBit i = true
    · rw [if_pos u]
      exact ⟨fun y => absurd (by decide) y, fun _ => step 1 (by rw [if_pos u])⟩
    · rw [if_neg u]
      exact ⟨fun _ => step 0 (by rw [if_neg u]), fun y => absurd (by decide) y⟩
