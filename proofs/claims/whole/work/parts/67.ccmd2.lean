def CmP (b : Nat) (w0 l : Int) (t : Nat) (μ σ σ' : St) : Prop := (RunR b w0 l (t + 1) (kcS t w0.toNat 0 μ) σ') ∧ (Fb b σ σ') ∧ (iR (σ' b 6)) ∧ (∀ c, 0 ≤ c → c < 32 → (bt (σ' b 6) c ↔ μ 240 (32 * t + c) ≠ 0)) ∧ (iR (σ' b 7)) ∧ (∀ c, 0 ≤ c → c < 32 → (bt (σ' b 7) c ↔ μ 231 29 ≠ -1 ∧ μ 240 (32 * t + c) ≠ 0 ∧ lft μ c)) ∧ (σ' b 5 = σ b 5) ∧ (σ' b 1 = σ b 1)
theorem CmP.cr {b : Nat} {w0 l : Int} {t : Nat} {μ σ σ' : St} (h : CmP b w0 l t μ σ σ') : RunR b w0 l (t + 1) (kcS t w0.toNat 0 μ) σ' := h.1
theorem CmP.fb {b : Nat} {w0 l : Int} {t : Nat} {μ σ σ' : St} (h : CmP b w0 l t μ σ σ') : Fb b σ σ' := h.2.1
theorem CmP.r6 {b : Nat} {w0 l : Int} {t : Nat} {μ σ σ' : St} (h : CmP b w0 l t μ σ σ') : iR (σ' b 6) := h.2.2.1
theorem CmP.c6 {b : Nat} {w0 l : Int} {t : Nat} {μ σ σ' : St} (h : CmP b w0 l t μ σ σ') : ∀ c, 0 ≤ c → c < 32 → (bt (σ' b 6) c ↔ μ 240 (32 * t + c) ≠ 0) := h.2.2.2.1
theorem CmP.r7 {b : Nat} {w0 l : Int} {t : Nat} {μ σ σ' : St} (h : CmP b w0 l t μ σ σ') : iR (σ' b 7) := h.2.2.2.2.1
theorem CmP.c7 {b : Nat} {w0 l : Int} {t : Nat} {μ σ σ' : St} (h : CmP b w0 l t μ σ σ') : ∀ c, 0 ≤ c → c < 32 → (bt (σ' b 7) c ↔ μ 231 29 ≠ -1 ∧ μ 240 (32 * t + c) ≠ 0 ∧ lft μ c) := h.2.2.2.2.2.1
theorem CmP.s5 {b : Nat} {w0 l : Int} {t : Nat} {μ σ σ' : St} (h : CmP b w0 l t μ σ σ') : σ' b 5 = σ b 5 := h.2.2.2.2.2.2.1
theorem CmP.s1 {b : Nat} {w0 l : Int} {t : Nat} {μ σ σ' : St} (h : CmP b w0 l t μ σ σ') : σ' b 1 = σ b 1 := h.2.2.2.2.2.2.2
theorem tail_ok {F b : Nat} {w0 l : Int} {t : Nat} {a1 : Nat} {a2 : Int} {μ σ τ : St} (hF : 100 ≤ F) (hb : b = 12 ∨ b = 110) (hw0 : μ 232 0 = w0) (hw2 : 0 ≤ w0 ∧ w0 ≤ 32) (hM : MI0 w0 t μ) (h30 : μ 231 28 ≤ 30) (hG : μ 231 29 = -1 ∨ Sok μ) (hL : Lv w0 t μ) (h : RunR b w0 l t μ σ)
    (b1 : BR (b + 1) τ w0 (fun c => μ 239 (32 * ((t + 1 : Nat) : Int) + c))) (b3 : BR (b + 3) τ w0 (fun c => μ 239 (32 * t + c))) (eb : ∀ j, j ≠ 2 → j ≠ 6 → τ b j = σ b j) (hx : ∀ x, b + 6 < x → τ x = σ x) (hlow : ∀ x, x < b → τ x = σ x)
    (r2 : iR (τ b 2)) (d2 : ∀ c, 0 ≤ c → c < 32 → (bt (τ b 2) c ↔ bt (σ b 2) c ∨ μ 240 (32 * t + c) ≠ 0)) (r6 : iR (τ b 6)) (c6 : ∀ c, 0 ≤ c → c < 32 → (bt (τ b 6) c ↔ μ 240 (32 * t + c) ≠ 0)) (h7 : σ b 7 = 0)
    (hcw : ∀ c, 0 ≤ c → c < 32 → μ 240 (32 * t + c) ≠ 0 → c < w0)
    (la : ∀ c, 0 ≤ c → c < w0 → τ (b + 5) c = latR (μ 240) c (t + 1)) (cb : ∀ e, 0 ≤ e → e < 60 → ∀ c, 0 ≤ c → c < 32 → (bt (τ (b + 6) e) c ↔ e < ((t + 1 : Nat) : Int) ∧ μ 240 (32 * e + c) ≠ 0)) (n : Nat) (i : Int) (hi : w0 ≤ i) : TT (f_X3_command_L67 F b a1 a2 (n + 1) i τ) (CmP b w0 l t μ σ) := by
  have h0 := hM.c0
  have md := kc_mid (t := t) (w0 := w0) (μ := μ) hG hw0 hw2.1
  rw [hw0] at md
  have mo : ∀ x, x ≠ 245 → x ≠ 247 → x ≠ 248 → x ≠ 249 → kcS t w0.toNat 0 μ x = μ x := md.oth
  have e31 := mo 231 (by decide) (by decide) (by decide) (by decide)
  have e39 := mo 239 (by decide) (by decide) (by decide) (by decide)
  have e40 := mo 240 (by decide) (by decide) (by decide) (by decide)
  have e41 := mo 241 (by decide) (by decide) (by decide) (by decide)
  have e42 := mo 242 (by decide) (by decide) (by decide) (by decide)
  have e43 := mo 243 (by decide) (by decide) (by decide) (by decide)
  have e44 := mo 244 (by decide) (by decide) (by decide) (by decide)
  have hH : Hs t μ (kcS t w0.toNat 0 μ) := Hs.mid hM md
  have hbs : baseR (kcS t w0.toNat 0 μ) ((t + 1 : Nat) : Int) = baseR μ t := by
    rw [← base_next hM]
    unfold baseR
    rw [e31]
    exact dirR_same _ (fun k hk => by rw [e42, e43, e44]; exact ⟨rfl, rfl, rfl⟩)
  have hbl := base_le hM t
  have hdt : ∀ c, 0 ≤ c → c < 32 → (bt (τ b 2) c ↔ c < w0 ∧ drt (kcS t w0.toNat 0 μ) c (t + 1)) := by
    intro c c1 c2
    rw [d2 c c1 c2, h.dt c c1 c2]
    unfold drt
    rw [hbs, e40, latR]
    by_cases q : μ 240 (32 * t + c) = 0
    · rw [if_pos q]
      exact ⟨fun z => z.elim id (fun z => absurd q z), fun z => Or.inl z⟩
    · rw [if_neg q]
      exact ⟨fun _ => ⟨hcw c c1 c2 q, hbl.2⟩, fun _ => Or.inr q⟩
  have hhw : hwR (kcS t w0.toNat 0 μ) (μ 231 28).toNat ↔ hwR μ (μ 231 28).toNat := hwR_same _ (fun k _ => by rw [e43])
  have asm : ∀ σ' : St, σ' (b + 1) = τ (b + 1) → σ' (b + 2) = τ (b + 2) → σ' (b + 5) = τ (b + 5) → σ' (b + 6) = τ (b + 6) → (∀ j, j ≠ 7 → σ' b j = τ b j) → (∀ k, 0 ≤ k → k < μ 231 28 → CC (b + 7 + 1 + 3 * k.toNat) k (kcS t w0.toNat 0 μ) σ') → (∀ k, 0 ≤ k → k < μ 231 28 → CD (b + 7 + 1 + 3 * k.toNat) k (kcS t w0.toNat 0 μ) σ') → RunR b w0 l (t + 1) (kcS t w0.toNat 0 μ) σ' := by
    intro σ' f1 f2 f5 f6 fb fc fd
    refine ⟨⟨by rw [f1]; exact b1.1, fun c c1 c2 => by rw [show b + 1 + 1 = b + 2 from rfl, f2, e39]; exact b1.2 c c1 c2⟩, by rw [fb 8 (by decide), eb 8 (by decide) (by decide)]; exact h.n8, by rw [fb 9 (by decide), eb 9 (by decide) (by decide)]; exact h.n9, by rw [fb 3 (by decide), eb 3 (by decide) (by decide), e31]; exact h.cn, by rw [fb 4 (by decide), eb 4 (by decide) (by decide), e31]; exact h.op, ?_, by rw [fb 2 (by decide)]; exact r2, by rw [fb 2 (by decide)]; exact hdt, by rw [f5, e40]; exact la, by rw [f6, e40]; exact cb, by rw [e31]; exact fc, by rw [e31]; exact fd⟩
    rw [fb 10 (by decide), eb 10 (by decide) (by decide), e31, hhw]
    exact h.aw
  have hfb : Fb b σ τ := fun x hx2 => by
    rcases hx2 with z | z
    · exact hlow x z
    · exact hx x (by omega)
  rw [f_X3_command_L67]
  simp only [tt_gt, tt_sg, tt_ite, tt_ck, tt_lk, tt_ix, tt_bo, tt_by, tt_nz, tt_ob, tt_st, tt_cpk, tt_c1, tt_c2, tt_ca, tt_cb, tt_some, kd_231, kd_0, Nat.reduceAdd, true_and, and_true, true_implies, not_true_eq_false, false_implies, not_false_eq_true, true_or, or_true]
  refine ⟨fun _ => ?_, fun q => absurd (by rw [eb 8 (by decide) (by decide), h.n8]; exact hi) q⟩
  rw [eb 4 (by decide) (by decide), h.op]
  have hcn : τ b 3 = μ 231 28 := by rw [eb 3 (by decide) (by decide)]; exact h.cn
  by_cases ho : μ 231 29 = -1
  · rw [copyOf_no (kd_run hb).1 (Or.inl (by omega)), tt_some]
    have hT : kcS t w0.toNat 0 μ = μ := kc_id _ _ _ (fun d _ _ z => z.1 ho)
    refine ⟨asm τ rfl rfl rfl rfl (fun _ _ => rfl) (fun k k1 k2 => ?_) (fun k k1 k2 => ?_), hfb, r6, c6, by rw [eb 7 (by decide) (by decide), h7]; exact iR_0, fun c c1 c2 => ?_, eb 5 (by decide) (by decide), eb 1 (by decide) (by decide)⟩
    · rw [hT]; exact (h.cc k k1 k2).mv (hx _ (by omega)) (hx _ (by omega)) (hx _ (by omega))
    · rw [hT]; exact (h.cd k k1 k2).mv (fun j _ _ => by rw [hx _ (by omega)])
    · rw [eb 7 (by decide) (by decide), h7]
      exact ⟨fun z => absurd z (bt_zero ⟨c1, c2⟩), fun z => absurd ho z.1⟩
  · have ho2 := hM.op.resolve_left ho
    have hK := kd_cpb hb (k := μ 231 29) ⟨ho2.2, by omega⟩
    have hcK := (h.cc _ ho2.2 (by omega)).mv (σ' := τ) (hx _ (by omega)) (hx _ (by omega)) (hx _ (by omega))
    have hdK := (h.cd _ ho2.2 (by omega)).mv (σ' := τ) (fun j _ _ => by rw [hx _ (by omega)])
    have hmc := hM.cp _ ho2.2 (by omega)
    rw [copyOf_ok (kd_run hb).1 ⟨ho2.2, by omega⟩ (by omega), tt_some]
    generalize hKd : b + 7 + 1 + 3 * (μ 231 29).toNat = K at *
    dsimp only
    simp only [tt_gt, tt_sg, tt_ite, tt_ck, tt_lk, tt_ix, tt_bo, tt_by, tt_nz, tt_ob, tt_st, tt_cpk, tt_c1, tt_c2, tt_ca, tt_cb, tt_some, kd_231, kd_0, Nat.reduceAdd, true_and, and_true, true_implies, not_true_eq_false, false_implies, not_false_eq_true, true_or, or_true, hK]
    refine (missing_ok hK hcK).mono (fun S1 hS1 => ?_)
    generalize hS : z_and (τ b 6) S1 = S
    have hSb : ∀ c, 0 ≤ c → c < 32 → (bt S c ↔ μ 240 (32 * t + c) ≠ 0 ∧ lft μ c) := fun c c1 c2 => by
      rw [← hS, bt_and ⟨c1, c2⟩, c6 c c1 c2, hS1.2 c c1 c2]
    have n1 : z_up τ b 7 S K = τ K := up_ne (by omega)
    have n2 : z_up τ b 7 S b 7 = S := by rw [up_eq]; exact if_pos rfl
    rw [n1, n2]
    generalize hτ2 : z_up (z_up τ b 7 S) K 6 (z_or (τ K 6) S) = τ2
    have t0 : ∀ x, x ≠ b → x ≠ K → τ2 x = τ x := fun x x1 x2 => by rw [← hτ2, up_ne x2, up_ne x1]
    have tb : ∀ j, τ2 b j = if j = 7 then S else τ b j := fun j => by rw [← hτ2, up_ne (by omega), up_eq]
    have tK : ∀ j, τ2 K j = if j = 6 then z_or (τ K 6) S else τ K j := fun j => by
      rw [← hτ2, up_eq]
      dsimp only
      rw [n1]
    rw [show τ2 b 7 = S by rw [tb, if_pos rfl]]
    have hcK2 : CC K (μ 231 29) μ τ2 := ⟨by rw [tK, if_neg (by decide)]; exact hcK.sz, by rw [tK, if_neg (by decide)]; exact hcK.wr, by rw [tK, if_neg (by decide)]; exact hcK.hr, by rw [tK, if_neg (by decide)]; exact hcK.wt, by rw [tK, if_neg (by decide)]; exact hcK.hd, by rw [t0 _ (by omega) (by omega)]; exact hcK.ct, by rw [t0 _ (by omega) (by omega)]; exact hcK.tn⟩
    have hk := kr_ok (F := F) (b := b) (K := K) (w0 := w0) (t := t) (S := S) (μ := μ) (σ := τ2) hF (kd_run hb).1 (kd_run hb).2.2.2.2.1 hK (by omega) ho hw0 hw2 (by rw [tb, if_neg (by decide), eb 8 (by decide) (by decide)]; exact h.n8) ⟨by rw [t0 _ (by omega) (by omega)]; exact b3.1, by rw [t0 _ (by omega) (by omega)]; exact b3.2⟩ hcK2 (hG.resolve_left ho) hL (fun d d1 d2 => hSb d d1 (by omega))
    refine hk.mono (fun σ' h6 => ?_)
    obtain ⟨g1, g2⟩ := h6
    have go : ∀ x, x ≠ b → x ≠ K → x ≠ K + 1 → x ≠ K + 2 → σ' x = τ x := fun x x1 x2 x3 x4 => (g1.oth x x2 x3 x4).trans (t0 x x1 x2)
    have gb : ∀ j, σ' b j = if j = 7 then S else τ b j := fun j => by rw [g1.oth b (by omega) (by omega) (by omega)]; exact tb j
    refine ⟨asm σ' (go _ (by omega) (by omega) (by omega) (by omega)) (go _ (by omega) (by omega) (by omega) (by omega)) (go _ (by omega) (by omega) (by omega) (by omega)) (go _ (by omega) (by omega) (by omega) (by omega)) (fun j hj => by rw [gb, if_neg hj]) (fun k k1 k2 => ?_) (fun k k1 k2 => ?_), ?_, by rw [gb, if_neg (by decide)]; exact r6, by rw [gb, if_neg (by decide)]; exact c6, by rw [gb, if_pos rfl, ← hS]; exact iR_and, fun c c1 c2 => ?_, by rw [gb, if_neg (by decide)]; exact eb 5 (by decide) (by decide), by rw [gb, if_neg (by decide)]; exact eb 1 (by decide) (by decide)⟩
    · by_cases q : k = μ 231 29
      · rw [q, hKd]
        exact g2
      · have hc3 := CC.hs (σ := σ) hM hH (k := k) ⟨k1, k2⟩ q (h.cc k k1 k2)
        exact hc3.mv ((go _ (by omega) (by omega) (by omega) (by omega)).trans (hx _ (by omega))) ((go _ (by omega) (by omega) (by omega) (by omega)).trans (hx _ (by omega))) ((go _ (by omega) (by omega) (by omega) (by omega)).trans (hx _ (by omega)))
    · by_cases q : k = μ 231 29
      · rw [q, hKd]
        have sK : ∀ j, j ≠ 5 → j ≠ 7 → σ' K j = if j = 6 then z_or (τ K 6) S else τ K j := fun j j1 j2 => (g1.slo j j1 j2).trans (tK j)
        refine ⟨by rw [sK 0 (by decide) (by decide), if_neg (by decide), e41]; exact hdK.fl, by rw [sK 1 (by decide) (by decide), if_neg (by decide), e42]; exact hdK.mk1, by rw [sK 2 (by decide) (by decide), if_neg (by decide), e43]; exact hdK.st, by rw [sK 3 (by decide) (by decide), if_neg (by decide), e44]; exact hdK.en, by rw [sK 6 (by decide) (by decide), if_pos rfl]; exact iR_or, fun c c1 c2 => ?_⟩
        rw [sK 6 (by decide) (by decide), if_pos rfl, bt_or ⟨c1, c2⟩, hSb c c1 c2, hdK.rs c c1 c2]
        have kr := kc_rows (t := t) w0.toNat 0 μ ho c
        by_cases q2 : kcC t w0.toNat 0 μ c
        · rw [(kr.1 q2).1]
          exact ⟨fun _ => by decide, fun _ => Or.inr ⟨q2.2.2.1, q2.2.2.2⟩⟩
        · rw [(kr.2 q2).1]
          refine ⟨fun z => z.elim id (fun z => absurd ⟨c1, ?_, z.1, z.2⟩ q2), fun z => Or.inl z⟩
          have := hcw c c1 c2 z.1
          omega
      · have hc3 := CD.hs (σ := σ) hH (k := k) ⟨k1, k2⟩ q (h.cd k k1 k2)
        exact hc3.mv (fun j _ _ => by rw [go _ (by omega) (by omega) (by omega) (by omega), hx _ (by omega)])
    · intro x hx2
      rw [go x (by omega) (by omega) (by omega) (by omega)]
      exact hfb x hx2
    · rw [gb, if_pos rfl, hSb c c1 c2]
      exact ⟨fun z => ⟨ho, z⟩, fun z => z.2⟩
theorem command_ok {F b : Nat} {w0 l : Int} {t : Nat} {w : Int → Int} {μ σ : St} (hF : 100 ≤ F) (hb : b = 12 ∨ b = 110) (hw : WF w) (hSR : SR 4 σ w) (ht : (t : Int) < evN w) (hkd : w (6 + 4 * (t : Int)) < 4) (hww : w 0 = w0) (hw0 : μ 232 0 = w0) (hw2 : 0 ≤ w0 ∧ w0 ≤ 32) (hM : MI0 w0 t μ) (h30 : μ 231 28 ≤ 30) (hG : μ 231 29 = -1 ∨ Sok μ) (hL : Lv w0 t μ) (hv : Vs t μ) (h : RunR b w0 l t μ σ) (h7 : σ b 7 = 0) (hB : B255 (fun c => μ 239 (32 * t + c)))
    (hval : ∀ c, 0 ≤ c → c < 32 → μ 239 (32 * ((t + 1 : Nat) : Int) + c) = apE w t (fun c => μ 239 (32 * t + c)) c) (hchg : ∀ c, 0 ≤ c → c < 32 → (μ 240 (32 * t + c) ≠ 0 ↔ μ 239 (32 * ((t + 1 : Nat) : Int) + c) ≠ μ 239 (32 * t + c))) (hcw : ∀ c, 0 ≤ c → c < 32 → μ 240 (32 * t + c) ≠ 0 → c < w0) : TT (f_X3_command F b 4 t σ) (CmP b w0 l t μ σ) := by
  have h60 := hw.ev60
  have kr := kd_run hb
  unfold f_X3_command
  simp only [tt_gt, tt_sg, tt_ite, tt_ck, tt_lk, tt_ix, tt_bo, tt_by, tt_nz, tt_ob, tt_st, tt_cpk, tt_c1, tt_c2, tt_ca, tt_cb, tt_some, kd_231, kd_0, Nat.reduceAdd, true_and, and_true, true_implies, not_true_eq_false, false_implies, not_false_eq_true, true_or, or_true, kr.1, show kdX 4 = 4 from rfl]
  refine (become_ok (F := F) (b := b + 3) (d := b + 1) kr.2.2.2.2.1 kr.2.1 (by omega) h.bd).mono (fun σ1 h1 => ?_)
  have o1 : ∀ x, x ≠ b + 3 → x ≠ b + 4 → σ1 x = σ x := h1.1
  have hSR1 : SR 4 σ1 w := hSR.mv (o1 4 (by omega) (by omega)) (o1 5 (by omega) (by omega)) (o1 6 (by omega) (by omega))
  have hB1 : B255 (σ1 (b + 1 + 1)) := fun c c1 c2 => by
    rw [o1 _ (by omega) (by omega), h.bd.2 c c1 c2]
    exact hB c c1 c2
  refine (e0_apply (F := F) (b := b + 1) (s := 4) (e := (t : Int)) hF kr.2.1 rfl hSR1 hw ⟨by omega, ht⟩ (by rw [o1 _ (by omega) (by omega), h.bd.1, hww]) hB1).mono (fun r hr => ?_)
  obtain ⟨v, σ2⟩ := r
  obtain ⟨p1, p2, p3, p4⟩ := hr
  dsimp only at p1 p2 p3 p4 ⊢
  have hnew : ∀ c, 0 ≤ c → c < 32 → σ2 (b + 2) c = μ 239 (32 * ((t + 1 : Nat) : Int) + c) := fun c c1 c2 => by
    rw [show b + 2 = b + 1 + 1 from rfl, p2 c c1 c2, if_pos hkd, hval c c1 c2]
    exact apE_congr hw.1.2.1 (hw.2.2 t (by omega) ht) hkd (fun d d1 d2 => by rw [o1 _ (by omega) (by omega)]; exact h.bd.2 d d1 d2) ⟨c1, c2⟩
  have hbit : ∀ c, 0 ≤ c → c < 32 → (bt v c ↔ μ 240 (32 * t + c) ≠ 0) := fun c c1 c2 => by
    rw [p4 c c1 c2, show b + 1 + 1 = b + 2 from rfl, hnew c c1 c2, o1 _ (by omega) (by omega), show σ (b + 2) c = _ from h.bd.2 c c1 c2, hchg c c1 c2]
  generalize hσ3 : z_up σ2 b 6 v = σ3
  have q0 : ∀ x, x ≠ b → x ≠ b + 2 → x ≠ b + 3 → x ≠ b + 4 → σ3 x = σ x := fun x x1 x2 x3 x4 => by rw [← hσ3, up_ne x1, p1 x x2, o1 x x3 x4]
  have qb : ∀ j, σ3 b j = if j = 6 then v else σ b j := fun j => by
    rw [← hσ3, up_eq]
    dsimp only
    rw [p1 b (by omega), o1 b (by omega) (by omega)]
  have q2 : ∀ c, 0 ≤ c → c < 32 → σ3 (b + 2) c = μ 239 (32 * ((t + 1 : Nat) : Int) + c) := fun c c1 c2 => by rw [← hσ3, up_ne (by omega)]; exact hnew c c1 c2
  have q3 : BR (b + 3) σ3 w0 (fun c => μ 239 (32 * t + c)) := by
    have := h1.2
    refine ⟨?_, fun c c1 c2 => ?_⟩
    · rw [← hσ3, up_ne (by omega), p1 _ (by omega)]; exact this.1
    · rw [← hσ3, up_ne (by omega), p1 _ (by omega)]; exact this.2 c c1 c2
  rw [qb 6, if_pos rfl]
  refine ⟨fun z => ?_, fun z => ⟨fun z2 => absurd z2 (by omega), fun _ => ⟨fun _ => And.intro (by omega) ?_, fun z2 => absurd (show (t : Int) < 60 by omega) z2⟩⟩⟩
  · subst z
    have hno : ∀ c, 0 ≤ c → c < 32 → μ 240 (32 * t + c) = 0 := fun c c1 c2 => Classical.byContradiction fun y => bt_zero ⟨c1, c2⟩ ((hbit c c1 c2).mpr y)
    have hT : kcS t w0.toNat 0 μ = μ := kc_id _ _ _ (fun d d1 d2 y => y.2.1 (hno d d1 (by omega)))
    have hold : ∀ c, 0 ≤ c → c < 32 → σ3 (b + 2) c = σ (b + 2) c := fun c c1 c2 => by
      rw [q2 c c1 c2, hv c c1 c2 (hno c c1 c2)]
      exact (h.bd.2 c c1 c2).symm
    refine ⟨?_, fun x hx => q0 x (by omega) (by omega) (by omega) (by omega), by rw [qb, if_pos rfl]; exact iR_0, by rw [qb, if_pos rfl]; exact hbit, by rw [qb, if_neg (by decide), h7]; exact iR_0, fun c c1 c2 => ?_, by rw [qb, if_neg (by decide)], by rw [qb, if_neg (by decide)]⟩
    · rw [hT]
      exact (h.adv hM hw2.2 hv hno rfl rfl rfl (fun _ _ => rfl) (fun _ _ => Iff.rfl) (fun _ _ _ => rfl) h.cc h.cd).mv hw2.2 (q0 _ (by omega) (by omega) (by omega) (by omega)) hold (fun j hj => by rw [qb, if_neg (by omega)]) (q0 _ (by omega) (by omega) (by omega) (by omega)) (q0 _ (by omega) (by omega) (by omega) (by omega)) (fun x hx => q0 x (by omega) (by omega) (by omega) (by omega))
    · rw [qb, if_neg (by decide), h7]
      exact ⟨fun y => absurd y (bt_zero ⟨c1, c2⟩), fun y => absurd (hno c c1 c2) y.2.1⟩
  · have n1 : z_up σ3 (b + 6) t v b = σ3 b := up_ne (by omega)
    rw [n1, qb 2, if_neg (by decide), qb 6, if_pos rfl]
    generalize hσ5 : z_up (z_up σ3 (b + 6) t v) b 2 (z_or (σ b 2) v) = σ5
    have r0 : ∀ x, x ≠ b → x ≠ b + 6 → σ5 x = σ3 x := fun x x1 x2 => by rw [← hσ5, up_ne x1, up_ne x2]
    have rb : ∀ j, σ5 b j = if j = 2 then z_or (σ b 2) v else σ3 b j := fun j => by
      rw [← hσ5, up_eq]
      dsimp only
      rw [n1]
    have r6 : ∀ j, σ5 (b + 6) j = if j = t then v else σ (b + 6) j := fun j => by
      rw [← hσ5, up_ne (by omega), up_eq, q0 _ (by omega) (by omega) (by omega) (by omega)]
    refine lp_w (L := fun n (p : Int × St) => f_X3_command_L67 F b 4 t n p.1 p.2) (fun j p => 0 ≤ p.1 ∧ p.1 + j = w0 ∧ (∀ x, x ≠ b + 5 → p.2 x = σ5 x) ∧ ∀ c, 0 ≤ c → c < w0 → p.2 (b + 5) c = if c < p.1 then latR (μ 240) c (t + 1) else latR (μ 240) c t) (fun j n p hI ih => ?_) w0.toNat F (0, σ5) (by omega) ⟨by dsimp only; omega, by dsimp only; omega, fun _ _ => rfl, fun c c1 c2 => by dsimp only; rw [if_neg (by omega), r0 _ (by omega) (by omega), q0 _ (by omega) (by omega) (by omega) (by omega)]; exact h.la c c1 c2⟩
    obtain ⟨i, τ⟩ := p
    dsimp only at hI ih ⊢
    obtain ⟨i1, i2, i3, i4⟩ := hI
    have tb : τ b = σ5 b := i3 b (by omega)
    by_cases qi : w0 ≤ i
    · refine tail_ok hF hb hw0 hw2 hM h30 hG hL h ⟨?_, fun c c1 c2 => ?_⟩ ⟨?_, fun c c1 c2 => ?_⟩ (fun j j1 j2 => ?_) (fun x hx => ?_) (fun x hx => ?_) ?_ (fun c c1 c2 => ?_) ?_ (fun c c1 c2 => ?_) h7 hcw (fun c c1 c2 => ?_) (fun e e1 e2 c c1 c2 => ?_) n i qi
      · rw [i3 _ (by omega), r0 _ (by omega) (by omega), q0 _ (by omega) (by omega) (by omega) (by omega)]; exact h.bd.1
      · rw [i3 _ (by omega), r0 _ (by omega) (by omega)]; exact q2 c c1 c2
      · rw [i3 _ (by omega), r0 _ (by omega) (by omega)]; exact q3.1
      · rw [i3 _ (by omega), r0 _ (by omega) (by omega)]; exact q3.2 c c1 c2
      · rw [tb, rb, if_neg j1, qb, if_neg j2]
      · rw [i3 _ (by omega), r0 _ (by omega) (by omega), q0 _ (by omega) (by omega) (by omega) (by omega)]
      · rw [i3 _ (by omega), r0 _ (by omega) (by omega), q0 _ (by omega) (by omega) (by omega) (by omega)]
      · rw [tb, rb, if_pos rfl]; exact iR_or
      · rw [tb, rb, if_pos rfl, bt_or ⟨c1, c2⟩, hbit c c1 c2]
      · rw [tb, rb, if_neg (by decide), qb, if_pos rfl]; exact p3
      · rw [tb, rb, if_neg (by decide), qb, if_pos rfl]; exact hbit c c1 c2
      · rw [i4 c c1 c2, if_pos (by omega)]
      · rw [i3 _ (by omega), r6]
        by_cases qe : e = t
        · rw [if_pos qe, hbit c c1 c2, qe]
          exact ⟨fun y => ⟨by omega, y⟩, fun y => y.2⟩
        · rw [if_neg qe, h.cb e e1 e2 c c1 c2]
          exact ⟨fun y => ⟨by omega, y.2⟩, fun y => ⟨by omega, y.2⟩⟩
    · have tb8 : τ b 8 = w0 := by rw [tb, rb, if_neg (by decide), qb, if_neg (by decide)]; exact h.n8
      have tb6 : τ b 6 = v := by rw [tb, rb, if_neg (by decide), qb, if_pos rfl]
      rw [f_X3_command_L67]
      simp only [tt_gt, tt_sg, tt_ite, tt_ck, tt_lk, tt_ix, tt_bo, tt_by, tt_nz, tt_ob, tt_st, tt_cpk, tt_c1, tt_c2, tt_ca, tt_cb, tt_some, kd_231, kd_0, Nat.reduceAdd, true_and, and_true, true_implies, not_true_eq_false, false_implies, not_false_eq_true, true_or, or_true, tb8, tb6, e6_holds]
      refine ⟨fun y => absurd y qi, fun _ => ⟨fun y => And.intro (by omega) (ih (j - 1) (i + 1, τ) (by omega) ⟨by dsimp only; omega, by dsimp only; omega, i3, fun c c1 c2 => ?_⟩), fun y => And.intro (by omega) (And.intro (by omega) (ih (j - 1) (i + 1, z_up τ (b + 5) i t) (by omega) ⟨by dsimp only; omega, by dsimp only; omega, fun x hx => (up_ne hx).trans (i3 x hx), fun c c1 c2 => ?_⟩))⟩⟩
      · have hno : ¬ bt v i := fun z => by rw [if_pos z] at y; exact absurd y (by decide)
        dsimp only
        rw [i4 c c1 c2]
        by_cases qc : c = i
        · rw [qc, if_neg (by omega), if_pos (by omega), latR, if_pos (Classical.byContradiction fun z => hno ((hbit i (by omega) (by omega)).mpr z))]
        · by_cases qc2 : c < i
          · rw [if_pos qc2, if_pos (by omega)]
          · rw [if_neg qc2, if_neg (by omega)]
      · have hyes : bt v i := Classical.byContradiction fun z => y (if_neg z)
        dsimp only
        rw [up_eq]
        dsimp only
        by_cases qc : c = i
        · rw [if_pos qc, if_pos (by omega), qc, latR, if_neg ((hbit i (by omega) (by omega)).mp hyes)]
        · rw [if_neg qc, i4 c c1 c2]
          by_cases qc2 : c < i
          · rw [if_pos qc2, if_pos (by omega)]
          · rw [if_neg qc2, if_neg (by omega)]
