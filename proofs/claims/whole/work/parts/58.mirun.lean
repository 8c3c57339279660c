theorem kc_frame {t : Nat} : ∀ (m : Nat) (c : Int) (μ : St), (kcS t m c μ) 231 = μ 231 ∧ (kcS t m c μ) 246 = μ 246 ∧ (kcS t m c μ) 240 = μ 240
  | 0, _, _ => ⟨rfl, rfl, rfl⟩
  | m + 1, c, μ => by
    unfold kcS
    split
    · have h := kc_frame (t := t) m (c + 1) (kpS c t 1 μ)
      exact ⟨h.1.trans (kp_ne (by decide) (by decide) (by decide) (by decide)), h.2.1.trans (kp_ne (by decide) (by decide) (by decide) (by decide)), h.2.2.trans (kp_ne (by decide) (by decide) (by decide) (by decide))⟩
    · exact kc_frame m (c + 1) μ
theorem kc_mono {t : Nat} : ∀ (m : Nat) (c : Int) (μ : St) (d : Int), lft (kcS t m c μ) d → lft μ d
  | 0, _, _, _, h => h
  | m + 1, c, μ, d, h => by
    unfold kcS at h
    split at h
    · exact ((kp_lft (by omega) _).mp (kc_mono m (c + 1) _ d h)).1
    · exact kc_mono m (c + 1) μ d h
theorem kc_done {t : Nat} : ∀ (m : Nat) (c : Int) (μ : St) (d : Int), c ≤ d → d < c + m → μ 231 29 ≠ -1 → μ 240 (32 * t + d) ≠ 0 → ¬ lft (kcS t m c μ) d
  | 0, c, _, d, h1, h2, _, _ => absurd h2 (by omega)
  | m + 1, c, μ, d, h1, h2, h3, h4 => by
    intro h
    by_cases q : d = c
    · subst q
      have hm := kc_mono (m + 1) d μ d h
      unfold kcS at h
      rw [if_pos ⟨h3, h4, hm⟩] at h
      exact ((kp_lft (by omega) _).mp (kc_mono m (d + 1) _ d h)).2 rfl
    · unfold kcS at h
      split at h
      · have e1 : kpS c t 1 μ 231 = μ 231 := kp_ne (by decide) (by decide) (by decide) (by decide)
        have e2 : kpS c t 1 μ 240 = μ 240 := kp_ne (by decide) (by decide) (by decide) (by decide)
        exact kc_done m (c + 1) _ d (by omega) (by omega) (by rw [e1]; exact h3) (by rw [e2]; exact h4) h
      · exact kc_done m (c + 1) μ d (by omega) (by omega) h3 h4 h
def Vs (t : Nat) (μ : St) : Prop := ∀ c, 0 ≤ c → c < 32 → μ 240 (32 * t + c) = 0 → μ 239 (32 * ((t + 1 : Nat) : Int) + c) = μ 239 (32 * t + c)
theorem mi_step {w0 l : Int} {t : Nat} {μ μ' : St} (hG : Gk t μ) (hw : μ 232 0 = w0) (hb : 0 ≤ w0 ∧ w0 ≤ 32) (hM : MI0 w0 t μ) (hL : Lv w0 t μ) (hv : Vs t μ) (hch : 4 ≤ μ 232 (6 + 4 * t) → ∀ c, 0 ≤ c → c < 32 → μ 240 (32 * t + c) = 0) (h : GoP t l μ μ') : MI0 w0 (t + 1) μ' ∧ Lv w0 (t + 1) μ' ∧ Hs t μ μ' := by
  obtain ⟨r, hr, h⟩ := h
  have e : ∀ x v, x ≠ 250 → z_up μ 250 t v x = μ x := fun x v h => up_ne h
  have hM1 : ∀ v, MI0 w0 t (z_up μ 250 t v) := fun v => hM.up
  have hS1 : μ 231 29 = -1 ∨ Sok (z_up μ 250 t 0) := hG.2.2.imp id (fun h => h.2.up)
  have ewd : z_up μ 250 t 0 232 0 = w0 := by rw [e 232 0 (by decide)]; exact hw
  have keep : ∀ (ν : St), ν 231 = μ 231 → ν 239 = μ 239 → ν 242 = μ 242 → (μ 231 29 ≠ -1 → ∀ c, 0 ≤ c → c < w0 → lft ν c → lft μ c ∧ μ 240 (32 * t + c) = 0) → Lv w0 (t + 1) ν := by
    intro ν e1 e2 e3 h4 ho c c1 c2 hl
    rw [e1] at ho
    obtain ⟨h5, h6⟩ := h4 ho c c1 c2 hl
    rw [e2, e3, e1, hv c c1 (by omega) h6]
    exact hL ho c c1 c2 h5
  have bgl : ∀ full : Int, 4 ≤ μ 232 (6 + 4 * t) → BgP t full (z_up μ 250 t 0) μ' → Lv w0 (t + 1) μ' := by
    intro full hk hb3 _ c c1 c2 _
    obtain ⟨b0, b1, b2, b3, b4, b5, b6, b7, b8, b9, b10⟩ := hb3
    rw [e 231 0 (by decide)] at b1 b3
    rw [b0 239 (by decide) (by omega), e 239 0 (by decide), hv c c1 (by omega) (hch hk c c1 (by omega)), b3, if_pos (by rw [b1, if_neg (by decide), if_pos rfl])]
  have cls : ∀ (st : Int) (ν : St), st = 1 ∨ st = 2 → μ 231 29 ≠ -1 → Mid w0 t (z_up μ 250 t 0 231 29) (z_up μ 250 t 0) ν → MI0 w0 (t + 1) (clS t st ν) ∧ Lv w0 (t + 1) (clS t st ν) ∧ Hs t μ (clS t st ν) := by
    intro st ν hst ho md
    have e31 : ν 231 = μ 231 := (md.oth 231 (by decide) (by decide) (by decide) (by decide)).trans (e 231 0 (by decide))
    have e42 : ν 242 = μ 242 := (md.oth 242 (by decide) (by decide) (by decide) (by decide)).trans (e 242 0 (by decide))
    have hc2 := hM.c2
    rw [if_neg ho] at hc2
    have ho2 := hM.op.resolve_left ho
    refine ⟨((hM1 0).mid md).cl hst (by rw [e31]; exact ho) (by rw [e31]; omega) (by rw [e42, e31]; exact (hM.cp _ ho2.2 (by omega)).mrk.2), fun z => absurd cl_231.2 z, (Hs.cls (hM1 0) (Hs.mid (hM1 0) md) (by rw [e31, e 231 0 (by decide)]) (by rw [e 231 0 (by decide)]; exact ho)).up⟩
  rcases h with ⟨h1, rfl⟩ | ⟨h1, h2, rfl⟩ | ⟨h1, h2, h3⟩ | ⟨h1, h2, h3⟩ | ⟨h1, h2, rfl⟩ | ⟨h1, h2, rfl⟩ | ⟨h1, h2, rfl⟩
  · have hk : 4 ≤ μ 232 (6 + 4 * t) := by unfold whyP at hr; omega
    refine ⟨(hM1 r).mid Mid.rf, keep _ (e 231 r (by decide)) (e 239 r (by decide)) (e 242 r (by decide)) (fun _ c c1 c2 hl => ⟨?_, hch hk c c1 (by omega)⟩), (Hs.mid (hM1 r) Mid.rf).up⟩
    unfold lft at hl ⊢
    rw [e 231 r (by decide), e 246 r (by decide), e 248 r (by decide)] at hl
    exact hl
  · have md := kc_mid (t := t) (w0 := w0) (μ := z_up μ 250 t 0) (by rw [e 231 0 (by decide)]; exact hS1) ewd hb.1
    rw [e 232 0 (by decide)] at md
    have fr := kc_frame (t := t) (μ 232 0).toNat 0 (z_up μ 250 t 0)
    refine ⟨(hM1 0).mid md, keep _ ((md.oth 231 (by decide) (by decide) (by decide) (by decide)).trans (e 231 0 (by decide))) ((md.oth 239 (by decide) (by decide) (by decide) (by decide)).trans (e 239 0 (by decide))) ((md.oth 242 (by decide) (by decide) (by decide) (by decide)).trans (e 242 0 (by decide))) (fun qo c c1 c2 hl => ⟨?_, ?_⟩), (Hs.mid (hM1 0) md).up⟩
    · have hm := kc_mono _ _ _ _ hl
      unfold lft at hm ⊢
      rw [e 231 0 (by decide), e 246 0 (by decide), e 248 0 (by decide)] at hm
      exact hm
    · apply Classical.byContradiction
      intro q
      exact kc_done (μ 232 0).toNat 0 (z_up μ 250 t 0) c c1 (by omega) (by rw [e 231 0 (by decide)]; exact qo) (by rw [e 240 0 (by decide)]; exact q) hl
  · have ho : μ 231 29 = -1 := by unfold whyP at hr; omega
    exact ⟨(hM1 0).bg ewd (by rw [e 231 0 (by decide)]; exact ho) h3, bgl 1 (by omega) h3, (Hs.bg (hM1 0) (by rw [e 231 0 (by decide)]; exact ho) h3).up⟩
  · have ho : μ 231 29 = -1 := by unfold whyP at hr; omega
    exact ⟨(hM1 0).bg ewd (by rw [e 231 0 (by decide)]; exact ho) h3, bgl 0 (by omega) h3, (Hs.bg (hM1 0) (by rw [e 231 0 (by decide)]; exact ho) h3).up⟩
  · have ho : μ 231 29 ≠ -1 := by unfold whyP at hr; omega
    have md := sc_mid (l := l) (t := t) (w0 := w0) (n := (μ 232 (6 + 4 * t + 1 + 0)).toNat) (μ := z_up μ 250 t 0) (hS1.resolve_left ho) ewd
    refine ⟨(hM1 0).mid md, keep _ ((md.oth 231 (by decide) (by decide) (by decide) (by decide)).trans (e 231 0 (by decide))) ((md.oth 239 (by decide) (by decide) (by decide) (by decide)).trans (e 239 0 (by decide))) ((md.oth 242 (by decide) (by decide) (by decide) (by decide)).trans (e 242 0 (by decide))) (fun _ c c1 c2 hl => ⟨?_, hch (by omega) c c1 (by omega)⟩), (Hs.mid (hM1 0) md).up⟩
    have hm := md.lf ⟨c1, by omega⟩ hl
    unfold lft at hm ⊢
    rw [e 231 0 (by decide), e 246 0 (by decide), e 248 0 (by decide)] at hm
    exact hm
  · have ho : μ 231 29 ≠ -1 := by unfold whyP at hr; omega
    have md := sc_mid (l := l) (t := t) (w0 := w0) (n := 32) (μ := z_up μ 250 t 0) (hS1.resolve_left ho) ewd
    exact cls 1 _ (Or.inl rfl) ho md
  · have ho : μ 231 29 ≠ -1 := by unfold whyP at hr; omega
    exact cls 2 _ (Or.inr rfl) ho Mid.rf

def Gd (w g : Int → Int) (t : Nat) (α : St) : Prop := (WF (α 232)) ∧ ((t : Int) ≤ evN (α 232)) ∧ (α 231 28 = 0) ∧ (α 231 29 = -1) ∧ (Vlaid (α 232) (α 238) t α) ∧ (α 232 0 = w 0) ∧ (∀ j, 6 ≤ j → j < 6 + 4 * (t : Int) → α 232 j = w j) ∧ (∀ e, 0 ≤ e → e < (t : Int) → α 238 e = g e)
theorem Gd.wf {w g : Int → Int} {t : Nat} {α : St} (h : Gd w g t α) : WF (α 232) := h.1
theorem Gd.le {w g : Int → Int} {t : Nat} {α : St} (h : Gd w g t α) : (t : Int) ≤ evN (α 232) := h.2.1
theorem Gd.n0 {w g : Int → Int} {t : Nat} {α : St} (h : Gd w g t α) : α 231 28 = 0 := h.2.2.1
theorem Gd.o0 {w g : Int → Int} {t : Nat} {α : St} (h : Gd w g t α) : α 231 29 = -1 := h.2.2.2.1
theorem Gd.vl {w g : Int → Int} {t : Nat} {α : St} (h : Gd w g t α) : Vlaid (α 232) (α 238) t α := h.2.2.2.2.1
theorem Gd.w0 {w g : Int → Int} {t : Nat} {α : St} (h : Gd w g t α) : α 232 0 = w 0 := h.2.2.2.2.2.1
theorem Gd.ev {w g : Int → Int} {t : Nat} {α : St} (h : Gd w g t α) : ∀ j, 6 ≤ j → j < 6 + 4 * (t : Int) → α 232 j = w j := h.2.2.2.2.2.2.1
theorem Gd.go {w g : Int → Int} {t : Nat} {α : St} (h : Gd w g t α) : ∀ e, 0 ≤ e → e < (t : Int) → α 238 e = g e := h.2.2.2.2.2.2.2
theorem Gd.dn {w g : Int → Int} {s t : Nat} {α : St} (h : Gd w g t α) (hs : s ≤ t) : Gd w g s α :=
  ⟨h.wf, by have := h.le; omega, h.n0, h.o0, ⟨fun t' c a b d => h.vl.1 t' c (by omega) b d, fun t' c a b d => h.vl.2 t' c (by omega) b d⟩, h.w0, fun j a b => h.ev j a (by omega), fun e a b => h.go e a (by omega)⟩
theorem chg_non {w g : Int → Int} {t : Nat} {c : Int} (h : g t ≠ 0 ∨ 4 ≤ w (6 + 4 * t)) : chg w g t c = 0 := by
  have h1 : Val w g (t + 1) c = Val w g t c := by rw [Val, if_neg (by omega)]
  unfold chg
  rw [h1, if_pos rfl]
theorem Gd.it {w g : Int → Int} {t : Nat} {α : St} {F : Nat} {l : Int} (hF : 100 ≤ F) (h : Gd w g t α) : MI0 (w 0) t (ItG F l t α) ∧ Lv (w 0) t (ItG F l t α) ∧ ∀ s, s ≤ t → MI0 (w 0) s (ItG F l s α) ∧ Hs s (ItG F l s α) (ItG F l t α) := by
  induction t with
  | zero =>
    have hM : MI0 (w 0) 0 (ItG F l 0 α) := by
      have h1 := h.n0
      have h2 := h.o0
      refine ⟨by show 0 ≤ α 231 28; omega, by show 2 * α 231 28 ≤ _ + (if α 231 29 = -1 then 0 else 1); rw [if_pos h2]; omega, Or.inl h2, fun k k1 k2 => ?_⟩
      have : k < α 231 28 := k2
      omega
    refine ⟨hM, fun z => absurd h.o0 z, fun s hs => ?_⟩
    rw [show s = 0 by omega]
    exact ⟨hM, Hs.self hM⟩
  | succ t ih =>
    obtain ⟨i1, i2, i3⟩ := ih (h.dn (by omega))
    have hwf := h.wf
    have h60 := hwf.ev60
    have hle := h.le
    obtain ⟨g1, fr⟩ := It_ok (F := F) (l := l) hF h.wf h.n0 h.o0 t (by omega)
    have e32 : ItG F l t α 232 = α 232 := fr.1 232 (by decide) (by omega)
    have e38 : ItG F l t α 238 = α 238 := fr.1 238 (by decide) (by omega)
    have e39 : ItG F l t α 239 = α 239 := fr.1 239 (by decide) (by omega)
    have e40 : ItG F l t α 240 = α 240 := fr.1 240 (by decide) (by omega)
    have hv : Vs t (ItG F l t α) := by
      intro c c1 c2
      rw [e40, e39, h.vl.2 t c (by omega) c1 c2, h.vl.1 t c (by omega) c1 c2, h.vl.1 (t + 1) c (by omega) c1 c2]
      intro q
      unfold chg at q
      split at q
      · rename_i z; exact z.symm
      · exact absurd q (by decide)
    by_cases q : α 238 t = 0
    · have hgo := (It_go (F := F) (l := l) hF h.wf h.n0 h.o0 t (by omega) q).2
      obtain ⟨j1, j2, j3⟩ := mi_step g1 (by rw [e32]; exact h.w0) ⟨by rw [← h.w0]; exact hwf.1.1, by rw [← h.w0]; exact hwf.1.2.1⟩ i1 i2 hv (fun hk c c1 c2 => by rw [e32] at hk; rw [e40, h.vl.2 t c (by omega) c1 c2]; exact chg_non (Or.inr hk)) hgo
      refine ⟨j1, j2, fun s hs => ?_⟩
      by_cases q2 : s = t + 1
      · rw [q2]; exact ⟨j1, Hs.self j1⟩
      · obtain ⟨k1, k2⟩ := i3 s (by omega)
        exact ⟨k1, Hs.tr (by omega) k1 i1 k2 j3⟩
    · have e1 : ItG F l (t + 1) α = ItG F l t α := by rw [ItG, goG, e38, if_neg q]
      rw [e1]
      refine ⟨i1.mid Mid.rf, fun ho c c1 c2 hl => ?_, fun s hs => ?_⟩
      · have hb := hwf.1.2.1
        rw [h.w0] at hb
        rw [hv c c1 (by omega) (by rw [e40, h.vl.2 t c (by omega) c1 (by omega)]; exact chg_non (Or.inl q))]
        exact i2 ho c c1 c2 hl
      · by_cases q2 : s = t + 1
        · rw [q2, e1]; exact ⟨i1.mid Mid.rf, Hs.self (i1.mid Mid.rf)⟩
        · exact i3 s (by omega)
