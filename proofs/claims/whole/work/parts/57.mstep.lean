theorem Mid.lf {w0 : Int} {t : Nat} {μ0 μ : St} {d : Int} (h : Mid w0 t (μ0 231 29) μ0 μ) (hd : 0 ≤ d ∧ d < 32) (hl : lft μ d) : lft μ0 d := by
  have hk : μ 231 29 = μ0 231 29 := by rw [h.oth 231 (by decide) (by decide) (by decide) (by decide)]
  have h246 : μ 246 = μ0 246 := h.oth 246 (by decide) (by decide) (by decide) (by decide)
  unfold lft at hl ⊢
  rw [hk, h246] at hl
  refine ⟨hl.1, ?_⟩
  rcases h.kb d hd.1 hd.2 with q | q
  · rw [← q.1]; exact hl.2
  · have := hl.2
    omega
theorem MI0.mid {w0 : Int} {t : Nat} {μ0 μ : St} (hM : MI0 w0 t μ0) (h : Mid w0 t (μ0 231 29) μ0 μ) : MI0 w0 (t + 1) μ := by
  have e : ∀ x, x ≠ 245 → x ≠ 247 → x ≠ 248 → x ≠ 249 → μ x = μ0 x := h.oth
  have e31 : μ 231 = μ0 231 := e 231 (by decide) (by decide) (by decide) (by decide)
  have e41 : μ 241 = μ0 241 := e 241 (by decide) (by decide) (by decide) (by decide)
  have e42 : μ 242 = μ0 242 := e 242 (by decide) (by decide) (by decide) (by decide)
  have e43 : μ 243 = μ0 243 := e 243 (by decide) (by decide) (by decide) (by decide)
  have e44 : μ 244 = μ0 244 := e 244 (by decide) (by decide) (by decide) (by decide)
  have e46 : μ 246 = μ0 246 := e 246 (by decide) (by decide) (by decide) (by decide)
  refine ⟨by rw [e31]; exact hM.c0, ?_, by rw [e31]; exact hM.op, fun k k1 k2 => ?_⟩
  · rw [e31]
    have := hM.c2
    split at this <;> split <;> omega
  · rw [e31] at k2
    have hc := hM.cp k k1 k2
    by_cases q : k = μ0 231 29
    · refine ⟨by rw [e42]; have := hc.mrk; omega, by rw [e41]; exact hc.fl, ?_, ?_, by rw [e46]; exact hc.wt, fun c c1 c2 => ?_⟩
      · rw [e31, e42, e43, e44]
        rcases hc.st with z | z
        · exact Or.inl z
        · exact absurd q z.1
      · have h1 := h.nn
        have h2 := hc.sz
        rw [← q] at h1
        omega
      · have hm := hc.mrk
        rw [e42, e46]
        rcases h.kb c c1 c2 with z | z
        · rw [← q] at z
          rw [z.1, z.2]
          rcases hc.kb c c1 c2 with y | y
          · exact Or.inl y
          · exact Or.inr (by omega)
        · rw [← q] at z
          exact Or.inr ⟨by omega, by omega, z.2.1, z.2.2.2.2⟩
    · have hr : ∀ c, 0 ≤ c → c < 32 → μ 247 (32 * k + c) = μ0 247 (32 * k + c) ∧ μ 248 (32 * k + c) = μ0 248 (32 * k + c) := fun c c1 c2 => by
        have := h.row (32 * k + c) (by omega)
        exact ⟨this.1, this.2.1⟩
      refine ⟨by rw [e42]; have := hc.mrk; omega, by rw [e41]; exact hc.fl, ?_, ?_, by rw [e46]; exact hc.wt, fun c c1 c2 => ?_⟩
      · rw [e31, e42, e43, e44]
        rcases hc.st with z | z
        · exact Or.inl z
        · exact Or.inr ⟨z.1, z.2.1, z.2.2.1, by have := z.2.2.2; omega⟩
      · rw [h.sz k q, kpN_same (fun c c1 c2 => (hr c c1 c2).2)]
        exact hc.sz
      · rw [e42, e46, (hr c c1 c2).1, (hr c c1 c2).2]
        rcases hc.kb c c1 c2 with y | y
        · exact Or.inl y
        · exact Or.inr ⟨y.1, by omega, y.2.2⟩
theorem Hs.mid {w0 : Int} {t : Nat} {μ0 μ : St} (hM : MI0 w0 t μ0) (h : Mid w0 t (μ0 231 29) μ0 μ) : Hs t μ0 μ := by
  have e : ∀ x, x ≠ 245 → x ≠ 247 → x ≠ 248 → x ≠ 249 → μ x = μ0 x := h.oth
  have e31 : μ 231 = μ0 231 := e 231 (by decide) (by decide) (by decide) (by decide)
  have e43 : μ 243 = μ0 243 := e 243 (by decide) (by decide) (by decide) (by decide)
  have e44 : μ 244 = μ0 244 := e 244 (by decide) (by decide) (by decide) (by decide)
  refine ⟨by rw [e31]; exact Int.le_refl _, e 239 (by decide) (by decide) (by decide) (by decide), e 240 (by decide) (by decide) (by decide) (by decide), fun k k1 k2 => ⟨by rw [e 241 (by decide) (by decide) (by decide) (by decide)], by rw [e 242 (by decide) (by decide) (by decide) (by decide)], fun c c1 c2 => by rw [e 246 (by decide) (by decide) (by decide) (by decide)]⟩, fun k k1 k2 k3 => ⟨by rw [e43], by rw [e44], h.sz k k3, fun c c1 c2 => (h.row (32 * k + c) (by omega)).2.2⟩, fun ho => ?_, fun k k1 k2 c c1 c2 => ?_, fun k k1 k2 => ?_, fun e1 he => by rw [e 250 (by decide) (by decide) (by decide) (by decide)]⟩
  · rw [e44, e31]
    have h1 := hM.op.resolve_left ho
    rcases (hM.cp (μ0 231 29) h1.2 (by omega)).st with z | z
    · exact Or.inl ⟨z.2.2, rfl⟩
    · exact absurd rfl z.1
  · by_cases q : k = μ0 231 29
    · rcases h.kb c c1 c2 with z | z
      · rw [← q] at z; exact Or.inl z
      · rw [← q] at z
        exact Or.inr ⟨z.1, q, by omega⟩
    · have := h.row (32 * k + c) (by omega)
      exact Or.inl ⟨this.2.1, this.1⟩
  · rw [e31] at k2
    omega
theorem MI0.cl {w0 : Int} {t : Nat} {μ : St} {st : Int} (hs : st = 1 ∨ st = 2) (hM : MI0 w0 (t + 1) μ) (ho : μ 231 29 ≠ -1) (hc2 : 2 * μ 231 28 ≤ t + 1) (hmk : μ 242 (μ 231 29) < t) : MI0 w0 (t + 1) (clS t st μ) := by
  have h1 := hM.op.resolve_left ho
  have c1 := cl_231 (e := (t : Int)) (s := st) (σ := μ)
  have e43 : ∀ j, clS t st μ 243 j = if j = μ 231 29 then st else μ 243 j := fun j => by unfold clS; rw [up_ne (by decide), up_ne (by decide), up_eq]
  have e44 : ∀ j, clS t st μ 244 j = if j = μ 231 29 then (t : Int) + 1 else μ 244 j := fun j => by unfold clS; rw [up_ne (by decide), up_eq, up_ne (by decide)]
  have e : ∀ x, x ≠ 231 → x ≠ 243 → x ≠ 244 → clS t st μ x = μ x := fun x a b c => by unfold clS; rw [up_ne a, up_ne c, up_ne b]
  refine ⟨by rw [c1.1]; exact hM.c0, by rw [c1.1, c1.2, if_pos rfl]; omega, Or.inl c1.2, fun k k1 k2 => ?_⟩
  rw [c1.1] at k2
  have hc := hM.cp k k1 k2
  refine ⟨by rw [e 242 (by decide) (by decide) (by decide)]; exact hc.mrk, by rw [e 241 (by decide) (by decide) (by decide)]; exact hc.fl, ?_, ?_, by rw [e 246 (by decide) (by decide) (by decide)]; exact hc.wt, by rw [e 246 (by decide) (by decide) (by decide), e 247 (by decide) (by decide) (by decide), e 248 (by decide) (by decide) (by decide), e 242 (by decide) (by decide) (by decide)]; exact hc.kb⟩
  · rw [e43, e44, c1.2, e 242 (by decide) (by decide) (by decide)]
    by_cases q : k = μ 231 29
    · rw [if_pos q, if_pos q]
      rw [← q] at hmk
      exact Or.inr ⟨by omega, hs, by omega, by omega⟩
    · rw [if_neg q, if_neg q]
      rcases hc.st with z | z
      · exact absurd z.1 q
      · exact Or.inr ⟨by omega, z.2⟩
  · rw [e 245 (by decide) (by decide) (by decide), kpN_same (fun c _ _ => by rw [e 248 (by decide) (by decide) (by decide)])]
    exact hc.sz
theorem Hs.cls {w0 : Int} {t : Nat} {μ0 μ : St} {st : Int} (hM : MI0 w0 t μ0) (h : Hs t μ0 μ) (ho : μ 231 29 = μ0 231 29) (hn : μ0 231 29 ≠ -1) : Hs t μ0 (clS t st μ) := by
  have c1 := cl_231 (e := (t : Int)) (s := st) (σ := μ)
  have e43 : ∀ j, clS t st μ 243 j = if j = μ 231 29 then st else μ 243 j := fun j => by unfold clS; rw [up_ne (by decide), up_ne (by decide), up_eq]
  have e44 : ∀ j, clS t st μ 244 j = if j = μ 231 29 then (t : Int) + 1 else μ 244 j := fun j => by unfold clS; rw [up_ne (by decide), up_eq, up_ne (by decide)]
  have e : ∀ x, x ≠ 231 → x ≠ 243 → x ≠ 244 → clS t st μ x = μ x := fun x a b c => by unfold clS; rw [up_ne a, up_ne c, up_ne b]
  refine ⟨by rw [c1.1]; exact h.le, by rw [e 239 (by decide) (by decide) (by decide)]; exact h.v9, by rw [e 240 (by decide) (by decide) (by decide)]; exact h.v0, fun k k1 k2 => ?_, fun k k1 k2 k3 => ?_, fun _ => Or.inr ?_, fun k k1 k2 c c1 c2 => ?_, fun k k1 k2 => ?_, fun e1 he => by rw [e 250 (by decide) (by decide) (by decide)]; exact h.rf e1 he⟩
  · rw [e 241 (by decide) (by decide) (by decide), e 242 (by decide) (by decide) (by decide), e 246 (by decide) (by decide) (by decide)]
    exact h.fx k k1 k2
  · rw [e43, e44, if_neg (by omega), if_neg (by omega), e 245 (by decide) (by decide) (by decide), e 249 (by decide) (by decide) (by decide)]
    exact h.cl k k1 k2 k3
  · rw [e44, if_pos ho.symm]; omega
  · rw [e 247 (by decide) (by decide) (by decide), e 248 (by decide) (by decide) (by decide)]
    exact h.kb k k1 k2 c c1 c2
  · rw [c1.1] at k2
    rw [e 242 (by decide) (by decide) (by decide)]
    exact h.nw k k1 k2
theorem MI0.bg {w0 : Int} {t : Nat} {μ μ' : St} {full : Int} (hM : MI0 w0 t μ) (hw : μ 232 0 = w0) (ho : μ 231 29 = -1) (h : BgP t full μ μ') : MI0 w0 (t + 1) μ' := by
  obtain ⟨b0, b1, b2, b3, b4, b5, b6, b7, b8, b9, b10⟩ := h
  have c28 : μ' 231 28 = μ 231 28 + 1 := by rw [b1, if_pos rfl]
  have c29 : μ' 231 29 = μ 231 28 := by rw [b1, if_neg (by decide), if_pos rfl]
  have h0 := hM.c0
  have h2 := hM.c2
  rw [if_pos ho] at h2
  refine ⟨by omega, by rw [c28, c29, if_neg (by omega)]; omega, Or.inr (by omega), fun k k1 k2 => ?_⟩
  by_cases q : k = μ 231 28
  · refine ⟨by rw [b3, if_pos q]; omega, by rw [b2, if_pos q]; split <;> simp, ?_, ?_, fun c a1 a2 => ?_, fun c a1 a2 => ?_⟩
    · rw [b4, b5, if_pos q, if_pos q, c29]
      exact Or.inl ⟨q, rfl, rfl⟩
    · rw [b6, if_pos q]
      unfold kpN
      rw [sm_zero]
      intro i hi
      rw [b9, if_pos (by omega)]
    · rw [b7, if_pos (by omega)]
      unfold bgW
      split
      · rename_i z
        exact ⟨Or.inr rfl, fun _ => by omega⟩
      · exact ⟨Or.inl rfl, fun z => absurd rfl z⟩
    · rw [b8, b9, if_pos (by omega), if_pos (by omega)]
      exact Or.inl ⟨rfl, rfl⟩
  · have hc := hM.cp k k1 (by omega)
    refine ⟨by rw [b3, if_neg q]; have := hc.mrk; omega, by rw [b2, if_neg q]; exact hc.fl, ?_, ?_, fun c a1 a2 => ?_, fun c a1 a2 => ?_⟩
    · rw [b3, b4, b5, if_neg q, if_neg q, if_neg q, c29]
      rcases hc.st with z | z
      · exact absurd z.1 (by omega)
      · exact Or.inr ⟨q, z.2.1, z.2.2.1, by have := z.2.2.2; omega⟩
    · rw [b6, if_neg q, kpN_same (fun c a1 a2 => by rw [b9, if_neg (by omega)])]
      exact hc.sz
    · rw [b7, if_neg (by omega)]
      exact hc.wt c a1 a2
    · rw [b3, b7, b8, b9, if_neg q, if_neg (by omega), if_neg (by omega), if_neg (by omega)]
      rcases hc.kb c a1 a2 with y | y
      · exact Or.inl y
      · exact Or.inr ⟨y.1, by omega, y.2.2⟩
theorem Hs.bg {w0 : Int} {t : Nat} {μ μ' : St} {full : Int} (hM : MI0 w0 t μ) (ho : μ 231 29 = -1) (h : BgP t full μ μ') : Hs t μ μ' := by
  obtain ⟨b0, b1, b2, b3, b4, b5, b6, b7, b8, b9, b10⟩ := h
  have c28 : μ' 231 28 = μ 231 28 + 1 := by rw [b1, if_pos rfl]
  refine ⟨by omega, b0 239 (by decide) (by omega), b0 240 (by decide) (by omega), fun k k1 k2 => ⟨by rw [b2, if_neg (by omega)], by rw [b3, if_neg (by omega)], fun c a1 a2 => by rw [b7, if_neg (by omega)]⟩, fun k k1 k2 k3 => ⟨by rw [b4, if_neg (by omega)], by rw [b5, if_neg (by omega)], by rw [b6, if_neg (by omega)], fun c a1 a2 => by rw [b10, if_neg (by omega)]⟩, fun z => absurd ho z, fun k k1 k2 c a1 a2 => Or.inl ⟨by rw [b9, if_neg (by omega)], by rw [b8, if_neg (by omega)]⟩, fun k k1 k2 => ?_, fun e he => by rw [b0 250 (by decide) (by omega)]⟩
  rw [b3, if_pos (by omega)]
  exact Int.le_refl _
theorem MI0.up {w0 : Int} {t : Nat} {μ : St} {j v : Int} (hM : MI0 w0 t μ) : MI0 w0 t (z_up μ 250 j v) := by
  have e : ∀ x, x ≠ 250 → z_up μ 250 j v x = μ x := fun x h => up_ne h
  refine ⟨by rw [e 231 (by decide)]; exact hM.c0, by rw [e 231 (by decide)]; exact hM.c2, by rw [e 231 (by decide)]; exact hM.op, fun k k1 k2 => ?_⟩
  rw [e 231 (by decide)] at k2
  have hc := hM.cp k k1 k2
  exact ⟨by rw [e 242 (by decide)]; exact hc.mrk, by rw [e 241 (by decide)]; exact hc.fl, by rw [e 231 (by decide), e 242 (by decide), e 243 (by decide), e 244 (by decide)]; exact hc.st, by rw [e 245 (by decide), kpN_same (fun c _ _ => by rw [e 248 (by decide)])]; exact hc.sz, by rw [e 246 (by decide)]; exact hc.wt, by rw [e 242 (by decide), e 246 (by decide), e 247 (by decide), e 248 (by decide)]; exact hc.kb⟩
theorem Hs.tr {w0 : Int} {s t : Nat} {a b c : St} (hst : s ≤ t) (ha : MI0 w0 s a) (hb : MI0 w0 t b) (h1 : Hs s a b) (h2 : Hs t b c) : Hs s a c := by
  have hl1 := h1.le
  have hl2 := h2.le
  refine ⟨by omega, h2.v9.trans h1.v9, h2.v0.trans h1.v0, fun k k1 k2 => ?_, fun k k1 k2 k3 => ?_, fun ho => ?_, fun k k1 k2 d d1 d2 => ?_, fun k k1 k2 => ?_, fun e he => ?_⟩
  · have x := h1.fx k k1 k2
    have y := h2.fx k k1 (by omega)
    exact ⟨y.1.trans x.1, y.2.1.trans x.2.1, fun d d1 d2 => (y.2.2 d d1 d2).trans (x.2.2 d d1 d2)⟩
  · have x := h1.cl k k1 k2 k3
    have hk : k ≠ b 231 29 := by
      intro q
      have p1 := (ha.cp k k1 k2).st
      have p2 := (hb.cp k k1 (by omega)).st
      omega
    have y := h2.cl k k1 (by omega) hk
    exact ⟨y.1.trans x.1, y.2.1.trans x.2.1, y.2.2.1.trans x.2.2.1, fun d d1 d2 => (y.2.2.2 d d1 d2).trans (x.2.2.2 d d1 d2)⟩
  · have ho2 := ha.op.resolve_left ho
    rcases h1.opn ho with x | x
    · have hbo : b 231 29 ≠ -1 := by omega
      rcases h2.opn hbo with y | y
      · rw [x.2] at y
        exact Or.inl ⟨y.1, y.2⟩
      · rw [x.2] at y
        exact Or.inr (by omega)
    · have hk : a 231 29 ≠ b 231 29 := by
        intro q
        have p2 := (hb.cp (a 231 29) ho2.2 (by omega)).st
        omega
      have y := h2.cl (a 231 29) ho2.2 (by omega) hk
      exact Or.inr (by omega)
  · rcases h1.kb k k1 k2 d d1 d2 with x | x
    · rcases h2.kb k k1 (by omega) d d1 d2 with y | y
      · exact Or.inl ⟨y.1.trans x.1, y.2.trans x.2⟩
      · refine Or.inr ⟨by omega, ?_, by omega⟩
        apply Classical.byContradiction
        intro q
        have z := h1.cl k k1 k2 q
        have p1 := (ha.cp k k1 k2).st
        have p2 := (hb.cp k k1 (by omega)).st
        omega
    · rcases h2.kb k k1 (by omega) d d1 d2 with y | y
      · exact Or.inr ⟨x.1, x.2.1, by omega⟩
      · exact Or.inr ⟨x.1, x.2.1, by omega⟩
  · by_cases q : k < b 231 28
    · have x := h1.nw k k1 q
      have y := h2.fx k (by have := ha.c0; omega) q
      omega
    · have y := h2.nw k (by omega) k2
      omega
  · rw [h2.rf e (by omega), h1.rf e he]
theorem Hs.up {t : Nat} {a b : St} {v : Int} (h : Hs t (z_up a 250 t v) b) : Hs t a b := by
  have e : ∀ x, x ≠ 250 → z_up a 250 t v x = a x := fun x h => up_ne h
  obtain ⟨h1, h2, h3, h4, h5, h6, h7, h8, h9⟩ := h
  rw [e 231 (by decide)] at h1 h4 h5 h6 h7 h8
  rw [e 239 (by decide)] at h2
  rw [e 240 (by decide)] at h3
  rw [e 241 (by decide), e 242 (by decide), e 246 (by decide)] at h4
  rw [e 243 (by decide), e 244 (by decide), e 245 (by decide), e 249 (by decide)] at h5
  rw [e 247 (by decide), e 248 (by decide)] at h7
  refine ⟨h1, h2, h3, h4, h5, h6, h7, h8, fun e1 he => ?_⟩
  rw [h9 e1 he, up_eq]
  exact if_neg (by omega)
theorem Hs.self {w0 : Int} {t : Nat} {a : St} (hM : MI0 w0 t a) : Hs t a a := Hs.mid hM Mid.rf
