theorem sm_upd {f g : Nat → Int} {c : Nat} (h : ∀ i, i ≠ c → g i = f i) (hc : g c = f c + 1) : ∀ n : Nat, c < n → sm g n = sm f n + 1
  | 0, h2 => absurd h2 (Nat.not_lt_zero c)
  | n + 1, h2 => by
    rw [sm, sm]
    by_cases q : c = n
    · subst q
      rw [hc, sm_congr c (fun i hi => h i (by omega))]
      omega
    · rw [sm_upd h hc n (by omega), h n (by omega)]
      omega
def kpN (μ : St) (k : Int) : Int := sm (fun c => if μ 248 (32 * k + c) = -1 then 0 else 1) 32
theorem kpN_rng (μ : St) (k : Int) : 0 ≤ kpN μ k ∧ kpN μ k ≤ 32 := by
  have := sm_rng (f := fun c => if μ 248 (32 * k + c) = -1 then 0 else 1) (M := 1) 32 (fun i _ => by split <;> omega)
  unfold kpN
  omega
theorem kpN_same {μ μ' : St} {k : Int} (h : ∀ c, 0 ≤ c → c < 32 → μ' 248 (32 * k + c) = μ 248 (32 * k + c)) : kpN μ' k = kpN μ k := by
  unfold kpN
  exact sm_congr 32 (fun i hi => by rw [h i (by omega) (by omega)])
def Mid (w0 : Int) (t : Nat) (k : Int) (μ0 μ : St) : Prop := (∀ x, x ≠ 245 → x ≠ 247 → x ≠ 248 → x ≠ 249 → μ x = μ0 x) ∧ (∀ i, i ≠ k → μ 245 i = μ0 245 i) ∧ (∀ j, (j < 32 * k ∨ 32 * k + 32 ≤ j) → μ 247 j = μ0 247 j ∧ μ 248 j = μ0 248 j ∧ μ 249 j = μ0 249 j) ∧ (∀ c, 0 ≤ c → c < 32 → (μ 248 (32 * k + c) = μ0 248 (32 * k + c) ∧ μ 247 (32 * k + c) = μ0 247 (32 * k + c)) ∨ (μ0 248 (32 * k + c) = -1 ∧ μ0 246 (32 * k + c) ≠ 0 ∧ c < w0 ∧ μ 248 (32 * k + c) = t ∧ (μ 247 (32 * k + c) = 0 ∨ μ 247 (32 * k + c) = 1))) ∧ (∀ i, 0 ≤ i → i < μ0 245 k → μ 249 (32 * k + i) = μ0 249 (32 * k + i)) ∧ (μ0 245 k ≤ μ 245 k) ∧ (μ 245 k - kpN μ k = μ0 245 k - kpN μ0 k)
theorem Mid.oth {w0 : Int} {t : Nat} {k : Int} {μ0 μ : St} (h : Mid w0 t k μ0 μ) : ∀ x, x ≠ 245 → x ≠ 247 → x ≠ 248 → x ≠ 249 → μ x = μ0 x := h.1
theorem Mid.sz {w0 : Int} {t : Nat} {k : Int} {μ0 μ : St} (h : Mid w0 t k μ0 μ) : ∀ i, i ≠ k → μ 245 i = μ0 245 i := h.2.1
theorem Mid.row {w0 : Int} {t : Nat} {k : Int} {μ0 μ : St} (h : Mid w0 t k μ0 μ) : ∀ j, (j < 32 * k ∨ 32 * k + 32 ≤ j) → μ 247 j = μ0 247 j ∧ μ 248 j = μ0 248 j ∧ μ 249 j = μ0 249 j := h.2.2.1
theorem Mid.kb {w0 : Int} {t : Nat} {k : Int} {μ0 μ : St} (h : Mid w0 t k μ0 μ) : ∀ c, 0 ≤ c → c < 32 → (μ 248 (32 * k + c) = μ0 248 (32 * k + c) ∧ μ 247 (32 * k + c) = μ0 247 (32 * k + c)) ∨ (μ0 248 (32 * k + c) = -1 ∧ μ0 246 (32 * k + c) ≠ 0 ∧ c < w0 ∧ μ 248 (32 * k + c) = t ∧ (μ 247 (32 * k + c) = 0 ∨ μ 247 (32 * k + c) = 1)) := h.2.2.2.1
theorem Mid.od {w0 : Int} {t : Nat} {k : Int} {μ0 μ : St} (h : Mid w0 t k μ0 μ) : ∀ i, 0 ≤ i → i < μ0 245 k → μ 249 (32 * k + i) = μ0 249 (32 * k + i) := h.2.2.2.2.1
theorem Mid.le {w0 : Int} {t : Nat} {k : Int} {μ0 μ : St} (h : Mid w0 t k μ0 μ) : μ0 245 k ≤ μ 245 k := h.2.2.2.2.2.1
theorem Mid.nn {w0 : Int} {t : Nat} {k : Int} {μ0 μ : St} (h : Mid w0 t k μ0 μ) : μ 245 k - kpN μ k = μ0 245 k - kpN μ0 k := h.2.2.2.2.2.2
theorem Mid.rf {w0 : Int} {t : Nat} {k : Int} {μ : St} : Mid w0 t k μ μ := ⟨fun _ _ _ _ _ => rfl, fun _ _ => rfl, fun _ _ => ⟨rfl, rfl, rfl⟩, fun _ _ _ => Or.inl ⟨rfl, rfl⟩, fun _ _ _ => rfl, Int.le_refl _, rfl⟩
theorem kp_247 {c e s : Int} {σ : St} (j : Int) : kpS c e s σ 247 j = if j = 32 * σ 231 29 + c then s else σ 247 j := by
  unfold kpS
  rw [up_ne (by decide), up_ne (by decide), up_eq]
  dsimp only
  rw [up_ne (by decide)]
theorem kp_249 {c e s : Int} {σ : St} (j : Int) : kpS c e s σ 249 j = if j = 32 * σ 231 29 + σ 245 (σ 231 29) then c else σ 249 j := by
  unfold kpS
  rw [up_ne (by decide), up_eq, up_ne (by decide), up_ne (by decide)]
theorem Mid.kp {w0 : Int} {t : Nat} {μ0 μ : St} {c s : Int} (h : Mid w0 t (μ0 231 29) μ0 μ) (hS : Sok μ) (hc : 0 ≤ c ∧ c < w0) (hw : μ 232 0 = w0) (hl : lft μ c) (hs : s = 0 ∨ s = 1) : Mid w0 t (μ0 231 29) μ0 (kpS c t s μ) := by
  have hk : μ 231 29 = μ0 231 29 := by rw [h.oth 231 (by decide) (by decide) (by decide) (by decide)]
  have h246 : μ 246 = μ0 246 := h.oth 246 (by decide) (by decide) (by decide) (by decide)
  obtain ⟨s1, s2, s3, s4, s5, s6⟩ := id hS
  have hp := lf_pos (σ := μ) (c := c) (μ 232 0).toNat (by omega) (by omega) hl
  generalize hkk : μ0 231 29 = k at *
  have hl2 := hl.2
  have hl1 := hl.1
  rw [hk] at hl1 hl2
  have hc0 : μ0 248 (32 * k + c) = -1 := by
    rcases h.kb c hc.1 (by omega) with q | q
    · rw [← q.1]; exact hl2
    · exact q.1
  refine ⟨fun x x1 x2 x3 x4 => (kp_ne x1 x2 x3 x4).trans (h.oth x x1 x2 x3 x4), fun i hi => ?_, fun j hj => ?_, fun d d1 d2 => ?_, fun i i1 i2 => ?_, ?_, ?_⟩
  · rw [kp_245, hk, if_neg hi]; exact h.sz i hi
  · rw [kp_247, kp_248, kp_249, hk, if_neg (by omega), if_neg (by omega), if_neg (by rw [hk] at s5 s6; omega)]
    exact h.row j hj
  · rw [kp_247, kp_248, hk]
    by_cases q : d = c
    · rw [q, if_pos rfl, if_pos rfl]
      exact Or.inr ⟨hc0, by rw [← h246]; exact hl1, hc.2, rfl, hs⟩
    · rw [if_neg (by omega), if_neg (by omega)]
      exact h.kb d d1 d2
  · have := h.le
    rw [kp_249, hk, if_neg (by omega)]
    exact h.od i i1 i2
  · have := h.le
    rw [kp_245, hk, if_pos rfl]; omega
  · have h1 : kpN (kpS c t s μ) k = kpN μ k + 1 := by
      unfold kpN
      refine sm_upd (c := c.toNat) (fun i hi => ?_) ?_ 32 (by omega)
      · have e1 : kpS c t s μ 248 (32 * k + (i : Int)) = μ 248 (32 * k + i) := by rw [kp_248, hk, if_neg (by omega)]
        rw [e1]
      · have e2 : kpS c t s μ 248 (32 * k + ((c.toNat : Nat) : Int)) = t := by rw [kp_248, hk, if_pos (by omega)]
        rw [e2, show 32 * k + ((c.toNat : Nat) : Int) = 32 * k + c by omega, hl2, if_pos rfl, if_neg (by omega)]
        omega
    rw [kp_245, hk, if_pos rfl, h1]
    have := h.nn
    omega
def MC1 (w0 : Int) (t : Nat) (μ : St) (k : Int) : Prop := (0 ≤ μ 242 k ∧ μ 242 k < t) ∧ (μ 241 k = 0 ∨ μ 241 k = 1) ∧ ((k = μ 231 29 ∧ μ 243 k = 0 ∧ μ 244 k = -1) ∨ (k ≠ μ 231 29 ∧ (μ 243 k = 1 ∨ μ 243 k = 2) ∧ μ 242 k < μ 244 k ∧ μ 244 k ≤ t)) ∧ (μ 245 k = kpN μ k) ∧ (∀ c, 0 ≤ c → c < 32 → (μ 246 (32 * k + c) = 0 ∨ μ 246 (32 * k + c) = 1) ∧ (μ 246 (32 * k + c) ≠ 0 → c < w0)) ∧ (∀ c, 0 ≤ c → c < 32 → (μ 248 (32 * k + c) = -1 ∧ μ 247 (32 * k + c) = 0) ∨ (μ 242 k ≤ μ 248 (32 * k + c) ∧ μ 248 (32 * k + c) < t ∧ μ 246 (32 * k + c) ≠ 0 ∧ (μ 247 (32 * k + c) = 0 ∨ μ 247 (32 * k + c) = 1)))
theorem MC1.mrk {w0 : Int} {t : Nat} {μ : St} {k : Int} (h : MC1 w0 t μ k) : 0 ≤ μ 242 k ∧ μ 242 k < t := h.1
theorem MC1.fl {w0 : Int} {t : Nat} {μ : St} {k : Int} (h : MC1 w0 t μ k) : μ 241 k = 0 ∨ μ 241 k = 1 := h.2.1
theorem MC1.st {w0 : Int} {t : Nat} {μ : St} {k : Int} (h : MC1 w0 t μ k) : (k = μ 231 29 ∧ μ 243 k = 0 ∧ μ 244 k = -1) ∨ (k ≠ μ 231 29 ∧ (μ 243 k = 1 ∨ μ 243 k = 2) ∧ μ 242 k < μ 244 k ∧ μ 244 k ≤ t) := h.2.2.1
theorem MC1.sz {w0 : Int} {t : Nat} {μ : St} {k : Int} (h : MC1 w0 t μ k) : μ 245 k = kpN μ k := h.2.2.2.1
theorem MC1.wt {w0 : Int} {t : Nat} {μ : St} {k : Int} (h : MC1 w0 t μ k) : ∀ c, 0 ≤ c → c < 32 → (μ 246 (32 * k + c) = 0 ∨ μ 246 (32 * k + c) = 1) ∧ (μ 246 (32 * k + c) ≠ 0 → c < w0) := h.2.2.2.2.1
theorem MC1.kb {w0 : Int} {t : Nat} {μ : St} {k : Int} (h : MC1 w0 t μ k) : ∀ c, 0 ≤ c → c < 32 → (μ 248 (32 * k + c) = -1 ∧ μ 247 (32 * k + c) = 0) ∨ (μ 242 k ≤ μ 248 (32 * k + c) ∧ μ 248 (32 * k + c) < t ∧ μ 246 (32 * k + c) ≠ 0 ∧ (μ 247 (32 * k + c) = 0 ∨ μ 247 (32 * k + c) = 1)) := h.2.2.2.2.2
def MI0 (w0 : Int) (t : Nat) (μ : St) : Prop := (0 ≤ μ 231 28) ∧ (2 * μ 231 28 ≤ t + (if μ 231 29 = -1 then 0 else 1)) ∧ (μ 231 29 = -1 ∨ (μ 231 29 = μ 231 28 - 1 ∧ 0 ≤ μ 231 29)) ∧ (∀ k, 0 ≤ k → k < μ 231 28 → MC1 w0 t μ k)
theorem MI0.c0 {w0 : Int} {t : Nat} {μ : St} (h : MI0 w0 t μ) : 0 ≤ μ 231 28 := h.1
theorem MI0.c2 {w0 : Int} {t : Nat} {μ : St} (h : MI0 w0 t μ) : 2 * μ 231 28 ≤ t + (if μ 231 29 = -1 then 0 else 1) := h.2.1
theorem MI0.op {w0 : Int} {t : Nat} {μ : St} (h : MI0 w0 t μ) : μ 231 29 = -1 ∨ (μ 231 29 = μ 231 28 - 1 ∧ 0 ≤ μ 231 29) := h.2.2.1
theorem MI0.cp {w0 : Int} {t : Nat} {μ : St} (h : MI0 w0 t μ) : ∀ k, 0 ≤ k → k < μ 231 28 → MC1 w0 t μ k := h.2.2.2
def Lv (w0 : Int) (t : Nat) (μ : St) : Prop := μ 231 29 ≠ -1 → ∀ c, 0 ≤ c → c < w0 → lft μ c → μ 239 (32 * t + c) = μ 239 (32 * μ 242 (μ 231 29) + c)
def Hs (t : Nat) (μ ν : St) : Prop := (μ 231 28 ≤ ν 231 28) ∧ (ν 239 = μ 239) ∧ (ν 240 = μ 240) ∧ (∀ k, 0 ≤ k → k < μ 231 28 → ν 241 k = μ 241 k ∧ ν 242 k = μ 242 k ∧ ∀ c, 0 ≤ c → c < 32 → ν 246 (32 * k + c) = μ 246 (32 * k + c)) ∧ (∀ k, 0 ≤ k → k < μ 231 28 → k ≠ μ 231 29 → ν 243 k = μ 243 k ∧ ν 244 k = μ 244 k ∧ ν 245 k = μ 245 k ∧ ∀ c, 0 ≤ c → c < 32 → ν 249 (32 * k + c) = μ 249 (32 * k + c)) ∧ (μ 231 29 ≠ -1 → (ν 244 (μ 231 29) = -1 ∧ ν 231 29 = μ 231 29) ∨ t < ν 244 (μ 231 29)) ∧ (∀ k, 0 ≤ k → k < μ 231 28 → ∀ c, 0 ≤ c → c < 32 → (ν 248 (32 * k + c) = μ 248 (32 * k + c) ∧ ν 247 (32 * k + c) = μ 247 (32 * k + c)) ∨ (μ 248 (32 * k + c) = -1 ∧ k = μ 231 29 ∧ t ≤ ν 248 (32 * k + c))) ∧ (∀ k, μ 231 28 ≤ k → k < ν 231 28 → t ≤ ν 242 k) ∧ (∀ e, e < (t : Int) → ν 250 e = μ 250 e)
theorem Hs.le {t : Nat} {μ ν : St} (h : Hs t μ ν) : μ 231 28 ≤ ν 231 28 := h.1
theorem Hs.v9 {t : Nat} {μ ν : St} (h : Hs t μ ν) : ν 239 = μ 239 := h.2.1
theorem Hs.v0 {t : Nat} {μ ν : St} (h : Hs t μ ν) : ν 240 = μ 240 := h.2.2.1
theorem Hs.fx {t : Nat} {μ ν : St} (h : Hs t μ ν) : ∀ k, 0 ≤ k → k < μ 231 28 → ν 241 k = μ 241 k ∧ ν 242 k = μ 242 k ∧ ∀ c, 0 ≤ c → c < 32 → ν 246 (32 * k + c) = μ 246 (32 * k + c) := h.2.2.2.1
theorem Hs.cl {t : Nat} {μ ν : St} (h : Hs t μ ν) : ∀ k, 0 ≤ k → k < μ 231 28 → k ≠ μ 231 29 → ν 243 k = μ 243 k ∧ ν 244 k = μ 244 k ∧ ν 245 k = μ 245 k ∧ ∀ c, 0 ≤ c → c < 32 → ν 249 (32 * k + c) = μ 249 (32 * k + c) := h.2.2.2.2.1
theorem Hs.opn {t : Nat} {μ ν : St} (h : Hs t μ ν) : μ 231 29 ≠ -1 → (ν 244 (μ 231 29) = -1 ∧ ν 231 29 = μ 231 29) ∨ t < ν 244 (μ 231 29) := h.2.2.2.2.2.1
theorem Hs.kb {t : Nat} {μ ν : St} (h : Hs t μ ν) : ∀ k, 0 ≤ k → k < μ 231 28 → ∀ c, 0 ≤ c → c < 32 → (ν 248 (32 * k + c) = μ 248 (32 * k + c) ∧ ν 247 (32 * k + c) = μ 247 (32 * k + c)) ∨ (μ 248 (32 * k + c) = -1 ∧ k = μ 231 29 ∧ t ≤ ν 248 (32 * k + c)) := h.2.2.2.2.2.2.1
theorem Hs.nw {t : Nat} {μ ν : St} (h : Hs t μ ν) : ∀ k, μ 231 28 ≤ k → k < ν 231 28 → t ≤ ν 242 k := h.2.2.2.2.2.2.2.1
theorem Hs.rf {t : Nat} {μ ν : St} (h : Hs t μ ν) : ∀ e, e < (t : Int) → ν 250 e = μ 250 e := h.2.2.2.2.2.2.2.2
theorem sc_mid {l : Int} {t : Nat} {w0 : Int} {n : Nat} {μ : St} (hS : Sok μ) (hw : μ 232 0 = w0) : Mid w0 t (μ 231 29) μ (scS l t n μ) := by
  refine (sc_keep (l := l) (e := t) (Q := fun τ => Mid w0 t (μ 231 29) μ τ) (fun τ c s1 h c1 c2 hl => ?_) n μ hS Mid.rf).2
  have h2 : τ 232 = μ 232 := h.oth 232 (by decide) (by decide) (by decide) (by decide)
  exact h.kp s1 ⟨c1, by rw [h2] at c2; omega⟩ (by rw [h2]; exact hw) hl (Or.inl rfl)
theorem kc_mid {t : Nat} {w0 : Int} {μ : St} (hS : μ 231 29 = -1 ∨ Sok μ) (hw : μ 232 0 = w0) (h0 : 0 ≤ w0) : Mid w0 t (μ 231 29) μ (kcS t (μ 232 0).toNat 0 μ) := by
  refine (kc_keep (e := t) (Q := fun τ => Mid w0 t (μ 231 29) μ τ) (fun τ c s1 h c1 c2 hl => ?_) (μ 232 0).toNat 0 μ (by omega) (by omega) hS Mid.rf).2
  have h2 : τ 232 = μ 232 := h.oth 232 (by decide) (by decide) (by decide) (by decide)
  exact h.kp s1 ⟨c1, by rw [h2] at c2; omega⟩ (by rw [h2]; exact hw) hl (Or.inr rfl)
