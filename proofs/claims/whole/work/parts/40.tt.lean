/-! PHASE 2: plain facts on the functional programs -/
def TT {α : Type} (f : Option α) (P : α → Prop) : Prop := ∃ o, f = some o ∧ P o
theorem TT.mono {α : Type} {f : Option α} {P Q : α → Prop} (h : TT f P) (hq : ∀ o, P o → Q o) : TT f Q := by
  obtain ⟨o, h1, h2⟩ := h
  exact ⟨o, h1, hq o h2⟩
theorem TT.eq {α : Type} {f : Option α} {o : α} (h : TT f (fun x => x = o)) : f = some o := by
  obtain ⟨x, h1, rfl⟩ := h
  exact h1
theorem tt_some {α : Type} {x : α} {P : α → Prop} : TT (some x) P ↔ P x := ⟨fun ⟨o, h1, h2⟩ => by cases h1; exact h2, fun h => ⟨x, rfl, h⟩⟩
theorem tt_none {α : Type} {P : α → Prop} : TT (none : Option α) P ↔ False := ⟨fun ⟨o, h1, _⟩ => (nomatch h1), fun h => False.elim h⟩
theorem tt_gt {α : Type} {z : Int} {k : Int → Option α} {P : α → Prop} : TT (z_gt z k) P ↔ TT (k z) P := Iff.rfl
theorem tt_sg {α : Type} {z : St} {k : St → Option α} {P : α → Prop} : TT (z_sg z k) P ↔ TT (k z) P := Iff.rfl
theorem tt_ite {α : Type} {c : Prop} [Decidable c] {f g : Option α} {P : α → Prop} : TT (if c then f else g) P ↔ (c → TT f P) ∧ (¬ c → TT g P) := by
  by_cases h : c
  · rw [if_pos h]; exact ⟨fun q => ⟨fun _ => q, fun n => absurd h n⟩, fun q => q.1 h⟩
  · rw [if_neg h]; exact ⟨fun q => ⟨fun n => absurd n h, fun _ => q⟩, fun q => q.2 h⟩
theorem tt_ck {α : Type} {z : Int} {k : Int → Option α} {P : α → Prop} : TT (z_ck z k) P ↔ (-2147483648 ≤ z ∧ z < 2147483648) ∧ TT (k z) P := by
  unfold z_ck
  by_cases h : -2147483648 ≤ z ∧ z < 2147483648
  · rw [if_pos h]; exact ⟨fun q => ⟨h, q⟩, fun q => q.2⟩
  · rw [if_neg h, tt_none]; exact ⟨fun q => q.elim, fun q => h q.1⟩
theorem tt_lk {α : Type} {z : Int} {k : Int → Option α} {P : α → Prop} : TT (z_lk z k) P ↔ (-9223372036854775808 ≤ z ∧ z < 9223372036854775808) ∧ TT (k z) P := by
  unfold z_lk
  by_cases h : -9223372036854775808 ≤ z ∧ z < 9223372036854775808
  · rw [if_pos h]; exact ⟨fun q => ⟨h, q⟩, fun q => q.2⟩
  · rw [if_neg h, tt_none]; exact ⟨fun q => q.elim, fun q => h q.1⟩
theorem tt_ix {α : Type} {i : Int} {n : Nat} {f : Option α} {P : α → Prop} : TT (z_ix i n f) P ↔ (0 ≤ i ∧ i < n) ∧ TT f P := by
  unfold z_ix
  by_cases h : 0 ≤ i ∧ i < n
  · rw [if_pos h]; exact ⟨fun q => ⟨h, q⟩, fun q => q.2⟩
  · rw [if_neg h, tt_none]; exact ⟨fun q => q.elim, fun q => h q.1⟩
theorem tt_bo {α : Type} {v : Int} {f : Option α} {P : α → Prop} : TT (z_bo v f) P ↔ (v = 0 ∨ v = 1) ∧ TT f P := by
  unfold z_bo
  by_cases h : v = 0 ∨ v = 1
  · rw [if_pos h]; exact ⟨fun q => ⟨h, q⟩, fun q => q.2⟩
  · rw [if_neg h, tt_none]; exact ⟨fun q => q.elim, fun q => h q.1⟩
theorem tt_by {α : Type} {v : Int} {f : Option α} {P : α → Prop} : TT (z_by v f) P ↔ (-128 ≤ v ∧ v < 128) ∧ TT f P := by
  unfold z_by
  by_cases h : -128 ≤ v ∧ v < 128
  · rw [if_pos h]; exact ⟨fun q => ⟨h, q⟩, fun q => q.2⟩
  · rw [if_neg h, tt_none]; exact ⟨fun q => q.elim, fun q => h q.1⟩
theorem tt_nz {α : Type} {v : Int} {f : Option α} {P : α → Prop} : TT (z_nz v f) P ↔ v ≠ 0 ∧ TT f P := by
  unfold z_nz
  by_cases h : v = 0
  · rw [if_pos h, tt_none]; exact ⟨fun q => q.elim, fun q => q.1 h⟩
  · rw [if_neg h]; exact ⟨fun q => ⟨h, q⟩, fun q => q.2⟩
theorem tt_ob {α : Type} {c k : Nat} {f : Option α} {P : α → Prop} : TT (z_ob c k f) P ↔ kdX k = c ∧ TT f P := by
  unfold z_ob
  by_cases h : kdX k = c
  · rw [if_pos h]; exact ⟨fun q => ⟨h, q⟩, fun q => q.2⟩
  · rw [if_neg h, tt_none]; exact ⟨fun q => q.elim, fun q => h q.1⟩
theorem tt_st {α : Type} {t : Nat} {f : Option α} {P : α → Prop} : TT (z_st t f) P ↔ t < 13 ∧ TT f P := by
  unfold z_st
  by_cases h : t < 13
  · rw [if_pos h]; exact ⟨fun q => ⟨h, q⟩, fun q => q.2⟩
  · rw [if_neg h, tt_none]; exact ⟨fun q => q.elim, fun q => h q.1⟩
theorem tt_cpk {α : Type} {sp dp n : Int} {n0 n1 : Nat} {f : Option α} {P : α → Prop} : TT (z_cpk sp dp n n0 n1 f) P ↔ (0 ≤ sp ∧ 0 ≤ dp ∧ 0 ≤ n ∧ sp + n ≤ n0 ∧ dp + n ≤ n1) ∧ TT f P := by
  unfold z_cpk
  by_cases h : 0 ≤ sp ∧ 0 ≤ dp ∧ 0 ≤ n ∧ sp + n ≤ n0 ∧ dp + n ≤ n1
  · rw [if_pos h]; exact ⟨fun q => ⟨h, q⟩, fun q => q.2⟩
  · rw [if_neg h, tt_none]; exact ⟨fun q => q.elim, fun q => h q.1⟩
theorem tt_c1 {α β : Type} {fc : Option β} {k : β → Option α} {P : α → Prop} : TT (z_c1 fc k) P ↔ TT fc (fun q => TT (k q) P) := by
  cases fc with
  | none => exact ⟨fun ⟨o, h, _⟩ => (nomatch h), fun ⟨o, h, _⟩ => (nomatch h)⟩
  | some q => rw [tt_some]; exact Iff.rfl
theorem tt_c2 {α β δ : Type} {fc : Option (β × δ)} {k : β → δ → Option α} {P : α → Prop} : TT (z_c2 fc k) P ↔ TT fc (fun q => TT (k q.1 q.2) P) := by
  cases fc with
  | none => exact ⟨fun ⟨o, h, _⟩ => (nomatch h), fun ⟨o, h, _⟩ => (nomatch h)⟩
  | some q => rw [tt_some]; exact Iff.rfl
theorem tt_ca {α : Type} {fc : Option (Option Nat)} {f0 : Option α} {k : Nat → Option α} {P : α → Prop} : TT (z_ca fc f0 k) P ↔ TT fc (fun r => match r with | none => TT f0 P | some q => TT (k q) P) := by
  cases fc with
  | none => exact ⟨fun ⟨o, h, _⟩ => (nomatch h), fun ⟨o, h, _⟩ => (nomatch h)⟩
  | some q => cases q <;> (rw [tt_some]; exact Iff.rfl)
theorem tt_cb {α : Type} {fc : Option (Option Nat × St)} {f0 : St → Option α} {k : Nat → St → Option α} {P : α → Prop} : TT (z_cb fc f0 k) P ↔ TT fc (fun r => match r.1 with | none => TT (f0 r.2) P | some q => TT (k q r.2) P) := by
  cases fc with
  | none => exact ⟨fun ⟨o, h, _⟩ => (nomatch h), fun ⟨o, h, _⟩ => (nomatch h)⟩
  | some q =>
    obtain ⟨r, s⟩ := q
    cases r <;> (rw [tt_some]; exact Iff.rfl)
theorem kd_231 : kdX 231 = 7 := rfl
theorem kd_0 : kdX 0 = 6 := rfl
/-! the model's readers -/
theorem e_cells {F : Nat} {σ : St} : f_X7_cells F 231 σ = some (σ 232 0) := rfl
theorem e_in {F : Nat} {a b c : Int} {σ : St} : f_X7_in F a b c σ = some (if b ≤ a ∧ a ≤ c then 1 else 0) := by
  apply TT.eq
  unfold f_X7_in
  simp only [tt_gt, tt_ite, tt_bo, tt_some, z_cmp]
  split <;> split <;> simp <;> omega
