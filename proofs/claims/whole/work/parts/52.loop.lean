theorem lp_c {α : Type} {L : Nat → Int → Int → Option α} {P : α → Prop} (N : Nat) (S : Nat → Int) {F : Nat} (hF : N < F) (he : ∀ n, TT (L (n + 1) (S N) N) P) (hs : ∀ n (i : Nat), i < N → TT (L n (S (i + 1)) ((i : Int) + 1)) P → TT (L (n + 1) (S i) i) P) : TT (L F (S 0) 0) P := by
  have go : ∀ (n m i : Nat), i + m = N → m < n → TT (L n (S i) i) P := by
    intro n
    induction n with
    | zero => intro m i _ h; exact absurd h (Nat.not_lt_zero m)
    | succ n ih =>
      intro m i hm hn
      by_cases q : i = N
      · subst q; exact he n
      · exact hs n i (by omega) (ih (m - 1) (i + 1) (by omega) (by omega))
  exact go F N 0 (by omega) hF
theorem lp_w {α X : Type} {L : Nat → X → Option α} {P : α → Prop} (I : Nat → X → Prop) (h : ∀ m n x, I m x → (∀ m' x', m' < m → I m' x' → TT (L n x') P) → TT (L (n + 1) x) P) : ∀ (m F : Nat) (x : X), m < F → I m x → TT (L F x) P := by
  intro m F
  induction F generalizing m with
  | zero => intro x h; exact absurd h (Nat.not_lt_zero m)
  | succ n ih =>
    intro x hm hI
    exact h m n x hI (fun m' x' h1 h2 => ih m' x' (by omega) h2)
def sm (f : Nat → Int) : Nat → Int
  | 0 => 0
  | n + 1 => sm f n + f n
theorem sm_congr {f g : Nat → Int} : ∀ n : Nat, (∀ i, i < n → f i = g i) → sm f n = sm g n
  | 0, _ => rfl
  | n + 1, h => by rw [sm, sm, sm_congr n (fun i hi => h i (by omega)), h n (by omega)]
theorem sm_rng {f : Nat → Int} {M : Int} : ∀ n : Nat, (∀ i, i < n → 0 ≤ f i ∧ f i ≤ M) → 0 ≤ sm f n ∧ sm f n ≤ M * n
  | 0, _ => by simp [sm]
  | n + 1, h => by
    have h1 := sm_rng n (fun i hi => h i (by omega))
    have h2 := h n (by omega)
    rw [sm]
    rw [show M * ((n + 1 : Nat) : Int) = M * n + M by rw [Int.natCast_add, Int.mul_add]; simp]
    omega
theorem sm_add {f g : Nat → Int} : ∀ n : Nat, sm (fun i => f i + g i) n = sm f n + sm g n
  | 0 => rfl
  | n + 1 => by rw [sm, sm, sm, sm_add n]; omega
theorem sm_zero {f : Nat → Int} : ∀ n : Nat, (∀ i, i < n → f i = 0) → sm f n = 0
  | 0, _ => rfl
  | n + 1, h => by rw [sm, sm_zero n (fun i hi => h i (by omega)), h n (by omega)]; rfl
theorem sm_ext {f : Nat → Int} {m : Nat} : ∀ n : Nat, m ≤ n → (∀ i, m ≤ i → i < n → f i = 0) → sm f n = sm f m
  | 0, h, _ => by rw [show m = 0 by omega]
  | n + 1, h, h2 => by
    by_cases q : m = n + 1
    · rw [q]
    · rw [sm, h2 n (by omega) (by omega), sm_ext n (by omega) (fun i h3 h4 => h2 i h3 (by omega))]; omega
theorem sm_swap {f : Nat → Nat → Int} (m : Nat) : ∀ n : Nat, sm (fun i => sm (f i) m) n = sm (fun j => sm (fun i => f i j) n) m
  | 0 => by rw [sm, sm_zero]; intro i _; rfl
  | n + 1 => by
    rw [sm, sm_swap m n, ← sm_add]
    rfl
def bc (x : Int) (n : Nat) : Int := sm (fun c => if bt x c then 1 else 0) n
theorem bc_rng (x : Int) (n : Nat) : 0 ≤ bc x n ∧ bc x n ≤ n := by
  have := sm_rng (f := fun c => if bt x c then 1 else 0) (M := 1) n (fun i _ => by split <;> omega)
  unfold bc
  omega
