theorem ini_0 {k : Nat} (h2 : kdX k ≠ 2) (h3 : kdX k ≠ 3) (h7 : kdX k ≠ 7) (h5 : k ≠ 255) (j : Int) : iniX k j = 0 := by
  unfold iniX
  rw [if_neg (fun y => h2 y.1), if_neg (fun y => h3 y.1), if_neg (fun y => h7 y.1), if_neg (fun y => h5 y.1)]
theorem ini_1 (j : Int) : iniX 1 j = if j = 2 then -1 else 0 := by
  unfold iniX
  by_cases y : j = 2
  · rw [if_pos ⟨rfl, y⟩, if_pos y]
  · rw [if_neg (fun u => y u.2), if_neg y, if_neg (fun u => absurd u.1 (by decide)), if_neg (fun u => absurd u.1 (by decide)), if_neg (fun u => absurd u.1 (by decide))]
theorem ini_12 (j : Int) : iniX 12 j = if j = 4 then -1 else 0 := by
  unfold iniX
  rw [if_neg (fun u => absurd u.1 (by decide))]
  by_cases y : j = 4
  · rw [if_pos ⟨rfl, y⟩, if_pos y]
  · rw [if_neg (fun u => y u.2), if_neg y, if_neg (fun u => absurd u.1 (by decide)), if_neg (fun u => absurd u.1 (by decide))]
theorem ini_231 (j : Int) : iniX 231 j = if j = 13 then -1 else 0 := by
  unfold iniX
  rw [if_neg (fun u => absurd u.1 (by decide)), if_neg (fun u => absurd u.1 (by decide))]
  by_cases y : j = 13
  · rw [if_pos ⟨rfl, y⟩, if_pos y]
  · rw [if_neg (fun u => y u.2), if_neg y, if_neg (fun u => absurd u.1 (by decide))]
theorem ini_255 (j : Int) (h : 0 ≤ j ∧ j < 4) : iniX 255 j = -1 := by
  unfold iniX
  rw [if_neg (fun u => absurd u.1 (by decide)), if_neg (fun u => absurd u.1 (by decide)), if_neg (fun u => absurd u.1 (by decide)), if_pos ⟨rfl, h⟩]
theorem wf_z {w : Int → Int} (h : ∀ j, w j = 0) : WF w := by
  refine ⟨?_, Or.inl ⟨h 5, fun j _ _ => h j⟩, fun e e1 e2 => ?_⟩
  · unfold Hd
    rw [h 0, h 1, h 2, h 3, h 4, h 5]
    decide
  · unfold evN at e2
    rw [h 3, h 4] at e2
    omega
theorem sr_z {s : Nat} {σ : St} {w : Int → Int} (h : ∀ j, w j = 0) (h0 : ∀ j, 0 ≤ j → j < 5 → σ s j = 0) (h1 : ∀ j, σ (s + 1) j = 0) : SR s σ w := by
  refine ⟨fun j j1 j2 => by rw [h0 j j1 j2, h], fun e _ _ => by rw [h1]; decide, fun e e1 e2 => ?_⟩
  unfold evN at e2
  rw [h 3, h 4] at e2
  omega
theorem gi_ini {F : Nat} (hF : 100 ≤ F) : GI F iniX := by
  have z232 : ∀ j, iniX 232 j = 0 := ini_0 (by decide) (by decide) (by decide) (by decide)
  have z233 : ∀ j, iniX 233 j = 0 := ini_0 (by decide) (by decide) (by decide) (by decide)
  refine gi_mk ⟨wf_z z232, sr_z z232 (fun j _ _ => ini_0 (by decide) (by decide) (by decide) (by decide) j) (ini_0 (by decide) (by decide) (by decide) (by decide)), ⟨0, ?_⟩⟩ (fun e _ _ => by rw [ini_0 (by decide) (by decide) (by decide) (by decide)]; decide) ⟨fun k hk => ?_, fun k hk => ?_⟩ ⟨?_, ?_, fun i i1 i2 => ?_⟩ ?_ ?_ (fun s hs => ?_) (fun c _ _ => by rw [ini_0 (by decide) (by decide) (by decide) (by decide)]; decide)
  · refine ⟨(wf_z z232).ev60.1, by rw [ini_12]; rfl, fun α hA => ?_, fun e he => absurd he (by omega)⟩
    have h1 := hA.n0
    refine ⟨⟨?_, fun c c1 c2 => ?_⟩, ?_, ?_, ?_, ?_, Or.inr ⟨?_, ?_⟩, ?_, fun c c1 c2 => ?_, fun c c1 c2 => ?_, fun e e1 e2 c c1 c2 => ?_, fun k k1 k2 => ?_, fun k k1 k2 => ?_⟩
    · rw [z232]; exact ini_0 (by decide) (by decide) (by decide) (by decide) 0
    · rw [ini_0 (by decide) (by decide) (by decide) (by decide)]
      exact (hA.vl.1 0 c (by omega) c1 c2).symm
    · rw [ini_12, z232]; rfl
    · rw [ini_12, z232]; rfl
    · rw [ini_12]; exact h1.symm
    · rw [ini_12]; exact hA.o0.symm
    · rw [ini_12]; rfl
    · show ¬ hwR α (α 231 28).toNat
      rw [h1]
      exact fun z => z
    · rw [ini_12]; exact iR_0
    · rw [ini_12]
      refine ⟨fun y => absurd y (bt_zero ⟨c1, c2⟩), fun y => ?_⟩
      have := y.1
      rw [z232] at this
      omega
    · rw [z232] at c2
      omega
    · rw [ini_0 (by decide) (by decide) (by decide) (by decide)]
      exact ⟨fun y => absurd y (bt_zero ⟨c1, c2⟩), fun y => by have := y.1; omega⟩
    · have : k < α 231 28 := k2
      omega
    · have : k < α 231 28 := k2
      omega
  · have : k = 0 ∨ k = 1 ∨ k = 2 := by omega
    rcases this with y | y | y <;> subst y <;> exact ⟨sr_z (fun j => z233 _) (fun j _ _ => ini_0 (by decide) (by decide) (by decide) (by decide) j) (ini_0 (by decide) (by decide) (by decide) (by decide)), wf_z (fun j => z233 _)⟩
  · have : k = 0 ∨ k = 1 ∨ k = 2 := by omega
    rcases this with y | y | y <;> subst y <;> rw [ini_0 (by decide) (by decide) (by decide) (by decide), ini_0 (by decide) (by decide) (by decide) (by decide)]
  · rw [ini_231]; decide
  · rw [ini_231, ini_1]; rfl
  · rw [ini_231] at i2
    exact absurd i2 (by rw [if_neg (by decide)]; omega)
  · rw [ini_231, ini_1]; rfl
  · rw [ini_231, ini_1]; rfl
  · refine Or.inr ⟨?_, ini_255 s (by omega)⟩
    have : s = 0 ∨ s = 1 ∨ s = 2 ∨ s = 3 := by omega
    rcases this with y | y | y | y <;> subst y <;> exact ini_0 (by decide) (by decide) (by decide) (by decide) 0
