theorem lw_w {args : Array Value} {s : State} (hts : ∀ w ∈ lw_tbl, w.before args s = true) (i : Nat) {w : Cond} (h : tables_1[i]? = some w) : w.before args s = true := hts _ (List.mem_append_right _ (List.mem_of_getElem? h))
theorem eq_terms {args : Array Value} {s : State} {t u : Term} {a : Nat} (h : (Cond.eq t u).before args s = true) (ht : t.eval args s none [] s = some (.ref a)) : u.eval args s none [] s = some (.ref a) := by
  cases hv : u.eval args s none [] s with
  | none => simp [Cond.before, Cond.holds, Cond.value, ht, hv] at h
  | some w =>
    simp only [Cond.before, Cond.holds, Cond.value, ht, hv] at h
    cases w <;> simp_all
theorem str_0 {args : Array Value} {s : State} {A : Nat → Prop} (h : (Jvm.Cond.and given_1 narrow_1).before args s = true) (hA : ∀ a : Nat, a < s.heap.size → ¬ A a) : ∃ a v : Nat, (va_O "java/lang/String" a A s s.heap ∧ va_OF "java/lang/String" "coder" "B" (.int 0) a A s s.heap ∧ va_OF "java/lang/String" "value" "[B" (.ref v) a A s s.heap ∧ va_T .byte v 5 (fun j => .int (([115, 116, 111, 114, 101] : List Int32).getD j 0)) A s s.heap) ∧ (Term.string "CopyWhileRun$Reader" 50).eval args s none [] s = some (.ref a) ∧ (Term.string "CopyWhileRunModel" 209).eval args s none [] s = some (.ref a) := by
  have hs := flat_of_before _ h
  obtain ⟨k, v, hS, he⟩ := vk_Sof (N := 1) (tm := fun _ => Term.string "CopyWhileRun$Reader" 50) (len := [5]) (byt := [[115, 116, 111, 114, 101]]) (A := A) (fun i hi => by rw [show i = 0 by omega]; decide) (fun i hi => hs _ (by decide +kernel)) (fun i hi => hs _ (by decide +kernel)) (fun i hi => hs _ (by decide +kernel)) (fun i hi => by rw [show i = 0 by omega]; exact hs _ (by decide +kernel)) (fun i hi j hj => by
    rw [show i = 0 by omega] at hj ⊢
    have hj : j < 5 := hj
    rcases (show j = 0 ∨ j = 1 ∨ j = 2 ∨ j = 3 ∨ j = 4 by omega) with rfl | rfl | rfl | rfl | rfl
    all_goals exact hs _ (by decide +kernel)) (fun i j hi hj hne => absurd (show i = j by omega) hne) hA
  have e1 := he 0 (by decide)
  exact ⟨k 0, v 0, hS.1 0 (by decide), e1, eq_terms (hs _ (by decide +kernel) : (Cond.eq (Term.string "CopyWhileRun$Reader" 50) (Term.string "CopyWhileRunModel" 209)).before args s = true) e1⟩
theorem str_1 {args : Array Value} {s : State} {A : Nat → Prop} (h : (Jvm.Cond.and given_1 narrow_1).before args s = true) (hA : ∀ a : Nat, a < s.heap.size → ¬ A a) : ∃ a v : Nat, (va_O "java/lang/String" a A s s.heap ∧ va_OF "java/lang/String" "coder" "B" (.int 0) a A s s.heap ∧ va_OF "java/lang/String" "value" "[B" (.ref v) a A s s.heap ∧ va_T .byte v 5 (fun j => .int (([99, 101, 108, 108, 115] : List Int32).getD j 0)) A s s.heap) ∧ (Term.string "CopyWhileRun$Reader" 56).eval args s none [] s = some (.ref a) ∧ (Term.string "CopyWhileRunModel" 211).eval args s none [] s = some (.ref a) := by
  have hs := flat_of_before _ h
  obtain ⟨k, v, hS, he⟩ := vk_Sof (N := 1) (tm := fun _ => Term.string "CopyWhileRun$Reader" 56) (len := [5]) (byt := [[99, 101, 108, 108, 115]]) (A := A) (fun i hi => by rw [show i = 0 by omega]; decide) (fun i hi => hs _ (by decide +kernel)) (fun i hi => hs _ (by decide +kernel)) (fun i hi => hs _ (by decide +kernel)) (fun i hi => by rw [show i = 0 by omega]; exact hs _ (by decide +kernel)) (fun i hi j hj => by
    rw [show i = 0 by omega] at hj ⊢
    have hj : j < 5 := hj
    rcases (show j = 0 ∨ j = 1 ∨ j = 2 ∨ j = 3 ∨ j = 4 by omega) with rfl | rfl | rfl | rfl | rfl
    all_goals exact hs _ (by decide +kernel)) (fun i j hi hj hne => absurd (show i = j by omega) hne) hA
  have e1 := he 0 (by decide)
  exact ⟨k 0, v 0, hS.1 0 (by decide), e1, eq_terms (hs _ (by decide +kernel) : (Cond.eq (Term.string "CopyWhileRun$Reader" 56) (Term.string "CopyWhileRunModel" 211)).before args s = true) e1⟩
theorem str_2 {args : Array Value} {s : State} {A : Nat → Prop} (h : (Jvm.Cond.and given_1 narrow_1).before args s = true) (hA : ∀ a : Nat, a < s.heap.size → ¬ A a) : ∃ a v : Nat, (va_O "java/lang/String" a A s s.heap ∧ va_OF "java/lang/String" "coder" "B" (.int 0) a A s s.heap ∧ va_OF "java/lang/String" "value" "[B" (.ref v) a A s s.heap ∧ va_T .byte v 3 (fun j => .int (([108, 97, 119] : List Int32).getD j 0)) A s s.heap) ∧ (Term.string "CopyWhileRun$Reader" 67).eval args s none [] s = some (.ref a) ∧ (Term.string "CopyWhileRunModel" 216).eval args s none [] s = some (.ref a) := by
  have hs := flat_of_before _ h
  obtain ⟨k, v, hS, he⟩ := vk_Sof (N := 1) (tm := fun _ => Term.string "CopyWhileRun$Reader" 67) (len := [3]) (byt := [[108, 97, 119]]) (A := A) (fun i hi => by rw [show i = 0 by omega]; decide) (fun i hi => hs _ (by decide +kernel)) (fun i hi => hs _ (by decide +kernel)) (fun i hi => hs _ (by decide +kernel)) (fun i hi => by rw [show i = 0 by omega]; exact hs _ (by decide +kernel)) (fun i hi j hj => by
    rw [show i = 0 by omega] at hj ⊢
    have hj : j < 3 := hj
    rcases (show j = 0 ∨ j = 1 ∨ j = 2 by omega) with rfl | rfl | rfl
    all_goals exact hs _ (by decide +kernel)) (fun i j hi hj hne => absurd (show i = j by omega) hne) hA
  have e1 := he 0 (by decide)
  exact ⟨k 0, v 0, hS.1 0 (by decide), e1, eq_terms (hs _ (by decide +kernel) : (Cond.eq (Term.string "CopyWhileRun$Reader" 67) (Term.string "CopyWhileRunModel" 216)).before args s = true) e1⟩
theorem str_3 {args : Array Value} {s : State} {A : Nat → Prop} (h : (Jvm.Cond.and given_1 narrow_1).before args s = true) (hA : ∀ a : Nat, a < s.heap.size → ¬ A a) : ∃ a v : Nat, (va_O "java/lang/String" a A s s.heap ∧ va_OF "java/lang/String" "coder" "B" (.int 0) a A s s.heap ∧ va_OF "java/lang/String" "value" "[B" (.ref v) a A s s.heap ∧ va_T .byte v 4 (fun j => .int (([111, 100, 100, 115] : List Int32).getD j 0)) A s s.heap) ∧ (Term.string "CopyWhileRun$Reader" 72).eval args s none [] s = some (.ref a) ∧ (Term.string "CopyWhileRunModel" 218).eval args s none [] s = some (.ref a) := by
  have hs := flat_of_before _ h
  obtain ⟨k, v, hS, he⟩ := vk_Sof (N := 1) (tm := fun _ => Term.string "CopyWhileRun$Reader" 72) (len := [4]) (byt := [[111, 100, 100, 115]]) (A := A) (fun i hi => by rw [show i = 0 by omega]; decide) (fun i hi => hs _ (by decide +kernel)) (fun i hi => hs _ (by decide +kernel)) (fun i hi => hs _ (by decide +kernel)) (fun i hi => by rw [show i = 0 by omega]; exact hs _ (by decide +kernel)) (fun i hi j hj => by
    rw [show i = 0 by omega] at hj ⊢
    have hj : j < 4 := hj
    rcases (show j = 0 ∨ j = 1 ∨ j = 2 ∨ j = 3 by omega) with rfl | rfl | rfl | rfl
    all_goals exact hs _ (by decide +kernel)) (fun i j hi hj hne => absurd (show i = j by omega) hne) hA
  have e1 := he 0 (by decide)
  exact ⟨k 0, v 0, hS.1 0 (by decide), e1, eq_terms (hs _ (by decide +kernel) : (Cond.eq (Term.string "CopyWhileRun$Reader" 72) (Term.string "CopyWhileRunModel" 218)).before args s = true) e1⟩
theorem str_4 {args : Array Value} {s : State} {A : Nat → Prop} (h : (Jvm.Cond.and given_1 narrow_1).before args s = true) (hA : ∀ a : Nat, a < s.heap.size → ¬ A a) : ∃ a v : Nat, (va_O "java/lang/String" a A s s.heap ∧ va_OF "java/lang/String" "coder" "B" (.int 0) a A s s.heap ∧ va_OF "java/lang/String" "value" "[B" (.ref v) a A s s.heap ∧ va_T .byte v 3 (fun j => .int (([115, 101, 116] : List Int32).getD j 0)) A s s.heap) ∧ (Term.string "CopyWhileRun$Reader" 121).eval args s none [] s = some (.ref a) ∧ (Term.string "CopyWhileRunModel" 122).eval args s none [] s = some (.ref a) := by
  have hs := flat_of_before _ h
  obtain ⟨k, v, hS, he⟩ := vk_Sof (N := 1) (tm := fun _ => Term.string "CopyWhileRun$Reader" 121) (len := [3]) (byt := [[115, 101, 116]]) (A := A) (fun i hi => by rw [show i = 0 by omega]; decide) (fun i hi => hs _ (by decide +kernel)) (fun i hi => hs _ (by decide +kernel)) (fun i hi => hs _ (by decide +kernel)) (fun i hi => by rw [show i = 0 by omega]; exact hs _ (by decide +kernel)) (fun i hi j hj => by
    rw [show i = 0 by omega] at hj ⊢
    have hj : j < 3 := hj
    rcases (show j = 0 ∨ j = 1 ∨ j = 2 by omega) with rfl | rfl | rfl
    all_goals exact hs _ (by decide +kernel)) (fun i j hi hj hne => absurd (show i = j by omega) hne) hA
  have e1 := he 0 (by decide)
  exact ⟨k 0, v 0, hS.1 0 (by decide), e1, eq_terms (hs _ (by decide +kernel) : (Cond.eq (Term.string "CopyWhileRun$Reader" 121) (Term.string "CopyWhileRunModel" 122)).before args s = true) e1⟩
theorem str_5 {args : Array Value} {s : State} {A : Nat → Prop} (h : (Jvm.Cond.and given_1 narrow_1).before args s = true) (hA : ∀ a : Nat, a < s.heap.size → ¬ A a) : ∃ a v : Nat, (va_O "java/lang/String" a A s s.heap ∧ va_OF "java/lang/String" "coder" "B" (.int 0) a A s s.heap ∧ va_OF "java/lang/String" "value" "[B" (.ref v) a A s s.heap ∧ va_T .byte v 3 (fun j => .int (([97, 100, 100] : List Int32).getD j 0)) A s s.heap) ∧ (Term.string "CopyWhileRun$Reader" 123).eval args s none [] s = some (.ref a) ∧ (Term.string "CopyWhileRunModel" 124).eval args s none [] s = some (.ref a) := by
  have hs := flat_of_before _ h
  obtain ⟨k, v, hS, he⟩ := vk_Sof (N := 1) (tm := fun _ => Term.string "CopyWhileRun$Reader" 123) (len := [3]) (byt := [[97, 100, 100]]) (A := A) (fun i hi => by rw [show i = 0 by omega]; decide) (fun i hi => hs _ (by decide +kernel)) (fun i hi => hs _ (by decide +kernel)) (fun i hi => hs _ (by decide +kernel)) (fun i hi => by rw [show i = 0 by omega]; exact hs _ (by decide +kernel)) (fun i hi j hj => by
    rw [show i = 0 by omega] at hj ⊢
    have hj : j < 3 := hj
    rcases (show j = 0 ∨ j = 1 ∨ j = 2 by omega) with rfl | rfl | rfl
    all_goals exact hs _ (by decide +kernel)) (fun i j hi hj hne => absurd (show i = j by omega) hne) hA
  have e1 := he 0 (by decide)
  exact ⟨k 0, v 0, hS.1 0 (by decide), e1, eq_terms (hs _ (by decide +kernel) : (Cond.eq (Term.string "CopyWhileRun$Reader" 123) (Term.string "CopyWhileRunModel" 124)).before args s = true) e1⟩
theorem str_6 {args : Array Value} {s : State} {A : Nat → Prop} (h : (Jvm.Cond.and given_1 narrow_1).before args s = true) (hA : ∀ a : Nat, a < s.heap.size → ¬ A a) : ∃ a v : Nat, (va_O "java/lang/String" a A s s.heap ∧ va_OF "java/lang/String" "coder" "B" (.int 0) a A s s.heap ∧ va_OF "java/lang/String" "value" "[B" (.ref v) a A s s.heap ∧ va_T .byte v 4 (fun j => .int (([115, 119, 97, 112] : List Int32).getD j 0)) A s s.heap) ∧ (Term.string "CopyWhileRun$Reader" 125).eval args s none [] s = some (.ref a) ∧ (Term.string "CopyWhileRunModel" 126).eval args s none [] s = some (.ref a) := by
  have hs := flat_of_before _ h
  obtain ⟨k, v, hS, he⟩ := vk_Sof (N := 1) (tm := fun _ => Term.string "CopyWhileRun$Reader" 125) (len := [4]) (byt := [[115, 119, 97, 112]]) (A := A) (fun i hi => by rw [show i = 0 by omega]; decide) (fun i hi => hs _ (by decide +kernel)) (fun i hi => hs _ (by decide +kernel)) (fun i hi => hs _ (by decide +kernel)) (fun i hi => by rw [show i = 0 by omega]; exact hs _ (by decide +kernel)) (fun i hi j hj => by
    rw [show i = 0 by omega] at hj ⊢
    have hj : j < 4 := hj
    rcases (show j = 0 ∨ j = 1 ∨ j = 2 ∨ j = 3 by omega) with rfl | rfl | rfl | rfl
    all_goals exact hs _ (by decide +kernel)) (fun i j hi hj hne => absurd (show i = j by omega) hne) hA
  have e1 := he 0 (by decide)
  exact ⟨k 0, v 0, hS.1 0 (by decide), e1, eq_terms (hs _ (by decide +kernel) : (Cond.eq (Term.string "CopyWhileRun$Reader" 125) (Term.string "CopyWhileRunModel" 126)).before args s = true) e1⟩
theorem str_7 {args : Array Value} {s : State} {A : Nat → Prop} (h : (Jvm.Cond.and given_1 narrow_1).before args s = true) (hA : ∀ a : Nat, a < s.heap.size → ¬ A a) : ∃ a v : Nat, (va_O "java/lang/String" a A s s.heap ∧ va_OF "java/lang/String" "coder" "B" (.int 0) a A s s.heap ∧ va_OF "java/lang/String" "value" "[B" (.ref v) a A s s.heap ∧ va_T .byte v 4 (fun j => .int (([102, 105, 108, 108] : List Int32).getD j 0)) A s s.heap) ∧ (Term.string "CopyWhileRun$Reader" 127).eval args s none [] s = some (.ref a) ∧ (Term.string "CopyWhileRunModel" 128).eval args s none [] s = some (.ref a) := by
  have hs := flat_of_before _ h
  obtain ⟨k, v, hS, he⟩ := vk_Sof (N := 1) (tm := fun _ => Term.string "CopyWhileRun$Reader" 127) (len := [4]) (byt := [[102, 105, 108, 108]]) (A := A) (fun i hi => by rw [show i = 0 by omega]; decide) (fun i hi => hs _ (by decide +kernel)) (fun i hi => hs _ (by decide +kernel)) (fun i hi => hs _ (by decide +kernel)) (fun i hi => by rw [show i = 0 by omega]; exact hs _ (by decide +kernel)) (fun i hi j hj => by
    rw [show i = 0 by omega] at hj ⊢
    have hj : j < 4 := hj
    rcases (show j = 0 ∨ j = 1 ∨ j = 2 ∨ j = 3 by omega) with rfl | rfl | rfl | rfl
    all_goals exact hs _ (by decide +kernel)) (fun i j hi hj hne => absurd (show i = j by omega) hne) hA
  have e1 := he 0 (by decide)
  exact ⟨k 0, v 0, hS.1 0 (by decide), e1, eq_terms (hs _ (by decide +kernel) : (Cond.eq (Term.string "CopyWhileRun$Reader" 127) (Term.string "CopyWhileRunModel" 128)).before args s = true) e1⟩
theorem str_8 {args : Array Value} {s : State} {A : Nat → Prop} (h : (Jvm.Cond.and given_1 narrow_1).before args s = true) (hA : ∀ a : Nat, a < s.heap.size → ¬ A a) : ∃ a v : Nat, (va_O "java/lang/String" a A s s.heap ∧ va_OF "java/lang/String" "coder" "B" (.int 0) a A s s.heap ∧ va_OF "java/lang/String" "value" "[B" (.ref v) a A s s.heap ∧ va_T .byte v 4 (fun j => .int (([102, 117, 108, 108] : List Int32).getD j 0)) A s s.heap) ∧ (Term.string "CopyWhileRun$Reader" 128).eval args s none [] s = some (.ref a) ∧ (Term.string "CopyWhileRunModel" 130).eval args s none [] s = some (.ref a) := by
  have hs := flat_of_before _ h
  obtain ⟨k, v, hS, he⟩ := vk_Sof (N := 1) (tm := fun _ => Term.string "CopyWhileRun$Reader" 128) (len := [4]) (byt := [[102, 117, 108, 108]]) (A := A) (fun i hi => by rw [show i = 0 by omega]; decide) (fun i hi => hs _ (by decide +kernel)) (fun i hi => hs _ (by decide +kernel)) (fun i hi => hs _ (by decide +kernel)) (fun i hi => by rw [show i = 0 by omega]; exact hs _ (by decide +kernel)) (fun i hi j hj => by
    rw [show i = 0 by omega] at hj ⊢
    have hj : j < 4 := hj
    rcases (show j = 0 ∨ j = 1 ∨ j = 2 ∨ j = 3 by omega) with rfl | rfl | rfl | rfl
    all_goals exact hs _ (by decide +kernel)) (fun i j hi hj hne => absurd (show i = j by omega) hne) hA
  have e1 := he 0 (by decide)
  exact ⟨k 0, v 0, hS.1 0 (by decide), e1, eq_terms (hs _ (by decide +kernel) : (Cond.eq (Term.string "CopyWhileRun$Reader" 128) (Term.string "CopyWhileRunModel" 130)).before args s = true) e1⟩
theorem str_9 {args : Array Value} {s : State} {A : Nat → Prop} (h : (Jvm.Cond.and given_1 narrow_1).before args s = true) (hA : ∀ a : Nat, a < s.heap.size → ¬ A a) : ∃ a v : Nat, (va_O "java/lang/String" a A s s.heap ∧ va_OF "java/lang/String" "coder" "B" (.int 0) a A s s.heap ∧ va_OF "java/lang/String" "value" "[B" (.ref v) a A s s.heap ∧ va_T .byte v 4 (fun j => .int (([112, 97, 114, 116] : List Int32).getD j 0)) A s s.heap) ∧ (Term.string "CopyWhileRun$Reader" 130).eval args s none [] s = some (.ref a) ∧ (Term.string "CopyWhileRunModel" 132).eval args s none [] s = some (.ref a) := by
  have hs := flat_of_before _ h
  obtain ⟨k, v, hS, he⟩ := vk_Sof (N := 1) (tm := fun _ => Term.string "CopyWhileRun$Reader" 130) (len := [4]) (byt := [[112, 97, 114, 116]]) (A := A) (fun i hi => by rw [show i = 0 by omega]; decide) (fun i hi => hs _ (by decide +kernel)) (fun i hi => hs _ (by decide +kernel)) (fun i hi => hs _ (by decide +kernel)) (fun i hi => by rw [show i = 0 by omega]; exact hs _ (by decide +kernel)) (fun i hi j hj => by
    rw [show i = 0 by omega] at hj ⊢
    have hj : j < 4 := hj
    rcases (show j = 0 ∨ j = 1 ∨ j = 2 ∨ j = 3 by omega) with rfl | rfl | rfl | rfl
    all_goals exact hs _ (by decide +kernel)) (fun i j hi hj hne => absurd (show i = j by omega) hne) hA
  have e1 := he 0 (by decide)
  exact ⟨k 0, v 0, hS.1 0 (by decide), e1, eq_terms (hs _ (by decide +kernel) : (Cond.eq (Term.string "CopyWhileRun$Reader" 130) (Term.string "CopyWhileRunModel" 132)).before args s = true) e1⟩
theorem str_10 {args : Array Value} {s : State} {A : Nat → Prop} (h : (Jvm.Cond.and given_1 narrow_1).before args s = true) (hA : ∀ a : Nat, a < s.heap.size → ¬ A a) : ∃ a v : Nat, (va_O "java/lang/String" a A s s.heap ∧ va_OF "java/lang/String" "coder" "B" (.int 0) a A s s.heap ∧ va_OF "java/lang/String" "value" "[B" (.ref v) a A s s.heap ∧ va_T .byte v 4 (fun j => .int (([115, 99, 97, 110] : List Int32).getD j 0)) A s s.heap) ∧ (Term.string "CopyWhileRun$Reader" 132).eval args s none [] s = some (.ref a) ∧ (Term.string "CopyWhileRunModel" 134).eval args s none [] s = some (.ref a) := by
  have hs := flat_of_before _ h
  obtain ⟨k, v, hS, he⟩ := vk_Sof (N := 1) (tm := fun _ => Term.string "CopyWhileRun$Reader" 132) (len := [4]) (byt := [[115, 99, 97, 110]]) (A := A) (fun i hi => by rw [show i = 0 by omega]; decide) (fun i hi => hs _ (by decide +kernel)) (fun i hi => hs _ (by decide +kernel)) (fun i hi => hs _ (by decide +kernel)) (fun i hi => by rw [show i = 0 by omega]; exact hs _ (by decide +kernel)) (fun i hi j hj => by
    rw [show i = 0 by omega] at hj ⊢
    have hj : j < 4 := hj
    rcases (show j = 0 ∨ j = 1 ∨ j = 2 ∨ j = 3 by omega) with rfl | rfl | rfl | rfl
    all_goals exact hs _ (by decide +kernel)) (fun i j hi hj hne => absurd (show i = j by omega) hne) hA
  have e1 := he 0 (by decide)
  exact ⟨k 0, v 0, hS.1 0 (by decide), e1, eq_terms (hs _ (by decide +kernel) : (Cond.eq (Term.string "CopyWhileRun$Reader" 132) (Term.string "CopyWhileRunModel" 134)).before args s = true) e1⟩
theorem str_11 {args : Array Value} {s : State} {A : Nat → Prop} (h : (Jvm.Cond.and given_1 narrow_1).before args s = true) (hA : ∀ a : Nat, a < s.heap.size → ¬ A a) : ∃ a v : Nat, (va_O "java/lang/String" a A s s.heap ∧ va_OF "java/lang/String" "coder" "B" (.int 0) a A s s.heap ∧ va_OF "java/lang/String" "value" "[B" (.ref v) a A s s.heap ∧ va_T .byte v 6 (fun j => .int (([102, 105, 110, 105, 115, 104] : List Int32).getD j 0)) A s s.heap) ∧ (Term.string "CopyWhileRun$Reader" 134).eval args s none [] s = some (.ref a) ∧ (Term.string "CopyWhileRunModel" 136).eval args s none [] s = some (.ref a) := by
  have hs := flat_of_before _ h
  obtain ⟨k, v, hS, he⟩ := vk_Sof (N := 1) (tm := fun _ => Term.string "CopyWhileRun$Reader" 134) (len := [6]) (byt := [[102, 105, 110, 105, 115, 104]]) (A := A) (fun i hi => by rw [show i = 0 by omega]; decide) (fun i hi => hs _ (by decide +kernel)) (fun i hi => hs _ (by decide +kernel)) (fun i hi => hs _ (by decide +kernel)) (fun i hi => by rw [show i = 0 by omega]; exact hs _ (by decide +kernel)) (fun i hi j hj => by
    rw [show i = 0 by omega] at hj ⊢
    have hj : j < 6 := hj
    rcases (show j = 0 ∨ j = 1 ∨ j = 2 ∨ j = 3 ∨ j = 4 ∨ j = 5 by omega) with rfl | rfl | rfl | rfl | rfl | rfl
    all_goals exact hs _ (by decide +kernel)) (fun i j hi hj hne => absurd (show i = j by omega) hne) hA
  have e1 := he 0 (by decide)
  exact ⟨k 0, v 0, hS.1 0 (by decide), e1, eq_terms (hs _ (by decide +kernel) : (Cond.eq (Term.string "CopyWhileRun$Reader" 134) (Term.string "CopyWhileRunModel" 136)).before args s = true) e1⟩
theorem str_12 {args : Array Value} {s : State} {A : Nat → Prop} (h : (Jvm.Cond.and given_1 narrow_1).before args s = true) (hA : ∀ a : Nat, a < s.heap.size → ¬ A a) : ∃ a v : Nat, (va_O "java/lang/String" a A s s.heap ∧ va_OF "java/lang/String" "coder" "B" (.int 0) a A s s.heap ∧ va_OF "java/lang/String" "value" "[B" (.ref v) a A s s.heap ∧ va_T .byte v 4 (fun j => .int (([116, 101, 97, 114] : List Int32).getD j 0)) A s s.heap) ∧ (Term.string "CopyWhileRun$Reader" 136).eval args s none [] s = some (.ref a) ∧ (Term.string "CopyWhileRunModel" 138).eval args s none [] s = some (.ref a) := by
  have hs := flat_of_before _ h
  obtain ⟨k, v, hS, he⟩ := vk_Sof (N := 1) (tm := fun _ => Term.string "CopyWhileRun$Reader" 136) (len := [4]) (byt := [[116, 101, 97, 114]]) (A := A) (fun i hi => by rw [show i = 0 by omega]; decide) (fun i hi => hs _ (by decide +kernel)) (fun i hi => hs _ (by decide +kernel)) (fun i hi => hs _ (by decide +kernel)) (fun i hi => by rw [show i = 0 by omega]; exact hs _ (by decide +kernel)) (fun i hi j hj => by
    rw [show i = 0 by omega] at hj ⊢
    have hj : j < 4 := hj
    rcases (show j = 0 ∨ j = 1 ∨ j = 2 ∨ j = 3 by omega) with rfl | rfl | rfl | rfl
    all_goals exact hs _ (by decide +kernel)) (fun i j hi hj hne => absurd (show i = j by omega) hne) hA
  have e1 := he 0 (by decide)
  exact ⟨k 0, v 0, hS.1 0 (by decide), e1, eq_terms (hs _ (by decide +kernel) : (Cond.eq (Term.string "CopyWhileRun$Reader" 136) (Term.string "CopyWhileRunModel" 138)).before args s = true) e1⟩
theorem nk_all {args : Array Value} {s : State} {A : Nat → Prop} (h : (Jvm.Cond.and given_1 narrow_1).before args s = true) (hA : ∀ a : Nat, a < s.heap.size → ¬ A a) : ∃ t : Nat, (Term.static "CopyWhileRun" "NUMBERS_OF_KIND" "[I").eval args s none [] s = some (.ref t) ∧ va_T .int t 9 (fun j => .int (nkX.getD j 0)) A s s.heap := by
  have hs := flat_of_before _ h
  refine va_Tof (tm := Term.static "CopyWhileRun" "NUMBERS_OF_KIND" "[I") (by decide) (hs _ (by decide +kernel)) (va_eqt (hs _ (by decide +kernel))) (fun j hj => ?_) hA
  rcases (show j = 0 ∨ j = 1 ∨ j = 2 ∨ j = 3 ∨ j = 4 ∨ j = 5 ∨ j = 6 ∨ j = 7 ∨ j = 8 by omega) with rfl | rfl | rfl | rfl | rfl | rfl | rfl | rfl | rfl
  all_goals exact va_eqt (hs _ (by decide +kernel))
theorem arr_all {args : Array Value} {s : State} (hts : ∀ w ∈ GW, w.before args s = true) (hlw : ∀ w ∈ lw_tbl, w.before args s = true) : ∃ cy : Nat → ClassId, ∀ (k : Nat) (q : ClassId × FieldType), ([(cy 0, .byte), (cy 1, .int), (cy 2, .long), (cy 3, .boolean), (cy 4, .object RX1), (cy 5, .object RX4), (cy 6, .object RX5)] : List (ClassId × FieldType))[k]? = some q → ArrOfT s q.1 q.2 ∧ va_RA s q.1 q.2 := by
  have prim : ∀ ty : FieldType, (∀ C, ty ≠ .object C) → (Cond.arrayClass ty).before args s = true → ∃ cA, ArrOfT s cA ty ∧ va_RA s cA ty := by
    intro ty hty h
    obtain ⟨cA, kA, comp, h1, h2, h3⟩ := Cond.arrayClass_spec h
    refine ⟨cA, fun N z => ⟨(fun k h => by cases h), kA, h2, comp, h3⟩, ?_⟩
    cases ty <;> first | exact absurd rfl (hty _) | exact h1
  have refs : ∀ C : String, (Cond.arrayOver (.object C)).before args s = true → ∃ cA, ArrOfT s cA (.object C) ∧ va_RA s cA (.object C) := by
    intro C h
    obtain ⟨comp, cA, kA, h1, h2, h3, h4, h5⟩ := Cond.arrayOver_spec h
    exact ⟨cA, fun N z => ⟨(fun k h => by cases h), kA, h3, comp, h4⟩, kA, comp, h3, h4, h1, h5⟩
  obtain ⟨c0, h0⟩ := prim .byte (fun C h => by cases h) (hts _ ka_byte)
  obtain ⟨c1, h1⟩ := prim .int (fun C h => by cases h) (hts _ ka_int)
  obtain ⟨c2, h2⟩ := prim .long (fun C h => by cases h) (hts _ ka_long)
  obtain ⟨c3, h3⟩ := prim .boolean (fun C h => by cases h) (hts _ ka_boolean)
  obtain ⟨c4, h4⟩ := refs RX1 (lw_w hlw 133 (by decide +kernel))
  obtain ⟨c5, h5⟩ := refs RX4 (lw_w hlw 110 (by decide +kernel))
  obtain ⟨c6, h6⟩ := refs RX5 (lw_w hlw 112 (by decide +kernel))
  refine ⟨fun i => ([c0, c1, c2, c3, c4, c5, c6] : List ClassId).getD i 0, fun k q hq => ?_⟩
  match k, hq with
  | 0, hq => cases hq; exact h0
  | 1, hq => cases hq; exact h1
  | 2, hq => cases hq; exact h2
  | 3, hq => cases hq; exact h3
  | 4, hq => cases hq; exact h4
  | 5, hq => cases hq; exact h5
  | 6, hq => cases hq; exact h6
  | k + 7, hq => simp at hq
theorem cls_all {args : Array Value} {s : State} (hts : ∀ w ∈ GW, w.before args s = true) : ∃ (dC : Nat → ClassId) (dI : Nat → Nat → Nat), ∀ (k : Nat) (q : vw_C), clsX[k]? = some q → u_Kn s q.1 q.2.1 q.2.2 (dC k) (dI k) := by
  obtain ⟨c0, i0, h0⟩ := u_known (C := RX0) (T := TX0) (N := 2) (n := 2) hts uX0 (hts _ kt_X0)
  obtain ⟨c1, i1, h1⟩ := u_known (C := RX1) (T := TX1) (N := 10) (n := 10) hts uX1 (hts _ kt_X1)
  obtain ⟨c2, i2, h2⟩ := u_known (C := RX2) (T := TX2) (N := 10) (n := 10) hts uX2 (hts _ kt_X2)
  obtain ⟨c3, i3, h3⟩ := u_known (C := RX3) (T := TX3) (N := 15) (n := 15) hts uX3 (hts _ kt_X3)
  obtain ⟨c4, i4, h4⟩ := u_known (C := RX4) (T := TX4) (N := 8) (n := 8) hts uX4 (hts _ kt_X4)
  obtain ⟨c5, i5, h5⟩ := u_known (C := RX5) (T := TX5) (N := 4) (n := 4) hts uX5 (hts _ kt_X5)
  obtain ⟨c6, i6, h6⟩ := u_known (C := RX6) (T := TX6) (N := 11) (n := 11) hts uX6 (hts _ kt_X6)
  obtain ⟨c7, i7, h7⟩ := u_known (C := RX7) (T := TX7) (N := 44) (n := 44) hts uX7 (hts _ kt_X7)
  refine ⟨fun k => ([c0, c1, c2, c3, c4, c5, c6, c7] : List ClassId).getD k 0, fun k => ([i0, i1, i2, i3, i4, i5, i6, i7] : List (Nat → Nat)).getD k (fun _ => 0), fun k q hq => ?_⟩
  match k, hq with
  | 0, hq => cases hq; exact h0
  | 1, hq => cases hq; exact h1
  | 2, hq => cases hq; exact h2
  | 3, hq => cases hq; exact h3
  | 4, hq => cases hq; exact h4
  | 5, hq => cases hq; exact h5
  | 6, hq => cases hq; exact h6
  | 7, hq => cases hq; exact h7
  | k + 8, hq => simp [clsX] at hq
theorem nw_all {args : Array Value} {s : State} (hlw : ∀ w ∈ lw_tbl, w.before args s = true) : ∀ w ∈ nwX, va_Nw w s := by
  intro w hw
  simp only [nwX, List.mem_cons, List.not_mem_nil, or_false] at hw
  rcases hw with rfl | rfl | rfl | rfl | rfl | rfl | rfl | rfl | rfl | rfl | rfl | rfl | rfl
  · exact va_Nw.of (A := args) rfl (lw_w hlw 28 (by decide +kernel))
  · exact va_Nw.of (A := args) rfl (lw_w hlw 70 (by decide +kernel))
  · exact va_Nw.of (A := args) rfl (lw_w hlw 121 (by decide +kernel))
  · exact va_Nw.of (A := args) rfl (lw_w hlw 135 (by decide +kernel))
  · exact va_Nw.of (A := args) rfl (lw_w hlw 239 (by decide +kernel))
  · exact va_Nw.of (A := args) rfl (lw_w hlw 241 (by decide +kernel))
  · exact va_Nw.of (A := args) rfl (lw_w hlw 252 (by decide +kernel))
  · exact va_Nw.of (A := args) rfl (lw_w hlw 449 (by decide +kernel))
  · exact va_Nw.of (A := args) rfl (lw_w hlw 451 (by decide +kernel))
  · exact va_Nw.of (A := args) rfl (lw_w hlw 514 (by decide +kernel))
  · exact va_Nw.of (A := args) rfl (lw_w hlw 561 (by decide +kernel))
  · exact va_Nw.of (A := args) rfl (lw_w hlw 832 (by decide +kernel))
  · exact va_Nw.of (A := args) rfl (lw_w hlw 918 (by decide +kernel))
set_option maxRecDepth 40000 in
set_option maxHeartbeats 8000000 in
theorem ctx_all {b : Nat} {s : State} (hlw : ∀ w ∈ lw_tbl, w.before #[Value.ref b] s = true) (hgv : (Jvm.Cond.and given_1 narrow_1).before #[Value.ref b] s = true) : ∃ G : GG, (∀ k, gad G k = s.heap.size + k) ∧ KX G (fun q => s.heap.size ≤ q) s ∧ KB G s := by
  have hts : ∀ w ∈ GW, w.before #[Value.ref b] s = true := fun w hw => hlw w (List.mem_filter.mp hw).1
  have hs := flat_of_before _ hgv
  have hA : ∀ a : Nat, a < s.heap.size → ¬ (fun q : Nat => s.heap.size ≤ q) a := fun a h q => absurd h (Nat.not_lt.mpr q)
  obtain ⟨dC, dI, hcl⟩ := cls_all hts
  obtain ⟨cy, hcy⟩ := arr_all hts hlw
  obtain ⟨ts, hts1, hts2⟩ := nk_all (A := fun q : Nat => s.heap.size ≤ q) hgv hA
  obtain ⟨a0, v0, S0, e0, f0⟩ := str_0 (A := fun q : Nat => s.heap.size ≤ q) hgv hA
  obtain ⟨a1, v1, S1, e1, f1⟩ := str_1 (A := fun q : Nat => s.heap.size ≤ q) hgv hA
  obtain ⟨a2, v2, S2, e2, f2⟩ := str_2 (A := fun q : Nat => s.heap.size ≤ q) hgv hA
  obtain ⟨a3, v3, S3, e3, f3⟩ := str_3 (A := fun q : Nat => s.heap.size ≤ q) hgv hA
  obtain ⟨a4, v4, S4, e4, f4⟩ := str_4 (A := fun q : Nat => s.heap.size ≤ q) hgv hA
  obtain ⟨a5, v5, S5, e5, f5⟩ := str_5 (A := fun q : Nat => s.heap.size ≤ q) hgv hA
  obtain ⟨a6, v6, S6, e6, f6⟩ := str_6 (A := fun q : Nat => s.heap.size ≤ q) hgv hA
  obtain ⟨a7, v7, S7, e7, f7⟩ := str_7 (A := fun q : Nat => s.heap.size ≤ q) hgv hA
  obtain ⟨a8, v8, S8, e8, f8⟩ := str_8 (A := fun q : Nat => s.heap.size ≤ q) hgv hA
  obtain ⟨a9, v9, S9, e9, f9⟩ := str_9 (A := fun q : Nat => s.heap.size ≤ q) hgv hA
  obtain ⟨a10, v10, S10, e10, f10⟩ := str_10 (A := fun q : Nat => s.heap.size ≤ q) hgv hA
  obtain ⟨a11, v11, S11, e11, f11⟩ := str_11 (A := fun q : Nat => s.heap.size ≤ q) hgv hA
  obtain ⟨a12, v12, S12, e12, f12⟩ := str_12 (A := fun q : Nat => s.heap.size ≤ q) hgv hA
  have hK : va_K (dC, dI) clsX (tysX (dC, dI, cy, (fun k => s.heap.size + k), (fun i => ([a0, a1, a2, a3, a4, a5, a6, a7, a8, a9, a10, a11, a12] : List Nat).getD i 0), (fun i => ([v0, v1, v2, v3, v4, v5, v6, v7, v8, v9, v10, v11, v12] : List Nat).getD i 0), ts)) s := ⟨hcl, hcy⟩
  refine ⟨(dC, dI, cy, (fun k => s.heap.size + k), (fun i => ([a0, a1, a2, a3, a4, a5, a6, a7, a8, a9, a10, a11, a12] : List Nat).getD i 0), (fun i => ([v0, v1, v2, v3, v4, v5, v6, v7, v8, v9, v10, v11, v12] : List Nat).getD i 0), ts), fun _ => rfl, ⟨hK, fun i j _ _ h => Nat.add_left_cancel h, nw_all hlw, va_Zof (lw_w hlw 450 (by decide +kernel)) (hts _ kn_X6) hts1 hA, hts2, va_Zof (lw_w hlw 372 (by decide +kernel)) (hts _ kn_J0) (va_eqi (hs _ (by decide +kernel))) hA, va_Zqof (lw_w hlw 388 (by decide +kernel)) (hts _ kn_J3) (hs _ (by decide +kernel)) hA, ?_, ?_⟩, hK, nw_all hlw, va_AO.of (lw_w hlw 133 (by decide +kernel)), va_AO.of (lw_w hlw 110 (by decide +kernel)), va_AO.of (lw_w hlw 112 (by decide +kernel))⟩
  · intro i hi
    rcases (show i = 0 ∨ i = 1 ∨ i = 2 ∨ i = 3 ∨ i = 4 ∨ i = 5 ∨ i = 6 ∨ i = 7 ∨ i = 8 ∨ i = 9 ∨ i = 10 ∨ i = 11 ∨ i = 12 by omega) with rfl | rfl | rfl | rfl | rfl | rfl | rfl | rfl | rfl | rfl | rfl | rfl | rfl
    · exact S0
    · exact S1
    · exact S2
    · exact S3
    · exact S4
    · exact S5
    · exact S6
    · exact S7
    · exact S8
    · exact S9
    · exact S10
    · exact S11
    · exact S12
  · intro q hq
    simp only [srX, List.mem_cons, List.not_mem_nil, or_false] at hq
    rcases hq with rfl | rfl | rfl | rfl | rfl | rfl | rfl | rfl | rfl | rfl | rfl | rfl | rfl | rfl | rfl | rfl | rfl | rfl | rfl | rfl | rfl | rfl | rfl | rfl | rfl | rfl
    · exact vk_R.of (A := #[Value.ref b]) (lw_w hlw 354 (by decide +kernel)) e0
    · exact vk_R.of (A := #[Value.ref b]) (lw_w hlw 415 (by decide +kernel)) e1
    · exact vk_R.of (A := #[Value.ref b]) (lw_w hlw 420 (by decide +kernel)) e2
    · exact vk_R.of (A := #[Value.ref b]) (lw_w hlw 421 (by decide +kernel)) e3
    · exact vk_R.of (A := #[Value.ref b]) (lw_w hlw 437 (by decide +kernel)) e4
    · exact vk_R.of (A := #[Value.ref b]) (lw_w hlw 438 (by decide +kernel)) e5
    · exact vk_R.of (A := #[Value.ref b]) (lw_w hlw 439 (by decide +kernel)) e6
    · exact vk_R.of (A := #[Value.ref b]) (lw_w hlw 440 (by decide +kernel)) e7
    · exact vk_R.of (A := #[Value.ref b]) (lw_w hlw 441 (by decide +kernel)) e8
    · exact vk_R.of (A := #[Value.ref b]) (lw_w hlw 442 (by decide +kernel)) e9
    · exact vk_R.of (A := #[Value.ref b]) (lw_w hlw 443 (by decide +kernel)) e10
    · exact vk_R.of (A := #[Value.ref b]) (lw_w hlw 444 (by decide +kernel)) e11
    · exact vk_R.of (A := #[Value.ref b]) (lw_w hlw 445 (by decide +kernel)) e12
    · exact vk_R.of (A := #[Value.ref b]) (lw_w hlw 1282 (by decide +kernel)) f0
    · exact vk_R.of (A := #[Value.ref b]) (lw_w hlw 1297 (by decide +kernel)) f1
    · exact vk_R.of (A := #[Value.ref b]) (lw_w hlw 1306 (by decide +kernel)) f2
    · exact vk_R.of (A := #[Value.ref b]) (lw_w hlw 1307 (by decide +kernel)) f3
    · exact vk_R.of (A := #[Value.ref b]) (lw_w hlw 1319 (by decide +kernel)) f4
    · exact vk_R.of (A := #[Value.ref b]) (lw_w hlw 1320 (by decide +kernel)) f5
    · exact vk_R.of (A := #[Value.ref b]) (lw_w hlw 1321 (by decide +kernel)) f6
    · exact vk_R.of (A := #[Value.ref b]) (lw_w hlw 1322 (by decide +kernel)) f7
    · exact vk_R.of (A := #[Value.ref b]) (lw_w hlw 1323 (by decide +kernel)) f8
    · exact vk_R.of (A := #[Value.ref b]) (lw_w hlw 1324 (by decide +kernel)) f9
    · exact vk_R.of (A := #[Value.ref b]) (lw_w hlw 1325 (by decide +kernel)) f10
    · exact vk_R.of (A := #[Value.ref b]) (lw_w hlw 1326 (by decide +kernel)) f11
    · exact vk_R.of (A := #[Value.ref b]) (lw_w hlw 1327 (by decide +kernel)) f12
set_option maxRecDepth 40000 in
set_option maxHeartbeats 8000000 in
/-- the law, from its entry to its loop -/
theorem start_sim {p : Program} {e : Env} {s : State} {m : MethodId} {below : List Frame} {meth : Method} {c : Code} (l : Launch) {b L : Nat} {xi : Nat → Int32} (F n : Nat) (hL : L ≤ 3072) (C0 : lw_At p s m meth c b L xi) (hf : f_law_L18 F L (fun i => (xi i.toNat).toInt) n 0 iniX = some 1) : W p l e room_1 s m #[Value.ref b] below meth c s.heap [] 0 0 (lw_Z below #[Value.ref b] s) (entryFrame m ([Value.ref b] : List Value).toArray 4) := by
  obtain ⟨hx, hb, hr, hml, hown, hlw, hX, hbl, hlocks, hgv⟩ := id C0
  have hts : ∀ w ∈ GW, w.before #[Value.ref b] s = true := fun w hw => hlw w (List.mem_filter.mp hw).1
  obtain ⟨G, hgad, hKX, hKB⟩ := ctx_all hlw hgv
  have C : CXB G p m c cL_law 4 s #[Value.ref b] RL := ⟨hx, hb, hml, hown, hts, hKB⟩
  have hl := lv_entry ([.ref b]) (n := 4) (Nat.le_of_ble_eq_true rfl)
  rw [lg_entry_eq]
  generalize (lg_sl ([.ref b]) ++ List.replicate (4 - (lg_sl ([.ref b])).length) Slot.unset).toArray = ls at hl ⊢
  have hl : lv_has ls 4 [(0, .ref b)] := hl
  have K : Bs G s.heap.size 0 p l e room_1 s m #[Value.ref b] below meth c 0 0 (lw_Z below #[Value.ref b] s) 0 (fun _ => .inr (0, [])) (F0 m 0 ls []) := by
    refine b_new (ty := tyX6) C [.null, .null, .null, .null, .null, .null, .null, .null, .null, .null, .null] (show clsX[6]? = some (RX6, TX6, 11) from rfl) uX6 tyX6_ok kx_L_7 kt_X6 kn_X6 (by decide) (Nat.le_of_ble_eq_true rfl) (Nat.le_of_ble_eq_true rfl) dL_law_0 (fun en1 e1 e2 => ?_)
    refine b_dup C dL_law_3 rfl ?_
    refine b_callI C (k' := 0) kl_L_9 (n_X6 l G s.heap.size (0 + 0) hgad rfl) e1 ki_X6_init kn_X6 kc_X6_init rfl (by decide +kernel) ⟨Nat.le_of_ble_eq_true rfl, Nat.le_of_ble_eq_true rfl⟩ ⟨Nat.le_of_ble_eq_true rfl, Nat.le_of_ble_eq_true rfl⟩ hl.1 (Nat.le_of_ble_eq_true rfl) dL_law_4 (fun en2 e3 e4 => ?_)
    refine b_astore C [(1, .ref (s.heap.size + 0 + 0)), (0, .ref b)] dL_law_7 rfl hl (by decide) rfl (fun ls hl => ?_)
    refine b_new (ty := tyX7) C [.int 0, .null, .null, .null, .null, .int 0, .null, .int 0, .int 0, .int 0, .int 0, .int 0, .int 0, .int 0, .null, .null, .null, .null, .null, .null, .null, .null, .null, .null, .null, .null, .null, .null, .int 0, .int 0, .null, .null, .null, .int 0, .int 0, .int 0, .null, .long 0, .long 0, .long 0, .null, .null, .null, .null] (show clsX[7]? = some (RX7, TX7, 44) from rfl) uX7 tyX7_ok kx_L_10 kt_X7 kn_X7 (by decide) (Nat.le_of_ble_eq_true rfl) (Nat.le_of_ble_eq_true rfl) dL_law_8 (fun en3 e5 e6 => ?_)
    refine b_dup C dL_law_11 rfl ?_
    refine b_callI C (k' := 0 + 231) kl_L_12 (n_X7 l G s.heap.size (0 + (0 + 231)) hgad rfl) e5 ki_X7_init kn_X7 kc_X7_init rfl (by decide +kernel) ⟨Nat.le_of_ble_eq_true rfl, Nat.le_of_ble_eq_true rfl⟩ ⟨Nat.le_of_ble_eq_true rfl, Nat.le_of_ble_eq_true rfl⟩ hl.1 (Nat.le_of_ble_eq_true rfl) dL_law_12 (fun en4 e7 e8 => ?_)
    refine b_astore C [(2, .ref (s.heap.size + 0 + (0 + 231))), (1, .ref (s.heap.size + 0 + 0)), (0, .ref b)] dL_law_15 rfl hl (by decide) rfl (fun ls hl => ?_)
    refine b_iconst (v := 0) C dL_law_16 rfl ?_
    refine b_istore C [(3, .int 0), (2, .ref (s.heap.size + 0 + (0 + 231))), (1, .ref (s.heap.size + 0 + 0)), (0, .ref b)] dL_law_17 rfl hl (by decide) rfl (fun ls hl => ?_)
    intro H locs hB hS
    have hAe : AB s.heap.size 0 = fun q => s.heap.size ≤ q := rfl
    have hall : ∀ i, i < 259 → en4 i = cfX G i (iniX i) := by
      intro i hi
      by_cases q : i < 231
      · rw [e7 i (by omega), e6 i (by omega), e4 i (by omega) (by omega), show 0 + i = i by omega]
      · rw [e8 i (by omega) (by omega), show 0 + i = i by omega]
    have hP : PH G iniX H := by
      refine ⟨fun k q hq => ?_, fun k j => ?_⟩
      · obtain ⟨h1, rfl⟩ := wd_inv hq
        have h2 := hB.2 k (by omega)
        rw [hall k h1, show s.heap.size + 0 + k = gad G k by rw [hgad]; omega] at h2
        exact h2
      · have h3 : iniX k j = -1 ∨ iniX k j = 0 := by
          unfold iniX
          split
          · exact Or.inl rfl
          · split
            · exact Or.inl rfl
            · split
              · exact Or.inl rfl
              · split
                · exact Or.inl rfl
                · exact Or.inr rfl
        rcases h3 with h3 | h3 <;> rw [h3] <;> exact ⟨⟨by decide, by decide⟩, fun _ => ⟨by decide, by decide⟩⟩
    have CX0 : CX G (fun q => s.heap.size ≤ q) p m c cL_law 4 s #[Value.ref b] RL := ⟨hx, hb, hml, hown, hts, hKX, fun q h => by obtain ⟨k, -, rfl⟩ := h; rw [hgad]; exact Nat.le_add_right _ _⟩
    have hz : s.heap.size + 0 + 0 = gad G 0 := by rw [hgad]
    have hz2 : s.heap.size + 0 + (0 + 231) = gad G 231 := by rw [hgad]
    rw [hz2, hz] at hl
    have S := law_sim (G := G) (A := fun q => s.heap.size ≤ q) (nc := 0 + 1 + 230 + 1 + 27) (ns := 0 + 11 + 7394 + 44 + 14598) (p := p) l (e := e) (below := below) F rfl ⟨Nat.le_of_ble_eq_true rfl, Nat.le_of_ble_eq_true rfl⟩ CX0 hr hlocks hL hX hbl (fun i => (xi i.toNat).toInt) (fun i _ => rfl) n 0 iniX ls (lv_sub hl [3, 2, 1, 0] rfl)
    have W1 := S 1 hf H locs hP hS
    intro T hT X
    obtain ⟨t, h1, h2⟩ := W1 T hT X
    exact ⟨t, h1, h2 rfl⟩
  exact K s.heap [] ⟨rfl, fun i hi => absurd hi (Nat.not_lt_zero i)⟩ va_S.rf
