theorem ini_z {k : Nat} (h2 : kdX k ≠ 2) (h3 : kdX k ≠ 3) (h7 : kdX k ≠ 7) (hm : k ≠ 255) (j : Int) : iniX k j = 0 := by
  unfold iniX
  rw [if_neg (fun q => h2 q.1), if_neg (fun q => h3 q.1), if_neg (fun q => h7 q.1), if_neg (fun q => hm q.1)]
theorem iZ_0 : iZ 0 = 0 := rfl
theorem lZ_0 : lZ 0 = 0 := rfl
theorem iZ_m : iZ (-1) = -1 := rfl
theorem ar_8 {G : GG} {k N : Nat} (h : kdX k = 8) (hn : lnX k = N) (hm : k ≠ 255) : (.inl (gcy G 0, N, .inl (fun _ => 0)) : va_E) = cfX G k (iniX k) := by
  rw [cf_8 h, hn]
  have h0 : iniX k = fun _ => 0 := funext (ini_z (by rw [h]; decide) (by rw [h]; decide) (by rw [h]; decide) hm)
  rw [h0]
  rfl
theorem ar_9 {G : GG} {k N : Nat} (h : kdX k = 9) (hn : lnX k = N) (hm : k ≠ 255) : (.inl (gcy G 1, N, .inl (fun _ => 0)) : va_E) = cfX G k (iniX k) := by
  rw [cf_9 h, hn]
  have h0 : iniX k = fun _ => 0 := funext (ini_z (by rw [h]; decide) (by rw [h]; decide) (by rw [h]; decide) hm)
  rw [h0]
  rfl
theorem ar_10 {G : GG} {k N : Nat} (h : kdX k = 10) (hn : lnX k = N) (hm : k ≠ 255) : (.inl (gcy G 2, N, .inr (.inl (fun _ => 0))) : va_E) = cfX G k (iniX k) := by
  rw [cf_10 h, hn]
  have h0 : iniX k = fun _ => 0 := funext (ini_z (by rw [h]; decide) (by rw [h]; decide) (by rw [h]; decide) hm)
  rw [h0]
  rfl
theorem ar_11 {G : GG} {k N : Nat} (h : kdX k = 11) (hn : lnX k = N) (hm : k ≠ 255) : (.inl (gcy G 3, N, .inl (fun _ => 0)) : va_E) = cfX G k (iniX k) := by
  rw [cf_11 h, hn]
  have h0 : iniX k = fun _ => 0 := funext (ini_z (by rw [h]; decide) (by rw [h]; decide) (by rw [h]; decide) hm)
  rw [h0]
  rfl
theorem many_ok {G : GG} {b : Nat} (hb : kdX b = 7) : (.inl (gcy G 1, 4, .inl (upd (upd (upd (upd (fun _ => 0) 0 (-1)) 1 (-1)) 2 (-1)) 3 (-1))) : va_E) = cfX G (b + 24) (iniX (b + 24)) := by
  have h1 : ∀ b, b < 259 → kdX b = 7 → b = 231 := by decide +kernel
  have h2 : b = 231 := h1 b (kd_lt hb (by decide)) hb
  subst h2
  rw [cf_9 (show kdX (231 + 24) = 9 from rfl)]
  have h3 : lnX (231 + 24) = 4 := rfl
  rw [h3]
  refine congrArg (fun g => Sum.inl (gcy G 1, 4, Sum.inl g)) (funext fun j => ?_)
  unfold upd
  rcases j with _ | _ | _ | _ | j
  · rfl
  · rfl
  · rfl
  · rfl
  · have h4 : iniX (231 + 24) ((j + 1 + 1 + 1 + 1 : Nat) : Int) = 0 := by
      unfold iniX
      rw [if_neg (fun q => absurd q.1 (by decide)), if_neg (fun q => absurd q.1 (by decide)), if_neg (fun q => absurd q.1 (by decide)), if_neg (fun q => by omega)]
    rw [h4, if_neg (by omega), if_neg (by omega), if_neg (by omega), if_neg (by omega)]
    rfl
set_option maxRecDepth 20000 in
set_option maxHeartbeats 4000000 in
theorem n_X0 (l : Launch) (G : GG) (z b : Nat) (hgad : ∀ k, gad G k = z + k) (hb : kdX b = 0) : NB G l yX0_init cX0_init 1 { frames := 1, cells := 1, slots := 32, locals := 20 } z b 2 1 32 (.inr (0, [.int 0, .null])) := by
  refine NB_of (own := RX0) (by decide +kernel) rfl rfl (by decide) ?_
  intro p e s m args below meth c C hr hlo hini ls en0 o0 hl
  have g0 : ∀ i, 1 ≤ i → i < 1 → en0 i = cfX G (b + i) (iniX (b + i)) := fun i h1 h2 => absurd h2 (by omega)
  have h255 : ∀ j, 1 ≤ j → j ≤ 7 → b + j ≠ 255 := by
    intro j h1 h2 h3
    have h4 : ∀ j, j < 8 → 1 ≤ j → kdX (255 - j) ≠ 0 := by decide +kernel
    exact h4 j (by omega) h1 (by rw [show 255 - j = b by omega]; exact hb)
  refine b_aload C dX0_init_0 rfl (lv_at hl 0 rfl) ?_
  refine b_obj C kl_X0_3 hl.1 ⟨Nat.le_of_ble_eq_true rfl, Nat.le_of_ble_eq_true rfl⟩ dX0_init_1 ?_
  refine b_aload C dX0_init_4 rfl (lv_at hl 0 rfl) ?_
  refine b_bipush C dX0_init_5 rfl ?_
  refine b_newa_int C (N := 32) (by decide) rfl (by decide) (Nat.le_of_ble_eq_true rfl) (Nat.le_of_ble_eq_true rfl) dX0_init_7 (fun en1 e1 e2 => ?_)
  have o0 := (e2 0 (by decide)).trans o0
  have g1 : ∀ i, 1 ≤ i → i < 2 → en1 i = cfX G (b + i) (iniX (b + i)) := by
    intro i h1 h2
    by_cases q : i = 1
    · subst q
      exact e1.trans (ar_9 (yk_0_1 hb) (yl_0_1 hb) (h255 1 (by decide) (by decide)))
    · exact (e2 i (by omega)).trans (g0 i h1 (by omega))
  refine b_putF C (i := 0) (j := 1) (ty := tyX0 1) (show clsX[0]? = some (RX0, TX0, 2) from rfl) uX0 tyX0_ok nmX0 (by decide) o0 (by decide) kf_X0_9 rfl hini rfl (by decide +kernel) rfl rfl (by simp) dX0_init_9 (fun en2 e1 e2 => ?_)
  have o0 : en2 0 = .inr (0, [.int 0, .ref (z + b + 1)]) := e1
  have g2 : ∀ i, 1 ≤ i → i < 2 → en2 i = cfX G (b + i) (iniX (b + i)) := fun i h1 h2 => (e2 i (by omega)).trans (g1 i h1 h2)
  refine b_ret C hr hlo dX0_init_12 (fun i hi => ?_)
  by_cases q : i = 0
  · subst q
    refine eqE_eq (o0.trans ?_)
    rw [show b + 0 = b from rfl, cf_0 hb]
    have hne : b ≠ 255 := fun h => by rw [h] at hb; exact absurd hb (by decide)
    simp only [hgad, Nat.add_assoc]
    simp [iniX, hb, hne, iZ_0, lZ_0, iZ_m]
  exact eqE_eq (g2 i (by omega) hi)
set_option maxRecDepth 20000 in
set_option maxHeartbeats 4000000 in
theorem n_X1 (l : Launch) (G : GG) (z b : Nat) (hgad : ∀ k, gad G k = z + k) (hb : kdX b = 1) : NB G l yX1_init cX1_init 1 { frames := 1, cells := 2, slots := 64, locals := 20 } z b 3 2 64 (.inr (1, [.int 0, .int 0, .int 0, .int 0, .int 0, .int 0, .int 0, .int 0, .null, .null])) := by
  refine NB_of (own := RX1) (by decide +kernel) rfl rfl (by decide) ?_
  intro p e s m args below meth c C hr hlo hini ls en0 o0 hl
  have g0 : ∀ i, 1 ≤ i → i < 1 → en0 i = cfX G (b + i) (iniX (b + i)) := fun i h1 h2 => absurd h2 (by omega)
  have h255 : ∀ j, 1 ≤ j → j ≤ 7 → b + j ≠ 255 := by
    intro j h1 h2 h3
    have h4 : ∀ j, j < 8 → 1 ≤ j → kdX (255 - j) ≠ 1 := by decide +kernel
    exact h4 j (by omega) h1 (by rw [show 255 - j = b by omega]; exact hb)
  refine b_aload C dX1_init_0 rfl (lv_at hl 0 rfl) ?_
  refine b_obj C kl_X1_3 hl.1 ⟨Nat.le_of_ble_eq_true rfl, Nat.le_of_ble_eq_true rfl⟩ dX1_init_1 ?_
  refine b_aload C dX1_init_4 rfl (lv_at hl 0 rfl) ?_
  refine b_bipush C dX1_init_5 rfl ?_
  refine b_newa_int C (N := 32) (by decide) rfl (by decide) (Nat.le_of_ble_eq_true rfl) (Nat.le_of_ble_eq_true rfl) dX1_init_7 (fun en1 e1 e2 => ?_)
  have o0 := (e2 0 (by decide)).trans o0
  have g1 : ∀ i, 1 ≤ i → i < 2 → en1 i = cfX G (b + i) (iniX (b + i)) := by
    intro i h1 h2
    by_cases q : i = 1
    · subst q
      exact e1.trans (ar_9 (yk_1_8 hb) (yl_1_8 hb) (h255 1 (by decide) (by decide)))
    · exact (e2 i (by omega)).trans (g0 i h1 (by omega))
  refine b_putF C (i := 0) (j := 8) (ty := tyX1 8) (show clsX[1]? = some (RX1, TX1, 10) from rfl) uX1 tyX1_ok nmX1 (by decide) o0 (by decide) kf_X1_9 rfl hini rfl (by decide +kernel) rfl rfl (by simp) dX1_init_9 (fun en2 e1 e2 => ?_)
  have o0 : en2 0 = .inr (1, [.int 0, .int 0, .int 0, .int 0, .int 0, .int 0, .int 0, .int 0, .ref (z + b + 1), .null]) := e1
  have g2 : ∀ i, 1 ≤ i → i < 2 → en2 i = cfX G (b + i) (iniX (b + i)) := fun i h1 h2 => (e2 i (by omega)).trans (g1 i h1 h2)
  refine b_aload C dX1_init_12 rfl (lv_at hl 0 rfl) ?_
  refine b_bipush C dX1_init_13 rfl ?_
  refine b_newa_int C (N := 32) (by decide) rfl (by decide) (Nat.le_of_ble_eq_true rfl) (Nat.le_of_ble_eq_true rfl) dX1_init_15 (fun en3 e1 e2 => ?_)
  have o0 := (e2 0 (by decide)).trans o0
  have g3 : ∀ i, 1 ≤ i → i < 3 → en3 i = cfX G (b + i) (iniX (b + i)) := by
    intro i h1 h2
    by_cases q : i = 2
    · subst q
      exact e1.trans (ar_9 (yk_1_9 hb) (yl_1_9 hb) (h255 2 (by decide) (by decide)))
    · exact (e2 i (by omega)).trans (g2 i h1 (by omega))
  refine b_putF C (i := 0) (j := 9) (ty := tyX1 9) (show clsX[1]? = some (RX1, TX1, 10) from rfl) uX1 tyX1_ok nmX1 (by decide) o0 (by decide) kf_X1_15 rfl hini rfl (by decide +kernel) rfl rfl (by simp) dX1_init_17 (fun en4 e1 e2 => ?_)
  have o0 : en4 0 = .inr (1, [.int 0, .int 0, .int 0, .int 0, .int 0, .int 0, .int 0, .int 0, .ref (z + b + 1), .ref (z + b + 2)]) := e1
  have g4 : ∀ i, 1 ≤ i → i < 3 → en4 i = cfX G (b + i) (iniX (b + i)) := fun i h1 h2 => (e2 i (by omega)).trans (g3 i h1 h2)
  refine b_ret C hr hlo dX1_init_20 (fun i hi => ?_)
  by_cases q : i = 0
  · subst q
    refine eqE_eq (o0.trans ?_)
    rw [show b + 0 = b from rfl, cf_1 hb]
    have hne : b ≠ 255 := fun h => by rw [h] at hb; exact absurd hb (by decide)
    simp only [hgad, Nat.add_assoc]
    simp [iniX, hb, hne, iZ_0, lZ_0, iZ_m]
  exact eqE_eq (g4 i (by omega) hi)
set_option maxRecDepth 20000 in
set_option maxHeartbeats 4000000 in
theorem n_X2 (l : Launch) (G : GG) (z b : Nat) (hgad : ∀ k, gad G k = z + k) (hb : kdX b = 2) : NB G l yX2_init cX2_init 1 { frames := 1, cells := 2, slots := 703, locals := 20 } z b 3 2 703 (.inr (2, [.int 0, .int 0, .int 0, .null, .null, .int 0, .int 0, .int 0, .int 0, .int 0])) := by
  refine NB_of (own := RX2) (by decide +kernel) rfl rfl (by decide) ?_
  intro p e s m args below meth c C hr hlo hini ls en0 o0 hl
  have g0 : ∀ i, 1 ≤ i → i < 1 → en0 i = cfX G (b + i) (iniX (b + i)) := fun i h1 h2 => absurd h2 (by omega)
  have h255 : ∀ j, 1 ≤ j → j ≤ 7 → b + j ≠ 255 := by
    intro j h1 h2 h3
    have h4 : ∀ j, j < 8 → 1 ≤ j → kdX (255 - j) ≠ 2 := by decide +kernel
    exact h4 j (by omega) h1 (by rw [show 255 - j = b by omega]; exact hb)
  refine b_aload C dX2_init_0 rfl (lv_at hl 0 rfl) ?_
  refine b_obj C kl_X2_3 hl.1 ⟨Nat.le_of_ble_eq_true rfl, Nat.le_of_ble_eq_true rfl⟩ dX2_init_1 ?_
  refine b_aload C dX2_init_4 rfl (lv_at hl 0 rfl) ?_
  refine b_iconst C dX2_init_5 rfl ?_
  refine b_putI C (i := 0) (j := 2) (ty := tyX2 2) (show clsX[2]? = some (RX2, TX2, 10) from rfl) uX2 tyX2_ok nmX2 (by decide) o0 (by decide) kf_X2_9 rfl (by decide +kernel) rfl rfl (by simp) dX2_init_6 (fun en1 e1 e2 => ?_)
  have o0 : en1 0 = .inr (2, [.int 0, .int 0, .int (-1), .null, .null, .int 0, .int 0, .int 0, .int 0, .int 0]) := e1
  have g1 : ∀ i, 1 ≤ i → i < 1 → en1 i = cfX G (b + i) (iniX (b + i)) := fun i h1 h2 => (e2 i (by omega)).trans (g0 i h1 h2)
  refine b_aload C dX2_init_9 rfl (lv_at hl 0 rfl) ?_
  refine b_sipush C dX2_init_10 rfl ?_
  refine b_newa_byte C (N := 700) (by decide) rfl (by decide) (Nat.le_of_ble_eq_true rfl) (Nat.le_of_ble_eq_true rfl) dX2_init_13 (fun en2 e1 e2 => ?_)
  have o0 := (e2 0 (by decide)).trans o0
  have g2 : ∀ i, 1 ≤ i → i < 2 → en2 i = cfX G (b + i) (iniX (b + i)) := by
    intro i h1 h2
    by_cases q : i = 1
    · subst q
      exact e1.trans (ar_8 (yk_2_3 hb) (yl_2_3 hb) (h255 1 (by decide) (by decide)))
    · exact (e2 i (by omega)).trans (g1 i h1 (by omega))
  refine b_putF C (i := 0) (j := 3) (ty := tyX2 3) (show clsX[2]? = some (RX2, TX2, 10) from rfl) uX2 tyX2_ok nmX2 (by decide) o0 (by decide) kf_X2_15 rfl hini rfl (by decide +kernel) rfl rfl (by simp) dX2_init_15 (fun en3 e1 e2 => ?_)
  have o0 : en3 0 = .inr (2, [.int 0, .int 0, .int (-1), .ref (z + b + 1), .null, .int 0, .int 0, .int 0, .int 0, .int 0]) := e1
  have g3 : ∀ i, 1 ≤ i → i < 2 → en3 i = cfX G (b + i) (iniX (b + i)) := fun i h1 h2 => (e2 i (by omega)).trans (g2 i h1 h2)
  refine b_aload C dX2_init_18 rfl (lv_at hl 0 rfl) ?_
  refine b_iconst C dX2_init_19 rfl ?_
  refine b_newa_int C (N := 3) (by decide) rfl (by decide) (Nat.le_of_ble_eq_true rfl) (Nat.le_of_ble_eq_true rfl) dX2_init_20 (fun en4 e1 e2 => ?_)
  have o0 := (e2 0 (by decide)).trans o0
  have g4 : ∀ i, 1 ≤ i → i < 3 → en4 i = cfX G (b + i) (iniX (b + i)) := by
    intro i h1 h2
    by_cases q : i = 2
    · subst q
      exact e1.trans (ar_9 (yk_2_4 hb) (yl_2_4 hb) (h255 2 (by decide) (by decide)))
    · exact (e2 i (by omega)).trans (g3 i h1 (by omega))
  refine b_putF C (i := 0) (j := 4) (ty := tyX2 4) (show clsX[2]? = some (RX2, TX2, 10) from rfl) uX2 tyX2_ok nmX2 (by decide) o0 (by decide) kf_X2_19 rfl hini rfl (by decide +kernel) rfl rfl (by simp) dX2_init_22 (fun en5 e1 e2 => ?_)
  have o0 : en5 0 = .inr (2, [.int 0, .int 0, .int (-1), .ref (z + b + 1), .ref (z + b + 2), .int 0, .int 0, .int 0, .int 0, .int 0]) := e1
  have g5 : ∀ i, 1 ≤ i → i < 3 → en5 i = cfX G (b + i) (iniX (b + i)) := fun i h1 h2 => (e2 i (by omega)).trans (g4 i h1 h2)
  refine b_ret C hr hlo dX2_init_25 (fun i hi => ?_)
  by_cases q : i = 0
  · subst q
    refine eqE_eq (o0.trans ?_)
    rw [show b + 0 = b from rfl, cf_2 hb]
    have hne : b ≠ 255 := fun h => by rw [h] at hb; exact absurd hb (by decide)
    simp only [hgad, Nat.add_assoc]
    simp [iniX, hb, hne, iZ_0, lZ_0, iZ_m]
  exact eqE_eq (g5 i (by omega) hi)
set_option maxRecDepth 20000 in
set_option maxHeartbeats 4000000 in
theorem n_X4 (l : Launch) (G : GG) (z b : Nat) (hgad : ∀ k, gad G k = z + k) (hb : kdX b = 4) : NB G l yX4_init cX4_init 1 { frames := 1, cells := 2, slots := 240, locals := 20 } z b 3 2 240 (.inr (4, [.int 0, .int 0, .int 0, .int 0, .int 0, .int 0, .null, .null])) := by
  refine NB_of (own := RX4) (by decide +kernel) rfl rfl (by decide) ?_
  intro p e s m args below meth c C hr hlo hini ls en0 o0 hl
  have g0 : ∀ i, 1 ≤ i → i < 1 → en0 i = cfX G (b + i) (iniX (b + i)) := fun i h1 h2 => absurd h2 (by omega)
  have h255 : ∀ j, 1 ≤ j → j ≤ 7 → b + j ≠ 255 := by
    intro j h1 h2 h3
    have h4 : ∀ j, j < 8 → 1 ≤ j → kdX (255 - j) ≠ 4 := by decide +kernel
    exact h4 j (by omega) h1 (by rw [show 255 - j = b by omega]; exact hb)
  refine b_aload C dX4_init_0 rfl (lv_at hl 0 rfl) ?_
  refine b_obj C kl_X4_3 hl.1 ⟨Nat.le_of_ble_eq_true rfl, Nat.le_of_ble_eq_true rfl⟩ dX4_init_1 ?_
  refine b_aload C dX4_init_4 rfl (lv_at hl 0 rfl) ?_
  refine b_bipush C dX4_init_5 rfl ?_
  refine b_newa_int C (N := 60) (by decide) rfl (by decide) (Nat.le_of_ble_eq_true rfl) (Nat.le_of_ble_eq_true rfl) dX4_init_7 (fun en1 e1 e2 => ?_)
  have o0 := (e2 0 (by decide)).trans o0
  have g1 : ∀ i, 1 ≤ i → i < 2 → en1 i = cfX G (b + i) (iniX (b + i)) := by
    intro i h1 h2
    by_cases q : i = 1
    · subst q
      exact e1.trans (ar_9 (yk_4_6 hb) (yl_4_6 hb) (h255 1 (by decide) (by decide)))
    · exact (e2 i (by omega)).trans (g0 i h1 (by omega))
  refine b_putF C (i := 0) (j := 6) (ty := tyX4 6) (show clsX[4]? = some (RX4, TX4, 8) from rfl) uX4 tyX4_ok nmX4 (by decide) o0 (by decide) kf_X4_9 rfl hini rfl (by decide +kernel) rfl rfl (by simp) dX4_init_9 (fun en2 e1 e2 => ?_)
  have o0 : en2 0 = .inr (4, [.int 0, .int 0, .int 0, .int 0, .int 0, .int 0, .ref (z + b + 1), .null]) := e1
  have g2 : ∀ i, 1 ≤ i → i < 2 → en2 i = cfX G (b + i) (iniX (b + i)) := fun i h1 h2 => (e2 i (by omega)).trans (g1 i h1 h2)
  refine b_aload C dX4_init_12 rfl (lv_at hl 0 rfl) ?_
  refine b_sipush C dX4_init_13 rfl ?_
  refine b_newa_int C (N := 180) (by decide) rfl (by decide) (Nat.le_of_ble_eq_true rfl) (Nat.le_of_ble_eq_true rfl) dX4_init_16 (fun en3 e1 e2 => ?_)
  have o0 := (e2 0 (by decide)).trans o0
  have g3 : ∀ i, 1 ≤ i → i < 3 → en3 i = cfX G (b + i) (iniX (b + i)) := by
    intro i h1 h2
    by_cases q : i = 2
    · subst q
      exact e1.trans (ar_9 (yk_4_7 hb) (yl_4_7 hb) (h255 2 (by decide) (by decide)))
    · exact (e2 i (by omega)).trans (g2 i h1 (by omega))
  refine b_putF C (i := 0) (j := 7) (ty := tyX4 7) (show clsX[4]? = some (RX4, TX4, 8) from rfl) uX4 tyX4_ok nmX4 (by decide) o0 (by decide) kf_X4_15 rfl hini rfl (by decide +kernel) rfl rfl (by simp) dX4_init_18 (fun en4 e1 e2 => ?_)
  have o0 : en4 0 = .inr (4, [.int 0, .int 0, .int 0, .int 0, .int 0, .int 0, .ref (z + b + 1), .ref (z + b + 2)]) := e1
  have g4 : ∀ i, 1 ≤ i → i < 3 → en4 i = cfX G (b + i) (iniX (b + i)) := fun i h1 h2 => (e2 i (by omega)).trans (g3 i h1 h2)
  refine b_ret C hr hlo dX4_init_21 (fun i hi => ?_)
  by_cases q : i = 0
  · subst q
    refine eqE_eq (o0.trans ?_)
    rw [show b + 0 = b from rfl, cf_4 hb]
    have hne : b ≠ 255 := fun h => by rw [h] at hb; exact absurd hb (by decide)
    simp only [hgad, Nat.add_assoc]
    simp [iniX, hb, hne, iZ_0, lZ_0, iZ_m]
  exact eqE_eq (g4 i (by omega) hi)
set_option maxRecDepth 20000 in
set_option maxHeartbeats 4000000 in
theorem n_X5 (l : Launch) (G : GG) (z b : Nat) (hgad : ∀ k, gad G k = z + k) (hb : kdX b = 5) : NB G l yX5_init cX5_init 1 { frames := 1, cells := 1, slots := 60, locals := 20 } z b 2 1 60 (.inr (5, [.int 0, .int 0, .int 0, .null])) := by
  refine NB_of (own := RX5) (by decide +kernel) rfl rfl (by decide) ?_
  intro p e s m args below meth c C hr hlo hini ls en0 o0 hl
  have g0 : ∀ i, 1 ≤ i → i < 1 → en0 i = cfX G (b + i) (iniX (b + i)) := fun i h1 h2 => absurd h2 (by omega)
  have h255 : ∀ j, 1 ≤ j → j ≤ 7 → b + j ≠ 255 := by
    intro j h1 h2 h3
    have h4 : ∀ j, j < 8 → 1 ≤ j → kdX (255 - j) ≠ 5 := by decide +kernel
    exact h4 j (by omega) h1 (by rw [show 255 - j = b by omega]; exact hb)
  refine b_aload C dX5_init_0 rfl (lv_at hl 0 rfl) ?_
  refine b_obj C kl_X5_3 hl.1 ⟨Nat.le_of_ble_eq_true rfl, Nat.le_of_ble_eq_true rfl⟩ dX5_init_1 ?_
  refine b_aload C dX5_init_4 rfl (lv_at hl 0 rfl) ?_
  refine b_bipush C dX5_init_5 rfl ?_
  refine b_newa_long C (N := 60) (by decide) rfl (by decide) (Nat.le_of_ble_eq_true rfl) (Nat.le_of_ble_eq_true rfl) dX5_init_7 (fun en1 e1 e2 => ?_)
  have o0 := (e2 0 (by decide)).trans o0
  have g1 : ∀ i, 1 ≤ i → i < 2 → en1 i = cfX G (b + i) (iniX (b + i)) := by
    intro i h1 h2
    by_cases q : i = 1
    · subst q
      exact e1.trans (ar_10 (yk_5_3 hb) (yl_5_3 hb) (h255 1 (by decide) (by decide)))
    · exact (e2 i (by omega)).trans (g0 i h1 (by omega))
  refine b_putF C (i := 0) (j := 3) (ty := tyX5 3) (show clsX[5]? = some (RX5, TX5, 4) from rfl) uX5 tyX5_ok nmX5 (by decide) o0 (by decide) kf_X5_9 rfl hini rfl (by decide +kernel) rfl rfl (by simp) dX5_init_9 (fun en2 e1 e2 => ?_)
  have o0 : en2 0 = .inr (5, [.int 0, .int 0, .int 0, .ref (z + b + 1)]) := e1
  have g2 : ∀ i, 1 ≤ i → i < 2 → en2 i = cfX G (b + i) (iniX (b + i)) := fun i h1 h2 => (e2 i (by omega)).trans (g1 i h1 h2)
  refine b_ret C hr hlo dX5_init_12 (fun i hi => ?_)
  by_cases q : i = 0
  · subst q
    refine eqE_eq (o0.trans ?_)
    rw [show b + 0 = b from rfl, cf_5 hb]
    have hne : b ≠ 255 := fun h => by rw [h] at hb; exact absurd hb (by decide)
    simp only [hgad, Nat.add_assoc]
    simp [iniX, hb, hne, iZ_0, lZ_0, iZ_m]
  exact eqE_eq (g2 i (by omega) hi)
set_option maxRecDepth 20000 in
set_option maxHeartbeats 4000000 in
theorem n_X7 (l : Launch) (G : GG) (z b : Nat) (hgad : ∀ k, gad G k = z + k) (hb : kdX b = 7) : NB G l yX7_init cX7_init 1 { frames := 1, cells := 27, slots := 14598, locals := 20 } z b 28 27 14598 (.inr (7, [.int 0, .null, .null, .null, .null, .int 0, .null, .int 0, .int 0, .int 0, .int 0, .int 0, .int 0, .int 0, .null, .null, .null, .null, .null, .null, .null, .null, .null, .null, .null, .null, .null, .null, .int 0, .int 0, .null, .null, .null, .int 0, .int 0, .int 0, .null, .long 0, .long 0, .long 0, .null, .null, .null, .null])) := by
  refine NB_of (own := RX7) (by decide +kernel) rfl rfl (by decide) ?_
  intro p e s m args below meth c C hr hlo hini ls en0 o0 hl
  have g0 : ∀ i, 1 ≤ i → i < 1 → i ≠ 24 → en0 i = cfX G (b + i) (iniX (b + i)) := fun i h1 h2 _ => absurd h2 (by omega)
  have hb7 : ∀ b, b < 259 → kdX b = 7 → b = 231 := by decide +kernel
  have hb231 : b = 231 := hb7 b (kd_lt hb (by decide)) hb
  refine b_aload C dX7_init_0 rfl (lv_at hl 0 rfl) ?_
  refine b_obj C kl_X7_3 hl.1 ⟨Nat.le_of_ble_eq_true rfl, Nat.le_of_ble_eq_true rfl⟩ dX7_init_1 ?_
  refine b_aload C dX7_init_4 rfl (lv_at hl 0 rfl) ?_
  refine b_sipush C dX7_init_5 rfl ?_
  refine b_newa_int C (N := 246) (by decide) rfl (by decide) (Nat.le_of_ble_eq_true rfl) (Nat.le_of_ble_eq_true rfl) dX7_init_8 (fun en1 e1 e2 => ?_)
  have o0 := (e2 0 (by decide)).trans o0
  have g1 : ∀ i, 1 ≤ i → i < 2 → i ≠ 24 → en1 i = cfX G (b + i) (iniX (b + i)) := by
    intro i h1 h2 h3
    by_cases q : i = 1
    · subst q
      exact e1.trans (ar_9 (yk_7_1 hb) (yl_7_1 hb) (by omega))
    · exact (e2 i (by omega)).trans (g0 i h1 (by omega) h3)
  refine b_putF C (i := 0) (j := 1) (ty := tyX7 1) (show clsX[7]? = some (RX7, TX7, 44) from rfl) uX7 tyX7_ok nmX7 (by decide) o0 (by decide) kf_X7_9 rfl hini rfl (by decide +kernel) rfl rfl (by simp) dX7_init_10 (fun en2 e1 e2 => ?_)
  have o0 : en2 0 = .inr (7, [.int 0, .ref (z + b + 1), .null, .null, .null, .int 0, .null, .int 0, .int 0, .int 0, .int 0, .int 0, .int 0, .int 0, .null, .null, .null, .null, .null, .null, .null, .null, .null, .null, .null, .null, .null, .null, .int 0, .int 0, .null, .null, .null, .int 0, .int 0, .int 0, .null, .long 0, .long 0, .long 0, .null, .null, .null, .null]) := e1
  have g2 : ∀ i, 1 ≤ i → i < 2 → i ≠ 24 → en2 i = cfX G (b + i) (iniX (b + i)) := fun i h1 h2 h3 => (e2 i (by omega)).trans (g1 i h1 h2 h3)
  refine b_aload C dX7_init_13 rfl (lv_at hl 0 rfl) ?_
  refine b_sipush C dX7_init_14 rfl ?_
  refine b_newa_int C (N := 738) (by decide) rfl (by decide) (Nat.le_of_ble_eq_true rfl) (Nat.le_of_ble_eq_true rfl) dX7_init_17 (fun en3 e1 e2 => ?_)
  have o0 := (e2 0 (by decide)).trans o0
  have g3 : ∀ i, 1 ≤ i → i < 3 → i ≠ 24 → en3 i = cfX G (b + i) (iniX (b + i)) := by
    intro i h1 h2 h3
    by_cases q : i = 2
    · subst q
      exact e1.trans (ar_9 (yk_7_2 hb) (yl_7_2 hb) (by omega))
    · exact (e2 i (by omega)).trans (g2 i h1 (by omega) h3)
  refine b_putF C (i := 0) (j := 2) (ty := tyX7 2) (show clsX[7]? = some (RX7, TX7, 44) from rfl) uX7 tyX7_ok nmX7 (by decide) o0 (by decide) kf_X7_13 rfl hini rfl (by decide +kernel) rfl rfl (by simp) dX7_init_19 (fun en4 e1 e2 => ?_)
  have o0 : en4 0 = .inr (7, [.int 0, .ref (z + b + 1), .ref (z + b + 2), .null, .null, .int 0, .null, .int 0, .int 0, .int 0, .int 0, .int 0, .int 0, .int 0, .null, .null, .null, .null, .null, .null, .null, .null, .null, .null, .null, .null, .null, .null, .int 0, .int 0, .null, .null, .null, .int 0, .int 0, .int 0, .null, .long 0, .long 0, .long 0, .null, .null, .null, .null]) := e1
  have g4 : ∀ i, 1 ≤ i → i < 3 → i ≠ 24 → en4 i = cfX G (b + i) (iniX (b + i)) := fun i h1 h2 h3 => (e2 i (by omega)).trans (g3 i h1 h2 h3)
  refine b_aload C dX7_init_22 rfl (lv_at hl 0 rfl) ?_
  refine b_iconst C dX7_init_23 rfl ?_
  refine b_newa_boolean C (N := 3) (by decide) rfl (by decide) (Nat.le_of_ble_eq_true rfl) (Nat.le_of_ble_eq_true rfl) dX7_init_24 (fun en5 e1 e2 => ?_)
  have o0 := (e2 0 (by decide)).trans o0
  have g5 : ∀ i, 1 ≤ i → i < 4 → i ≠ 24 → en5 i = cfX G (b + i) (iniX (b + i)) := by
    intro i h1 h2 h3
    by_cases q : i = 3
    · subst q
      exact e1.trans (ar_11 (yk_7_3 hb) (yl_7_3 hb) (by omega))
    · exact (e2 i (by omega)).trans (g4 i h1 (by omega) h3)
  refine b_putF C (i := 0) (j := 3) (ty := tyX7 3) (show clsX[7]? = some (RX7, TX7, 44) from rfl) uX7 tyX7_ok nmX7 (by decide) o0 (by decide) kf_X7_16 rfl hini rfl (by decide +kernel) rfl rfl (by simp) dX7_init_26 (fun en6 e1 e2 => ?_)
  have o0 : en6 0 = .inr (7, [.int 0, .ref (z + b + 1), .ref (z + b + 2), .ref (z + b + 3), .null, .int 0, .null, .int 0, .int 0, .int 0, .int 0, .int 0, .int 0, .int 0, .null, .null, .null, .null, .null, .null, .null, .null, .null, .null, .null, .null, .null, .null, .int 0, .int 0, .null, .null, .null, .int 0, .int 0, .int 0, .null, .long 0, .long 0, .long 0, .null, .null, .null, .null]) := e1
  have g6 : ∀ i, 1 ≤ i → i < 4 → i ≠ 24 → en6 i = cfX G (b + i) (iniX (b + i)) := fun i h1 h2 h3 => (e2 i (by omega)).trans (g5 i h1 h2 h3)
  refine b_aload C dX7_init_29 rfl (lv_at hl 0 rfl) ?_
  refine b_sipush C dX7_init_30 rfl ?_
  refine b_newa_byte C (N := 700) (by decide) rfl (by decide) (Nat.le_of_ble_eq_true rfl) (Nat.le_of_ble_eq_true rfl) dX7_init_33 (fun en7 e1 e2 => ?_)
  have o0 := (e2 0 (by decide)).trans o0
  have g7 : ∀ i, 1 ≤ i → i < 5 → i ≠ 24 → en7 i = cfX G (b + i) (iniX (b + i)) := by
    intro i h1 h2 h3
    by_cases q : i = 4
    · subst q
      exact e1.trans (ar_8 (yk_7_4 hb) (yl_7_4 hb) (by omega))
    · exact (e2 i (by omega)).trans (g6 i h1 (by omega) h3)
  refine b_putF C (i := 0) (j := 4) (ty := tyX7 4) (show clsX[7]? = some (RX7, TX7, 44) from rfl) uX7 tyX7_ok nmX7 (by decide) o0 (by decide) kf_X7_20 rfl hini rfl (by decide +kernel) rfl rfl (by simp) dX7_init_35 (fun en8 e1 e2 => ?_)
  have o0 : en8 0 = .inr (7, [.int 0, .ref (z + b + 1), .ref (z + b + 2), .ref (z + b + 3), .ref (z + b + 4), .int 0, .null, .int 0, .int 0, .int 0, .int 0, .int 0, .int 0, .int 0, .null, .null, .null, .null, .null, .null, .null, .null, .null, .null, .null, .null, .null, .null, .int 0, .int 0, .null, .null, .null, .int 0, .int 0, .int 0, .null, .long 0, .long 0, .long 0, .null, .null, .null, .null]) := e1
  have g8 : ∀ i, 1 ≤ i → i < 5 → i ≠ 24 → en8 i = cfX G (b + i) (iniX (b + i)) := fun i h1 h2 h3 => (e2 i (by omega)).trans (g7 i h1 h2 h3)
  refine b_aload C dX7_init_38 rfl (lv_at hl 0 rfl) ?_
  refine b_iconst C dX7_init_39 rfl ?_
  refine b_newa_int C (N := 5) (by decide) rfl (by decide) (Nat.le_of_ble_eq_true rfl) (Nat.le_of_ble_eq_true rfl) dX7_init_40 (fun en9 e1 e2 => ?_)
  have o0 := (e2 0 (by decide)).trans o0
  have g9 : ∀ i, 1 ≤ i → i < 6 → i ≠ 24 → en9 i = cfX G (b + i) (iniX (b + i)) := by
    intro i h1 h2 h3
    by_cases q : i = 5
    · subst q
      exact e1.trans (ar_9 (yk_7_6 hb) (yl_7_6 hb) (by omega))
    · exact (e2 i (by omega)).trans (g8 i h1 (by omega) h3)
  refine b_putF C (i := 0) (j := 6) (ty := tyX7 6) (show clsX[7]? = some (RX7, TX7, 44) from rfl) uX7 tyX7_ok nmX7 (by decide) o0 (by decide) kf_X7_24 rfl hini rfl (by decide +kernel) rfl rfl (by simp) dX7_init_42 (fun en10 e1 e2 => ?_)
  have o0 : en10 0 = .inr (7, [.int 0, .ref (z + b + 1), .ref (z + b + 2), .ref (z + b + 3), .ref (z + b + 4), .int 0, .ref (z + b + 5), .int 0, .int 0, .int 0, .int 0, .int 0, .int 0, .int 0, .null, .null, .null, .null, .null, .null, .null, .null, .null, .null, .null, .null, .null, .null, .int 0, .int 0, .null, .null, .null, .int 0, .int 0, .int 0, .null, .long 0, .long 0, .long 0, .null, .null, .null, .null]) := e1
  have g10 : ∀ i, 1 ≤ i → i < 6 → i ≠ 24 → en10 i = cfX G (b + i) (iniX (b + i)) := fun i h1 h2 h3 => (e2 i (by omega)).trans (g9 i h1 h2 h3)
  refine b_aload C dX7_init_45 rfl (lv_at hl 0 rfl) ?_
  refine b_iconst C dX7_init_46 rfl ?_
  refine b_putI C (i := 0) (j := 13) (ty := tyX7 13) (show clsX[7]? = some (RX7, TX7, 44) from rfl) uX7 tyX7_ok nmX7 (by decide) o0 (by decide) kf_X7_27 rfl (by decide +kernel) rfl rfl (by simp) dX7_init_47 (fun en11 e1 e2 => ?_)
  have o0 : en11 0 = .inr (7, [.int 0, .ref (z + b + 1), .ref (z + b + 2), .ref (z + b + 3), .ref (z + b + 4), .int 0, .ref (z + b + 5), .int 0, .int 0, .int 0, .int 0, .int 0, .int 0, .int (-1), .null, .null, .null, .null, .null, .null, .null, .null, .null, .null, .null, .null, .null, .null, .int 0, .int 0, .null, .null, .null, .int 0, .int 0, .int 0, .null, .long 0, .long 0, .long 0, .null, .null, .null, .null]) := e1
  have g11 : ∀ i, 1 ≤ i → i < 6 → i ≠ 24 → en11 i = cfX G (b + i) (iniX (b + i)) := fun i h1 h2 h3 => (e2 i (by omega)).trans (g10 i h1 h2 h3)
  refine b_aload C dX7_init_50 rfl (lv_at hl 0 rfl) ?_
  refine b_sipush C dX7_init_51 rfl ?_
  refine b_newa_int C (N := 246) (by decide) rfl (by decide) (Nat.le_of_ble_eq_true rfl) (Nat.le_of_ble_eq_true rfl) dX7_init_54 (fun en12 e1 e2 => ?_)
  have o0 := (e2 0 (by decide)).trans o0
  have g12 : ∀ i, 1 ≤ i → i < 7 → i ≠ 24 → en12 i = cfX G (b + i) (iniX (b + i)) := by
    intro i h1 h2 h3
    by_cases q : i = 6
    · subst q
      exact e1.trans (ar_9 (yk_7_14 hb) (yl_7_14 hb) (by omega))
    · exact (e2 i (by omega)).trans (g11 i h1 (by omega) h3)
  refine b_putF C (i := 0) (j := 14) (ty := tyX7 14) (show clsX[7]? = some (RX7, TX7, 44) from rfl) uX7 tyX7_ok nmX7 (by decide) o0 (by decide) kf_X7_31 rfl hini rfl (by decide +kernel) rfl rfl (by simp) dX7_init_56 (fun en13 e1 e2 => ?_)
  have o0 : en13 0 = .inr (7, [.int 0, .ref (z + b + 1), .ref (z + b + 2), .ref (z + b + 3), .ref (z + b + 4), .int 0, .ref (z + b + 5), .int 0, .int 0, .int 0, .int 0, .int 0, .int 0, .int (-1), .ref (z + b + 6), .null, .null, .null, .null, .null, .null, .null, .null, .null, .null, .null, .null, .null, .int 0, .int 0, .null, .null, .null, .int 0, .int 0, .int 0, .null, .long 0, .long 0, .long 0, .null, .null, .null, .null]) := e1
  have g13 : ∀ i, 1 ≤ i → i < 7 → i ≠ 24 → en13 i = cfX G (b + i) (iniX (b + i)) := fun i h1 h2 h3 => (e2 i (by omega)).trans (g12 i h1 h2 h3)
  refine b_aload C dX7_init_59 rfl (lv_at hl 0 rfl) ?_
  refine b_bipush C dX7_init_60 rfl ?_
  refine b_newa_boolean C (N := 60) (by decide) rfl (by decide) (Nat.le_of_ble_eq_true rfl) (Nat.le_of_ble_eq_true rfl) dX7_init_62 (fun en14 e1 e2 => ?_)
  have o0 := (e2 0 (by decide)).trans o0
  have g14 : ∀ i, 1 ≤ i → i < 8 → i ≠ 24 → en14 i = cfX G (b + i) (iniX (b + i)) := by
    intro i h1 h2 h3
    by_cases q : i = 7
    · subst q
      exact e1.trans (ar_11 (yk_7_15 hb) (yl_7_15 hb) (by omega))
    · exact (e2 i (by omega)).trans (g13 i h1 (by omega) h3)
  refine b_putF C (i := 0) (j := 15) (ty := tyX7 15) (show clsX[7]? = some (RX7, TX7, 44) from rfl) uX7 tyX7_ok nmX7 (by decide) o0 (by decide) kf_X7_34 rfl hini rfl (by decide +kernel) rfl rfl (by simp) dX7_init_64 (fun en15 e1 e2 => ?_)
  have o0 : en15 0 = .inr (7, [.int 0, .ref (z + b + 1), .ref (z + b + 2), .ref (z + b + 3), .ref (z + b + 4), .int 0, .ref (z + b + 5), .int 0, .int 0, .int 0, .int 0, .int 0, .int 0, .int (-1), .ref (z + b + 6), .ref (z + b + 7), .null, .null, .null, .null, .null, .null, .null, .null, .null, .null, .null, .null, .int 0, .int 0, .null, .null, .null, .int 0, .int 0, .int 0, .null, .long 0, .long 0, .long 0, .null, .null, .null, .null]) := e1
  have g15 : ∀ i, 1 ≤ i → i < 8 → i ≠ 24 → en15 i = cfX G (b + i) (iniX (b + i)) := fun i h1 h2 h3 => (e2 i (by omega)).trans (g14 i h1 h2 h3)
  refine b_aload C dX7_init_67 rfl (lv_at hl 0 rfl) ?_
  refine b_sipush C dX7_init_68 rfl ?_
  refine b_newa_int C (N := 1952) (by decide) rfl (by decide) (Nat.le_of_ble_eq_true rfl) (Nat.le_of_ble_eq_true rfl) dX7_init_71 (fun en16 e1 e2 => ?_)
  have o0 := (e2 0 (by decide)).trans o0
  have g16 : ∀ i, 1 ≤ i → i < 9 → i ≠ 24 → en16 i = cfX G (b + i) (iniX (b + i)) := by
    intro i h1 h2 h3
    by_cases q : i = 8
    · subst q
      exact e1.trans (ar_9 (yk_7_16 hb) (yl_7_16 hb) (by omega))
    · exact (e2 i (by omega)).trans (g15 i h1 (by omega) h3)
  refine b_putF C (i := 0) (j := 16) (ty := tyX7 16) (show clsX[7]? = some (RX7, TX7, 44) from rfl) uX7 tyX7_ok nmX7 (by decide) o0 (by decide) kf_X7_37 rfl hini rfl (by decide +kernel) rfl rfl (by simp) dX7_init_73 (fun en17 e1 e2 => ?_)
  have o0 : en17 0 = .inr (7, [.int 0, .ref (z + b + 1), .ref (z + b + 2), .ref (z + b + 3), .ref (z + b + 4), .int 0, .ref (z + b + 5), .int 0, .int 0, .int 0, .int 0, .int 0, .int 0, .int (-1), .ref (z + b + 6), .ref (z + b + 7), .ref (z + b + 8), .null, .null, .null, .null, .null, .null, .null, .null, .null, .null, .null, .int 0, .int 0, .null, .null, .null, .int 0, .int 0, .int 0, .null, .long 0, .long 0, .long 0, .null, .null, .null, .null]) := e1
  have g17 : ∀ i, 1 ≤ i → i < 9 → i ≠ 24 → en17 i = cfX G (b + i) (iniX (b + i)) := fun i h1 h2 h3 => (e2 i (by omega)).trans (g16 i h1 h2 h3)
  refine b_aload C dX7_init_76 rfl (lv_at hl 0 rfl) ?_
  refine b_sipush C dX7_init_77 rfl ?_
  refine b_newa_boolean C (N := 1920) (by decide) rfl (by decide) (Nat.le_of_ble_eq_true rfl) (Nat.le_of_ble_eq_true rfl) dX7_init_80 (fun en18 e1 e2 => ?_)
  have o0 := (e2 0 (by decide)).trans o0
  have g18 : ∀ i, 1 ≤ i → i < 10 → i ≠ 24 → en18 i = cfX G (b + i) (iniX (b + i)) := by
    intro i h1 h2 h3
    by_cases q : i = 9
    · subst q
      exact e1.trans (ar_11 (yk_7_17 hb) (yl_7_17 hb) (by omega))
    · exact (e2 i (by omega)).trans (g17 i h1 (by omega) h3)
  refine b_putF C (i := 0) (j := 17) (ty := tyX7 17) (show clsX[7]? = some (RX7, TX7, 44) from rfl) uX7 tyX7_ok nmX7 (by decide) o0 (by decide) kf_X7_40 rfl hini rfl (by decide +kernel) rfl rfl (by simp) dX7_init_82 (fun en19 e1 e2 => ?_)
  have o0 : en19 0 = .inr (7, [.int 0, .ref (z + b + 1), .ref (z + b + 2), .ref (z + b + 3), .ref (z + b + 4), .int 0, .ref (z + b + 5), .int 0, .int 0, .int 0, .int 0, .int 0, .int 0, .int (-1), .ref (z + b + 6), .ref (z + b + 7), .ref (z + b + 8), .ref (z + b + 9), .null, .null, .null, .null, .null, .null, .null, .null, .null, .null, .int 0, .int 0, .null, .null, .null, .int 0, .int 0, .int 0, .null, .long 0, .long 0, .long 0, .null, .null, .null, .null]) := e1
  have g19 : ∀ i, 1 ≤ i → i < 10 → i ≠ 24 → en19 i = cfX G (b + i) (iniX (b + i)) := fun i h1 h2 h3 => (e2 i (by omega)).trans (g18 i h1 h2 h3)
  refine b_aload C dX7_init_85 rfl (lv_at hl 0 rfl) ?_
  refine b_bipush C dX7_init_86 rfl ?_
  refine b_newa_int C (N := 60) (by decide) rfl (by decide) (Nat.le_of_ble_eq_true rfl) (Nat.le_of_ble_eq_true rfl) dX7_init_88 (fun en20 e1 e2 => ?_)
  have o0 := (e2 0 (by decide)).trans o0
  have g20 : ∀ i, 1 ≤ i → i < 11 → i ≠ 24 → en20 i = cfX G (b + i) (iniX (b + i)) := by
    intro i h1 h2 h3
    by_cases q : i = 10
    · subst q
      exact e1.trans (ar_9 (yk_7_18 hb) (yl_7_18 hb) (by omega))
    · exact (e2 i (by omega)).trans (g19 i h1 (by omega) h3)
  refine b_putF C (i := 0) (j := 18) (ty := tyX7 18) (show clsX[7]? = some (RX7, TX7, 44) from rfl) uX7 tyX7_ok nmX7 (by decide) o0 (by decide) kf_X7_43 rfl hini rfl (by decide +kernel) rfl rfl (by simp) dX7_init_90 (fun en21 e1 e2 => ?_)
  have o0 : en21 0 = .inr (7, [.int 0, .ref (z + b + 1), .ref (z + b + 2), .ref (z + b + 3), .ref (z + b + 4), .int 0, .ref (z + b + 5), .int 0, .int 0, .int 0, .int 0, .int 0, .int 0, .int (-1), .ref (z + b + 6), .ref (z + b + 7), .ref (z + b + 8), .ref (z + b + 9), .ref (z + b + 10), .null, .null, .null, .null, .null, .null, .null, .null, .null, .int 0, .int 0, .null, .null, .null, .int 0, .int 0, .int 0, .null, .long 0, .long 0, .long 0, .null, .null, .null, .null]) := e1
  have g21 : ∀ i, 1 ≤ i → i < 11 → i ≠ 24 → en21 i = cfX G (b + i) (iniX (b + i)) := fun i h1 h2 h3 => (e2 i (by omega)).trans (g20 i h1 h2 h3)
  refine b_aload C dX7_init_93 rfl (lv_at hl 0 rfl) ?_
  refine b_bipush C dX7_init_94 rfl ?_
  refine b_newa_int C (N := 60) (by decide) rfl (by decide) (Nat.le_of_ble_eq_true rfl) (Nat.le_of_ble_eq_true rfl) dX7_init_96 (fun en22 e1 e2 => ?_)
  have o0 := (e2 0 (by decide)).trans o0
  have g22 : ∀ i, 1 ≤ i → i < 12 → i ≠ 24 → en22 i = cfX G (b + i) (iniX (b + i)) := by
    intro i h1 h2 h3
    by_cases q : i = 11
    · subst q
      exact e1.trans (ar_9 (yk_7_19 hb) (yl_7_19 hb) (by omega))
    · exact (e2 i (by omega)).trans (g21 i h1 (by omega) h3)
  refine b_putF C (i := 0) (j := 19) (ty := tyX7 19) (show clsX[7]? = some (RX7, TX7, 44) from rfl) uX7 tyX7_ok nmX7 (by decide) o0 (by decide) kf_X7_46 rfl hini rfl (by decide +kernel) rfl rfl (by simp) dX7_init_98 (fun en23 e1 e2 => ?_)
  have o0 : en23 0 = .inr (7, [.int 0, .ref (z + b + 1), .ref (z + b + 2), .ref (z + b + 3), .ref (z + b + 4), .int 0, .ref (z + b + 5), .int 0, .int 0, .int 0, .int 0, .int 0, .int 0, .int (-1), .ref (z + b + 6), .ref (z + b + 7), .ref (z + b + 8), .ref (z + b + 9), .ref (z + b + 10), .ref (z + b + 11), .null, .null, .null, .null, .null, .null, .null, .null, .int 0, .int 0, .null, .null, .null, .int 0, .int 0, .int 0, .null, .long 0, .long 0, .long 0, .null, .null, .null, .null]) := e1
  have g23 : ∀ i, 1 ≤ i → i < 12 → i ≠ 24 → en23 i = cfX G (b + i) (iniX (b + i)) := fun i h1 h2 h3 => (e2 i (by omega)).trans (g22 i h1 h2 h3)
  refine b_aload C dX7_init_101 rfl (lv_at hl 0 rfl) ?_
  refine b_bipush C dX7_init_102 rfl ?_
  refine b_newa_int C (N := 60) (by decide) rfl (by decide) (Nat.le_of_ble_eq_true rfl) (Nat.le_of_ble_eq_true rfl) dX7_init_104 (fun en24 e1 e2 => ?_)
  have o0 := (e2 0 (by decide)).trans o0
  have g24 : ∀ i, 1 ≤ i → i < 13 → i ≠ 24 → en24 i = cfX G (b + i) (iniX (b + i)) := by
    intro i h1 h2 h3
    by_cases q : i = 12
    · subst q
      exact e1.trans (ar_9 (yk_7_20 hb) (yl_7_20 hb) (by omega))
    · exact (e2 i (by omega)).trans (g23 i h1 (by omega) h3)
  refine b_putF C (i := 0) (j := 20) (ty := tyX7 20) (show clsX[7]? = some (RX7, TX7, 44) from rfl) uX7 tyX7_ok nmX7 (by decide) o0 (by decide) kf_X7_49 rfl hini rfl (by decide +kernel) rfl rfl (by simp) dX7_init_106 (fun en25 e1 e2 => ?_)
  have o0 : en25 0 = .inr (7, [.int 0, .ref (z + b + 1), .ref (z + b + 2), .ref (z + b + 3), .ref (z + b + 4), .int 0, .ref (z + b + 5), .int 0, .int 0, .int 0, .int 0, .int 0, .int 0, .int (-1), .ref (z + b + 6), .ref (z + b + 7), .ref (z + b + 8), .ref (z + b + 9), .ref (z + b + 10), .ref (z + b + 11), .ref (z + b + 12), .null, .null, .null, .null, .null, .null, .null, .int 0, .int 0, .null, .null, .null, .int 0, .int 0, .int 0, .null, .long 0, .long 0, .long 0, .null, .null, .null, .null]) := e1
  have g25 : ∀ i, 1 ≤ i → i < 13 → i ≠ 24 → en25 i = cfX G (b + i) (iniX (b + i)) := fun i h1 h2 h3 => (e2 i (by omega)).trans (g24 i h1 h2 h3)
  refine b_aload C dX7_init_109 rfl (lv_at hl 0 rfl) ?_
  refine b_bipush C dX7_init_110 rfl ?_
  refine b_newa_int C (N := 60) (by decide) rfl (by decide) (Nat.le_of_ble_eq_true rfl) (Nat.le_of_ble_eq_true rfl) dX7_init_112 (fun en26 e1 e2 => ?_)
  have o0 := (e2 0 (by decide)).trans o0
  have g26 : ∀ i, 1 ≤ i → i < 14 → i ≠ 24 → en26 i = cfX G (b + i) (iniX (b + i)) := by
    intro i h1 h2 h3
    by_cases q : i = 13
    · subst q
      exact e1.trans (ar_9 (yk_7_21 hb) (yl_7_21 hb) (by omega))
    · exact (e2 i (by omega)).trans (g25 i h1 (by omega) h3)
  refine b_putF C (i := 0) (j := 21) (ty := tyX7 21) (show clsX[7]? = some (RX7, TX7, 44) from rfl) uX7 tyX7_ok nmX7 (by decide) o0 (by decide) kf_X7_52 rfl hini rfl (by decide +kernel) rfl rfl (by simp) dX7_init_114 (fun en27 e1 e2 => ?_)
  have o0 : en27 0 = .inr (7, [.int 0, .ref (z + b + 1), .ref (z + b + 2), .ref (z + b + 3), .ref (z + b + 4), .int 0, .ref (z + b + 5), .int 0, .int 0, .int 0, .int 0, .int 0, .int 0, .int (-1), .ref (z + b + 6), .ref (z + b + 7), .ref (z + b + 8), .ref (z + b + 9), .ref (z + b + 10), .ref (z + b + 11), .ref (z + b + 12), .ref (z + b + 13), .null, .null, .null, .null, .null, .null, .int 0, .int 0, .null, .null, .null, .int 0, .int 0, .int 0, .null, .long 0, .long 0, .long 0, .null, .null, .null, .null]) := e1
  have g27 : ∀ i, 1 ≤ i → i < 14 → i ≠ 24 → en27 i = cfX G (b + i) (iniX (b + i)) := fun i h1 h2 h3 => (e2 i (by omega)).trans (g26 i h1 h2 h3)
  refine b_aload C dX7_init_117 rfl (lv_at hl 0 rfl) ?_
  refine b_bipush C dX7_init_118 rfl ?_
  refine b_newa_int C (N := 60) (by decide) rfl (by decide) (Nat.le_of_ble_eq_true rfl) (Nat.le_of_ble_eq_true rfl) dX7_init_120 (fun en28 e1 e2 => ?_)
  have o0 := (e2 0 (by decide)).trans o0
  have g28 : ∀ i, 1 ≤ i → i < 15 → i ≠ 24 → en28 i = cfX G (b + i) (iniX (b + i)) := by
    intro i h1 h2 h3
    by_cases q : i = 14
    · subst q
      exact e1.trans (ar_9 (yk_7_22 hb) (yl_7_22 hb) (by omega))
    · exact (e2 i (by omega)).trans (g27 i h1 (by omega) h3)
  refine b_putF C (i := 0) (j := 22) (ty := tyX7 22) (show clsX[7]? = some (RX7, TX7, 44) from rfl) uX7 tyX7_ok nmX7 (by decide) o0 (by decide) kf_X7_55 rfl hini rfl (by decide +kernel) rfl rfl (by simp) dX7_init_122 (fun en29 e1 e2 => ?_)
  have o0 : en29 0 = .inr (7, [.int 0, .ref (z + b + 1), .ref (z + b + 2), .ref (z + b + 3), .ref (z + b + 4), .int 0, .ref (z + b + 5), .int 0, .int 0, .int 0, .int 0, .int 0, .int 0, .int (-1), .ref (z + b + 6), .ref (z + b + 7), .ref (z + b + 8), .ref (z + b + 9), .ref (z + b + 10), .ref (z + b + 11), .ref (z + b + 12), .ref (z + b + 13), .ref (z + b + 14), .null, .null, .null, .null, .null, .int 0, .int 0, .null, .null, .null, .int 0, .int 0, .int 0, .null, .long 0, .long 0, .long 0, .null, .null, .null, .null]) := e1
  have g29 : ∀ i, 1 ≤ i → i < 15 → i ≠ 24 → en29 i = cfX G (b + i) (iniX (b + i)) := fun i h1 h2 h3 => (e2 i (by omega)).trans (g28 i h1 h2 h3)
  refine b_aload C dX7_init_125 rfl (lv_at hl 0 rfl) ?_
  refine b_sipush C dX7_init_126 rfl ?_
  refine b_newa_boolean C (N := 1920) (by decide) rfl (by decide) (Nat.le_of_ble_eq_true rfl) (Nat.le_of_ble_eq_true rfl) dX7_init_129 (fun en30 e1 e2 => ?_)
  have o0 := (e2 0 (by decide)).trans o0
  have g30 : ∀ i, 1 ≤ i → i < 16 → i ≠ 24 → en30 i = cfX G (b + i) (iniX (b + i)) := by
    intro i h1 h2 h3
    by_cases q : i = 15
    · subst q
      exact e1.trans (ar_11 (yk_7_23 hb) (yl_7_23 hb) (by omega))
    · exact (e2 i (by omega)).trans (g29 i h1 (by omega) h3)
  refine b_putF C (i := 0) (j := 23) (ty := tyX7 23) (show clsX[7]? = some (RX7, TX7, 44) from rfl) uX7 tyX7_ok nmX7 (by decide) o0 (by decide) kf_X7_58 rfl hini rfl (by decide +kernel) rfl rfl (by simp) dX7_init_131 (fun en31 e1 e2 => ?_)
  have o0 : en31 0 = .inr (7, [.int 0, .ref (z + b + 1), .ref (z + b + 2), .ref (z + b + 3), .ref (z + b + 4), .int 0, .ref (z + b + 5), .int 0, .int 0, .int 0, .int 0, .int 0, .int 0, .int (-1), .ref (z + b + 6), .ref (z + b + 7), .ref (z + b + 8), .ref (z + b + 9), .ref (z + b + 10), .ref (z + b + 11), .ref (z + b + 12), .ref (z + b + 13), .ref (z + b + 14), .ref (z + b + 15), .null, .null, .null, .null, .int 0, .int 0, .null, .null, .null, .int 0, .int 0, .int 0, .null, .long 0, .long 0, .long 0, .null, .null, .null, .null]) := e1
  have g31 : ∀ i, 1 ≤ i → i < 16 → i ≠ 24 → en31 i = cfX G (b + i) (iniX (b + i)) := fun i h1 h2 h3 => (e2 i (by omega)).trans (g30 i h1 h2 h3)
  refine b_aload C dX7_init_134 rfl (lv_at hl 0 rfl) ?_
  refine b_sipush C dX7_init_135 rfl ?_
  refine b_newa_boolean C (N := 1920) (by decide) rfl (by decide) (Nat.le_of_ble_eq_true rfl) (Nat.le_of_ble_eq_true rfl) dX7_init_138 (fun en32 e1 e2 => ?_)
  have o0 := (e2 0 (by decide)).trans o0
  have g32 : ∀ i, 1 ≤ i → i < 17 → i ≠ 24 → en32 i = cfX G (b + i) (iniX (b + i)) := by
    intro i h1 h2 h3
    by_cases q : i = 16
    · subst q
      exact e1.trans (ar_11 (yk_7_24 hb) (yl_7_24 hb) (by omega))
    · exact (e2 i (by omega)).trans (g31 i h1 (by omega) h3)
  refine b_putF C (i := 0) (j := 24) (ty := tyX7 24) (show clsX[7]? = some (RX7, TX7, 44) from rfl) uX7 tyX7_ok nmX7 (by decide) o0 (by decide) kf_X7_61 rfl hini rfl (by decide +kernel) rfl rfl (by simp) dX7_init_140 (fun en33 e1 e2 => ?_)
  have o0 : en33 0 = .inr (7, [.int 0, .ref (z + b + 1), .ref (z + b + 2), .ref (z + b + 3), .ref (z + b + 4), .int 0, .ref (z + b + 5), .int 0, .int 0, .int 0, .int 0, .int 0, .int 0, .int (-1), .ref (z + b + 6), .ref (z + b + 7), .ref (z + b + 8), .ref (z + b + 9), .ref (z + b + 10), .ref (z + b + 11), .ref (z + b + 12), .ref (z + b + 13), .ref (z + b + 14), .ref (z + b + 15), .ref (z + b + 16), .null, .null, .null, .int 0, .int 0, .null, .null, .null, .int 0, .int 0, .int 0, .null, .long 0, .long 0, .long 0, .null, .null, .null, .null]) := e1
  have g33 : ∀ i, 1 ≤ i → i < 17 → i ≠ 24 → en33 i = cfX G (b + i) (iniX (b + i)) := fun i h1 h2 h3 => (e2 i (by omega)).trans (g32 i h1 h2 h3)
  refine b_aload C dX7_init_143 rfl (lv_at hl 0 rfl) ?_
  refine b_sipush C dX7_init_144 rfl ?_
  refine b_newa_int C (N := 1920) (by decide) rfl (by decide) (Nat.le_of_ble_eq_true rfl) (Nat.le_of_ble_eq_true rfl) dX7_init_147 (fun en34 e1 e2 => ?_)
  have o0 := (e2 0 (by decide)).trans o0
  have g34 : ∀ i, 1 ≤ i → i < 18 → i ≠ 24 → en34 i = cfX G (b + i) (iniX (b + i)) := by
    intro i h1 h2 h3
    by_cases q : i = 17
    · subst q
      exact e1.trans (ar_9 (yk_7_25 hb) (yl_7_25 hb) (by omega))
    · exact (e2 i (by omega)).trans (g33 i h1 (by omega) h3)
  refine b_putF C (i := 0) (j := 25) (ty := tyX7 25) (show clsX[7]? = some (RX7, TX7, 44) from rfl) uX7 tyX7_ok nmX7 (by decide) o0 (by decide) kf_X7_64 rfl hini rfl (by decide +kernel) rfl rfl (by simp) dX7_init_149 (fun en35 e1 e2 => ?_)
  have o0 : en35 0 = .inr (7, [.int 0, .ref (z + b + 1), .ref (z + b + 2), .ref (z + b + 3), .ref (z + b + 4), .int 0, .ref (z + b + 5), .int 0, .int 0, .int 0, .int 0, .int 0, .int 0, .int (-1), .ref (z + b + 6), .ref (z + b + 7), .ref (z + b + 8), .ref (z + b + 9), .ref (z + b + 10), .ref (z + b + 11), .ref (z + b + 12), .ref (z + b + 13), .ref (z + b + 14), .ref (z + b + 15), .ref (z + b + 16), .ref (z + b + 17), .null, .null, .int 0, .int 0, .null, .null, .null, .int 0, .int 0, .int 0, .null, .long 0, .long 0, .long 0, .null, .null, .null, .null]) := e1
  have g35 : ∀ i, 1 ≤ i → i < 18 → i ≠ 24 → en35 i = cfX G (b + i) (iniX (b + i)) := fun i h1 h2 h3 => (e2 i (by omega)).trans (g34 i h1 h2 h3)
  refine b_aload C dX7_init_152 rfl (lv_at hl 0 rfl) ?_
  refine b_sipush C dX7_init_153 rfl ?_
  refine b_newa_int C (N := 1920) (by decide) rfl (by decide) (Nat.le_of_ble_eq_true rfl) (Nat.le_of_ble_eq_true rfl) dX7_init_156 (fun en36 e1 e2 => ?_)
  have o0 := (e2 0 (by decide)).trans o0
  have g36 : ∀ i, 1 ≤ i → i < 19 → i ≠ 24 → en36 i = cfX G (b + i) (iniX (b + i)) := by
    intro i h1 h2 h3
    by_cases q : i = 18
    · subst q
      exact e1.trans (ar_9 (yk_7_26 hb) (yl_7_26 hb) (by omega))
    · exact (e2 i (by omega)).trans (g35 i h1 (by omega) h3)
  refine b_putF C (i := 0) (j := 26) (ty := tyX7 26) (show clsX[7]? = some (RX7, TX7, 44) from rfl) uX7 tyX7_ok nmX7 (by decide) o0 (by decide) kf_X7_67 rfl hini rfl (by decide +kernel) rfl rfl (by simp) dX7_init_158 (fun en37 e1 e2 => ?_)
  have o0 : en37 0 = .inr (7, [.int 0, .ref (z + b + 1), .ref (z + b + 2), .ref (z + b + 3), .ref (z + b + 4), .int 0, .ref (z + b + 5), .int 0, .int 0, .int 0, .int 0, .int 0, .int 0, .int (-1), .ref (z + b + 6), .ref (z + b + 7), .ref (z + b + 8), .ref (z + b + 9), .ref (z + b + 10), .ref (z + b + 11), .ref (z + b + 12), .ref (z + b + 13), .ref (z + b + 14), .ref (z + b + 15), .ref (z + b + 16), .ref (z + b + 17), .ref (z + b + 18), .null, .int 0, .int 0, .null, .null, .null, .int 0, .int 0, .int 0, .null, .long 0, .long 0, .long 0, .null, .null, .null, .null]) := e1
  have g37 : ∀ i, 1 ≤ i → i < 19 → i ≠ 24 → en37 i = cfX G (b + i) (iniX (b + i)) := fun i h1 h2 h3 => (e2 i (by omega)).trans (g36 i h1 h2 h3)
  refine b_aload C dX7_init_161 rfl (lv_at hl 0 rfl) ?_
  refine b_bipush C dX7_init_162 rfl ?_
  refine b_newa_int C (N := 60) (by decide) rfl (by decide) (Nat.le_of_ble_eq_true rfl) (Nat.le_of_ble_eq_true rfl) dX7_init_164 (fun en38 e1 e2 => ?_)
  have o0 := (e2 0 (by decide)).trans o0
  have g38 : ∀ i, 1 ≤ i → i < 20 → i ≠ 24 → en38 i = cfX G (b + i) (iniX (b + i)) := by
    intro i h1 h2 h3
    by_cases q : i = 19
    · subst q
      exact e1.trans (ar_9 (yk_7_27 hb) (yl_7_27 hb) (by omega))
    · exact (e2 i (by omega)).trans (g37 i h1 (by omega) h3)
  refine b_putF C (i := 0) (j := 27) (ty := tyX7 27) (show clsX[7]? = some (RX7, TX7, 44) from rfl) uX7 tyX7_ok nmX7 (by decide) o0 (by decide) kf_X7_70 rfl hini rfl (by decide +kernel) rfl rfl (by simp) dX7_init_166 (fun en39 e1 e2 => ?_)
  have o0 : en39 0 = .inr (7, [.int 0, .ref (z + b + 1), .ref (z + b + 2), .ref (z + b + 3), .ref (z + b + 4), .int 0, .ref (z + b + 5), .int 0, .int 0, .int 0, .int 0, .int 0, .int 0, .int (-1), .ref (z + b + 6), .ref (z + b + 7), .ref (z + b + 8), .ref (z + b + 9), .ref (z + b + 10), .ref (z + b + 11), .ref (z + b + 12), .ref (z + b + 13), .ref (z + b + 14), .ref (z + b + 15), .ref (z + b + 16), .ref (z + b + 17), .ref (z + b + 18), .ref (z + b + 19), .int 0, .int 0, .null, .null, .null, .int 0, .int 0, .int 0, .null, .long 0, .long 0, .long 0, .null, .null, .null, .null]) := e1
  have g39 : ∀ i, 1 ≤ i → i < 20 → i ≠ 24 → en39 i = cfX G (b + i) (iniX (b + i)) := fun i h1 h2 h3 => (e2 i (by omega)).trans (g38 i h1 h2 h3)
  refine b_aload C dX7_init_169 rfl (lv_at hl 0 rfl) ?_
  refine b_bipush C dX7_init_170 rfl ?_
  refine b_newa_int C (N := 32) (by decide) rfl (by decide) (Nat.le_of_ble_eq_true rfl) (Nat.le_of_ble_eq_true rfl) dX7_init_172 (fun en40 e1 e2 => ?_)
  have o0 := (e2 0 (by decide)).trans o0
  have g40 : ∀ i, 1 ≤ i → i < 21 → i ≠ 24 → en40 i = cfX G (b + i) (iniX (b + i)) := by
    intro i h1 h2 h3
    by_cases q : i = 20
    · subst q
      exact e1.trans (ar_9 (yk_7_30 hb) (yl_7_30 hb) (by omega))
    · exact (e2 i (by omega)).trans (g39 i h1 (by omega) h3)
  refine b_putF C (i := 0) (j := 30) (ty := tyX7 30) (show clsX[7]? = some (RX7, TX7, 44) from rfl) uX7 tyX7_ok nmX7 (by decide) o0 (by decide) kf_X7_73 rfl hini rfl (by decide +kernel) rfl rfl (by simp) dX7_init_174 (fun en41 e1 e2 => ?_)
  have o0 : en41 0 = .inr (7, [.int 0, .ref (z + b + 1), .ref (z + b + 2), .ref (z + b + 3), .ref (z + b + 4), .int 0, .ref (z + b + 5), .int 0, .int 0, .int 0, .int 0, .int 0, .int 0, .int (-1), .ref (z + b + 6), .ref (z + b + 7), .ref (z + b + 8), .ref (z + b + 9), .ref (z + b + 10), .ref (z + b + 11), .ref (z + b + 12), .ref (z + b + 13), .ref (z + b + 14), .ref (z + b + 15), .ref (z + b + 16), .ref (z + b + 17), .ref (z + b + 18), .ref (z + b + 19), .int 0, .int 0, .ref (z + b + 20), .null, .null, .int 0, .int 0, .int 0, .null, .long 0, .long 0, .long 0, .null, .null, .null, .null]) := e1
  have g41 : ∀ i, 1 ≤ i → i < 21 → i ≠ 24 → en41 i = cfX G (b + i) (iniX (b + i)) := fun i h1 h2 h3 => (e2 i (by omega)).trans (g40 i h1 h2 h3)
  refine b_aload C dX7_init_177 rfl (lv_at hl 0 rfl) ?_
  refine b_bipush C dX7_init_178 rfl ?_
  refine b_newa_int C (N := 60) (by decide) rfl (by decide) (Nat.le_of_ble_eq_true rfl) (Nat.le_of_ble_eq_true rfl) dX7_init_180 (fun en42 e1 e2 => ?_)
  have o0 := (e2 0 (by decide)).trans o0
  have g42 : ∀ i, 1 ≤ i → i < 22 → i ≠ 24 → en42 i = cfX G (b + i) (iniX (b + i)) := by
    intro i h1 h2 h3
    by_cases q : i = 21
    · subst q
      exact e1.trans (ar_9 (yk_7_31 hb) (yl_7_31 hb) (by omega))
    · exact (e2 i (by omega)).trans (g41 i h1 (by omega) h3)
  refine b_putF C (i := 0) (j := 31) (ty := tyX7 31) (show clsX[7]? = some (RX7, TX7, 44) from rfl) uX7 tyX7_ok nmX7 (by decide) o0 (by decide) kf_X7_76 rfl hini rfl (by decide +kernel) rfl rfl (by simp) dX7_init_182 (fun en43 e1 e2 => ?_)
  have o0 : en43 0 = .inr (7, [.int 0, .ref (z + b + 1), .ref (z + b + 2), .ref (z + b + 3), .ref (z + b + 4), .int 0, .ref (z + b + 5), .int 0, .int 0, .int 0, .int 0, .int 0, .int 0, .int (-1), .ref (z + b + 6), .ref (z + b + 7), .ref (z + b + 8), .ref (z + b + 9), .ref (z + b + 10), .ref (z + b + 11), .ref (z + b + 12), .ref (z + b + 13), .ref (z + b + 14), .ref (z + b + 15), .ref (z + b + 16), .ref (z + b + 17), .ref (z + b + 18), .ref (z + b + 19), .int 0, .int 0, .ref (z + b + 20), .ref (z + b + 21), .null, .int 0, .int 0, .int 0, .null, .long 0, .long 0, .long 0, .null, .null, .null, .null]) := e1
  have g43 : ∀ i, 1 ≤ i → i < 22 → i ≠ 24 → en43 i = cfX G (b + i) (iniX (b + i)) := fun i h1 h2 h3 => (e2 i (by omega)).trans (g42 i h1 h2 h3)
  refine b_aload C dX7_init_185 rfl (lv_at hl 0 rfl) ?_
  refine b_bipush C dX7_init_186 rfl ?_
  refine b_newa_int C (N := 32) (by decide) rfl (by decide) (Nat.le_of_ble_eq_true rfl) (Nat.le_of_ble_eq_true rfl) dX7_init_188 (fun en44 e1 e2 => ?_)
  have o0 := (e2 0 (by decide)).trans o0
  have g44 : ∀ i, 1 ≤ i → i < 23 → i ≠ 24 → en44 i = cfX G (b + i) (iniX (b + i)) := by
    intro i h1 h2 h3
    by_cases q : i = 22
    · subst q
      exact e1.trans (ar_9 (yk_7_32 hb) (yl_7_32 hb) (by omega))
    · exact (e2 i (by omega)).trans (g43 i h1 (by omega) h3)
  refine b_putF C (i := 0) (j := 32) (ty := tyX7 32) (show clsX[7]? = some (RX7, TX7, 44) from rfl) uX7 tyX7_ok nmX7 (by decide) o0 (by decide) kf_X7_79 rfl hini rfl (by decide +kernel) rfl rfl (by simp) dX7_init_190 (fun en45 e1 e2 => ?_)
  have o0 : en45 0 = .inr (7, [.int 0, .ref (z + b + 1), .ref (z + b + 2), .ref (z + b + 3), .ref (z + b + 4), .int 0, .ref (z + b + 5), .int 0, .int 0, .int 0, .int 0, .int 0, .int 0, .int (-1), .ref (z + b + 6), .ref (z + b + 7), .ref (z + b + 8), .ref (z + b + 9), .ref (z + b + 10), .ref (z + b + 11), .ref (z + b + 12), .ref (z + b + 13), .ref (z + b + 14), .ref (z + b + 15), .ref (z + b + 16), .ref (z + b + 17), .ref (z + b + 18), .ref (z + b + 19), .int 0, .int 0, .ref (z + b + 20), .ref (z + b + 21), .ref (z + b + 22), .int 0, .int 0, .int 0, .null, .long 0, .long 0, .long 0, .null, .null, .null, .null]) := e1
  have g45 : ∀ i, 1 ≤ i → i < 23 → i ≠ 24 → en45 i = cfX G (b + i) (iniX (b + i)) := fun i h1 h2 h3 => (e2 i (by omega)).trans (g44 i h1 h2 h3)
  refine b_aload C dX7_init_193 rfl (lv_at hl 0 rfl) ?_
  refine b_sipush C dX7_init_194 rfl ?_
  refine b_newa_int C (N := 256) (by decide) rfl (by decide) (Nat.le_of_ble_eq_true rfl) (Nat.le_of_ble_eq_true rfl) dX7_init_197 (fun en46 e1 e2 => ?_)
  have o0 := (e2 0 (by decide)).trans o0
  have g46 : ∀ i, 1 ≤ i → i < 24 → i ≠ 24 → en46 i = cfX G (b + i) (iniX (b + i)) := by
    intro i h1 h2 h3
    by_cases q : i = 23
    · subst q
      exact e1.trans (ar_9 (yk_7_36 hb) (yl_7_36 hb) (by omega))
    · exact (e2 i (by omega)).trans (g45 i h1 (by omega) h3)
  refine b_putF C (i := 0) (j := 36) (ty := tyX7 36) (show clsX[7]? = some (RX7, TX7, 44) from rfl) uX7 tyX7_ok nmX7 (by decide) o0 (by decide) kf_X7_82 rfl hini rfl (by decide +kernel) rfl rfl (by simp) dX7_init_199 (fun en47 e1 e2 => ?_)
  have o0 : en47 0 = .inr (7, [.int 0, .ref (z + b + 1), .ref (z + b + 2), .ref (z + b + 3), .ref (z + b + 4), .int 0, .ref (z + b + 5), .int 0, .int 0, .int 0, .int 0, .int 0, .int 0, .int (-1), .ref (z + b + 6), .ref (z + b + 7), .ref (z + b + 8), .ref (z + b + 9), .ref (z + b + 10), .ref (z + b + 11), .ref (z + b + 12), .ref (z + b + 13), .ref (z + b + 14), .ref (z + b + 15), .ref (z + b + 16), .ref (z + b + 17), .ref (z + b + 18), .ref (z + b + 19), .int 0, .int 0, .ref (z + b + 20), .ref (z + b + 21), .ref (z + b + 22), .int 0, .int 0, .int 0, .ref (z + b + 23), .long 0, .long 0, .long 0, .null, .null, .null, .null]) := e1
  have g47 : ∀ i, 1 ≤ i → i < 24 → i ≠ 24 → en47 i = cfX G (b + i) (iniX (b + i)) := fun i h1 h2 h3 => (e2 i (by omega)).trans (g46 i h1 h2 h3)
  refine b_aload C dX7_init_202 rfl (lv_at hl 0 rfl) ?_
  refine b_iconst C dX7_init_203 rfl ?_
  refine b_newa_int C (N := 4) (by decide) rfl (by decide) (Nat.le_of_ble_eq_true rfl) (Nat.le_of_ble_eq_true rfl) dX7_init_204 (fun en48 e1 e2 => ?_)
  have o0 := (e2 0 (by decide)).trans o0
  have om := e1
  have g48 : ∀ i, 1 ≤ i → i < 25 → i ≠ 24 → en48 i = cfX G (b + i) (iniX (b + i)) := by
    intro i h1 h2 h3
    by_cases q : i = 24
    · subst q
      exact absurd rfl h3
    · exact (e2 i (by omega)).trans (g47 i h1 (by omega) h3)
  refine b_dup C dX7_init_206 rfl ?_
  refine b_iconst C dX7_init_207 rfl ?_
  refine b_iconst C dX7_init_208 rfl ?_
  refine b_iast C (i := 24) (X := 0) (by decide) om (by decide) rfl (by decide) dX7_init_209 (fun en49 e1 e2 => ?_)
  have om := e1
  have o0 := (e2 0 (by decide)).trans o0
  have g49 : ∀ i, 1 ≤ i → i < 25 → i ≠ 24 → en49 i = cfX G (b + i) (iniX (b + i)) := fun i h1 h2 h3 => (e2 i (by omega)).trans (g48 i h1 h2 h3)
  refine b_dup C dX7_init_210 rfl ?_
  refine b_iconst C dX7_init_211 rfl ?_
  refine b_iconst C dX7_init_212 rfl ?_
  refine b_iast C (i := 24) (X := 1) (by decide) om (by decide) rfl (by decide) dX7_init_213 (fun en50 e1 e2 => ?_)
  have om := e1
  have o0 := (e2 0 (by decide)).trans o0
  have g50 : ∀ i, 1 ≤ i → i < 25 → i ≠ 24 → en50 i = cfX G (b + i) (iniX (b + i)) := fun i h1 h2 h3 => (e2 i (by omega)).trans (g49 i h1 h2 h3)
  refine b_dup C dX7_init_214 rfl ?_
  refine b_iconst C dX7_init_215 rfl ?_
  refine b_iconst C dX7_init_216 rfl ?_
  refine b_iast C (i := 24) (X := 2) (by decide) om (by decide) rfl (by decide) dX7_init_217 (fun en51 e1 e2 => ?_)
  have om := e1
  have o0 := (e2 0 (by decide)).trans o0
  have g51 : ∀ i, 1 ≤ i → i < 25 → i ≠ 24 → en51 i = cfX G (b + i) (iniX (b + i)) := fun i h1 h2 h3 => (e2 i (by omega)).trans (g50 i h1 h2 h3)
  refine b_dup C dX7_init_218 rfl ?_
  refine b_iconst C dX7_init_219 rfl ?_
  refine b_iconst C dX7_init_220 rfl ?_
  refine b_iast C (i := 24) (X := 3) (by decide) om (by decide) rfl (by decide) dX7_init_221 (fun en52 e1 e2 => ?_)
  have om := e1
  have o0 := (e2 0 (by decide)).trans o0
  have g52 : ∀ i, 1 ≤ i → i < 25 → i ≠ 24 → en52 i = cfX G (b + i) (iniX (b + i)) := fun i h1 h2 h3 => (e2 i (by omega)).trans (g51 i h1 h2 h3)
  refine b_putF C (i := 0) (j := 40) (ty := tyX7 40) (show clsX[7]? = some (RX7, TX7, 44) from rfl) uX7 tyX7_ok nmX7 (by decide) o0 (by decide) kf_X7_85 rfl hini rfl (by decide +kernel) rfl rfl (by simp) dX7_init_222 (fun en53 e1 e2 => ?_)
  have o0 : en53 0 = .inr (7, [.int 0, .ref (z + b + 1), .ref (z + b + 2), .ref (z + b + 3), .ref (z + b + 4), .int 0, .ref (z + b + 5), .int 0, .int 0, .int 0, .int 0, .int 0, .int 0, .int (-1), .ref (z + b + 6), .ref (z + b + 7), .ref (z + b + 8), .ref (z + b + 9), .ref (z + b + 10), .ref (z + b + 11), .ref (z + b + 12), .ref (z + b + 13), .ref (z + b + 14), .ref (z + b + 15), .ref (z + b + 16), .ref (z + b + 17), .ref (z + b + 18), .ref (z + b + 19), .int 0, .int 0, .ref (z + b + 20), .ref (z + b + 21), .ref (z + b + 22), .int 0, .int 0, .int 0, .ref (z + b + 23), .long 0, .long 0, .long 0, .ref (z + b + 24), .null, .null, .null]) := e1
  have g53 : ∀ i, 1 ≤ i → i < 25 → i ≠ 24 → en53 i = cfX G (b + i) (iniX (b + i)) := fun i h1 h2 h3 => (e2 i (by omega)).trans (g52 i h1 h2 h3)
  have om := (e2 24 (by decide)).trans om
  refine b_aload C dX7_init_225 rfl (lv_at hl 0 rfl) ?_
  refine b_iconst C dX7_init_226 rfl ?_
  refine b_newa_int C (N := 4) (by decide) rfl (by decide) (Nat.le_of_ble_eq_true rfl) (Nat.le_of_ble_eq_true rfl) dX7_init_227 (fun en54 e1 e2 => ?_)
  have o0 := (e2 0 (by decide)).trans o0
  have g54 : ∀ i, 1 ≤ i → i < 26 → i ≠ 24 → en54 i = cfX G (b + i) (iniX (b + i)) := by
    intro i h1 h2 h3
    by_cases q : i = 25
    · subst q
      exact e1.trans (ar_9 (yk_7_41 hb) (yl_7_41 hb) (by omega))
    · exact (e2 i (by omega)).trans (g53 i h1 (by omega) h3)
  have om := (e2 24 (by decide)).trans om
  refine b_putF C (i := 0) (j := 41) (ty := tyX7 41) (show clsX[7]? = some (RX7, TX7, 44) from rfl) uX7 tyX7_ok nmX7 (by decide) o0 (by decide) kf_X7_88 rfl hini rfl (by decide +kernel) rfl rfl (by simp) dX7_init_229 (fun en55 e1 e2 => ?_)
  have o0 : en55 0 = .inr (7, [.int 0, .ref (z + b + 1), .ref (z + b + 2), .ref (z + b + 3), .ref (z + b + 4), .int 0, .ref (z + b + 5), .int 0, .int 0, .int 0, .int 0, .int 0, .int 0, .int (-1), .ref (z + b + 6), .ref (z + b + 7), .ref (z + b + 8), .ref (z + b + 9), .ref (z + b + 10), .ref (z + b + 11), .ref (z + b + 12), .ref (z + b + 13), .ref (z + b + 14), .ref (z + b + 15), .ref (z + b + 16), .ref (z + b + 17), .ref (z + b + 18), .ref (z + b + 19), .int 0, .int 0, .ref (z + b + 20), .ref (z + b + 21), .ref (z + b + 22), .int 0, .int 0, .int 0, .ref (z + b + 23), .long 0, .long 0, .long 0, .ref (z + b + 24), .ref (z + b + 25), .null, .null]) := e1
  have g55 : ∀ i, 1 ≤ i → i < 26 → i ≠ 24 → en55 i = cfX G (b + i) (iniX (b + i)) := fun i h1 h2 h3 => (e2 i (by omega)).trans (g54 i h1 h2 h3)
  have om := (e2 24 (by decide)).trans om
  refine b_aload C dX7_init_232 rfl (lv_at hl 0 rfl) ?_
  refine b_sipush C dX7_init_233 rfl ?_
  refine b_newa_long C (N := 240) (by decide) rfl (by decide) (Nat.le_of_ble_eq_true rfl) (Nat.le_of_ble_eq_true rfl) dX7_init_236 (fun en56 e1 e2 => ?_)
  have o0 := (e2 0 (by decide)).trans o0
  have g56 : ∀ i, 1 ≤ i → i < 27 → i ≠ 24 → en56 i = cfX G (b + i) (iniX (b + i)) := by
    intro i h1 h2 h3
    by_cases q : i = 26
    · subst q
      exact e1.trans (ar_10 (yk_7_42 hb) (yl_7_42 hb) (by omega))
    · exact (e2 i (by omega)).trans (g55 i h1 (by omega) h3)
  have om := (e2 24 (by decide)).trans om
  refine b_putF C (i := 0) (j := 42) (ty := tyX7 42) (show clsX[7]? = some (RX7, TX7, 44) from rfl) uX7 tyX7_ok nmX7 (by decide) o0 (by decide) kf_X7_91 rfl hini rfl (by decide +kernel) rfl rfl (by simp) dX7_init_238 (fun en57 e1 e2 => ?_)
  have o0 : en57 0 = .inr (7, [.int 0, .ref (z + b + 1), .ref (z + b + 2), .ref (z + b + 3), .ref (z + b + 4), .int 0, .ref (z + b + 5), .int 0, .int 0, .int 0, .int 0, .int 0, .int 0, .int (-1), .ref (z + b + 6), .ref (z + b + 7), .ref (z + b + 8), .ref (z + b + 9), .ref (z + b + 10), .ref (z + b + 11), .ref (z + b + 12), .ref (z + b + 13), .ref (z + b + 14), .ref (z + b + 15), .ref (z + b + 16), .ref (z + b + 17), .ref (z + b + 18), .ref (z + b + 19), .int 0, .int 0, .ref (z + b + 20), .ref (z + b + 21), .ref (z + b + 22), .int 0, .int 0, .int 0, .ref (z + b + 23), .long 0, .long 0, .long 0, .ref (z + b + 24), .ref (z + b + 25), .ref (z + b + 26), .null]) := e1
  have g57 : ∀ i, 1 ≤ i → i < 27 → i ≠ 24 → en57 i = cfX G (b + i) (iniX (b + i)) := fun i h1 h2 h3 => (e2 i (by omega)).trans (g56 i h1 h2 h3)
  have om := (e2 24 (by decide)).trans om
  refine b_aload C dX7_init_241 rfl (lv_at hl 0 rfl) ?_
  refine b_bipush C dX7_init_242 rfl ?_
  refine b_newa_long C (N := 60) (by decide) rfl (by decide) (Nat.le_of_ble_eq_true rfl) (Nat.le_of_ble_eq_true rfl) dX7_init_244 (fun en58 e1 e2 => ?_)
  have o0 := (e2 0 (by decide)).trans o0
  have g58 : ∀ i, 1 ≤ i → i < 28 → i ≠ 24 → en58 i = cfX G (b + i) (iniX (b + i)) := by
    intro i h1 h2 h3
    by_cases q : i = 27
    · subst q
      exact e1.trans (ar_10 (yk_7_43 hb) (yl_7_43 hb) (by omega))
    · exact (e2 i (by omega)).trans (g57 i h1 (by omega) h3)
  have om := (e2 24 (by decide)).trans om
  refine b_putF C (i := 0) (j := 43) (ty := tyX7 43) (show clsX[7]? = some (RX7, TX7, 44) from rfl) uX7 tyX7_ok nmX7 (by decide) o0 (by decide) kf_X7_95 rfl hini rfl (by decide +kernel) rfl rfl (by simp) dX7_init_246 (fun en59 e1 e2 => ?_)
  have o0 : en59 0 = .inr (7, [.int 0, .ref (z + b + 1), .ref (z + b + 2), .ref (z + b + 3), .ref (z + b + 4), .int 0, .ref (z + b + 5), .int 0, .int 0, .int 0, .int 0, .int 0, .int 0, .int (-1), .ref (z + b + 6), .ref (z + b + 7), .ref (z + b + 8), .ref (z + b + 9), .ref (z + b + 10), .ref (z + b + 11), .ref (z + b + 12), .ref (z + b + 13), .ref (z + b + 14), .ref (z + b + 15), .ref (z + b + 16), .ref (z + b + 17), .ref (z + b + 18), .ref (z + b + 19), .int 0, .int 0, .ref (z + b + 20), .ref (z + b + 21), .ref (z + b + 22), .int 0, .int 0, .int 0, .ref (z + b + 23), .long 0, .long 0, .long 0, .ref (z + b + 24), .ref (z + b + 25), .ref (z + b + 26), .ref (z + b + 27)]) := e1
  have g59 : ∀ i, 1 ≤ i → i < 28 → i ≠ 24 → en59 i = cfX G (b + i) (iniX (b + i)) := fun i h1 h2 h3 => (e2 i (by omega)).trans (g58 i h1 h2 h3)
  have om := (e2 24 (by decide)).trans om
  refine b_ret C hr hlo dX7_init_249 (fun i hi => ?_)
  by_cases q : i = 0
  · subst q
    refine eqE_eq (o0.trans ?_)
    rw [show b + 0 = b from rfl, cf_7 hb]
    have hne : b ≠ 255 := fun h => by rw [h] at hb; exact absurd hb (by decide)
    simp only [hgad, Nat.add_assoc]
    simp [iniX, hb, hne, iZ_0, lZ_0, iZ_m]
  by_cases q2 : i = 24
  · subst q2
    refine eqE_eq (om.trans ?_)
    exact many_ok hb
  exact eqE_eq (g59 i (by omega) hi q2)
set_option maxRecDepth 40000 in
set_option maxHeartbeats 8000000 in
theorem n_X3 (l : Launch) (G : GG) (z b : Nat) (hgad : ∀ k, gad G k = z + k) (hb : kdX b = 3) : NB G l yX3_init cX3_init 2 { frames := 2, cells := 97, slots := 2410, locals := 40 } z b 98 97 2410 (.inr (3, [.null, .int 0, .int 0, .int 0, .int 0, .int 0, .int 0, .int 0, .int 0, .int 0, .int 0, .null, .null, .null, .null])) := by
  refine NB_of (own := RX3) (by decide +kernel) rfl rfl (by decide) ?_
  intro p e s m args below meth c C hr hlo hini ls en0 o0 hl
  have g0 : ∀ i, 1 ≤ i → i < 1 → en0 i = cfX G (b + i) (iniX (b + i)) := fun i h1 h2 => absurd h2 (by omega)
  have hn255 : ∀ {j : Nat}, b + j ≠ 255 ∨ 7 < j := by
    intro j
    by_cases q : 7 < j
    · exact Or.inr q
    · refine Or.inl (fun h => ?_)
      have h4 : ∀ j, j < 8 → kdX (255 - j) ≠ 3 := by decide +kernel
      exact h4 j (by omega) (by rw [show 255 - j = b by omega]; exact hb)
  have hn255 : ∀ {j : Nat}, j ≤ 7 → b + j ≠ 255 := fun h => (hn255 (j := _)).elim id (fun q => absurd h (by omega))
  refine b_aload C dX3_init_0 rfl (lv_at hl 0 rfl) ?_
  refine b_obj C kl_X3_3 hl.1 ⟨Nat.le_of_ble_eq_true rfl, Nat.le_of_ble_eq_true rfl⟩ dX3_init_1 ?_
  refine b_aload C dX3_init_4 rfl (lv_at hl 0 rfl) ?_
  refine b_new (ty := tyX0) C [.int 0, .null] (show clsX[0]? = some (RX0, TX0, 2) from rfl) uX0 tyX0_ok kx_X3_9 kt_X0 kn_X0 (by decide) (Nat.le_of_ble_eq_true rfl) (Nat.le_of_ble_eq_true rfl) dX3_init_5 (fun en1 e1 e2 => ?_)
  have o0 := (e2 0 (by omega)).trans o0
  have g1 : ∀ i, 1 ≤ i → i < 1 → en1 i = cfX G (b + i) (iniX (b + i)) := fun i h1 h2 => (e2 i h2).trans (g0 i h1 h2)
  refine b_dup C dX3_init_8 rfl ?_
  refine b_callIN C (k' := 1) (host := "CopyWhileRun") (List.mem_of_getElem? (i := 2) rfl) (n_X0 l G z (b + 1) hgad (yk_3_0 hb)) e1 ki_X0_init kn_X0 kc_X0_init rfl (by decide +kernel) ⟨Nat.le_of_ble_eq_true rfl, Nat.le_of_ble_eq_true rfl⟩ ⟨Nat.le_of_ble_eq_true rfl, Nat.le_of_ble_eq_true rfl⟩ hl.1 (Nat.le_of_ble_eq_true rfl) dX3_init_9 (fun en2 e2 e3 => ?_)
  have o0 := (e2 0 (by omega)).trans o0
  have g2 : ∀ i, 1 ≤ i → i < 3 → en2 i = cfX G (b + i) (iniX (b + i)) := by
    intro i h1 h2
    by_cases q : i < 1
    · exact (e2 i q).trans (g1 i h1 q)
    · exact e3 i (by omega) (by omega)
  refine b_putF C (i := 0) (j := 0) (ty := tyX3 0) (show clsX[3]? = some (RX3, TX3, 15) from rfl) uX3 tyX3_ok nmX3 (by omega) o0 (by decide) kf_X3_12 rfl hini rfl (by decide +kernel) rfl rfl (by simp) dX3_init_12 (fun en3 e1 e2 => ?_)
  have o0 : en3 0 = .inr (3, [.ref (z + b + 1), .int 0, .int 0, .int 0, .int 0, .int 0, .int 0, .int 0, .int 0, .int 0, .int 0, .null, .null, .null, .null]) := e1
  have g3 : ∀ i, 1 ≤ i → i < 3 → en3 i = cfX G (b + i) (iniX (b + i)) := fun i h1 h2 => (e2 i (by omega)).trans (g2 i h1 h2)
  refine b_aload C dX3_init_15 rfl (lv_at hl 0 rfl) ?_
  refine b_iconst C dX3_init_16 rfl ?_
  refine b_putI C (i := 0) (j := 4) (ty := tyX3 4) (show clsX[3]? = some (RX3, TX3, 15) from rfl) uX3 tyX3_ok nmX3 (by omega) o0 (by decide) kf_X3_18 rfl (by decide +kernel) rfl rfl (by simp) dX3_init_17 (fun en4 e1 e2 => ?_)
  have o0 : en4 0 = .inr (3, [.ref (z + b + 1), .int 0, .int 0, .int 0, .int (-1), .int 0, .int 0, .int 0, .int 0, .int 0, .int 0, .null, .null, .null, .null]) := e1
  have g4 : ∀ i, 1 ≤ i → i < 3 → en4 i = cfX G (b + i) (iniX (b + i)) := fun i h1 h2 => (e2 i (by omega)).trans (g3 i h1 h2)
  refine b_aload C dX3_init_20 rfl (lv_at hl 0 rfl) ?_
  refine b_new (ty := tyX0) C [.int 0, .null] (show clsX[0]? = some (RX0, TX0, 2) from rfl) uX0 tyX0_ok kx_X3_9 kt_X0 kn_X0 (by decide) (Nat.le_of_ble_eq_true rfl) (Nat.le_of_ble_eq_true rfl) dX3_init_21 (fun en5 e1 e2 => ?_)
  have o0 := (e2 0 (by omega)).trans o0
  have g5 : ∀ i, 1 ≤ i → i < 3 → en5 i = cfX G (b + i) (iniX (b + i)) := fun i h1 h2 => (e2 i h2).trans (g4 i h1 h2)
  refine b_dup C dX3_init_24 rfl ?_
  refine b_callIN C (k' := 3) (host := "CopyWhileRun") (List.mem_of_getElem? (i := 2) rfl) (n_X0 l G z (b + 3) hgad (yk_3_11 hb)) e1 ki_X0_init kn_X0 kc_X0_init rfl (by decide +kernel) ⟨Nat.le_of_ble_eq_true rfl, Nat.le_of_ble_eq_true rfl⟩ ⟨Nat.le_of_ble_eq_true rfl, Nat.le_of_ble_eq_true rfl⟩ hl.1 (Nat.le_of_ble_eq_true rfl) dX3_init_25 (fun en6 e2 e3 => ?_)
  have o0 := (e2 0 (by omega)).trans o0
  have g6 : ∀ i, 1 ≤ i → i < 5 → en6 i = cfX G (b + i) (iniX (b + i)) := by
    intro i h1 h2
    by_cases q : i < 3
    · exact (e2 i q).trans (g5 i h1 q)
    · exact e3 i (by omega) (by omega)
  refine b_putF C (i := 0) (j := 11) (ty := tyX3 11) (show clsX[3]? = some (RX3, TX3, 15) from rfl) uX3 tyX3_ok nmX3 (by omega) o0 (by decide) kf_X3_22 rfl hini rfl (by decide +kernel) rfl rfl (by simp) dX3_init_28 (fun en7 e1 e2 => ?_)
  have o0 : en7 0 = .inr (3, [.ref (z + b + 1), .int 0, .int 0, .int 0, .int (-1), .int 0, .int 0, .int 0, .int 0, .int 0, .int 0, .ref (z + b + 3), .null, .null, .null]) := e1
  have g7 : ∀ i, 1 ≤ i → i < 5 → en7 i = cfX G (b + i) (iniX (b + i)) := fun i h1 h2 => (e2 i (by omega)).trans (g6 i h1 h2)
  refine b_aload C dX3_init_31 rfl (lv_at hl 0 rfl) ?_
  refine b_bipush C dX3_init_32 rfl ?_
  refine b_newa_int C (N := 32) (by decide) rfl (by decide) (Nat.le_of_ble_eq_true rfl) (Nat.le_of_ble_eq_true rfl) dX3_init_34 (fun en8 e1 e2 => ?_)
  have o0 := (e2 0 (by omega)).trans o0
  have g8 : ∀ i, 1 ≤ i → i < 6 → en8 i = cfX G (b + i) (iniX (b + i)) := by
    intro i h1 h2
    by_cases q : i = 5
    · subst q
      exact e1.trans (ar_9 (yk_3_12 hb) (yl_3_12 hb) (hn255 (by decide)))
    · exact (e2 i (by omega)).trans (g7 i h1 (by omega))
  refine b_putF C (i := 0) (j := 12) (ty := tyX3 12) (show clsX[3]? = some (RX3, TX3, 15) from rfl) uX3 tyX3_ok nmX3 (by omega) o0 (by decide) kf_X3_25 rfl hini rfl (by decide +kernel) rfl rfl (by simp) dX3_init_36 (fun en9 e1 e2 => ?_)
  have o0 : en9 0 = .inr (3, [.ref (z + b + 1), .int 0, .int 0, .int 0, .int (-1), .int 0, .int 0, .int 0, .int 0, .int 0, .int 0, .ref (z + b + 3), .ref (z + b + 5), .null, .null]) := e1
  have g9 : ∀ i, 1 ≤ i → i < 6 → en9 i = cfX G (b + i) (iniX (b + i)) := fun i h1 h2 => (e2 i (by omega)).trans (g8 i h1 h2)
  refine b_aload C dX3_init_39 rfl (lv_at hl 0 rfl) ?_
  refine b_bipush C dX3_init_40 rfl ?_
  refine b_newa_int C (N := 60) (by decide) rfl (by decide) (Nat.le_of_ble_eq_true rfl) (Nat.le_of_ble_eq_true rfl) dX3_init_42 (fun en10 e1 e2 => ?_)
  have o0 := (e2 0 (by omega)).trans o0
  have g10 : ∀ i, 1 ≤ i → i < 7 → en10 i = cfX G (b + i) (iniX (b + i)) := by
    intro i h1 h2
    by_cases q : i = 6
    · subst q
      exact e1.trans (ar_9 (yk_3_13 hb) (yl_3_13 hb) (hn255 (by decide)))
    · exact (e2 i (by omega)).trans (g9 i h1 (by omega))
  refine b_putF C (i := 0) (j := 13) (ty := tyX3 13) (show clsX[3]? = some (RX3, TX3, 15) from rfl) uX3 tyX3_ok nmX3 (by omega) o0 (by decide) kf_X3_29 rfl hini rfl (by decide +kernel) rfl rfl (by simp) dX3_init_44 (fun en11 e1 e2 => ?_)
  have o0 : en11 0 = .inr (3, [.ref (z + b + 1), .int 0, .int 0, .int 0, .int (-1), .int 0, .int 0, .int 0, .int 0, .int 0, .int 0, .ref (z + b + 3), .ref (z + b + 5), .ref (z + b + 6), .null]) := e1
  have g11 : ∀ i, 1 ≤ i → i < 7 → en11 i = cfX G (b + i) (iniX (b + i)) := fun i h1 h2 => (e2 i (by omega)).trans (g10 i h1 h2)
  refine b_aload C dX3_init_47 rfl (lv_at hl 0 rfl) ?_
  refine b_bipush C dX3_init_48 rfl ?_
  refine b_newq_1 C (N := 30) kx_X3_32 (by decide) rfl (by decide) (Nat.le_of_ble_eq_true rfl) (Nat.le_of_ble_eq_true rfl) dX3_init_50 (fun en12 e1 e2 => ?_)
  have o0 := (e2 0 (by omega)).trans o0
  have oq7 := e1
  have g12 : ∀ i, 1 ≤ i → i < 8 → i ≠ 7 → en12 i = cfX G (b + i) (iniX (b + i)) := fun i h1 h2 h3_7 => (e2 i (by omega)).trans (g11 i h1 (by omega))
  refine b_putF C (i := 0) (j := 14) (ty := tyX3 14) (show clsX[3]? = some (RX3, TX3, 15) from rfl) uX3 tyX3_ok nmX3 (by omega) o0 (by decide) kf_X3_34 rfl hini rfl (by decide +kernel) rfl rfl (by simp) dX3_init_53 (fun en13 e1 e2 => ?_)
  have o0 : en13 0 = .inr (3, [.ref (z + b + 1), .int 0, .int 0, .int 0, .int (-1), .int 0, .int 0, .int 0, .int 0, .int 0, .int 0, .ref (z + b + 3), .ref (z + b + 5), .ref (z + b + 6), .ref (z + b + 7)]) := e1
  have oq7 := (e2 7 (by decide)).trans oq7
  have g13 : ∀ i, 1 ≤ i → i < 8 → i ≠ 7 → en13 i = cfX G (b + i) (iniX (b + i)) := fun i h1 h2 h3_7 => (e2 i (by omega)).trans (g12 i h1 h2 h3_7)
  refine b_iconst C dX3_init_56 rfl ?_
  refine b_istore C [(1, .int 0), (0, .ref (z + b))] dX3_init_57 rfl hl (by decide) rfl (fun ls hl => ?_)
  have loop : ∀ (n i : Nat), i + n = 30 → ∀ (en : Nat → va_E) (ls : Array Slot), lv_has ls 2 [(1, .int (nI i)), (0, .ref (z + b))] → en 0 = .inr (3, [.ref (z + b + 1), .int 0, .int 0, .int 0, .int (-1), .int 0, .int 0, .int 0, .int 0, .int 0, .int 0, .ref (z + b + 3), .ref (z + b + 5), .ref (z + b + 6), .ref (z + b + 7)]) → en 7 = .inl (gcy G 4, 30, .inr (.inr (.inr (.inr (fun j => if j < i then some (z + b + (8 + 3 * j)) else none))))) → (∀ t, 1 ≤ t → t < 8 + 3 * i → t ≠ 7 → en t = cfX G (b + t) (iniX (b + t))) → Bs G z b p l e { frames := 2, cells := 97, slots := 2410, locals := 40 } s m args below meth c (7 + 3 * i) (190 + 74 * i) (MQ below (QN G z b 98) args s 97 2410 (AB z b)) (8 + 3 * i) en (F0 m 58 ls []) := by
    intro n
    induction n with
    | zero =>
      intro i hi en ls hl o0 o7 g
      have hi30 : i = 30 := by omega
      subst hi30
      refine b_iload C dX3_init_58 rfl (lv_at hl 0 rfl) ?_
      refine b_bipush C dX3_init_59 rfl ?_
      refine b_icmp_ge C 83 dX3_init_61 (by decide) (fun _ => ?_) (fun h => absurd (by decide) h)
      refine b_ret (n := 98) C hr hlo dX3_init_83 (fun i hi => ?_)
      by_cases q : i = 0
      · subst q
        refine eqE_eq (o0.trans ?_)
        rw [show b + 0 = b from rfl, cf_3 hb]
        have hne : b ≠ 255 := fun h => by rw [h] at hb; exact absurd hb (by decide)
        simp only [hgad, Nat.add_assoc]
        simp [iniX, hb, hne, iZ_0, iZ_m]
      by_cases q2 : i = 7
      · subst q2
        rw [o7, cf_12 (yk_3_14 hb), yl_3_14 hb]
        refine eqE_q (fun j hj => ?_)
        rw [if_pos hj, hgad]
        exact congrArg some (by omega)
      exact eqE_eq (g i (by omega) hi q2)
    | succ n ih =>
      intro i hi en ls hl o0 o7 g
      refine b_iload C dX3_init_58 rfl (lv_at hl 0 rfl) ?_
      refine b_bipush C dX3_init_59 rfl ?_
      refine b_icmp_ge C 83 dX3_init_61 (by decide) (fun h => absurd h (nI_ge (b := 30) (by omega) (by decide))) (fun _ => ?_)
      refine b_aload C dX3_init_64 rfl (lv_at hl 1 rfl) ?_
      refine b_get C (i := 0) (j := 14) (show clsX[3]? = some (RX3, TX3, 15) from rfl) uX3 (by omega) o0 (by decide) kf_X3_34 rfl dX3_init_65 ?_
      refine b_iload C dX3_init_68 rfl (lv_at hl 0 rfl) ?_
      refine b_new (ty := tyX1) C [.int 0, .int 0, .int 0, .int 0, .int 0, .int 0, .int 0, .int 0, .null, .null] (show clsX[1]? = some (RX1, TX1, 10) from rfl) uX1 tyX1_ok kx_X3_32 kt_X1 kn_X1 (by decide) (by show _ ≤ 97; omega) (by show _ ≤ 2410; omega) dX3_init_69 (fun en1 e1 e2 => ?_)
      refine b_dup C dX3_init_72 rfl ?_
      refine b_callIN C (k' := 8 + 3 * i) (host := "CopyWhileRun") (List.mem_of_getElem? (i := 3) rfl) (n_X1 l G z (b + (8 + 3 * i)) hgad (by have h5 := ye_12 (yk_3_14 hb) (i := i) (by omega); rw [show b + 7 + 1 + 3 * i = b + (8 + 3 * i) by omega] at h5; exact h5)) e1 ki_X1_init kn_X1 kc_X1_init rfl (by decide +kernel) ⟨Nat.le_of_ble_eq_true rfl, Nat.le_of_ble_eq_true rfl⟩ ⟨by show _ ≤ 97; omega, by show _ ≤ 2410; omega⟩ hl.1 (Nat.le_of_ble_eq_true rfl) dX3_init_73 (fun en2 e3 e4 => ?_)
      have o72 := (e3 7 (by omega)).trans ((e2 7 (by omega)).trans o7)
      have o02 := (e3 0 (by omega)).trans ((e2 0 (by omega)).trans o0)
      have o8 : en2 (8 + 3 * i) = .inr (1, [.int (iZ (iniX (b + (8 + 3 * i)) 0)), .int (iZ (iniX (b + (8 + 3 * i)) 1)), .int (iZ (iniX (b + (8 + 3 * i)) 2)), .int (iZ (iniX (b + (8 + 3 * i)) 3)), .int (iZ (iniX (b + (8 + 3 * i)) 4)), .int (iZ (iniX (b + (8 + 3 * i)) 5)), .int (iZ (iniX (b + (8 + 3 * i)) 6)), .int (iZ (iniX (b + (8 + 3 * i)) 7)), .ref (gad G (b + (8 + 3 * i) + 1)), .ref (gad G (b + (8 + 3 * i) + 2))]) := (e4 (8 + 3 * i) (by omega) (by omega)).trans (cf_1 (by have h5 := ye_12 (yk_3_14 hb) (i := i) (by omega); rw [show b + 7 + 1 + 3 * i = b + (8 + 3 * i) by omega] at h5; exact h5) _)
      refine b_ast C (t0 := 4) (i := 7) (v := 8 + 3 * i) (X := i) (r := (RX1, TX1, 10)) (by omega) (by omega) o72 rfl o8 rfl (nI_pos (by omega)) (nI_clamp (by omega)) (by omega) dX3_init_76 (fun en3 e5 e6 => ?_)
      refine b_iinc (kp := 0) C [(1, .int (nI (i + 1))), (0, .ref (z + b))] dX3_init_77 hl rfl (nI_succ i).symm (by decide) rfl (fun ls hl => ?_)
      refine b_goto C 58 dX3_init_80 (by decide) ?_
      have h6 := ih (i + 1) (by omega) en3 ls hl ((e6 0 (by decide)).trans o02) (e5.trans (congrArg (fun g => Sum.inl (gcy G 4, 30, Sum.inr (Sum.inr (Sum.inr (Sum.inr g))))) (funext fun j => by
        unfold va_up
        by_cases q : j = i
        · subst q
          rw [if_pos rfl, if_pos (by omega)]
        · rw [if_neg q]
          dsimp only
          by_cases q2 : j < i
          · rw [if_pos q2, if_pos (by omega)]
          · rw [if_neg q2, if_neg (by omega)]))) (fun t h1 h2 h3 => by
        refine (e6 t h3).trans ?_
        by_cases q : t < 8 + 3 * i
        · exact (e3 t q).trans ((e2 t q).trans (g t h1 q h3))
        · exact e4 t (by omega) (by omega))
      rw [show 8 + 3 * (i + 1) = 8 + 3 * i + 3 by omega] at h6
      exact b_widen (by omega) (by omega) h6
  exact loop 30 0 (by decide) _ ls hl o0 oq7 (fun t h1 h2 h3 => g13 t h1 h2 h3)
set_option maxRecDepth 40000 in
set_option maxHeartbeats 8000000 in
theorem n_X6 (l : Launch) (G : GG) (z b : Nat) (hgad : ∀ k, gad G k = z + k) (hb : kdX b = 6) : NB G l yX6_init cX6_init 2 { frames := 3, cells := 230, slots := 7394, locals := 61 } z b 231 230 7394 (.inr (6, [.null, .null, .null, .null, .null, .null, .null, .null, .null, .null, .null])) := by
  refine NB_of (own := RX6) (by decide +kernel) rfl rfl (by decide) ?_
  intro p e s m args below meth c C hr hlo hini ls en0 o0 hl
  have h06 : ∀ b, b < 259 → kdX b = 6 → b = 0 := by decide +kernel
  have hb0 : b = 0 := h06 b (kd_lt hb (by decide)) hb
  have hn255 : ∀ {j : Nat}, j ≤ 214 → b + j ≠ 255 := fun h => by omega
  have g0 : ∀ i, 1 ≤ i → i < 1 → en0 i = cfX G (b + i) (iniX (b + i)) := fun i h1 h2 => absurd h2 (by omega)
  refine b_aload C dX6_init_0 rfl (lv_at hl 0 rfl) ?_
  refine b_obj C kl_X6_1 hl.1 ⟨Nat.le_of_ble_eq_true rfl, Nat.le_of_ble_eq_true rfl⟩ dX6_init_1 ?_
  refine b_aload C dX6_init_4 rfl (lv_at hl 0 rfl) ?_
  refine b_new (ty := tyX2) C [.int 0, .int 0, .int 0, .null, .null, .int 0, .int 0, .int 0, .int 0, .int 0] (show clsX[2]? = some (RX2, TX2, 10) from rfl) uX2 tyX2_ok kx_X6_7 kt_X2 kn_X2 (by decide) (Nat.le_of_ble_eq_true rfl) (Nat.le_of_ble_eq_true rfl) dX6_init_5 (fun en1 e1 e2 => ?_)
  have o0 := (e2 0 (by omega)).trans o0
  have g1 : ∀ i, 1 ≤ i → i < 1 → en1 i = cfX G (b + i) (iniX (b + i)) := fun i h1 h2 => (e2 i h2).trans (g0 i h1 h2)
  refine b_dup C dX6_init_8 rfl ?_
  refine b_callIN C (k' := 1) (host := "CopyWhileRun") (List.mem_of_getElem? (i := 0) rfl) (n_X2 l G z (b + 1) hgad (yk_6_0 hb)) e1 ki_X2_init kn_X2 kc_X2_init rfl (by decide +kernel) ⟨Nat.le_of_ble_eq_true rfl, Nat.le_of_ble_eq_true rfl⟩ ⟨Nat.le_of_ble_eq_true rfl, Nat.le_of_ble_eq_true rfl⟩ hl.1 (Nat.le_of_ble_eq_true rfl) dX6_init_9 (fun en2 e2 e3 => ?_)
  have o0 := (e2 0 (by omega)).trans o0
  have g2 : ∀ i, 1 ≤ i → i < 4 → en2 i = cfX G (b + i) (iniX (b + i)) := by
    intro i h1 h2
    by_cases q : i < 1
    · exact (e2 i q).trans (g1 i h1 q)
    · exact e3 i (by omega) (by omega)
  refine b_putF C (i := 0) (j := 0) (ty := tyX6 0) (show clsX[6]? = some (RX6, TX6, 11) from rfl) uX6 tyX6_ok nmX6 (by omega) o0 (by decide) kf_X6_10 rfl hini rfl (by decide +kernel) rfl rfl (by simp) dX6_init_12 (fun en3 e1 e2 => ?_)
  have o0 : en3 0 = .inr (6, [.ref (z + b + 1), .null, .null, .null, .null, .null, .null, .null, .null, .null, .null]) := e1
  have g3 : ∀ i, 1 ≤ i → i < 4 → en3 i = cfX G (b + i) (iniX (b + i)) := fun i h1 h2 => (e2 i (by omega)).trans (g2 i h1 h2)
  refine b_aload C dX6_init_15 rfl (lv_at hl 0 rfl) ?_
  refine b_new (ty := tyX4) C [.int 0, .int 0, .int 0, .int 0, .int 0, .int 0, .null, .null] (show clsX[4]? = some (RX4, TX4, 8) from rfl) uX4 tyX4_ok kx_X6_16 kt_X4 kn_X4 (by decide) (Nat.le_of_ble_eq_true rfl) (Nat.le_of_ble_eq_true rfl) dX6_init_16 (fun en4 e1 e2 => ?_)
  have o0 := (e2 0 (by omega)).trans o0
  have g4 : ∀ i, 1 ≤ i → i < 4 → en4 i = cfX G (b + i) (iniX (b + i)) := fun i h1 h2 => (e2 i h2).trans (g3 i h1 h2)
  refine b_dup C dX6_init_19 rfl ?_
  refine b_callIN C (k' := 4) (host := "CopyWhileRun") (List.mem_of_getElem? (i := 1) rfl) (n_X4 l G z (b + 4) hgad (yk_6_1 hb)) e1 ki_X4_init kn_X4 kc_X4_init rfl (by decide +kernel) ⟨Nat.le_of_ble_eq_true rfl, Nat.le_of_ble_eq_true rfl⟩ ⟨Nat.le_of_ble_eq_true rfl, Nat.le_of_ble_eq_true rfl⟩ hl.1 (Nat.le_of_ble_eq_true rfl) dX6_init_20 (fun en5 e2 e3 => ?_)
  have o0 := (e2 0 (by omega)).trans o0
  have g5 : ∀ i, 1 ≤ i → i < 7 → en5 i = cfX G (b + i) (iniX (b + i)) := by
    intro i h1 h2
    by_cases q : i < 4
    · exact (e2 i q).trans (g4 i h1 q)
    · exact e3 i (by omega) (by omega)
  refine b_putF C (i := 0) (j := 1) (ty := tyX6 1) (show clsX[6]? = some (RX6, TX6, 11) from rfl) uX6 tyX6_ok nmX6 (by omega) o0 (by decide) kf_X6_19 rfl hini rfl (by decide +kernel) rfl rfl (by simp) dX6_init_23 (fun en6 e1 e2 => ?_)
  have o0 : en6 0 = .inr (6, [.ref (z + b + 1), .ref (z + b + 4), .null, .null, .null, .null, .null, .null, .null, .null, .null]) := e1
  have g6 : ∀ i, 1 ≤ i → i < 7 → en6 i = cfX G (b + i) (iniX (b + i)) := fun i h1 h2 => (e2 i (by omega)).trans (g5 i h1 h2)
  refine b_aload C dX6_init_26 rfl (lv_at hl 0 rfl) ?_
  refine b_new (ty := tyX4) C [.int 0, .int 0, .int 0, .int 0, .int 0, .int 0, .null, .null] (show clsX[4]? = some (RX4, TX4, 8) from rfl) uX4 tyX4_ok kx_X6_16 kt_X4 kn_X4 (by decide) (Nat.le_of_ble_eq_true rfl) (Nat.le_of_ble_eq_true rfl) dX6_init_27 (fun en7 e1 e2 => ?_)
  have o0 := (e2 0 (by omega)).trans o0
  have g7 : ∀ i, 1 ≤ i → i < 7 → en7 i = cfX G (b + i) (iniX (b + i)) := fun i h1 h2 => (e2 i h2).trans (g6 i h1 h2)
  refine b_dup C dX6_init_30 rfl ?_
  refine b_callIN C (k' := 7) (host := "CopyWhileRun") (List.mem_of_getElem? (i := 1) rfl) (n_X4 l G z (b + 7) hgad (yk_6_2 hb)) e1 ki_X4_init kn_X4 kc_X4_init rfl (by decide +kernel) ⟨Nat.le_of_ble_eq_true rfl, Nat.le_of_ble_eq_true rfl⟩ ⟨Nat.le_of_ble_eq_true rfl, Nat.le_of_ble_eq_true rfl⟩ hl.1 (Nat.le_of_ble_eq_true rfl) dX6_init_31 (fun en8 e2 e3 => ?_)
  have o0 := (e2 0 (by omega)).trans o0
  have g8 : ∀ i, 1 ≤ i → i < 10 → en8 i = cfX G (b + i) (iniX (b + i)) := by
    intro i h1 h2
    by_cases q : i < 7
    · exact (e2 i q).trans (g7 i h1 q)
    · exact e3 i (by omega) (by omega)
  refine b_putF C (i := 0) (j := 2) (ty := tyX6 2) (show clsX[6]? = some (RX6, TX6, 11) from rfl) uX6 tyX6_ok nmX6 (by omega) o0 (by decide) kf_X6_23 rfl hini rfl (by decide +kernel) rfl rfl (by simp) dX6_init_34 (fun en9 e1 e2 => ?_)
  have o0 : en9 0 = .inr (6, [.ref (z + b + 1), .ref (z + b + 4), .ref (z + b + 7), .null, .null, .null, .null, .null, .null, .null, .null]) := e1
  have g9 : ∀ i, 1 ≤ i → i < 10 → en9 i = cfX G (b + i) (iniX (b + i)) := fun i h1 h2 => (e2 i (by omega)).trans (g8 i h1 h2)
  refine b_aload C dX6_init_37 rfl (lv_at hl 0 rfl) ?_
  refine b_iconst C dX6_init_38 rfl ?_
  refine b_newq_4 C (N := 3) kx_X6_16 (by decide) rfl (by decide) (Nat.le_of_ble_eq_true rfl) (Nat.le_of_ble_eq_true rfl) dX6_init_39 (fun en10 e1 e2 => ?_)
  have o0 := (e2 0 (by omega)).trans o0
  have oq10 := e1
  have g10 : ∀ i, 1 ≤ i → i < 11 → i ≠ 10 → en10 i = cfX G (b + i) (iniX (b + i)) := fun i h1 h2 h3_10 => (e2 i (by omega)).trans (g9 i h1 (by omega))
  refine b_putF C (i := 0) (j := 3) (ty := tyX6 3) (show clsX[6]? = some (RX6, TX6, 11) from rfl) uX6 tyX6_ok nmX6 (by omega) o0 (by decide) kf_X6_26 rfl hini rfl (by decide +kernel) rfl rfl (by simp) dX6_init_42 (fun en11 e1 e2 => ?_)
  have o0 : en11 0 = .inr (6, [.ref (z + b + 1), .ref (z + b + 4), .ref (z + b + 7), .ref (z + b + 10), .null, .null, .null, .null, .null, .null, .null]) := e1
  have oq10 := (e2 10 (by decide)).trans oq10
  have g11 : ∀ i, 1 ≤ i → i < 11 → i ≠ 10 → en11 i = cfX G (b + i) (iniX (b + i)) := fun i h1 h2 h3_10 => (e2 i (by omega)).trans (g10 i h1 h2 h3_10)
  refine b_aload C dX6_init_45 rfl (lv_at hl 0 rfl) ?_
  refine b_iconst C dX6_init_46 rfl ?_
  refine b_newq_5 C (N := 4) kx_X6_30 (by decide) rfl (by decide) (Nat.le_of_ble_eq_true rfl) (Nat.le_of_ble_eq_true rfl) dX6_init_47 (fun en12 e1 e2 => ?_)
  have o0 := (e2 0 (by omega)).trans o0
  have oq10 := (e2 10 (by omega)).trans oq10
  have oq11 := e1
  have g12 : ∀ i, 1 ≤ i → i < 12 → i ≠ 10 → i ≠ 11 → en12 i = cfX G (b + i) (iniX (b + i)) := fun i h1 h2 h3_10 h3_11 => (e2 i (by omega)).trans (g11 i h1 (by omega) h3_10)
  refine b_putF C (i := 0) (j := 4) (ty := tyX6 4) (show clsX[6]? = some (RX6, TX6, 11) from rfl) uX6 tyX6_ok nmX6 (by omega) o0 (by decide) kf_X6_32 rfl hini rfl (by decide +kernel) rfl rfl (by simp) dX6_init_50 (fun en13 e1 e2 => ?_)
  have o0 : en13 0 = .inr (6, [.ref (z + b + 1), .ref (z + b + 4), .ref (z + b + 7), .ref (z + b + 10), .ref (z + b + 11), .null, .null, .null, .null, .null, .null]) := e1
  have oq10 := (e2 10 (by decide)).trans oq10
  have oq11 := (e2 11 (by decide)).trans oq11
  have g13 : ∀ i, 1 ≤ i → i < 12 → i ≠ 10 → i ≠ 11 → en13 i = cfX G (b + i) (iniX (b + i)) := fun i h1 h2 h3_10 h3_11 => (e2 i (by omega)).trans (g12 i h1 h2 h3_10 h3_11)
  refine b_aload C dX6_init_53 rfl (lv_at hl 0 rfl) ?_
  refine b_new (ty := tyX3) C [.null, .int 0, .int 0, .int 0, .int 0, .int 0, .int 0, .int 0, .int 0, .int 0, .int 0, .null, .null, .null, .null] (show clsX[3]? = some (RX3, TX3, 15) from rfl) uX3 tyX3_ok kx_X6_36 kt_X3 kn_X3 (by decide) (Nat.le_of_ble_eq_true rfl) (Nat.le_of_ble_eq_true rfl) dX6_init_54 (fun en14 e1 e2 => ?_)
  have o0 := (e2 0 (by omega)).trans o0
  have oq10 := (e2 10 (by omega)).trans oq10
  have oq11 := (e2 11 (by omega)).trans oq11
  have g14 : ∀ i, 1 ≤ i → i < 12 → i ≠ 10 → i ≠ 11 → en14 i = cfX G (b + i) (iniX (b + i)) := fun i h1 h2 h3_10 h3_11 => (e2 i h2).trans (g13 i h1 h2 h3_10 h3_11)
  refine b_dup C dX6_init_57 rfl ?_
  refine b_callI C (k' := 12) kl_X6_38 (n_X3 l G z (b + 12) hgad (yk_6_5 hb)) e1 ki_X3_init kn_X3 kc_X3_init rfl (by decide +kernel) ⟨Nat.le_of_ble_eq_true rfl, Nat.le_of_ble_eq_true rfl⟩ ⟨Nat.le_of_ble_eq_true rfl, Nat.le_of_ble_eq_true rfl⟩ hl.1 (Nat.le_of_ble_eq_true rfl) dX6_init_58 (fun en15 e2 e3 => ?_)
  have o0 := (e2 0 (by omega)).trans o0
  have oq10 := (e2 10 (by omega)).trans oq10
  have oq11 := (e2 11 (by omega)).trans oq11
  have g15 : ∀ i, 1 ≤ i → i < 110 → i ≠ 10 → i ≠ 11 → en15 i = cfX G (b + i) (iniX (b + i)) := by
    intro i h1 h2 h3_10 h3_11
    by_cases q : i < 12
    · exact (e2 i q).trans (g14 i h1 q h3_10 h3_11)
    · exact e3 i (by omega) (by omega)
  refine b_putF C (i := 0) (j := 5) (ty := tyX6 5) (show clsX[6]? = some (RX6, TX6, 11) from rfl) uX6 tyX6_ok nmX6 (by omega) o0 (by decide) kf_X6_39 rfl hini rfl (by decide +kernel) rfl rfl (by simp) dX6_init_61 (fun en16 e1 e2 => ?_)
  have o0 : en16 0 = .inr (6, [.ref (z + b + 1), .ref (z + b + 4), .ref (z + b + 7), .ref (z + b + 10), .ref (z + b + 11), .ref (z + b + 12), .null, .null, .null, .null, .null]) := e1
  have oq10 := (e2 10 (by decide)).trans oq10
  have oq11 := (e2 11 (by decide)).trans oq11
  have g16 : ∀ i, 1 ≤ i → i < 110 → i ≠ 10 → i ≠ 11 → en16 i = cfX G (b + i) (iniX (b + i)) := fun i h1 h2 h3_10 h3_11 => (e2 i (by omega)).trans (g15 i h1 h2 h3_10 h3_11)
  refine b_aload C dX6_init_64 rfl (lv_at hl 0 rfl) ?_
  refine b_new (ty := tyX3) C [.null, .int 0, .int 0, .int 0, .int 0, .int 0, .int 0, .int 0, .int 0, .int 0, .int 0, .null, .null, .null, .null] (show clsX[3]? = some (RX3, TX3, 15) from rfl) uX3 tyX3_ok kx_X6_36 kt_X3 kn_X3 (by decide) (Nat.le_of_ble_eq_true rfl) (Nat.le_of_ble_eq_true rfl) dX6_init_65 (fun en17 e1 e2 => ?_)
  have o0 := (e2 0 (by omega)).trans o0
  have oq10 := (e2 10 (by omega)).trans oq10
  have oq11 := (e2 11 (by omega)).trans oq11
  have g17 : ∀ i, 1 ≤ i → i < 110 → i ≠ 10 → i ≠ 11 → en17 i = cfX G (b + i) (iniX (b + i)) := fun i h1 h2 h3_10 h3_11 => (e2 i h2).trans (g16 i h1 h2 h3_10 h3_11)
  refine b_dup C dX6_init_68 rfl ?_
  refine b_callI C (k' := 110) kl_X6_38 (n_X3 l G z (b + 110) hgad (yk_6_6 hb)) e1 ki_X3_init kn_X3 kc_X3_init rfl (by decide +kernel) ⟨Nat.le_of_ble_eq_true rfl, Nat.le_of_ble_eq_true rfl⟩ ⟨Nat.le_of_ble_eq_true rfl, Nat.le_of_ble_eq_true rfl⟩ hl.1 (Nat.le_of_ble_eq_true rfl) dX6_init_69 (fun en18 e2 e3 => ?_)
  have o0 := (e2 0 (by omega)).trans o0
  have oq10 := (e2 10 (by omega)).trans oq10
  have oq11 := (e2 11 (by omega)).trans oq11
  have g18 : ∀ i, 1 ≤ i → i < 208 → i ≠ 10 → i ≠ 11 → en18 i = cfX G (b + i) (iniX (b + i)) := by
    intro i h1 h2 h3_10 h3_11
    by_cases q : i < 110
    · exact (e2 i q).trans (g17 i h1 q h3_10 h3_11)
    · exact e3 i (by omega) (by omega)
  refine b_putF C (i := 0) (j := 6) (ty := tyX6 6) (show clsX[6]? = some (RX6, TX6, 11) from rfl) uX6 tyX6_ok nmX6 (by omega) o0 (by decide) kf_X6_43 rfl hini rfl (by decide +kernel) rfl rfl (by simp) dX6_init_72 (fun en19 e1 e2 => ?_)
  have o0 : en19 0 = .inr (6, [.ref (z + b + 1), .ref (z + b + 4), .ref (z + b + 7), .ref (z + b + 10), .ref (z + b + 11), .ref (z + b + 12), .ref (z + b + 110), .null, .null, .null, .null]) := e1
  have oq10 := (e2 10 (by decide)).trans oq10
  have oq11 := (e2 11 (by decide)).trans oq11
  have g19 : ∀ i, 1 ≤ i → i < 208 → i ≠ 10 → i ≠ 11 → en19 i = cfX G (b + i) (iniX (b + i)) := fun i h1 h2 h3_10 h3_11 => (e2 i (by omega)).trans (g18 i h1 h2 h3_10 h3_11)
  refine b_aload C dX6_init_75 rfl (lv_at hl 0 rfl) ?_
  refine b_new (ty := tyX0) C [.int 0, .null] (show clsX[0]? = some (RX0, TX0, 2) from rfl) uX0 tyX0_ok kx_X6_46 kt_X0 kn_X0 (by decide) (Nat.le_of_ble_eq_true rfl) (Nat.le_of_ble_eq_true rfl) dX6_init_76 (fun en20 e1 e2 => ?_)
  have o0 := (e2 0 (by omega)).trans o0
  have oq10 := (e2 10 (by omega)).trans oq10
  have oq11 := (e2 11 (by omega)).trans oq11
  have g20 : ∀ i, 1 ≤ i → i < 208 → i ≠ 10 → i ≠ 11 → en20 i = cfX G (b + i) (iniX (b + i)) := fun i h1 h2 h3_10 h3_11 => (e2 i h2).trans (g19 i h1 h2 h3_10 h3_11)
  refine b_dup C dX6_init_79 rfl ?_
  refine b_callIN C (k' := 208) (host := "CopyWhileRun") (List.mem_of_getElem? (i := 4) rfl) (n_X0 l G z (b + 208) hgad (yk_6_7 hb)) e1 ki_X0_init kn_X0 kc_X0_init rfl (by decide +kernel) ⟨Nat.le_of_ble_eq_true rfl, Nat.le_of_ble_eq_true rfl⟩ ⟨Nat.le_of_ble_eq_true rfl, Nat.le_of_ble_eq_true rfl⟩ hl.1 (Nat.le_of_ble_eq_true rfl) dX6_init_80 (fun en21 e2 e3 => ?_)
  have o0 := (e2 0 (by omega)).trans o0
  have oq10 := (e2 10 (by omega)).trans oq10
  have oq11 := (e2 11 (by omega)).trans oq11
  have g21 : ∀ i, 1 ≤ i → i < 210 → i ≠ 10 → i ≠ 11 → en21 i = cfX G (b + i) (iniX (b + i)) := by
    intro i h1 h2 h3_10 h3_11
    by_cases q : i < 208
    · exact (e2 i q).trans (g20 i h1 q h3_10 h3_11)
    · exact e3 i (by omega) (by omega)
  refine b_putF C (i := 0) (j := 7) (ty := tyX6 7) (show clsX[6]? = some (RX6, TX6, 11) from rfl) uX6 tyX6_ok nmX6 (by omega) o0 (by decide) kf_X6_49 rfl hini rfl (by decide +kernel) rfl rfl (by simp) dX6_init_83 (fun en22 e1 e2 => ?_)
  have o0 : en22 0 = .inr (6, [.ref (z + b + 1), .ref (z + b + 4), .ref (z + b + 7), .ref (z + b + 10), .ref (z + b + 11), .ref (z + b + 12), .ref (z + b + 110), .ref (z + b + 208), .null, .null, .null]) := e1
  have oq10 := (e2 10 (by decide)).trans oq10
  have oq11 := (e2 11 (by decide)).trans oq11
  have g22 : ∀ i, 1 ≤ i → i < 210 → i ≠ 10 → i ≠ 11 → en22 i = cfX G (b + i) (iniX (b + i)) := fun i h1 h2 h3_10 h3_11 => (e2 i (by omega)).trans (g21 i h1 h2 h3_10 h3_11)
  refine b_aload C dX6_init_86 rfl (lv_at hl 0 rfl) ?_
  refine b_new (ty := tyX0) C [.int 0, .null] (show clsX[0]? = some (RX0, TX0, 2) from rfl) uX0 tyX0_ok kx_X6_46 kt_X0 kn_X0 (by decide) (Nat.le_of_ble_eq_true rfl) (Nat.le_of_ble_eq_true rfl) dX6_init_87 (fun en23 e1 e2 => ?_)
  have o0 := (e2 0 (by omega)).trans o0
  have oq10 := (e2 10 (by omega)).trans oq10
  have oq11 := (e2 11 (by omega)).trans oq11
  have g23 : ∀ i, 1 ≤ i → i < 210 → i ≠ 10 → i ≠ 11 → en23 i = cfX G (b + i) (iniX (b + i)) := fun i h1 h2 h3_10 h3_11 => (e2 i h2).trans (g22 i h1 h2 h3_10 h3_11)
  refine b_dup C dX6_init_90 rfl ?_
  refine b_callIN C (k' := 210) (host := "CopyWhileRun") (List.mem_of_getElem? (i := 4) rfl) (n_X0 l G z (b + 210) hgad (yk_6_8 hb)) e1 ki_X0_init kn_X0 kc_X0_init rfl (by decide +kernel) ⟨Nat.le_of_ble_eq_true rfl, Nat.le_of_ble_eq_true rfl⟩ ⟨Nat.le_of_ble_eq_true rfl, Nat.le_of_ble_eq_true rfl⟩ hl.1 (Nat.le_of_ble_eq_true rfl) dX6_init_91 (fun en24 e2 e3 => ?_)
  have o0 := (e2 0 (by omega)).trans o0
  have oq10 := (e2 10 (by omega)).trans oq10
  have oq11 := (e2 11 (by omega)).trans oq11
  have g24 : ∀ i, 1 ≤ i → i < 212 → i ≠ 10 → i ≠ 11 → en24 i = cfX G (b + i) (iniX (b + i)) := by
    intro i h1 h2 h3_10 h3_11
    by_cases q : i < 210
    · exact (e2 i q).trans (g23 i h1 q h3_10 h3_11)
    · exact e3 i (by omega) (by omega)
  refine b_putF C (i := 0) (j := 8) (ty := tyX6 8) (show clsX[6]? = some (RX6, TX6, 11) from rfl) uX6 tyX6_ok nmX6 (by omega) o0 (by decide) kf_X6_53 rfl hini rfl (by decide +kernel) rfl rfl (by simp) dX6_init_94 (fun en25 e1 e2 => ?_)
  have o0 : en25 0 = .inr (6, [.ref (z + b + 1), .ref (z + b + 4), .ref (z + b + 7), .ref (z + b + 10), .ref (z + b + 11), .ref (z + b + 12), .ref (z + b + 110), .ref (z + b + 208), .ref (z + b + 210), .null, .null]) := e1
  have oq10 := (e2 10 (by decide)).trans oq10
  have oq11 := (e2 11 (by decide)).trans oq11
  have g25 : ∀ i, 1 ≤ i → i < 212 → i ≠ 10 → i ≠ 11 → en25 i = cfX G (b + i) (iniX (b + i)) := fun i h1 h2 h3_10 h3_11 => (e2 i (by omega)).trans (g24 i h1 h2 h3_10 h3_11)
  refine b_aload C dX6_init_97 rfl (lv_at hl 0 rfl) ?_
  refine b_sipush C dX6_init_98 rfl ?_
  refine b_newa_int C (N := 256) (by decide) rfl (by decide) (Nat.le_of_ble_eq_true rfl) (Nat.le_of_ble_eq_true rfl) dX6_init_101 (fun en26 e1 e2 => ?_)
  have o0 := (e2 0 (by omega)).trans o0
  have oq10 := (e2 10 (by omega)).trans oq10
  have oq11 := (e2 11 (by omega)).trans oq11
  have g26 : ∀ i, 1 ≤ i → i < 213 → i ≠ 10 → i ≠ 11 → en26 i = cfX G (b + i) (iniX (b + i)) := by
    intro i h1 h2 h3_10 h3_11
    by_cases q : i = 212
    · subst q
      exact e1.trans (ar_9 (yk_6_9 hb) (yl_6_9 hb) (hn255 (by decide)))
    · exact (e2 i (by omega)).trans (g25 i h1 (by omega) h3_10 h3_11)
  refine b_putF C (i := 0) (j := 9) (ty := tyX6 9) (show clsX[6]? = some (RX6, TX6, 11) from rfl) uX6 tyX6_ok nmX6 (by omega) o0 (by decide) kf_X6_56 rfl hini rfl (by decide +kernel) rfl rfl (by simp) dX6_init_103 (fun en27 e1 e2 => ?_)
  have o0 : en27 0 = .inr (6, [.ref (z + b + 1), .ref (z + b + 4), .ref (z + b + 7), .ref (z + b + 10), .ref (z + b + 11), .ref (z + b + 12), .ref (z + b + 110), .ref (z + b + 208), .ref (z + b + 210), .ref (z + b + 212), .null]) := e1
  have oq10 := (e2 10 (by decide)).trans oq10
  have oq11 := (e2 11 (by decide)).trans oq11
  have g27 : ∀ i, 1 ≤ i → i < 213 → i ≠ 10 → i ≠ 11 → en27 i = cfX G (b + i) (iniX (b + i)) := fun i h1 h2 h3_10 h3_11 => (e2 i (by omega)).trans (g26 i h1 h2 h3_10 h3_11)
  refine b_aload C dX6_init_106 rfl (lv_at hl 0 rfl) ?_
  refine b_iconst C dX6_init_107 rfl ?_
  refine b_newa_int C (N := 4) (by decide) rfl (by decide) (Nat.le_of_ble_eq_true rfl) (Nat.le_of_ble_eq_true rfl) dX6_init_108 (fun en28 e1 e2 => ?_)
  have o0 := (e2 0 (by omega)).trans o0
  have oq10 := (e2 10 (by omega)).trans oq10
  have oq11 := (e2 11 (by omega)).trans oq11
  have g28 : ∀ i, 1 ≤ i → i < 214 → i ≠ 10 → i ≠ 11 → en28 i = cfX G (b + i) (iniX (b + i)) := by
    intro i h1 h2 h3_10 h3_11
    by_cases q : i = 213
    · subst q
      exact e1.trans (ar_9 (yk_6_10 hb) (yl_6_10 hb) (hn255 (by decide)))
    · exact (e2 i (by omega)).trans (g27 i h1 (by omega) h3_10 h3_11)
  refine b_putF C (i := 0) (j := 10) (ty := tyX6 10) (show clsX[6]? = some (RX6, TX6, 11) from rfl) uX6 tyX6_ok nmX6 (by omega) o0 (by decide) kf_X6_60 rfl hini rfl (by decide +kernel) rfl rfl (by simp) dX6_init_110 (fun en29 e1 e2 => ?_)
  have o0 : en29 0 = .inr (6, [.ref (z + b + 1), .ref (z + b + 4), .ref (z + b + 7), .ref (z + b + 10), .ref (z + b + 11), .ref (z + b + 12), .ref (z + b + 110), .ref (z + b + 208), .ref (z + b + 210), .ref (z + b + 212), .ref (z + b + 213)]) := e1
  have oq10 := (e2 10 (by decide)).trans oq10
  have oq11 := (e2 11 (by decide)).trans oq11
  have g29 : ∀ i, 1 ≤ i → i < 214 → i ≠ 10 → i ≠ 11 → en29 i = cfX G (b + i) (iniX (b + i)) := fun i h1 h2 h3_10 h3_11 => (e2 i (by omega)).trans (g28 i h1 h2 h3_10 h3_11)
  refine b_iconst (v := nI 0) C dX6_init_113 rfl ?_
  refine b_istore C [(1, .int (nI 0)), (0, .ref (z + b))] dX6_init_114 rfl hl (by decide) rfl (fun ls hl => ?_)
  refine b_iload C dX6_init_115 rfl (lv_at hl 0 rfl) ?_
  refine b_iconst C dX6_init_116 rfl ?_
  refine b_icmp_ge C 139 dX6_init_117 (by decide) (fun h => absurd h (by decide)) (fun _ => ?_)
  refine b_aload C dX6_init_120 rfl (lv_at hl 1 rfl) ?_
  refine b_get C (i := 0) (j := 3) (show clsX[6]? = some (RX6, TX6, 11) from rfl) uX6 (by omega) o0 (by decide) kf_X6_26 rfl dX6_init_121 ?_
  refine b_iload C dX6_init_124 rfl (lv_at hl 0 rfl) ?_
  refine b_new (ty := tyX4) C [.int 0, .int 0, .int 0, .int 0, .int 0, .int 0, .null, .null] (show clsX[4]? = some (RX4, TX4, 8) from rfl) uX4 tyX4_ok kx_X6_16 kt_X4 kn_X4 (by decide) (Nat.le_of_ble_eq_true rfl) (Nat.le_of_ble_eq_true rfl) dX6_init_125 (fun en30 e1 e2 => ?_)
  have o0 := (e2 0 (by omega)).trans o0
  have oq10 := (e2 10 (by omega)).trans oq10
  have oq11 := (e2 11 (by omega)).trans oq11
  have g30 : ∀ i, 1 ≤ i → i < 214 → i ≠ 10 → i ≠ 11 → en30 i = cfX G (b + i) (iniX (b + i)) := fun i h1 h2 h3_10 h3_11 => (e2 i h2).trans (g29 i h1 h2 h3_10 h3_11)
  refine b_dup C dX6_init_128 rfl ?_
  refine b_callIN C (k' := 214) (host := "CopyWhileRun") (List.mem_of_getElem? (i := 1) rfl) (n_X4 l G z (b + 214) hgad (by subst hb0; rfl)) e1 ki_X4_init kn_X4 kc_X4_init rfl (by decide +kernel) ⟨Nat.le_of_ble_eq_true rfl, Nat.le_of_ble_eq_true rfl⟩ ⟨Nat.le_of_ble_eq_true rfl, Nat.le_of_ble_eq_true rfl⟩ hl.1 (Nat.le_of_ble_eq_true rfl) dX6_init_129 (fun en31 e2 e3 => ?_)
  have o0 := (e2 0 (by omega)).trans o0
  have oq10 := (e2 10 (by omega)).trans oq10
  have oq11 := (e2 11 (by omega)).trans oq11
  have g31 : ∀ i, 1 ≤ i → i < 217 → i ≠ 10 → i ≠ 11 → en31 i = cfX G (b + i) (iniX (b + i)) := by
    intro i h1 h2 h3_10 h3_11
    by_cases q : i < 214
    · exact (e2 i q).trans (g30 i h1 q h3_10 h3_11)
    · exact e3 i (by omega) (by omega)
  have ov := (g31 214 (by decide) (by decide) (by decide) (by decide)).trans (cf_4 (show kdX (b + 214) = 4 by subst hb0; rfl) _)
  refine b_ast C (t0 := 5) (i := 10) (v := 214) (X := 0) (r := (RX4, TX4, 8)) (by decide) (by decide) oq10 rfl ov rfl (nI_pos (by decide)) (nI_clamp (by decide)) (by decide) dX6_init_132 (fun en32 e1 e2 => ?_)
  have o0 := (e2 0 (by decide)).trans o0
  have oq10 := e1
  have oq11 := (e2 11 (by decide)).trans oq11
  have g32 : ∀ i, 1 ≤ i → i < 217 → i ≠ 10 → i ≠ 11 → en32 i = cfX G (b + i) (iniX (b + i)) := fun i h1 h2 h3_10 h3_11 => (e2 i h3_10).trans (g31 i h1 h2 h3_10 h3_11)
  refine b_iinc (kp := 0) C [(1, .int (nI 1)), (0, .ref (z + b))] dX6_init_133 hl rfl (nI_succ 0).symm (by decide) rfl (fun ls hl => ?_)
  refine b_goto C 115 dX6_init_136 (by decide) ?_
  refine b_iload C dX6_init_115 rfl (lv_at hl 0 rfl) ?_
  refine b_iconst C dX6_init_116 rfl ?_
  refine b_icmp_ge C 139 dX6_init_117 (by decide) (fun h => absurd h (by decide)) (fun _ => ?_)
  refine b_aload C dX6_init_120 rfl (lv_at hl 1 rfl) ?_
  refine b_get C (i := 0) (j := 3) (show clsX[6]? = some (RX6, TX6, 11) from rfl) uX6 (by omega) o0 (by decide) kf_X6_26 rfl dX6_init_121 ?_
  refine b_iload C dX6_init_124 rfl (lv_at hl 0 rfl) ?_
  refine b_new (ty := tyX4) C [.int 0, .int 0, .int 0, .int 0, .int 0, .int 0, .null, .null] (show clsX[4]? = some (RX4, TX4, 8) from rfl) uX4 tyX4_ok kx_X6_16 kt_X4 kn_X4 (by decide) (Nat.le_of_ble_eq_true rfl) (Nat.le_of_ble_eq_true rfl) dX6_init_125 (fun en33 e1 e2 => ?_)
  have o0 := (e2 0 (by omega)).trans o0
  have oq10 := (e2 10 (by omega)).trans oq10
  have oq11 := (e2 11 (by omega)).trans oq11
  have g33 : ∀ i, 1 ≤ i → i < 217 → i ≠ 10 → i ≠ 11 → en33 i = cfX G (b + i) (iniX (b + i)) := fun i h1 h2 h3_10 h3_11 => (e2 i h2).trans (g32 i h1 h2 h3_10 h3_11)
  refine b_dup C dX6_init_128 rfl ?_
  refine b_callIN C (k' := 217) (host := "CopyWhileRun") (List.mem_of_getElem? (i := 1) rfl) (n_X4 l G z (b + 217) hgad (by subst hb0; rfl)) e1 ki_X4_init kn_X4 kc_X4_init rfl (by decide +kernel) ⟨Nat.le_of_ble_eq_true rfl, Nat.le_of_ble_eq_true rfl⟩ ⟨Nat.le_of_ble_eq_true rfl, Nat.le_of_ble_eq_true rfl⟩ hl.1 (Nat.le_of_ble_eq_true rfl) dX6_init_129 (fun en34 e2 e3 => ?_)
  have o0 := (e2 0 (by omega)).trans o0
  have oq10 := (e2 10 (by omega)).trans oq10
  have oq11 := (e2 11 (by omega)).trans oq11
  have g34 : ∀ i, 1 ≤ i → i < 220 → i ≠ 10 → i ≠ 11 → en34 i = cfX G (b + i) (iniX (b + i)) := by
    intro i h1 h2 h3_10 h3_11
    by_cases q : i < 217
    · exact (e2 i q).trans (g33 i h1 q h3_10 h3_11)
    · exact e3 i (by omega) (by omega)
  have ov := (g34 217 (by decide) (by decide) (by decide) (by decide)).trans (cf_4 (show kdX (b + 217) = 4 by subst hb0; rfl) _)
  refine b_ast C (t0 := 5) (i := 10) (v := 217) (X := 1) (r := (RX4, TX4, 8)) (by decide) (by decide) oq10 rfl ov rfl (nI_pos (by decide)) (nI_clamp (by decide)) (by decide) dX6_init_132 (fun en35 e1 e2 => ?_)
  have o0 := (e2 0 (by decide)).trans o0
  have oq10 := e1
  have oq11 := (e2 11 (by decide)).trans oq11
  have g35 : ∀ i, 1 ≤ i → i < 220 → i ≠ 10 → i ≠ 11 → en35 i = cfX G (b + i) (iniX (b + i)) := fun i h1 h2 h3_10 h3_11 => (e2 i h3_10).trans (g34 i h1 h2 h3_10 h3_11)
  refine b_iinc (kp := 0) C [(1, .int (nI 2)), (0, .ref (z + b))] dX6_init_133 hl rfl (nI_succ 1).symm (by decide) rfl (fun ls hl => ?_)
  refine b_goto C 115 dX6_init_136 (by decide) ?_
  refine b_iload C dX6_init_115 rfl (lv_at hl 0 rfl) ?_
  refine b_iconst C dX6_init_116 rfl ?_
  refine b_icmp_ge C 139 dX6_init_117 (by decide) (fun h => absurd h (by decide)) (fun _ => ?_)
  refine b_aload C dX6_init_120 rfl (lv_at hl 1 rfl) ?_
  refine b_get C (i := 0) (j := 3) (show clsX[6]? = some (RX6, TX6, 11) from rfl) uX6 (by omega) o0 (by decide) kf_X6_26 rfl dX6_init_121 ?_
  refine b_iload C dX6_init_124 rfl (lv_at hl 0 rfl) ?_
  refine b_new (ty := tyX4) C [.int 0, .int 0, .int 0, .int 0, .int 0, .int 0, .null, .null] (show clsX[4]? = some (RX4, TX4, 8) from rfl) uX4 tyX4_ok kx_X6_16 kt_X4 kn_X4 (by decide) (Nat.le_of_ble_eq_true rfl) (Nat.le_of_ble_eq_true rfl) dX6_init_125 (fun en36 e1 e2 => ?_)
  have o0 := (e2 0 (by omega)).trans o0
  have oq10 := (e2 10 (by omega)).trans oq10
  have oq11 := (e2 11 (by omega)).trans oq11
  have g36 : ∀ i, 1 ≤ i → i < 220 → i ≠ 10 → i ≠ 11 → en36 i = cfX G (b + i) (iniX (b + i)) := fun i h1 h2 h3_10 h3_11 => (e2 i h2).trans (g35 i h1 h2 h3_10 h3_11)
  refine b_dup C dX6_init_128 rfl ?_
  refine b_callIN C (k' := 220) (host := "CopyWhileRun") (List.mem_of_getElem? (i := 1) rfl) (n_X4 l G z (b + 220) hgad (by subst hb0; rfl)) e1 ki_X4_init kn_X4 kc_X4_init rfl (by decide +kernel) ⟨Nat.le_of_ble_eq_true rfl, Nat.le_of_ble_eq_true rfl⟩ ⟨Nat.le_of_ble_eq_true rfl, Nat.le_of_ble_eq_true rfl⟩ hl.1 (Nat.le_of_ble_eq_true rfl) dX6_init_129 (fun en37 e2 e3 => ?_)
  have o0 := (e2 0 (by omega)).trans o0
  have oq10 := (e2 10 (by omega)).trans oq10
  have oq11 := (e2 11 (by omega)).trans oq11
  have g37 : ∀ i, 1 ≤ i → i < 223 → i ≠ 10 → i ≠ 11 → en37 i = cfX G (b + i) (iniX (b + i)) := by
    intro i h1 h2 h3_10 h3_11
    by_cases q : i < 220
    · exact (e2 i q).trans (g36 i h1 q h3_10 h3_11)
    · exact e3 i (by omega) (by omega)
  have ov := (g37 220 (by decide) (by decide) (by decide) (by decide)).trans (cf_4 (show kdX (b + 220) = 4 by subst hb0; rfl) _)
  refine b_ast C (t0 := 5) (i := 10) (v := 220) (X := 2) (r := (RX4, TX4, 8)) (by decide) (by decide) oq10 rfl ov rfl (nI_pos (by decide)) (nI_clamp (by decide)) (by decide) dX6_init_132 (fun en38 e1 e2 => ?_)
  have o0 := (e2 0 (by decide)).trans o0
  have oq10 := e1
  have oq11 := (e2 11 (by decide)).trans oq11
  have g38 : ∀ i, 1 ≤ i → i < 223 → i ≠ 10 → i ≠ 11 → en38 i = cfX G (b + i) (iniX (b + i)) := fun i h1 h2 h3_10 h3_11 => (e2 i h3_10).trans (g37 i h1 h2 h3_10 h3_11)
  refine b_iinc (kp := 0) C [(1, .int (nI 3)), (0, .ref (z + b))] dX6_init_133 hl rfl (nI_succ 2).symm (by decide) rfl (fun ls hl => ?_)
  refine b_goto C 115 dX6_init_136 (by decide) ?_
  refine b_iload C dX6_init_115 rfl (lv_at hl 0 rfl) ?_
  refine b_iconst C dX6_init_116 rfl ?_
  refine b_icmp_ge C 139 dX6_init_117 (by decide) (fun _ => ?_) (fun h => absurd (by decide) h)
  refine b_iconst (v := nI 0) C dX6_init_139 rfl ?_
  refine b_istore C [(1, .int (nI 0)), (0, .ref (z + b))] dX6_init_140 rfl hl (by decide) rfl (fun ls hl => ?_)
  refine b_iload C dX6_init_141 rfl (lv_at hl 0 rfl) ?_
  refine b_iconst C dX6_init_142 rfl ?_
  refine b_icmp_ge C 165 dX6_init_143 (by decide) (fun h => absurd h (by decide)) (fun _ => ?_)
  refine b_aload C dX6_init_146 rfl (lv_at hl 1 rfl) ?_
  refine b_get C (i := 0) (j := 4) (show clsX[6]? = some (RX6, TX6, 11) from rfl) uX6 (by omega) o0 (by decide) kf_X6_32 rfl dX6_init_147 ?_
  refine b_iload C dX6_init_150 rfl (lv_at hl 0 rfl) ?_
  refine b_new (ty := tyX5) C [.int 0, .int 0, .int 0, .null] (show clsX[5]? = some (RX5, TX5, 4) from rfl) uX5 tyX5_ok kx_X6_30 kt_X5 kn_X5 (by decide) (Nat.le_of_ble_eq_true rfl) (Nat.le_of_ble_eq_true rfl) dX6_init_151 (fun en39 e1 e2 => ?_)
  have o0 := (e2 0 (by omega)).trans o0
  have oq10 := (e2 10 (by omega)).trans oq10
  have oq11 := (e2 11 (by omega)).trans oq11
  have g39 : ∀ i, 1 ≤ i → i < 223 → i ≠ 10 → i ≠ 11 → en39 i = cfX G (b + i) (iniX (b + i)) := fun i h1 h2 h3_10 h3_11 => (e2 i h2).trans (g38 i h1 h2 h3_10 h3_11)
  refine b_dup C dX6_init_154 rfl ?_
  refine b_callIN C (k' := 223) (host := "CopyWhileRun") (List.mem_of_getElem? (i := 5) rfl) (n_X5 l G z (b + 223) hgad (by subst hb0; rfl)) e1 ki_X5_init kn_X5 kc_X5_init rfl (by decide +kernel) ⟨Nat.le_of_ble_eq_true rfl, Nat.le_of_ble_eq_true rfl⟩ ⟨Nat.le_of_ble_eq_true rfl, Nat.le_of_ble_eq_true rfl⟩ hl.1 (Nat.le_of_ble_eq_true rfl) dX6_init_155 (fun en40 e2 e3 => ?_)
  have o0 := (e2 0 (by omega)).trans o0
  have oq10 := (e2 10 (by omega)).trans oq10
  have oq11 := (e2 11 (by omega)).trans oq11
  have g40 : ∀ i, 1 ≤ i → i < 225 → i ≠ 10 → i ≠ 11 → en40 i = cfX G (b + i) (iniX (b + i)) := by
    intro i h1 h2 h3_10 h3_11
    by_cases q : i < 223
    · exact (e2 i q).trans (g39 i h1 q h3_10 h3_11)
    · exact e3 i (by omega) (by omega)
  have ov := (g40 223 (by decide) (by decide) (by decide) (by decide)).trans (cf_5 (show kdX (b + 223) = 5 by subst hb0; rfl) _)
  refine b_ast C (t0 := 6) (i := 11) (v := 223) (X := 0) (r := (RX5, TX5, 4)) (by decide) (by decide) oq11 rfl ov rfl (nI_pos (by decide)) (nI_clamp (by decide)) (by decide) dX6_init_158 (fun en41 e1 e2 => ?_)
  have o0 := (e2 0 (by decide)).trans o0
  have oq10 := (e2 10 (by decide)).trans oq10
  have oq11 := e1
  have g41 : ∀ i, 1 ≤ i → i < 225 → i ≠ 10 → i ≠ 11 → en41 i = cfX G (b + i) (iniX (b + i)) := fun i h1 h2 h3_10 h3_11 => (e2 i h3_11).trans (g40 i h1 h2 h3_10 h3_11)
  refine b_iinc (kp := 0) C [(1, .int (nI 1)), (0, .ref (z + b))] dX6_init_159 hl rfl (nI_succ 0).symm (by decide) rfl (fun ls hl => ?_)
  refine b_goto C 141 dX6_init_162 (by decide) ?_
  refine b_iload C dX6_init_141 rfl (lv_at hl 0 rfl) ?_
  refine b_iconst C dX6_init_142 rfl ?_
  refine b_icmp_ge C 165 dX6_init_143 (by decide) (fun h => absurd h (by decide)) (fun _ => ?_)
  refine b_aload C dX6_init_146 rfl (lv_at hl 1 rfl) ?_
  refine b_get C (i := 0) (j := 4) (show clsX[6]? = some (RX6, TX6, 11) from rfl) uX6 (by omega) o0 (by decide) kf_X6_32 rfl dX6_init_147 ?_
  refine b_iload C dX6_init_150 rfl (lv_at hl 0 rfl) ?_
  refine b_new (ty := tyX5) C [.int 0, .int 0, .int 0, .null] (show clsX[5]? = some (RX5, TX5, 4) from rfl) uX5 tyX5_ok kx_X6_30 kt_X5 kn_X5 (by decide) (Nat.le_of_ble_eq_true rfl) (Nat.le_of_ble_eq_true rfl) dX6_init_151 (fun en42 e1 e2 => ?_)
  have o0 := (e2 0 (by omega)).trans o0
  have oq10 := (e2 10 (by omega)).trans oq10
  have oq11 := (e2 11 (by omega)).trans oq11
  have g42 : ∀ i, 1 ≤ i → i < 225 → i ≠ 10 → i ≠ 11 → en42 i = cfX G (b + i) (iniX (b + i)) := fun i h1 h2 h3_10 h3_11 => (e2 i h2).trans (g41 i h1 h2 h3_10 h3_11)
  refine b_dup C dX6_init_154 rfl ?_
  refine b_callIN C (k' := 225) (host := "CopyWhileRun") (List.mem_of_getElem? (i := 5) rfl) (n_X5 l G z (b + 225) hgad (by subst hb0; rfl)) e1 ki_X5_init kn_X5 kc_X5_init rfl (by decide +kernel) ⟨Nat.le_of_ble_eq_true rfl, Nat.le_of_ble_eq_true rfl⟩ ⟨Nat.le_of_ble_eq_true rfl, Nat.le_of_ble_eq_true rfl⟩ hl.1 (Nat.le_of_ble_eq_true rfl) dX6_init_155 (fun en43 e2 e3 => ?_)
  have o0 := (e2 0 (by omega)).trans o0
  have oq10 := (e2 10 (by omega)).trans oq10
  have oq11 := (e2 11 (by omega)).trans oq11
  have g43 : ∀ i, 1 ≤ i → i < 227 → i ≠ 10 → i ≠ 11 → en43 i = cfX G (b + i) (iniX (b + i)) := by
    intro i h1 h2 h3_10 h3_11
    by_cases q : i < 225
    · exact (e2 i q).trans (g42 i h1 q h3_10 h3_11)
    · exact e3 i (by omega) (by omega)
  have ov := (g43 225 (by decide) (by decide) (by decide) (by decide)).trans (cf_5 (show kdX (b + 225) = 5 by subst hb0; rfl) _)
  refine b_ast C (t0 := 6) (i := 11) (v := 225) (X := 1) (r := (RX5, TX5, 4)) (by decide) (by decide) oq11 rfl ov rfl (nI_pos (by decide)) (nI_clamp (by decide)) (by decide) dX6_init_158 (fun en44 e1 e2 => ?_)
  have o0 := (e2 0 (by decide)).trans o0
  have oq10 := (e2 10 (by decide)).trans oq10
  have oq11 := e1
  have g44 : ∀ i, 1 ≤ i → i < 227 → i ≠ 10 → i ≠ 11 → en44 i = cfX G (b + i) (iniX (b + i)) := fun i h1 h2 h3_10 h3_11 => (e2 i h3_11).trans (g43 i h1 h2 h3_10 h3_11)
  refine b_iinc (kp := 0) C [(1, .int (nI 2)), (0, .ref (z + b))] dX6_init_159 hl rfl (nI_succ 1).symm (by decide) rfl (fun ls hl => ?_)
  refine b_goto C 141 dX6_init_162 (by decide) ?_
  refine b_iload C dX6_init_141 rfl (lv_at hl 0 rfl) ?_
  refine b_iconst C dX6_init_142 rfl ?_
  refine b_icmp_ge C 165 dX6_init_143 (by decide) (fun h => absurd h (by decide)) (fun _ => ?_)
  refine b_aload C dX6_init_146 rfl (lv_at hl 1 rfl) ?_
  refine b_get C (i := 0) (j := 4) (show clsX[6]? = some (RX6, TX6, 11) from rfl) uX6 (by omega) o0 (by decide) kf_X6_32 rfl dX6_init_147 ?_
  refine b_iload C dX6_init_150 rfl (lv_at hl 0 rfl) ?_
  refine b_new (ty := tyX5) C [.int 0, .int 0, .int 0, .null] (show clsX[5]? = some (RX5, TX5, 4) from rfl) uX5 tyX5_ok kx_X6_30 kt_X5 kn_X5 (by decide) (Nat.le_of_ble_eq_true rfl) (Nat.le_of_ble_eq_true rfl) dX6_init_151 (fun en45 e1 e2 => ?_)
  have o0 := (e2 0 (by omega)).trans o0
  have oq10 := (e2 10 (by omega)).trans oq10
  have oq11 := (e2 11 (by omega)).trans oq11
  have g45 : ∀ i, 1 ≤ i → i < 227 → i ≠ 10 → i ≠ 11 → en45 i = cfX G (b + i) (iniX (b + i)) := fun i h1 h2 h3_10 h3_11 => (e2 i h2).trans (g44 i h1 h2 h3_10 h3_11)
  refine b_dup C dX6_init_154 rfl ?_
  refine b_callIN C (k' := 227) (host := "CopyWhileRun") (List.mem_of_getElem? (i := 5) rfl) (n_X5 l G z (b + 227) hgad (by subst hb0; rfl)) e1 ki_X5_init kn_X5 kc_X5_init rfl (by decide +kernel) ⟨Nat.le_of_ble_eq_true rfl, Nat.le_of_ble_eq_true rfl⟩ ⟨Nat.le_of_ble_eq_true rfl, Nat.le_of_ble_eq_true rfl⟩ hl.1 (Nat.le_of_ble_eq_true rfl) dX6_init_155 (fun en46 e2 e3 => ?_)
  have o0 := (e2 0 (by omega)).trans o0
  have oq10 := (e2 10 (by omega)).trans oq10
  have oq11 := (e2 11 (by omega)).trans oq11
  have g46 : ∀ i, 1 ≤ i → i < 229 → i ≠ 10 → i ≠ 11 → en46 i = cfX G (b + i) (iniX (b + i)) := by
    intro i h1 h2 h3_10 h3_11
    by_cases q : i < 227
    · exact (e2 i q).trans (g45 i h1 q h3_10 h3_11)
    · exact e3 i (by omega) (by omega)
  have ov := (g46 227 (by decide) (by decide) (by decide) (by decide)).trans (cf_5 (show kdX (b + 227) = 5 by subst hb0; rfl) _)
  refine b_ast C (t0 := 6) (i := 11) (v := 227) (X := 2) (r := (RX5, TX5, 4)) (by decide) (by decide) oq11 rfl ov rfl (nI_pos (by decide)) (nI_clamp (by decide)) (by decide) dX6_init_158 (fun en47 e1 e2 => ?_)
  have o0 := (e2 0 (by decide)).trans o0
  have oq10 := (e2 10 (by decide)).trans oq10
  have oq11 := e1
  have g47 : ∀ i, 1 ≤ i → i < 229 → i ≠ 10 → i ≠ 11 → en47 i = cfX G (b + i) (iniX (b + i)) := fun i h1 h2 h3_10 h3_11 => (e2 i h3_11).trans (g46 i h1 h2 h3_10 h3_11)
  refine b_iinc (kp := 0) C [(1, .int (nI 3)), (0, .ref (z + b))] dX6_init_159 hl rfl (nI_succ 2).symm (by decide) rfl (fun ls hl => ?_)
  refine b_goto C 141 dX6_init_162 (by decide) ?_
  refine b_iload C dX6_init_141 rfl (lv_at hl 0 rfl) ?_
  refine b_iconst C dX6_init_142 rfl ?_
  refine b_icmp_ge C 165 dX6_init_143 (by decide) (fun h => absurd h (by decide)) (fun _ => ?_)
  refine b_aload C dX6_init_146 rfl (lv_at hl 1 rfl) ?_
  refine b_get C (i := 0) (j := 4) (show clsX[6]? = some (RX6, TX6, 11) from rfl) uX6 (by omega) o0 (by decide) kf_X6_32 rfl dX6_init_147 ?_
  refine b_iload C dX6_init_150 rfl (lv_at hl 0 rfl) ?_
  refine b_new (ty := tyX5) C [.int 0, .int 0, .int 0, .null] (show clsX[5]? = some (RX5, TX5, 4) from rfl) uX5 tyX5_ok kx_X6_30 kt_X5 kn_X5 (by decide) (Nat.le_of_ble_eq_true rfl) (Nat.le_of_ble_eq_true rfl) dX6_init_151 (fun en48 e1 e2 => ?_)
  have o0 := (e2 0 (by omega)).trans o0
  have oq10 := (e2 10 (by omega)).trans oq10
  have oq11 := (e2 11 (by omega)).trans oq11
  have g48 : ∀ i, 1 ≤ i → i < 229 → i ≠ 10 → i ≠ 11 → en48 i = cfX G (b + i) (iniX (b + i)) := fun i h1 h2 h3_10 h3_11 => (e2 i h2).trans (g47 i h1 h2 h3_10 h3_11)
  refine b_dup C dX6_init_154 rfl ?_
  refine b_callIN C (k' := 229) (host := "CopyWhileRun") (List.mem_of_getElem? (i := 5) rfl) (n_X5 l G z (b + 229) hgad (by subst hb0; rfl)) e1 ki_X5_init kn_X5 kc_X5_init rfl (by decide +kernel) ⟨Nat.le_of_ble_eq_true rfl, Nat.le_of_ble_eq_true rfl⟩ ⟨Nat.le_of_ble_eq_true rfl, Nat.le_of_ble_eq_true rfl⟩ hl.1 (Nat.le_of_ble_eq_true rfl) dX6_init_155 (fun en49 e2 e3 => ?_)
  have o0 := (e2 0 (by omega)).trans o0
  have oq10 := (e2 10 (by omega)).trans oq10
  have oq11 := (e2 11 (by omega)).trans oq11
  have g49 : ∀ i, 1 ≤ i → i < 231 → i ≠ 10 → i ≠ 11 → en49 i = cfX G (b + i) (iniX (b + i)) := by
    intro i h1 h2 h3_10 h3_11
    by_cases q : i < 229
    · exact (e2 i q).trans (g48 i h1 q h3_10 h3_11)
    · exact e3 i (by omega) (by omega)
  have ov := (g49 229 (by decide) (by decide) (by decide) (by decide)).trans (cf_5 (show kdX (b + 229) = 5 by subst hb0; rfl) _)
  refine b_ast C (t0 := 6) (i := 11) (v := 229) (X := 3) (r := (RX5, TX5, 4)) (by decide) (by decide) oq11 rfl ov rfl (nI_pos (by decide)) (nI_clamp (by decide)) (by decide) dX6_init_158 (fun en50 e1 e2 => ?_)
  have o0 := (e2 0 (by decide)).trans o0
  have oq10 := (e2 10 (by decide)).trans oq10
  have oq11 := e1
  have g50 : ∀ i, 1 ≤ i → i < 231 → i ≠ 10 → i ≠ 11 → en50 i = cfX G (b + i) (iniX (b + i)) := fun i h1 h2 h3_10 h3_11 => (e2 i h3_11).trans (g49 i h1 h2 h3_10 h3_11)
  refine b_iinc (kp := 0) C [(1, .int (nI 4)), (0, .ref (z + b))] dX6_init_159 hl rfl (nI_succ 3).symm (by decide) rfl (fun ls hl => ?_)
  refine b_goto C 141 dX6_init_162 (by decide) ?_
  refine b_iload C dX6_init_141 rfl (lv_at hl 0 rfl) ?_
  refine b_iconst C dX6_init_142 rfl ?_
  refine b_icmp_ge C 165 dX6_init_143 (by decide) (fun _ => ?_) (fun h => absurd (by decide) h)
  refine b_ret (n := 231) C hr hlo dX6_init_165 (fun i hi => ?_)
  by_cases q : i = 0
  · subst q
    refine eqE_eq (o0.trans ?_)
    rw [show b + 0 = b from rfl, cf_6 hb]
    simp only [hgad, Nat.add_assoc]
  by_cases q2 : i = 10
  · subst q2
    rw [oq10, cf_13 (yk_6_3 hb), yl_6_3 hb]
    refine eqE_q (fun j hj => ?_)
    rw [hgad]
    rcases j with _ | _ | _ | j
    · exact congrArg some (by omega)
    · exact congrArg some (by omega)
    · exact congrArg some (by omega)
    · omega
  by_cases q3 : i = 11
  · subst q3
    rw [oq11, cf_14 (yk_6_4 hb), yl_6_4 hb]
    refine eqE_q (fun j hj => ?_)
    rw [hgad]
    rcases j with _ | _ | _ | _ | j
    · exact congrArg some (by omega)
    · exact congrArg some (by omega)
    · exact congrArg some (by omega)
    · exact congrArg some (by omega)
    · omega
  exact eqE_eq (g50 i (by omega) hi q2 q3)
