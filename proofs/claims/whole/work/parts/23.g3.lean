def f_X7_bit (F : Nat) (a1 : Int) (a2 : Int) (σ : St) : Option (Int) :=
  
  z_gt (z_shr a1 a2) fun v1 =>
  z_gt 1 fun v2 =>
  z_gt (z_and v1 v2) fun v3 =>
  some v3
theorem sb_X7_bit : SB yX7_bit cX7_bit 2 (some .int) 2 := ⟨ks_X7_bit, kn_X7, kc_X7_bit, by decide +kernel, by decide +kernel, by decide +kernel⟩
set_option maxRecDepth 20000 in
set_option maxHeartbeats 4000000 in
theorem m_X7_bit (l : Launch) (G : GG) (F : Nat) (a1 : Int32) (a2 : Int32) (σ : St) : ∀ r, f_X7_bit F a1.toInt a2.toInt σ = some r → MC G l yX7_bit cX7_bit 2 (some .int) { frames := 0, cells := 0, slots := 0, locals := 0 } [.int a1, .int a2] σ (vI r) σ := by
  refine MC_of (own := RX7) (vI) (fun _ => σ) (by decide +kernel) rfl (Nat.le_of_ble_eq_true rfl) ?_
  intro p e s m args below meth c C hr hlo ls hl
  have hl : lv_has ls 2 [(0, .int a1), (1, .int a2)] := hl
  unfold f_X7_bit
  refine q_iload_n C dX7_bit_0 rfl (lv_at hl 0 rfl) ?_
  refine q_iload_n C dX7_bit_1 rfl (lv_at hl 1 rfl) ?_
  refine q_ishr C dX7_bit_2 (fun v1 => ?_)
  refine q_iconst C dX7_bit_3 rfl (by decide) (fun v2 => ?_)
  refine q_iand C dX7_bit_4 (fun v3 => ?_)
  exact q_iret C hr hlo dX7_bit_5
def f_X7_image_L17 (F : Nat) (k0 : Nat) (a1 : Int)   : Nat → Int → St → Option (Int × St)
  | 0, _, _ => none
  | n + 1, x6, σ =>
    z_gt 246 fun v7 =>
    if v7 ≤ x6 then (
      z_gt 1 fun v8 =>
      z_ix a1 3 <| z_bo v8 <| z_sg (z_up σ (k0 + 3) a1 v8) fun σ1 =>
      z_gt 0 fun v9 =>
      some (v9, σ1))
    else (
      z_gt 246 fun v10 =>
      z_ck (v10 * a1) fun v11 =>
      z_ck (v11 + x6) fun v12 =>
      z_ix x6 246 <| z_gt (σ (k0 + 1) x6) fun v13 =>
      z_ix v12 738 <| z_sg (z_up σ (k0 + 2) v12 v13) fun σ2 =>
      z_ck (x6 + 1) fun v14 =>
      f_X7_image_L17 F k0 a1 n v14 σ2)

def f_X7_image (F : Nat) (k0 : Nat) (a1 : Int) (σ : St) : Option (Int × St) :=
  z_ob 7 k0 <| 
  z_gt a1 fun v1 =>
  z_gt 0 fun v2 =>
  z_gt 2 fun v3 =>
  z_c1 (f_X7_in F v1 v2 v3 σ) fun v4 =>
  if ¬ v4 = 0 then (
    z_gt 0 fun v5 =>
    f_X7_image_L17 F k0 a1 F v5 σ)
  else (
    z_gt (-2) fun v15 =>
    some (v15, σ))
theorem cb_X7_image : CB yX7_image cX7_image 3 (some .int) 1 := ⟨ki_X7_image, kq_X7_image, kn_X7, kc_X7_image, by decide +kernel, by decide +kernel, by decide +kernel⟩
set_option maxRecDepth 20000 in
set_option maxHeartbeats 4000000 in
theorem m_X7_image (l : Launch) (G : GG) (F : Nat) (k0 : Nat) (a1 : Int32) (σ : St) : ∀ r, f_X7_image F k0 a1.toInt σ = some r → MC G l yX7_image cX7_image 3 (some .int) { frames := 1, cells := 0, slots := 0, locals := 25 } [.ref (gad G k0), .int a1] σ (vI r.1) r.2 := by
  refine MC_of (own := RX7) (fun r : Int × St => vI r.1) (fun r : Int × St => r.2) (by decide +kernel) rfl (Nat.le_of_ble_eq_true rfl) ?_
  intro p e s m args below meth c C hr hlo ls hl
  have hl : lv_has ls 3 [(0, .ref (gad G k0)), (1, .int a1)] := hl
  unfold f_X7_image
  refine q_ob (fun hk0 => ?_)
  have B17 : ∀ (n : Nat) (x6 : Int32) (σ : St) (ls : Array Slot), lv_has ls 3 [(0, .ref (gad G k0)), (1, .int a1), (2, .int x6)] → Sim G (AG G) 0 0 p l e { frames := 1, cells := 0, slots := 0, locals := 25 } s m args below meth c (fun r : Int × St => MQ below (QC G (vI r.1) (r.2)) args s 0 0 (AG G)) σ (f_X7_image_L17 F k0 a1.toInt   n x6.toInt σ) (F0 m 17 ls []) := by
    intro n
    induction n with
    | zero =>
      intro x6 σ ls hl
      exact sim_none
    | succ n ih =>
      intro x6 σ ls hl
      rw [f_X7_image_L17]
      refine q_iload_n C dX7_image_17 rfl (lv_at hl 2 rfl) ?_
      refine q_sipush C dX7_image_18 rfl (by decide) (fun v7 => ?_)
      refine q_icmp_ge C 48 dX7_image_21 (by decide) ?_ ?_
      · refine q_aload_n C dX7_image_48 rfl (lv_at hl 0 rfl) ?_
        refine g_7_3 C hk0 kf_X7_16 dX7_image_49 ?_
        refine q_iload_n C dX7_image_52 rfl (lv_at hl 1 rfl) ?_
        refine q_iconst C dX7_image_53 rfl (by decide) (fun v8 => ?_)
        refine a_zst C (yk_7_3 hk0) (yl_7_3 hk0) dX7_image_54 (q_sg (fun σ1 => ?_))
        refine q_iconst C dX7_image_55 rfl (by decide) (fun v9 => ?_)
        exact q_iretE C hr hlo dX7_image_56
      · refine q_aload_n C dX7_image_24 rfl (lv_at hl 0 rfl) ?_
        refine g_7_2 C hk0 kf_X7_13 dX7_image_25 ?_
        refine q_sipush C dX7_image_28 rfl (by decide) (fun v10 => ?_)
        refine q_iload_n C dX7_image_31 rfl (lv_at hl 1 rfl) ?_
        refine q_imul C dX7_image_32 (fun v11 => ?_)
        refine q_iload_n C dX7_image_33 rfl (lv_at hl 2 rfl) ?_
        refine q_iadd C dX7_image_34 (fun v12 => ?_)
        refine q_aload_n C dX7_image_35 rfl (lv_at hl 0 rfl) ?_
        refine g_7_1 C hk0 kf_X7_9 dX7_image_36 ?_
        refine q_iload_n C dX7_image_39 rfl (lv_at hl 2 rfl) ?_
        refine a_ild C (yk_7_1 hk0) (yl_7_1 hk0) dX7_image_40 (fun v13 => ?_)
        refine a_ist C (yk_7_2 hk0) (yl_7_2 hk0) dX7_image_41 (q_sg (fun σ2 => ?_))
        refine q_iinc (k := 2) C (fun v14 => [(2, .int v14), (0, .ref (gad G k0)), (1, .int a1)]) dX7_image_42 hl rfl (by decide) (by decide) (fun _ => rfl) (fun v14 ls hl => ?_)
        refine q_goto C 17 dX7_image_45 (by decide) ?_
        exact ih v14 σ2 ls (lv_sub hl [1, 2, 0] rfl)
  refine q_iload_n C dX7_image_0 rfl (lv_at hl 1 rfl) ?_
  refine q_i2l C dX7_image_1 (fun v1 => ?_)
  refine q_lconst C dX7_image_2 rfl (by decide) (fun v2 => ?_)
  refine q_ldc2 C kk_X7_101 dX7_image_3 (by decide) (fun v3 => ?_)
  refine q_c1i C (fun r h => cr_S (As := [.long v1, .long v2, .long v3]) (rest := []) C (m_X7_in l G F v1 v2 v3 σ r h) sb_X7_in kl_X7_103 ⟨Nat.le_of_ble_eq_true rfl, Nat.le_of_ble_eq_true rfl⟩ ⟨Nat.zero_le _, Nat.zero_le _⟩ hl.1 rfl (Nat.le_of_ble_eq_true rfl) dX7_image_6 rfl) (fun v4 => ?_)
  refine q_if_ne C 15 dX7_image_9 (by decide) ?_ ?_
  · refine q_iconst C dX7_image_15 rfl (by decide) (fun v5 => ?_)
    refine q_istore_n C [(2, .int v5), (0, .ref (gad G k0)), (1, .int a1)] dX7_image_16 rfl hl (by decide) rfl (fun ls hl => ?_)
    exact B17 F v5 σ ls (lv_sub hl [1, 2, 0] rfl)
  · refine q_bipush C dX7_image_12 rfl (by decide) (fun v15 => ?_)
    exact q_iretE C hr hlo dX7_image_14
def f_X7_back_L29 (F : Nat) (k0 : Nat) (a1 : Int)   : Nat → Int → St → Option (Int × St)
  | 0, _, _ => none
  | n + 1, x7, σ =>
    z_gt 246 fun v8 =>
    if v8 ≤ x7 then (
      z_gt 0 fun v9 =>
      some (v9, σ))
    else (
      z_gt 246 fun v10 =>
      z_ck (v10 * a1) fun v11 =>
      z_ck (v11 + x7) fun v12 =>
      z_ix v12 738 <| z_gt (σ (k0 + 2) v12) fun v13 =>
      z_ix x7 246 <| z_sg (z_up σ (k0 + 1) x7 v13) fun σ1 =>
      z_ck (x7 + 1) fun v14 =>
      f_X7_back_L29 F k0 a1 n v14 σ1)

def f_X7_back (F : Nat) (k0 : Nat) (a1 : Int) (σ : St) : Option (Int × St) :=
  z_ob 7 k0 <| 
  z_gt a1 fun v1 =>
  z_gt 0 fun v2 =>
  z_gt 2 fun v3 =>
  z_c1 (f_X7_in F v1 v2 v3 σ) fun v4 =>
  if ¬ v4 = 0 then (
    z_ix a1 3 <| z_gt (σ (k0 + 3) a1) fun v5 =>
    if ¬ v5 = 0 then (
      z_gt 0 fun v6 =>
      f_X7_back_L29 F k0 a1 F v6 σ)
    else (
      z_gt (-6) fun v15 =>
      some (v15, σ)))
  else (
    z_gt (-2) fun v16 =>
    some (v16, σ))
theorem cb_X7_back : CB yX7_back cX7_back 3 (some .int) 1 := ⟨ki_X7_back, kq_X7_back, kn_X7, kc_X7_back, by decide +kernel, by decide +kernel, by decide +kernel⟩
set_option maxRecDepth 20000 in
set_option maxHeartbeats 4000000 in
theorem m_X7_back (l : Launch) (G : GG) (F : Nat) (k0 : Nat) (a1 : Int32) (σ : St) : ∀ r, f_X7_back F k0 a1.toInt σ = some r → MC G l yX7_back cX7_back 3 (some .int) { frames := 1, cells := 0, slots := 0, locals := 25 } [.ref (gad G k0), .int a1] σ (vI r.1) r.2 := by
  refine MC_of (own := RX7) (fun r : Int × St => vI r.1) (fun r : Int × St => r.2) (by decide +kernel) rfl (Nat.le_of_ble_eq_true rfl) ?_
  intro p e s m args below meth c C hr hlo ls hl
  have hl : lv_has ls 3 [(0, .ref (gad G k0)), (1, .int a1)] := hl
  unfold f_X7_back
  refine q_ob (fun hk0 => ?_)
  have B29 : ∀ (n : Nat) (x7 : Int32) (σ : St) (ls : Array Slot), lv_has ls 3 [(0, .ref (gad G k0)), (1, .int a1), (2, .int x7)] → Sim G (AG G) 0 0 p l e { frames := 1, cells := 0, slots := 0, locals := 25 } s m args below meth c (fun r : Int × St => MQ below (QC G (vI r.1) (r.2)) args s 0 0 (AG G)) σ (f_X7_back_L29 F k0 a1.toInt   n x7.toInt σ) (F0 m 29 ls []) := by
    intro n
    induction n with
    | zero =>
      intro x7 σ ls hl
      exact sim_none
    | succ n ih =>
      intro x7 σ ls hl
      rw [f_X7_back_L29]
      refine q_iload_n C dX7_back_29 rfl (lv_at hl 2 rfl) ?_
      refine q_sipush C dX7_back_30 rfl (by decide) (fun v8 => ?_)
      refine q_icmp_ge C 60 dX7_back_33 (by decide) ?_ ?_
      · refine q_iconst C dX7_back_60 rfl (by decide) (fun v9 => ?_)
        exact q_iretE C hr hlo dX7_back_61
      · refine q_aload_n C dX7_back_36 rfl (lv_at hl 0 rfl) ?_
        refine g_7_1 C hk0 kf_X7_9 dX7_back_37 ?_
        refine q_iload_n C dX7_back_40 rfl (lv_at hl 2 rfl) ?_
        refine q_aload_n C dX7_back_41 rfl (lv_at hl 0 rfl) ?_
        refine g_7_2 C hk0 kf_X7_13 dX7_back_42 ?_
        refine q_sipush C dX7_back_45 rfl (by decide) (fun v10 => ?_)
        refine q_iload_n C dX7_back_48 rfl (lv_at hl 1 rfl) ?_
        refine q_imul C dX7_back_49 (fun v11 => ?_)
        refine q_iload_n C dX7_back_50 rfl (lv_at hl 2 rfl) ?_
        refine q_iadd C dX7_back_51 (fun v12 => ?_)
        refine a_ild C (yk_7_2 hk0) (yl_7_2 hk0) dX7_back_52 (fun v13 => ?_)
        refine a_ist C (yk_7_1 hk0) (yl_7_1 hk0) dX7_back_53 (q_sg (fun σ1 => ?_))
        refine q_iinc (k := 2) C (fun v14 => [(2, .int v14), (0, .ref (gad G k0)), (1, .int a1)]) dX7_back_54 hl rfl (by decide) (by decide) (fun _ => rfl) (fun v14 ls hl => ?_)
        refine q_goto C 29 dX7_back_57 (by decide) ?_
        exact ih v14 σ1 ls (lv_sub hl [1, 2, 0] rfl)
  refine q_iload_n C dX7_back_0 rfl (lv_at hl 1 rfl) ?_
  refine q_i2l C dX7_back_1 (fun v1 => ?_)
  refine q_lconst C dX7_back_2 rfl (by decide) (fun v2 => ?_)
  refine q_ldc2 C kk_X7_101 dX7_back_3 (by decide) (fun v3 => ?_)
  refine q_c1i C (fun r h => cr_S (As := [.long v1, .long v2, .long v3]) (rest := []) C (m_X7_in l G F v1 v2 v3 σ r h) sb_X7_in kl_X7_103 ⟨Nat.le_of_ble_eq_true rfl, Nat.le_of_ble_eq_true rfl⟩ ⟨Nat.zero_le _, Nat.zero_le _⟩ hl.1 rfl (Nat.le_of_ble_eq_true rfl) dX7_back_6 rfl) (fun v4 => ?_)
  refine q_if_ne C 15 dX7_back_9 (by decide) ?_ ?_
  · refine q_aload_n C dX7_back_15 rfl (lv_at hl 0 rfl) ?_
    refine g_7_3 C hk0 kf_X7_16 dX7_back_16 ?_
    refine q_iload_n C dX7_back_19 rfl (lv_at hl 1 rfl) ?_
    refine a_zld C (yk_7_3 hk0) (yl_7_3 hk0) dX7_back_20 (fun v5 => ?_)
    refine q_if_ne C 27 dX7_back_21 (by decide) ?_ ?_
    · refine q_iconst C dX7_back_27 rfl (by decide) (fun v6 => ?_)
      refine q_istore_n C [(2, .int v6), (0, .ref (gad G k0)), (1, .int a1)] dX7_back_28 rfl hl (by decide) rfl (fun ls hl => ?_)
      exact B29 F v6 σ ls (lv_sub hl [1, 2, 0] rfl)
    · refine q_bipush C dX7_back_24 rfl (by decide) (fun v15 => ?_)
      exact q_iretE C hr hlo dX7_back_26
  · refine q_bipush C dX7_back_12 rfl (by decide) (fun v16 => ?_)
    exact q_iretE C hr hlo dX7_back_14
def f_X7_isStore (F : Nat) (k0 : Nat) (σ : St) : Option (Int) :=
  z_ob 7 k0 <| 
  z_gt 5 fun v1 =>
  z_ix v1 246 <| z_gt (σ (k0 + 1) v1) fun v2 =>
  if v2 ≤ 0 then (
    z_gt 0 fun v3 =>
    z_bo v3 <| some v3)
  else (
    z_gt 1 fun v4 =>
    z_bo v4 <| some v4)
theorem cb_X7_isStore : CB yX7_isStore cX7_isStore 1 (some .boolean) 0 := ⟨ki_X7_isStore, kq_X7_isStore, kn_X7, kc_X7_isStore, by decide +kernel, by decide +kernel, by decide +kernel⟩
set_option maxRecDepth 20000 in
set_option maxHeartbeats 4000000 in
theorem m_X7_isStore (l : Launch) (G : GG) (F : Nat) (k0 : Nat) (σ : St) : ∀ r, f_X7_isStore F k0 σ = some r → MC G l yX7_isStore cX7_isStore 1 (some .boolean) { frames := 0, cells := 0, slots := 0, locals := 0 } [.ref (gad G k0)] σ (vI r) σ := by
  refine MC_of (own := RX7) (vI) (fun _ => σ) (by decide +kernel) rfl (Nat.le_of_ble_eq_true rfl) ?_
  intro p e s m args below meth c C hr hlo ls hl
  have hl : lv_has ls 1 [(0, .ref (gad G k0))] := hl
  unfold f_X7_isStore
  refine q_ob (fun hk0 => ?_)
  refine q_aload_n C dX7_isStore_0 rfl (lv_at hl 0 rfl) ?_
  refine g_7_1 C hk0 kf_X7_9 dX7_isStore_1 ?_
  refine q_iconst C dX7_isStore_4 rfl (by decide) (fun v1 => ?_)
  refine a_ild C (yk_7_1 hk0) (yl_7_1 hk0) dX7_isStore_5 (fun v2 => ?_)
  refine q_if_le C 13 dX7_isStore_6 (by decide) ?_ ?_
  · refine q_iconst C dX7_isStore_13 rfl (by decide) (fun v3 => ?_)
    exact q_zret C hr hlo dX7_isStore_14
  · refine q_iconst C dX7_isStore_9 rfl (by decide) (fun v4 => ?_)
    refine q_goto C 14 dX7_isStore_10 (by decide) ?_
    exact q_zret C hr hlo dX7_isStore_14
def f_X7_cells (F : Nat) (k0 : Nat) (σ : St) : Option (Int) :=
  z_ob 7 k0 <| 
  z_gt 0 fun v1 =>
  z_ix v1 246 <| z_gt (σ (k0 + 1) v1) fun v2 =>
  some v2
theorem cb_X7_cells : CB yX7_cells cX7_cells 1 (some .int) 0 := ⟨ki_X7_cells, kq_X7_cells, kn_X7, kc_X7_cells, by decide +kernel, by decide +kernel, by decide +kernel⟩
set_option maxRecDepth 20000 in
set_option maxHeartbeats 4000000 in
theorem m_X7_cells (l : Launch) (G : GG) (F : Nat) (k0 : Nat) (σ : St) : ∀ r, f_X7_cells F k0 σ = some r → MC G l yX7_cells cX7_cells 1 (some .int) { frames := 0, cells := 0, slots := 0, locals := 0 } [.ref (gad G k0)] σ (vI r) σ := by
  refine MC_of (own := RX7) (vI) (fun _ => σ) (by decide +kernel) rfl (Nat.le_of_ble_eq_true rfl) ?_
  intro p e s m args below meth c C hr hlo ls hl
  have hl : lv_has ls 1 [(0, .ref (gad G k0))] := hl
  unfold f_X7_cells
  refine q_ob (fun hk0 => ?_)
  refine q_aload_n C dX7_cells_0 rfl (lv_at hl 0 rfl) ?_
  refine g_7_1 C hk0 kf_X7_9 dX7_cells_1 ?_
  refine q_iconst C dX7_cells_4 rfl (by decide) (fun v1 => ?_)
  refine a_ild C (yk_7_1 hk0) (yl_7_1 hk0) dX7_cells_5 (fun v2 => ?_)
  exact q_iret C hr hlo dX7_cells_6
def f_X7_events (F : Nat) (k0 : Nat) (σ : St) : Option (Int) :=
  z_ob 7 k0 <| 
  z_gt 3 fun v1 =>
  z_ix v1 246 <| z_gt (σ (k0 + 1) v1) fun v2 =>
  z_gt 4 fun v3 =>
  z_ix v3 246 <| z_gt (σ (k0 + 1) v3) fun v4 =>
  z_ck (v2 + v4) fun v5 =>
  some v5
theorem cb_X7_events : CB yX7_events cX7_events 1 (some .int) 0 := ⟨ki_X7_events, kq_X7_events, kn_X7, kc_X7_events, by decide +kernel, by decide +kernel, by decide +kernel⟩
set_option maxRecDepth 20000 in
set_option maxHeartbeats 4000000 in
theorem m_X7_events (l : Launch) (G : GG) (F : Nat) (k0 : Nat) (σ : St) : ∀ r, f_X7_events F k0 σ = some r → MC G l yX7_events cX7_events 1 (some .int) { frames := 0, cells := 0, slots := 0, locals := 0 } [.ref (gad G k0)] σ (vI r) σ := by
  refine MC_of (own := RX7) (vI) (fun _ => σ) (by decide +kernel) rfl (Nat.le_of_ble_eq_true rfl) ?_
  intro p e s m args below meth c C hr hlo ls hl
  have hl : lv_has ls 1 [(0, .ref (gad G k0))] := hl
  unfold f_X7_events
  refine q_ob (fun hk0 => ?_)
  refine q_aload_n C dX7_events_0 rfl (lv_at hl 0 rfl) ?_
  refine g_7_1 C hk0 kf_X7_9 dX7_events_1 ?_
  refine q_iconst C dX7_events_4 rfl (by decide) (fun v1 => ?_)
  refine a_ild C (yk_7_1 hk0) (yl_7_1 hk0) dX7_events_5 (fun v2 => ?_)
  refine q_aload_n C dX7_events_6 rfl (lv_at hl 0 rfl) ?_
  refine g_7_1 C hk0 kf_X7_9 dX7_events_7 ?_
  refine q_iconst C dX7_events_10 rfl (by decide) (fun v3 => ?_)
  refine a_ild C (yk_7_1 hk0) (yl_7_1 hk0) dX7_events_11 (fun v4 => ?_)
  refine q_iadd C dX7_events_12 (fun v5 => ?_)
  exact q_iret C hr hlo dX7_events_13
def f_X7_isCell (F : Nat) (k0 : Nat) (a1 : Int) (σ : St) : Option (Int) :=
  z_ob 7 k0 <| 
  z_gt 0 fun v1 =>
  z_c1 (f_X7_cells F k0 σ) fun v2 =>
  z_gt 1 fun v3 =>
  z_ck (v2 - v3) fun v4 =>
  z_gt v4 fun v5 =>
  z_c1 (f_X7_in F a1 v1 v5 σ) fun v6 =>
  z_bo v6 <| some v6
theorem cb_X7_isCell : CB yX7_isCell cX7_isCell 3 (some .boolean) 1 := ⟨ki_X7_isCell, kq_X7_isCell, kn_X7, kc_X7_isCell, by decide +kernel, by decide +kernel, by decide +kernel⟩
set_option maxRecDepth 20000 in
set_option maxHeartbeats 4000000 in
theorem m_X7_isCell (l : Launch) (G : GG) (F : Nat) (k0 : Nat) (a1 : Int64) (σ : St) : ∀ r, f_X7_isCell F k0 a1.toInt σ = some r → MC G l yX7_isCell cX7_isCell 3 (some .boolean) { frames := 1, cells := 0, slots := 0, locals := 25 } [.ref (gad G k0), .long a1] σ (vI r) σ := by
  refine MC_of (own := RX7) (vI) (fun _ => σ) (by decide +kernel) rfl (Nat.le_of_ble_eq_true rfl) ?_
  intro p e s m args below meth c C hr hlo ls hl
  have hl : lv_has ls 3 [(0, .ref (gad G k0)), (1, .long a1)] := hl
  unfold f_X7_isCell
  refine q_ob (fun hk0 => ?_)
  refine q_lload_n C dX7_isCell_0 rfl (lv_at hl 1 rfl) ?_
  refine q_lconst C dX7_isCell_1 rfl (by decide) (fun v1 => ?_)
  refine q_aload_n C dX7_isCell_2 rfl (lv_at hl 0 rfl) ?_
  refine q_c1i C (fun r h => cr_V (As := []) (rest := [.long v1, .long a1]) C (m_X7_cells l G F k0 σ r h) cb_X7_cells hk0 (by decide) rfl (cf_7 hk0 _) rfl kl_X7_107 ⟨Nat.le_of_ble_eq_true rfl, Nat.le_of_ble_eq_true rfl⟩ ⟨Nat.zero_le _, Nat.zero_le _⟩ hl.1 rfl (Nat.le_of_ble_eq_true rfl) dX7_isCell_3 rfl) (fun v2 => ?_)
  refine q_iconst C dX7_isCell_6 rfl (by decide) (fun v3 => ?_)
  refine q_isub C dX7_isCell_7 (fun v4 => ?_)
  refine q_i2l C dX7_isCell_8 (fun v5 => ?_)
  refine q_c1i C (fun r h => cr_S (As := [.long a1, .long v1, .long v5]) (rest := []) C (m_X7_in l G F a1 v1 v5 σ r h) sb_X7_in kl_X7_103 ⟨Nat.le_of_ble_eq_true rfl, Nat.le_of_ble_eq_true rfl⟩ ⟨Nat.zero_le _, Nat.zero_le _⟩ hl.1 rfl (Nat.le_of_ble_eq_true rfl) dX7_isCell_9 rfl) (fun v6 => ?_)
  exact q_zret C hr hlo dX7_isCell_12
def f_X7_isEvent (F : Nat) (k0 : Nat) (a1 : Int) (σ : St) : Option (Int) :=
  z_ob 7 k0 <| 
  z_gt 0 fun v1 =>
  z_c1 (f_X7_events F k0 σ) fun v2 =>
  z_gt 1 fun v3 =>
  z_ck (v2 - v3) fun v4 =>
  z_gt v4 fun v5 =>
  z_c1 (f_X7_in F a1 v1 v5 σ) fun v6 =>
  z_bo v6 <| some v6
theorem cb_X7_isEvent : CB yX7_isEvent cX7_isEvent 3 (some .boolean) 1 := ⟨ki_X7_isEvent, kq_X7_isEvent, kn_X7, kc_X7_isEvent, by decide +kernel, by decide +kernel, by decide +kernel⟩
set_option maxRecDepth 20000 in
set_option maxHeartbeats 4000000 in
theorem m_X7_isEvent (l : Launch) (G : GG) (F : Nat) (k0 : Nat) (a1 : Int64) (σ : St) : ∀ r, f_X7_isEvent F k0 a1.toInt σ = some r → MC G l yX7_isEvent cX7_isEvent 3 (some .boolean) { frames := 1, cells := 0, slots := 0, locals := 25 } [.ref (gad G k0), .long a1] σ (vI r) σ := by
  refine MC_of (own := RX7) (vI) (fun _ => σ) (by decide +kernel) rfl (Nat.le_of_ble_eq_true rfl) ?_
  intro p e s m args below meth c C hr hlo ls hl
  have hl : lv_has ls 3 [(0, .ref (gad G k0)), (1, .long a1)] := hl
  unfold f_X7_isEvent
  refine q_ob (fun hk0 => ?_)
  refine q_lload_n C dX7_isEvent_0 rfl (lv_at hl 1 rfl) ?_
  refine q_lconst C dX7_isEvent_1 rfl (by decide) (fun v1 => ?_)
  refine q_aload_n C dX7_isEvent_2 rfl (lv_at hl 0 rfl) ?_
  refine q_c1i C (fun r h => cr_V (As := []) (rest := [.long v1, .long a1]) C (m_X7_events l G F k0 σ r h) cb_X7_events hk0 (by decide) rfl (cf_7 hk0 _) rfl kl_X7_111 ⟨Nat.le_of_ble_eq_true rfl, Nat.le_of_ble_eq_true rfl⟩ ⟨Nat.zero_le _, Nat.zero_le _⟩ hl.1 rfl (Nat.le_of_ble_eq_true rfl) dX7_isEvent_3 rfl) (fun v2 => ?_)
  refine q_iconst C dX7_isEvent_6 rfl (by decide) (fun v3 => ?_)
  refine q_isub C dX7_isEvent_7 (fun v4 => ?_)
  refine q_i2l C dX7_isEvent_8 (fun v5 => ?_)
  refine q_c1i C (fun r h => cr_S (As := [.long a1, .long v1, .long v5]) (rest := []) C (m_X7_in l G F a1 v1 v5 σ r h) sb_X7_in kl_X7_103 ⟨Nat.le_of_ble_eq_true rfl, Nat.le_of_ble_eq_true rfl⟩ ⟨Nat.zero_le _, Nat.zero_le _⟩ hl.1 rfl (Nat.le_of_ble_eq_true rfl) dX7_isEvent_9 rfl) (fun v6 => ?_)
  exact q_zret C hr hlo dX7_isEvent_12
def f_X7_isTold (F : Nat) (k0 : Nat) (a1 : Int) (σ : St) : Option (Int) :=
  z_ob 7 k0 <| 
  z_gt 0 fun v1 =>
  z_gt 3 fun v2 =>
  z_ix v2 246 <| z_gt (σ (k0 + 1) v2) fun v3 =>
  z_gt 1 fun v4 =>
  z_ck (v3 - v4) fun v5 =>
  z_gt v5 fun v6 =>
  z_c1 (f_X7_in F a1 v1 v6 σ) fun v7 =>
  z_bo v7 <| some v7
theorem cb_X7_isTold : CB yX7_isTold cX7_isTold 3 (some .boolean) 1 := ⟨ki_X7_isTold, kq_X7_isTold, kn_X7, kc_X7_isTold, by decide +kernel, by decide +kernel, by decide +kernel⟩
set_option maxRecDepth 20000 in
set_option maxHeartbeats 4000000 in
theorem m_X7_isTold (l : Launch) (G : GG) (F : Nat) (k0 : Nat) (a1 : Int64) (σ : St) : ∀ r, f_X7_isTold F k0 a1.toInt σ = some r → MC G l yX7_isTold cX7_isTold 3 (some .boolean) { frames := 1, cells := 0, slots := 0, locals := 25 } [.ref (gad G k0), .long a1] σ (vI r) σ := by
  refine MC_of (own := RX7) (vI) (fun _ => σ) (by decide +kernel) rfl (Nat.le_of_ble_eq_true rfl) ?_
  intro p e s m args below meth c C hr hlo ls hl
  have hl : lv_has ls 3 [(0, .ref (gad G k0)), (1, .long a1)] := hl
  unfold f_X7_isTold
  refine q_ob (fun hk0 => ?_)
  refine q_lload_n C dX7_isTold_0 rfl (lv_at hl 1 rfl) ?_
  refine q_lconst C dX7_isTold_1 rfl (by decide) (fun v1 => ?_)
  refine q_aload_n C dX7_isTold_2 rfl (lv_at hl 0 rfl) ?_
  refine g_7_1 C hk0 kf_X7_9 dX7_isTold_3 ?_
  refine q_iconst C dX7_isTold_6 rfl (by decide) (fun v2 => ?_)
  refine a_ild C (yk_7_1 hk0) (yl_7_1 hk0) dX7_isTold_7 (fun v3 => ?_)
  refine q_iconst C dX7_isTold_8 rfl (by decide) (fun v4 => ?_)
  refine q_isub C dX7_isTold_9 (fun v5 => ?_)
  refine q_i2l C dX7_isTold_10 (fun v6 => ?_)
  refine q_c1i C (fun r h => cr_S (As := [.long a1, .long v1, .long v6]) (rest := []) C (m_X7_in l G F a1 v1 v6 σ r h) sb_X7_in kl_X7_103 ⟨Nat.le_of_ble_eq_true rfl, Nat.le_of_ble_eq_true rfl⟩ ⟨Nat.zero_le _, Nat.zero_le _⟩ hl.1 rfl (Nat.le_of_ble_eq_true rfl) dX7_isTold_11 rfl) (fun v7 => ?_)
  exact q_zret C hr hlo dX7_isTold_14
def f_X7_isTick (F : Nat) (k0 : Nat) (a1 : Int) (σ : St) : Option (Int) :=
  z_ob 7 k0 <| 
  z_c1 (f_X7_isStore F k0 σ) fun v1 =>
  if v1 = 0 then (
    z_gt 0 fun v2 =>
    z_bo v2 <| some v2)
  else (
    z_gt 0 fun v3 =>
    z_c1 (f_X7_events F k0 σ) fun v4 =>
    z_gt v4 fun v5 =>
    z_c1 (f_X7_in F a1 v3 v5 σ) fun v6 =>
    if v6 = 0 then (
      z_gt 0 fun v7 =>
      z_bo v7 <| some v7)
    else (
      z_gt 1 fun v8 =>
      z_bo v8 <| some v8))
theorem cb_X7_isTick : CB yX7_isTick cX7_isTick 3 (some .boolean) 1 := ⟨ki_X7_isTick, kq_X7_isTick, kn_X7, kc_X7_isTick, by decide +kernel, by decide +kernel, by decide +kernel⟩
set_option maxRecDepth 20000 in
set_option maxHeartbeats 4000000 in
theorem m_X7_isTick (l : Launch) (G : GG) (F : Nat) (k0 : Nat) (a1 : Int64) (σ : St) : ∀ r, f_X7_isTick F k0 a1.toInt σ = some r → MC G l yX7_isTick cX7_isTick 3 (some .boolean) { frames := 1, cells := 0, slots := 0, locals := 25 } [.ref (gad G k0), .long a1] σ (vI r) σ := by
  refine MC_of (own := RX7) (vI) (fun _ => σ) (by decide +kernel) rfl (Nat.le_of_ble_eq_true rfl) ?_
  intro p e s m args below meth c C hr hlo ls hl
  have hl : lv_has ls 3 [(0, .ref (gad G k0)), (1, .long a1)] := hl
  unfold f_X7_isTick
  refine q_ob (fun hk0 => ?_)
  refine q_aload_n C dX7_isTick_0 rfl (lv_at hl 0 rfl) ?_
  refine q_c1i C (fun r h => cr_V (As := []) (rest := []) C (m_X7_isStore l G F k0 σ r h) cb_X7_isStore hk0 (by decide) rfl (cf_7 hk0 _) rfl kl_X7_114 ⟨Nat.le_of_ble_eq_true rfl, Nat.le_of_ble_eq_true rfl⟩ ⟨Nat.zero_le _, Nat.zero_le _⟩ hl.1 rfl (Nat.le_of_ble_eq_true rfl) dX7_isTick_1 rfl) (fun v1 => ?_)
  refine q_if_eq C 24 dX7_isTick_4 (by decide) ?_ ?_
  · refine q_iconst C dX7_isTick_24 rfl (by decide) (fun v2 => ?_)
    exact q_zret C hr hlo dX7_isTick_25
  · refine q_lload_n C dX7_isTick_7 rfl (lv_at hl 1 rfl) ?_
    refine q_lconst C dX7_isTick_8 rfl (by decide) (fun v3 => ?_)
    refine q_aload_n C dX7_isTick_9 rfl (lv_at hl 0 rfl) ?_
    refine q_c1i C (fun r h => cr_V (As := []) (rest := [.long v3, .long a1]) C (m_X7_events l G F k0 σ r h) cb_X7_events hk0 (by decide) rfl (cf_7 hk0 _) rfl kl_X7_111 ⟨Nat.le_of_ble_eq_true rfl, Nat.le_of_ble_eq_true rfl⟩ ⟨Nat.zero_le _, Nat.zero_le _⟩ hl.1 rfl (Nat.le_of_ble_eq_true rfl) dX7_isTick_10 rfl) (fun v4 => ?_)
    refine q_i2l C dX7_isTick_13 (fun v5 => ?_)
    refine q_c1i C (fun r h => cr_S (As := [.long a1, .long v3, .long v5]) (rest := []) C (m_X7_in l G F a1 v3 v5 σ r h) sb_X7_in kl_X7_103 ⟨Nat.le_of_ble_eq_true rfl, Nat.le_of_ble_eq_true rfl⟩ ⟨Nat.zero_le _, Nat.zero_le _⟩ hl.1 rfl (Nat.le_of_ble_eq_true rfl) dX7_isTick_14 rfl) (fun v6 => ?_)
    refine q_if_eq C 24 dX7_isTick_17 (by decide) ?_ ?_
    · refine q_iconst C dX7_isTick_24 rfl (by decide) (fun v7 => ?_)
      exact q_zret C hr hlo dX7_isTick_25
    · refine q_iconst C dX7_isTick_20 rfl (by decide) (fun v8 => ?_)
      refine q_goto C 25 dX7_isTick_21 (by decide) ?_
      exact q_zret C hr hlo dX7_isTick_25
def f_X7_kindOf (F : Nat) (k0 : Nat) (a1 : Int) (σ : St) : Option (Int) :=
  z_ob 7 k0 <| 
  z_gt 6 fun v1 =>
  z_gt 4 fun v2 =>
  z_ck (v2 * a1) fun v3 =>
  z_ck (v1 + v3) fun v4 =>
  z_ix v4 246 <| z_gt (σ (k0 + 1) v4) fun v5 =>
  some v5
theorem cb_X7_kindOf : CB yX7_kindOf cX7_kindOf 2 (some .int) 1 := ⟨ki_X7_kindOf, kq_X7_kindOf, kn_X7, kc_X7_kindOf, by decide +kernel, by decide +kernel, by decide +kernel⟩
set_option maxRecDepth 20000 in
set_option maxHeartbeats 4000000 in
theorem m_X7_kindOf (l : Launch) (G : GG) (F : Nat) (k0 : Nat) (a1 : Int32) (σ : St) : ∀ r, f_X7_kindOf F k0 a1.toInt σ = some r → MC G l yX7_kindOf cX7_kindOf 2 (some .int) { frames := 0, cells := 0, slots := 0, locals := 0 } [.ref (gad G k0), .int a1] σ (vI r) σ := by
  refine MC_of (own := RX7) (vI) (fun _ => σ) (by decide +kernel) rfl (Nat.le_of_ble_eq_true rfl) ?_
  intro p e s m args below meth c C hr hlo ls hl
  have hl : lv_has ls 2 [(0, .ref (gad G k0)), (1, .int a1)] := hl
  unfold f_X7_kindOf
  refine q_ob (fun hk0 => ?_)
  refine q_aload_n C dX7_kindOf_0 rfl (lv_at hl 0 rfl) ?_
  refine g_7_1 C hk0 kf_X7_9 dX7_kindOf_1 ?_
  refine q_bipush C dX7_kindOf_4 rfl (by decide) (fun v1 => ?_)
  refine q_iconst C dX7_kindOf_6 rfl (by decide) (fun v2 => ?_)
  refine q_iload_n C dX7_kindOf_7 rfl (lv_at hl 1 rfl) ?_
  refine q_imul C dX7_kindOf_8 (fun v3 => ?_)
  refine q_iadd C dX7_kindOf_9 (fun v4 => ?_)
  refine a_ild C (yk_7_1 hk0) (yl_7_1 hk0) dX7_kindOf_10 (fun v5 => ?_)
  exact q_iret C hr hlo dX7_kindOf_11
def f_X7_numberOf (F : Nat) (k0 : Nat) (a1 : Int) (a2 : Int) (σ : St) : Option (Int) :=
  z_ob 7 k0 <| 
  z_gt 6 fun v1 =>
  z_gt 4 fun v2 =>
  z_ck (v2 * a1) fun v3 =>
  z_ck (v1 + v3) fun v4 =>
  z_gt 1 fun v5 =>
  z_ck (v4 + v5) fun v6 =>
  z_ck (v6 + a2) fun v7 =>
  z_ix v7 246 <| z_gt (σ (k0 + 1) v7) fun v8 =>
  some v8
theorem cb_X7_numberOf : CB yX7_numberOf cX7_numberOf 3 (some .int) 2 := ⟨ki_X7_numberOf, kq_X7_numberOf, kn_X7, kc_X7_numberOf, by decide +kernel, by decide +kernel, by decide +kernel⟩
set_option maxRecDepth 20000 in
set_option maxHeartbeats 4000000 in
theorem m_X7_numberOf (l : Launch) (G : GG) (F : Nat) (k0 : Nat) (a1 : Int32) (a2 : Int32) (σ : St) : ∀ r, f_X7_numberOf F k0 a1.toInt a2.toInt σ = some r → MC G l yX7_numberOf cX7_numberOf 3 (some .int) { frames := 0, cells := 0, slots := 0, locals := 0 } [.ref (gad G k0), .int a1, .int a2] σ (vI r) σ := by
  refine MC_of (own := RX7) (vI) (fun _ => σ) (by decide +kernel) rfl (Nat.le_of_ble_eq_true rfl) ?_
  intro p e s m args below meth c C hr hlo ls hl
  have hl : lv_has ls 3 [(0, .ref (gad G k0)), (1, .int a1), (2, .int a2)] := hl
  unfold f_X7_numberOf
  refine q_ob (fun hk0 => ?_)
  refine q_aload_n C dX7_numberOf_0 rfl (lv_at hl 0 rfl) ?_
  refine g_7_1 C hk0 kf_X7_9 dX7_numberOf_1 ?_
  refine q_bipush C dX7_numberOf_4 rfl (by decide) (fun v1 => ?_)
  refine q_iconst C dX7_numberOf_6 rfl (by decide) (fun v2 => ?_)
  refine q_iload_n C dX7_numberOf_7 rfl (lv_at hl 1 rfl) ?_
  refine q_imul C dX7_numberOf_8 (fun v3 => ?_)
  refine q_iadd C dX7_numberOf_9 (fun v4 => ?_)
  refine q_iconst C dX7_numberOf_10 rfl (by decide) (fun v5 => ?_)
  refine q_iadd C dX7_numberOf_11 (fun v6 => ?_)
  refine q_iload_n C dX7_numberOf_12 rfl (lv_at hl 2 rfl) ?_
  refine q_iadd C dX7_numberOf_13 (fun v7 => ?_)
  refine a_ild C (yk_7_1 hk0) (yl_7_1 hk0) dX7_numberOf_14 (fun v8 => ?_)
  exact q_iret C hr hlo dX7_numberOf_15
def f_X7_isCommand (F : Nat) (k0 : Nat) (a1 : Int) (σ : St) : Option (Int) :=
  z_ob 7 k0 <| 
  z_c1 (f_X7_kindOf F k0 a1 σ) fun v1 =>
  z_gt 4 fun v2 =>
  if v2 ≤ v1 then (
    z_gt 0 fun v3 =>
    z_bo v3 <| some v3)
  else (
    z_gt 1 fun v4 =>
    z_bo v4 <| some v4)
theorem cb_X7_isCommand : CB yX7_isCommand cX7_isCommand 2 (some .boolean) 1 := ⟨ki_X7_isCommand, kq_X7_isCommand, kn_X7, kc_X7_isCommand, by decide +kernel, by decide +kernel, by decide +kernel⟩
set_option maxRecDepth 20000 in
set_option maxHeartbeats 4000000 in
theorem m_X7_isCommand (l : Launch) (G : GG) (F : Nat) (k0 : Nat) (a1 : Int32) (σ : St) : ∀ r, f_X7_isCommand F k0 a1.toInt σ = some r → MC G l yX7_isCommand cX7_isCommand 2 (some .boolean) { frames := 1, cells := 0, slots := 0, locals := 21 } [.ref (gad G k0), .int a1] σ (vI r) σ := by
  refine MC_of (own := RX7) (vI) (fun _ => σ) (by decide +kernel) rfl (Nat.le_of_ble_eq_true rfl) ?_
  intro p e s m args below meth c C hr hlo ls hl
  have hl : lv_has ls 2 [(0, .ref (gad G k0)), (1, .int a1)] := hl
  unfold f_X7_isCommand
  refine q_ob (fun hk0 => ?_)
  refine q_aload_n C dX7_isCommand_0 rfl (lv_at hl 0 rfl) ?_
  refine q_iload_n C dX7_isCommand_1 rfl (lv_at hl 1 rfl) ?_
  refine q_c1i C (fun r h => cr_V (As := [.int a1]) (rest := []) C (m_X7_kindOf l G F k0 a1 σ r h) cb_X7_kindOf hk0 (by decide) rfl (cf_7 hk0 _) rfl kl_X7_118 ⟨Nat.le_of_ble_eq_true rfl, Nat.le_of_ble_eq_true rfl⟩ ⟨Nat.zero_le _, Nat.zero_le _⟩ hl.1 rfl (Nat.le_of_ble_eq_true rfl) dX7_isCommand_2 rfl) (fun v1 => ?_)
  refine q_iconst C dX7_isCommand_5 rfl (by decide) (fun v2 => ?_)
  refine q_icmp_ge C 13 dX7_isCommand_6 (by decide) ?_ ?_
  · refine q_iconst C dX7_isCommand_13 rfl (by decide) (fun v3 => ?_)
    exact q_zret C hr hlo dX7_isCommand_14
  · refine q_iconst C dX7_isCommand_9 rfl (by decide) (fun v4 => ?_)
    refine q_goto C 14 dX7_isCommand_10 (by decide) ?_
    exact q_zret C hr hlo dX7_isCommand_14
def f_X7_numbersOf (F : Nat) (a1 : Int) (σ : St) : Option (Int) :=
  
  z_gt 3 fun v1 =>
  if v1 ≤ a1 then (
    z_gt 3 fun v2 =>
    if ¬ a1 = v2 then (
      z_gt 6 fun v3 =>
      if ¬ a1 = v3 then (
        z_gt 0 fun v4 =>
        some v4)
      else (
        z_gt 1 fun v5 =>
        some v5))
    else (
      z_gt 3 fun v6 =>
      some v6))
  else (
    z_gt 2 fun v7 =>
    some v7)
theorem sb_X7_numbersOf : SB yX7_numbersOf cX7_numbersOf 1 (some .int) 1 := ⟨ks_X7_numbersOf, kn_X7, kc_X7_numbersOf, by decide +kernel, by decide +kernel, by decide +kernel⟩
set_option maxRecDepth 20000 in
set_option maxHeartbeats 4000000 in
theorem m_X7_numbersOf (l : Launch) (G : GG) (F : Nat) (a1 : Int32) (σ : St) : ∀ r, f_X7_numbersOf F a1.toInt σ = some r → MC G l yX7_numbersOf cX7_numbersOf 1 (some .int) { frames := 0, cells := 0, slots := 0, locals := 0 } [.int a1] σ (vI r) σ := by
  refine MC_of (own := RX7) (vI) (fun _ => σ) (by decide +kernel) rfl (Nat.le_of_ble_eq_true rfl) ?_
  intro p e s m args below meth c C hr hlo ls hl
  have hl : lv_has ls 1 [(0, .int a1)] := hl
  unfold f_X7_numbersOf
  refine q_iload_n C dX7_numbersOf_0 rfl (lv_at hl 0 rfl) ?_
  refine q_iconst C dX7_numbersOf_1 rfl (by decide) (fun v1 => ?_)
  refine q_icmp_ge C 7 dX7_numbersOf_2 (by decide) ?_ ?_
  · refine q_iload_n C dX7_numbersOf_7 rfl (lv_at hl 0 rfl) ?_
    refine q_iconst C dX7_numbersOf_8 rfl (by decide) (fun v2 => ?_)
    refine q_icmp_ne C 16 dX7_numbersOf_9 (by decide) ?_ ?_
    · refine q_iload_n C dX7_numbersOf_16 rfl (lv_at hl 0 rfl) ?_
      refine q_bipush C dX7_numbersOf_17 rfl (by decide) (fun v3 => ?_)
      refine q_icmp_ne C 26 dX7_numbersOf_19 (by decide) ?_ ?_
      · refine q_iconst C dX7_numbersOf_26 rfl (by decide) (fun v4 => ?_)
        exact q_iret C hr hlo dX7_numbersOf_27
      · refine q_iconst C dX7_numbersOf_22 rfl (by decide) (fun v5 => ?_)
        refine q_goto C 27 dX7_numbersOf_23 (by decide) ?_
        exact q_iret C hr hlo dX7_numbersOf_27
    · refine q_iconst C dX7_numbersOf_12 rfl (by decide) (fun v6 => ?_)
      refine q_goto C 27 dX7_numbersOf_13 (by decide) ?_
      exact q_iret C hr hlo dX7_numbersOf_27
  · refine q_iconst C dX7_numbersOf_5 rfl (by decide) (fun v7 => ?_)
    exact q_iret C hr hlo dX7_numbersOf_6
def f_X7_lowOf (F : Nat) (a1 : Int) (a2 : Int) (a3 : Int) (σ : St) : Option (Int) :=
  
  z_gt 6 fun v1 =>
  if ¬ a1 = v1 then (
    z_gt 3 fun v2 =>
    if ¬ a1 = v2 then (
      z_gt 0 fun v3 =>
      some v3)
    else (
      z_gt 1 fun v4 =>
      if ¬ a2 = v4 then (
        z_gt 0 fun v5 =>
        some v5)
      else (
        some a3)))
  else (
    z_gt 1 fun v6 =>
    some v6)
theorem sb_X7_lowOf : SB yX7_lowOf cX7_lowOf 3 (some .int) 3 := ⟨ks_X7_lowOf, kn_X7, kc_X7_lowOf, by decide +kernel, by decide +kernel, by decide +kernel⟩
set_option maxRecDepth 20000 in
set_option maxHeartbeats 4000000 in
theorem m_X7_lowOf (l : Launch) (G : GG) (F : Nat) (a1 : Int32) (a2 : Int32) (a3 : Int32) (σ : St) : ∀ r, f_X7_lowOf F a1.toInt a2.toInt a3.toInt σ = some r → MC G l yX7_lowOf cX7_lowOf 3 (some .int) { frames := 0, cells := 0, slots := 0, locals := 0 } [.int a1, .int a2, .int a3] σ (vI r) σ := by
  refine MC_of (own := RX7) (vI) (fun _ => σ) (by decide +kernel) rfl (Nat.le_of_ble_eq_true rfl) ?_
  intro p e s m args below meth c C hr hlo ls hl
  have hl : lv_has ls 3 [(0, .int a1), (1, .int a2), (2, .int a3)] := hl
  unfold f_X7_lowOf
  refine q_iload_n C dX7_lowOf_0 rfl (lv_at hl 0 rfl) ?_
  refine q_bipush C dX7_lowOf_1 rfl (by decide) (fun v1 => ?_)
  refine q_icmp_ne C 8 dX7_lowOf_3 (by decide) ?_ ?_
  · refine q_iload_n C dX7_lowOf_8 rfl (lv_at hl 0 rfl) ?_
    refine q_iconst C dX7_lowOf_9 rfl (by decide) (fun v2 => ?_)
    refine q_icmp_ne C 22 dX7_lowOf_10 (by decide) ?_ ?_
    · refine q_iconst C dX7_lowOf_22 rfl (by decide) (fun v3 => ?_)
      exact q_iret C hr hlo dX7_lowOf_23
    · refine q_iload_n C dX7_lowOf_13 rfl (lv_at hl 1 rfl) ?_
      refine q_iconst C dX7_lowOf_14 rfl (by decide) (fun v4 => ?_)
      refine q_icmp_ne C 22 dX7_lowOf_15 (by decide) ?_ ?_
      · refine q_iconst C dX7_lowOf_22 rfl (by decide) (fun v5 => ?_)
        exact q_iret C hr hlo dX7_lowOf_23
      · refine q_iload_n C dX7_lowOf_18 rfl (lv_at hl 2 rfl) ?_
        refine q_goto C 23 dX7_lowOf_19 (by decide) ?_
        exact q_iret C hr hlo dX7_lowOf_23
  · refine q_iconst C dX7_lowOf_6 rfl (by decide) (fun v6 => ?_)
    exact q_iret C hr hlo dX7_lowOf_7
def f_X7_highOf (F : Nat) (a1 : Int) (a2 : Int) (a3 : Int) (σ : St) : Option (Int) :=
  
  z_gt 6 fun v1 =>
  if ¬ a1 = v1 then (
    if a2 = 0 then (
      z_gt 1 fun v2 =>
      z_ck (a3 - v2) fun v3 =>
      some v3)
    else (
      z_gt 1 fun v4 =>
      if ¬ a2 = v4 then (
        z_gt 255 fun v5 =>
        some v5)
      else (
        z_gt 2 fun v6 =>
        if a1 < v6 then (
          z_gt 255 fun v7 =>
          some v7)
        else (
          z_gt 1 fun v8 =>
          z_ck (a3 - v8) fun v9 =>
          some v9))))
  else (
    z_gt 32 fun v10 =>
    some v10)
theorem sb_X7_highOf : SB yX7_highOf cX7_highOf 3 (some .int) 3 := ⟨ks_X7_highOf, kn_X7, kc_X7_highOf, by decide +kernel, by decide +kernel, by decide +kernel⟩
set_option maxRecDepth 20000 in
set_option maxHeartbeats 4000000 in
theorem m_X7_highOf (l : Launch) (G : GG) (F : Nat) (a1 : Int32) (a2 : Int32) (a3 : Int32) (σ : St) : ∀ r, f_X7_highOf F a1.toInt a2.toInt a3.toInt σ = some r → MC G l yX7_highOf cX7_highOf 3 (some .int) { frames := 0, cells := 0, slots := 0, locals := 0 } [.int a1, .int a2, .int a3] σ (vI r) σ := by
  refine MC_of (own := RX7) (vI) (fun _ => σ) (by decide +kernel) rfl (Nat.le_of_ble_eq_true rfl) ?_
  intro p e s m args below meth c C hr hlo ls hl
  have hl : lv_has ls 3 [(0, .int a1), (1, .int a2), (2, .int a3)] := hl
  unfold f_X7_highOf
  refine q_iload_n C dX7_highOf_0 rfl (lv_at hl 0 rfl) ?_
  refine q_bipush C dX7_highOf_1 rfl (by decide) (fun v1 => ?_)
  refine q_icmp_ne C 9 dX7_highOf_3 (by decide) ?_ ?_
  · refine q_iload_n C dX7_highOf_9 rfl (lv_at hl 1 rfl) ?_
    refine q_if_eq C 23 dX7_highOf_10 (by decide) ?_ ?_
    · refine q_iload_n C dX7_highOf_23 rfl (lv_at hl 2 rfl) ?_
      refine q_iconst C dX7_highOf_24 rfl (by decide) (fun v2 => ?_)
      refine q_isub C dX7_highOf_25 (fun v3 => ?_)
      refine q_goto C 32 dX7_highOf_26 (by decide) ?_
      exact q_iret C hr hlo dX7_highOf_32
    · refine q_iload_n C dX7_highOf_13 rfl (lv_at hl 1 rfl) ?_
      refine q_iconst C dX7_highOf_14 rfl (by decide) (fun v4 => ?_)
      refine q_icmp_ne C 29 dX7_highOf_15 (by decide) ?_ ?_
      · refine q_sipush C dX7_highOf_29 rfl (by decide) (fun v5 => ?_)
        exact q_iret C hr hlo dX7_highOf_32
      · refine q_iload_n C dX7_highOf_18 rfl (lv_at hl 0 rfl) ?_
        refine q_iconst C dX7_highOf_19 rfl (by decide) (fun v6 => ?_)
        refine q_icmp_lt C 29 dX7_highOf_20 (by decide) ?_ ?_
        · refine q_sipush C dX7_highOf_29 rfl (by decide) (fun v7 => ?_)
          exact q_iret C hr hlo dX7_highOf_32
        · refine q_iload_n C dX7_highOf_23 rfl (lv_at hl 2 rfl) ?_
          refine q_iconst C dX7_highOf_24 rfl (by decide) (fun v8 => ?_)
          refine q_isub C dX7_highOf_25 (fun v9 => ?_)
          refine q_goto C 32 dX7_highOf_26 (by decide) ?_
          exact q_iret C hr hlo dX7_highOf_32
  · refine q_bipush C dX7_highOf_6 rfl (by decide) (fun v10 => ?_)
    exact q_iret C hr hlo dX7_highOf_8
def f_X7_wordOf (F : Nat) (a1 : Int) (σ : St) : Option (Nat) :=
  
  if a1 = 0 then (
    some 4)
  else
  if a1 = 1 then (
    some 5)
  else
  if a1 = 2 then (
    some 6)
  else
  if a1 = 3 then (
    some 7)
  else
  if a1 = 4 then (
    some 8)
  else
  if a1 = 5 then (
    some 9)
  else
  if a1 = 6 then (
    some 10)
  else
  if a1 = 7 then (
    some 11)
  else
  (
    some 12)
theorem sb_X7_wordOf : SB yX7_wordOf cX7_wordOf 1 (some (.object "java/lang/String")) 1 := ⟨ks_X7_wordOf, kn_X7, kc_X7_wordOf, by decide +kernel, by decide +kernel, by decide +kernel⟩
set_option maxRecDepth 20000 in
set_option maxHeartbeats 4000000 in
theorem m_X7_wordOf (l : Launch) (G : GG) (F : Nat) (a1 : Int32) (σ : St) : ∀ r, f_X7_wordOf F a1.toInt σ = some r → MC G l yX7_wordOf cX7_wordOf 1 (some (.object "java/lang/String")) { frames := 0, cells := 0, slots := 0, locals := 0 } [.int a1] σ (vS G r) σ := by
  refine MC_of (own := RX7) (vS G) (fun _ => σ) (by decide +kernel) rfl (Nat.le_of_ble_eq_true rfl) ?_
  intro p e s m args below meth c C hr hlo ls hl
  have hl : lv_has ls 1 [(0, .int a1)] := hl
  unfold f_X7_wordOf
  refine q_iload_n C dX7_wordOf_0 rfl (lv_at hl 0 rfl) ?_
  refine q_ite (fun e0 => ?_) (fun e0 => ?_) _
  · refine q_tin C 48 e0 dX7_wordOf_1 (by decide) (by decide) rfl (by decide) ?_
    refine q_ldcs C 4 (tx := "set") (List.mem_of_getElem? (i := 17) rfl) dX7_wordOf_48 ?_
    exact q_sret C (by decide : 4 < 13) hr hlo dX7_wordOf_50
  refine q_ite (fun e1 => ?_) (fun e1 => ?_) _
  · refine q_tin C 51 e1 dX7_wordOf_1 (by decide) (by decide) rfl (by decide) ?_
    refine q_ldcs C 5 (tx := "add") (List.mem_of_getElem? (i := 18) rfl) dX7_wordOf_51 ?_
    exact q_sret C (by decide : 5 < 13) hr hlo dX7_wordOf_53
  refine q_ite (fun e2 => ?_) (fun e2 => ?_) _
  · refine q_tin C 54 e2 dX7_wordOf_1 (by decide) (by decide) rfl (by decide) ?_
    refine q_ldcs C 6 (tx := "swap") (List.mem_of_getElem? (i := 19) rfl) dX7_wordOf_54 ?_
    exact q_sret C (by decide : 6 < 13) hr hlo dX7_wordOf_56
  refine q_ite (fun e3 => ?_) (fun e3 => ?_) _
  · refine q_tin C 57 e3 dX7_wordOf_1 (by decide) (by decide) rfl (by decide) ?_
    refine q_ldcs C 7 (tx := "fill") (List.mem_of_getElem? (i := 20) rfl) dX7_wordOf_57 ?_
    exact q_sret C (by decide : 7 < 13) hr hlo dX7_wordOf_59
  refine q_ite (fun e4 => ?_) (fun e4 => ?_) _
  · refine q_tin C 60 e4 dX7_wordOf_1 (by decide) (by decide) rfl (by decide) ?_
    refine q_ldcs C 8 (tx := "full") (List.mem_of_getElem? (i := 21) rfl) dX7_wordOf_60 ?_
    exact q_sret C (by decide : 8 < 13) hr hlo dX7_wordOf_62
  refine q_ite (fun e5 => ?_) (fun e5 => ?_) _
  · refine q_tin C 63 e5 dX7_wordOf_1 (by decide) (by decide) rfl (by decide) ?_
    refine q_ldcs C 9 (tx := "part") (List.mem_of_getElem? (i := 22) rfl) dX7_wordOf_63 ?_
    exact q_sret C (by decide : 9 < 13) hr hlo dX7_wordOf_65
  refine q_ite (fun e6 => ?_) (fun e6 => ?_) _
  · refine q_tin C 66 e6 dX7_wordOf_1 (by decide) (by decide) rfl (by decide) ?_
    refine q_ldcs C 10 (tx := "scan") (List.mem_of_getElem? (i := 23) rfl) dX7_wordOf_66 ?_
    exact q_sret C (by decide : 10 < 13) hr hlo dX7_wordOf_68
  refine q_ite (fun e7 => ?_) (fun e7 => ?_) _
  · refine q_tin C 69 e7 dX7_wordOf_1 (by decide) (by decide) rfl (by decide) ?_
    refine q_ldcs C 11 (tx := "finish") (List.mem_of_getElem? (i := 24) rfl) dX7_wordOf_69 ?_
    exact q_sret C (by decide : 11 < 13) hr hlo dX7_wordOf_71
  refine q_tout C 72 dX7_wordOf_1 (by omega) (by decide) ?_
  refine q_ldcs C 12 (tx := "tear") (List.mem_of_getElem? (i := 25) rfl) dX7_wordOf_72 ?_
  exact q_sret C (by decide : 12 < 13) hr hlo dX7_wordOf_74
def f_X7_feed_L55 (F : Nat) (k0 : Nat) (a1 : Int) (a2 : Int) (a3 : Int) (a4 : Int) (a5 : Int)   : Nat → Int → St → Option (Int × St)
  | 0, _, _ => none
  | n + 1, x11, σ =>
    z_gt 20 fun v12 =>
    if v12 ≤ x11 then (
      z_gt (σ k0 5) fun v13 =>
      z_gt 20 fun v14 =>
      z_ck (v13 + v14) fun v15 =>
      z_sg (z_up σ k0 5 v15) fun σ6 =>
      z_gt (σ6 k0 5) fun v16 =>
      some (v16, σ6))
    else (
      z_gt (σ k0 5) fun v17 =>
      z_ck (v17 + x11) fun v18 =>
      z_gt 4 fun v19 =>
      z_nz v19 <| z_ck (x11.tdiv v19) fun v20 =>
      z_ix v20 5 <| z_gt (σ (k0 + 5) v20) fun v21 =>
      z_gt 24 fun v22 =>
      z_gt 8 fun v23 =>
      z_gt 4 fun v24 =>
      z_nz v24 <| z_gt (x11.tmod v24) fun v25 =>
      z_ck (v23 * v25) fun v26 =>
      z_ck (v22 - v26) fun v27 =>
      z_gt (z_shr v21 v27) fun v28 =>
      z_gt (z_i2b v28) fun v29 =>
      z_ix v18 700 <| z_by v29 <| z_sg (z_up σ (k0 + 4) v18 v29) fun σ7 =>
      z_ck (x11 + 1) fun v30 =>
      f_X7_feed_L55 F k0 a1 a2 a3 a4 a5 n v30 σ7)

def f_X7_feed (F : Nat) (k0 : Nat) (a1 : Int) (a2 : Int) (a3 : Int) (a4 : Int) (a5 : Int) (σ : St) : Option (Int × St) :=
  z_ob 7 k0 <| 
  z_gt (σ k0 5) fun v1 =>
  z_gt 20 fun v2 =>
  z_ck (v1 + v2) fun v3 =>
  z_gt 700 fun v4 =>
  if v3 ≤ v4 then (
    z_gt 0 fun v5 =>
    z_ix v5 5 <| z_sg (z_up σ (k0 + 5) v5 a1) fun σ1 =>
    z_gt 1 fun v6 =>
    z_ix v6 5 <| z_sg (z_up σ1 (k0 + 5) v6 a2) fun σ2 =>
    z_gt 2 fun v7 =>
    z_ix v7 5 <| z_sg (z_up σ2 (k0 + 5) v7 a3) fun σ3 =>
    z_gt 3 fun v8 =>
    z_ix v8 5 <| z_sg (z_up σ3 (k0 + 5) v8 a4) fun σ4 =>
    z_gt 4 fun v9 =>
    z_ix v9 5 <| z_sg (z_up σ4 (k0 + 5) v9 a5) fun σ5 =>
    z_gt 0 fun v10 =>
    f_X7_feed_L55 F k0 a1 a2 a3 a4 a5 F v10 σ5)
  else (
    z_gt (-1) fun v31 =>
    some (v31, σ))
theorem cb_X7_feed : CB yX7_feed cX7_feed 7 (some .int) 5 := ⟨ki_X7_feed, kq_X7_feed, kn_X7, kc_X7_feed, by decide +kernel, by decide +kernel, by decide +kernel⟩
set_option maxRecDepth 20000 in
set_option maxHeartbeats 4000000 in
theorem m_X7_feed (l : Launch) (G : GG) (F : Nat) (k0 : Nat) (a1 : Int32) (a2 : Int32) (a3 : Int32) (a4 : Int32) (a5 : Int32) (σ : St) : ∀ r, f_X7_feed F k0 a1.toInt a2.toInt a3.toInt a4.toInt a5.toInt σ = some r → MC G l yX7_feed cX7_feed 7 (some .int) { frames := 0, cells := 0, slots := 0, locals := 0 } [.ref (gad G k0), .int a1, .int a2, .int a3, .int a4, .int a5] σ (vI r.1) r.2 := by
  refine MC_of (own := RX7) (fun r : Int × St => vI r.1) (fun r : Int × St => r.2) (by decide +kernel) rfl (Nat.le_of_ble_eq_true rfl) ?_
  intro p e s m args below meth c C hr hlo ls hl
  have hl : lv_has ls 7 [(0, .ref (gad G k0)), (1, .int a1), (2, .int a2), (3, .int a3), (4, .int a4), (5, .int a5)] := hl
  unfold f_X7_feed
  refine q_ob (fun hk0 => ?_)
  have B55 : ∀ (n : Nat) (x11 : Int32) (σ : St) (ls : Array Slot), lv_has ls 7 [(0, .ref (gad G k0)), (6, .int x11)] → Sim G (AG G) 0 0 p l e { frames := 0, cells := 0, slots := 0, locals := 0 } s m args below meth c (fun r : Int × St => MQ below (QC G (vI r.1) (r.2)) args s 0 0 (AG G)) σ (f_X7_feed_L55 F k0 a1.toInt a2.toInt a3.toInt a4.toInt a5.toInt   n x11.toInt σ) (F0 m 55 ls []) := by
    intro n
    induction n with
    | zero =>
      intro x11 σ ls hl
      exact sim_none
    | succ n ih =>
      intro x11 σ ls hl
      rw [f_X7_feed_L55]
      refine q_iload C dX7_feed_55 (lv_at hl 1 rfl) ?_
      refine q_bipush C dX7_feed_57 rfl (by decide) (fun v12 => ?_)
      refine q_icmp_ge C 101 dX7_feed_59 (by decide) ?_ ?_
      · refine q_aload_n C dX7_feed_101 rfl (lv_at hl 0 rfl) ?_
        refine q_dup C dX7_feed_102 rfl ?_
        refine g_7_5 C hk0 kf_X7_140 dX7_feed_103 (fun v13 => ?_)
        refine q_bipush C dX7_feed_106 rfl (by decide) (fun v14 => ?_)
        refine q_iadd C dX7_feed_108 (fun v15 => ?_)
        refine p_7_5 C hk0 kf_X7_140 dX7_feed_109 (q_sg (fun σ6 => ?_))
        refine q_aload_n C dX7_feed_112 rfl (lv_at hl 0 rfl) ?_
        refine g_7_5 C hk0 kf_X7_140 dX7_feed_113 (fun v16 => ?_)
        exact q_iretE C hr hlo dX7_feed_116
      · refine q_aload_n C dX7_feed_62 rfl (lv_at hl 0 rfl) ?_
        refine g_7_4 C hk0 kf_X7_20 dX7_feed_63 ?_
        refine q_aload_n C dX7_feed_66 rfl (lv_at hl 0 rfl) ?_
        refine g_7_5 C hk0 kf_X7_140 dX7_feed_67 (fun v17 => ?_)
        refine q_iload C dX7_feed_70 (lv_at hl 1 rfl) ?_
        refine q_iadd C dX7_feed_72 (fun v18 => ?_)
        refine q_aload_n C dX7_feed_73 rfl (lv_at hl 0 rfl) ?_
        refine g_7_6 C hk0 kf_X7_24 dX7_feed_74 ?_
        refine q_iload C dX7_feed_77 (lv_at hl 1 rfl) ?_
        refine q_iconst C dX7_feed_79 rfl (by decide) (fun v19 => ?_)
        refine q_idiv C dX7_feed_80 (fun v20 => ?_)
        refine a_ild C (yk_7_6 hk0) (yl_7_6 hk0) dX7_feed_81 (fun v21 => ?_)
        refine q_bipush C dX7_feed_82 rfl (by decide) (fun v22 => ?_)
        refine q_bipush C dX7_feed_84 rfl (by decide) (fun v23 => ?_)
        refine q_iload C dX7_feed_86 (lv_at hl 1 rfl) ?_
        refine q_iconst C dX7_feed_88 rfl (by decide) (fun v24 => ?_)
        refine q_irem C dX7_feed_89 (fun v25 => ?_)
        refine q_imul C dX7_feed_90 (fun v26 => ?_)
        refine q_isub C dX7_feed_91 (fun v27 => ?_)
        refine q_ishr C dX7_feed_92 (fun v28 => ?_)
        refine q_i2b C dX7_feed_93 (fun v29 => ?_)
        refine a_bst C (yk_7_4 hk0) (yl_7_4 hk0) dX7_feed_94 (q_sg (fun σ7 => ?_))
        refine q_iinc (k := 1) C (fun v30 => [(6, .int v30), (0, .ref (gad G k0))]) dX7_feed_95 hl rfl (by decide) (by decide) (fun _ => rfl) (fun v30 ls hl => ?_)
        refine q_goto C 55 dX7_feed_98 (by decide) ?_
        exact ih v30 σ7 ls (lv_sub hl [1, 0] rfl)
  refine q_aload_n C dX7_feed_0 rfl (lv_at hl 0 rfl) ?_
  refine g_7_5 C hk0 kf_X7_140 dX7_feed_1 (fun v1 => ?_)
  refine q_bipush C dX7_feed_4 rfl (by decide) (fun v2 => ?_)
  refine q_iadd C dX7_feed_6 (fun v3 => ?_)
  refine q_sipush C dX7_feed_7 rfl (by decide) (fun v4 => ?_)
  refine q_icmp_le C 15 dX7_feed_10 (by decide) ?_ ?_
  · refine q_aload_n C dX7_feed_15 rfl (lv_at hl 0 rfl) ?_
    refine g_7_6 C hk0 kf_X7_24 dX7_feed_16 ?_
    refine q_iconst C dX7_feed_19 rfl (by decide) (fun v5 => ?_)
    refine q_iload_n C dX7_feed_20 rfl (lv_at hl 1 rfl) ?_
    refine a_ist C (yk_7_6 hk0) (yl_7_6 hk0) dX7_feed_21 (q_sg (fun σ1 => ?_))
    refine q_aload_n C dX7_feed_22 rfl (lv_at hl 0 rfl) ?_
    refine g_7_6 C hk0 kf_X7_24 dX7_feed_23 ?_
    refine q_iconst C dX7_feed_26 rfl (by decide) (fun v6 => ?_)
    refine q_iload_n C dX7_feed_27 rfl (lv_at hl 2 rfl) ?_
    refine a_ist C (yk_7_6 hk0) (yl_7_6 hk0) dX7_feed_28 (q_sg (fun σ2 => ?_))
    refine q_aload_n C dX7_feed_29 rfl (lv_at hl 0 rfl) ?_
    refine g_7_6 C hk0 kf_X7_24 dX7_feed_30 ?_
    refine q_iconst C dX7_feed_33 rfl (by decide) (fun v7 => ?_)
    refine q_iload_n C dX7_feed_34 rfl (lv_at hl 3 rfl) ?_
    refine a_ist C (yk_7_6 hk0) (yl_7_6 hk0) dX7_feed_35 (q_sg (fun σ3 => ?_))
    refine q_aload_n C dX7_feed_36 rfl (lv_at hl 0 rfl) ?_
    refine g_7_6 C hk0 kf_X7_24 dX7_feed_37 ?_
    refine q_iconst C dX7_feed_40 rfl (by decide) (fun v8 => ?_)
    refine q_iload C dX7_feed_41 (lv_at hl 4 rfl) ?_
    refine a_ist C (yk_7_6 hk0) (yl_7_6 hk0) dX7_feed_43 (q_sg (fun σ4 => ?_))
    refine q_aload_n C dX7_feed_44 rfl (lv_at hl 0 rfl) ?_
    refine g_7_6 C hk0 kf_X7_24 dX7_feed_45 ?_
    refine q_iconst C dX7_feed_48 rfl (by decide) (fun v9 => ?_)
    refine q_iload C dX7_feed_49 (lv_at hl 5 rfl) ?_
    refine a_ist C (yk_7_6 hk0) (yl_7_6 hk0) dX7_feed_51 (q_sg (fun σ5 => ?_))
    refine q_iconst C dX7_feed_52 rfl (by decide) (fun v10 => ?_)
    refine q_istore C [(6, .int v10), (0, .ref (gad G k0)), (1, .int a1), (2, .int a2), (3, .int a3), (4, .int a4), (5, .int a5)] dX7_feed_53 hl (by decide) rfl (fun ls hl => ?_)
    exact B55 F v10 σ5 ls (lv_sub hl [1, 0] rfl)
  · refine q_iconst C dX7_feed_13 rfl (by decide) (fun v31 => ?_)
    exact q_iretE C hr hlo dX7_feed_14
def f_X7_end (F : Nat) (k0 : Nat) (a1 : Int) (σ : St) : Option (Int × St) :=
  z_ob 7 k0 <| 
  z_gt a1 fun v1 =>
  z_gt 0 fun v2 =>
  z_gt (σ k0 5) fun v3 =>
  z_gt v3 fun v4 =>
  z_c1 (f_X7_in F v1 v2 v4 σ) fun v5 =>
  if ¬ v5 = 0 then (
    z_sg (z_up σ k0 5 a1) fun σ1 =>
    some (a1, σ1))
  else (
    z_gt (-1) fun v6 =>
    some (v6, σ))
theorem cb_X7_end : CB yX7_end cX7_end 2 (some .int) 1 := ⟨ki_X7_end, kq_X7_end, kn_X7, kc_X7_end, by decide +kernel, by decide +kernel, by decide +kernel⟩
set_option maxRecDepth 20000 in
set_option maxHeartbeats 4000000 in
theorem m_X7_end (l : Launch) (G : GG) (F : Nat) (k0 : Nat) (a1 : Int32) (σ : St) : ∀ r, f_X7_end F k0 a1.toInt σ = some r → MC G l yX7_end cX7_end 2 (some .int) { frames := 1, cells := 0, slots := 0, locals := 25 } [.ref (gad G k0), .int a1] σ (vI r.1) r.2 := by
  refine MC_of (own := RX7) (fun r : Int × St => vI r.1) (fun r : Int × St => r.2) (by decide +kernel) rfl (Nat.le_of_ble_eq_true rfl) ?_
  intro p e s m args below meth c C hr hlo ls hl
  have hl : lv_has ls 2 [(0, .ref (gad G k0)), (1, .int a1)] := hl
  unfold f_X7_end
  refine q_ob (fun hk0 => ?_)
  refine q_iload_n C dX7_end_0 rfl (lv_at hl 1 rfl) ?_
  refine q_i2l C dX7_end_1 (fun v1 => ?_)
  refine q_lconst C dX7_end_2 rfl (by decide) (fun v2 => ?_)
  refine q_aload_n C dX7_end_3 rfl (lv_at hl 0 rfl) ?_
  refine g_7_5 C hk0 kf_X7_140 dX7_end_4 (fun v3 => ?_)
  refine q_i2l C dX7_end_7 (fun v4 => ?_)
  refine q_c1i C (fun r h => cr_S (As := [.long v1, .long v2, .long v4]) (rest := []) C (m_X7_in l G F v1 v2 v4 σ r h) sb_X7_in kl_X7_103 ⟨Nat.le_of_ble_eq_true rfl, Nat.le_of_ble_eq_true rfl⟩ ⟨Nat.zero_le _, Nat.zero_le _⟩ hl.1 rfl (Nat.le_of_ble_eq_true rfl) dX7_end_8 rfl) (fun v5 => ?_)
  refine q_if_ne C 16 dX7_end_11 (by decide) ?_ ?_
  · refine q_aload_n C dX7_end_16 rfl (lv_at hl 0 rfl) ?_
    refine q_iload_n C dX7_end_17 rfl (lv_at hl 1 rfl) ?_
    refine p_7_5 C hk0 kf_X7_140 dX7_end_18 (q_sg (fun σ1 => ?_))
    refine q_iload_n C dX7_end_21 rfl (lv_at hl 1 rfl) ?_
    exact q_iretE C hr hlo dX7_end_22
  · refine q_iconst C dX7_end_14 rfl (by decide) (fun v6 => ?_)
    exact q_iretE C hr hlo dX7_end_15
def f_X7_see (F : Nat) (k0 : Nat) (a1 : Int) (σ : St) : Option (Int) :=
  z_ob 7 k0 <| 
  z_gt (σ k0 7) fun v1 =>
  if v1 ≤ a1 then (
    z_gt (-1) fun v2 =>
    some v2)
  else (
    z_ix a1 700 <| z_gt (σ (k0 + 4) a1) fun v3 =>
    z_gt 255 fun v4 =>
    z_gt (z_and v3 v4) fun v5 =>
    some v5)
theorem cb_X7_see : CB yX7_see cX7_see 2 (some .int) 1 := ⟨ki_X7_see, kq_X7_see, kn_X7, kc_X7_see, by decide +kernel, by decide +kernel, by decide +kernel⟩
set_option maxRecDepth 20000 in
set_option maxHeartbeats 4000000 in
theorem m_X7_see (l : Launch) (G : GG) (F : Nat) (k0 : Nat) (a1 : Int32) (σ : St) : ∀ r, f_X7_see F k0 a1.toInt σ = some r → MC G l yX7_see cX7_see 2 (some .int) { frames := 0, cells := 0, slots := 0, locals := 0 } [.ref (gad G k0), .int a1] σ (vI r) σ := by
  refine MC_of (own := RX7) (vI) (fun _ => σ) (by decide +kernel) rfl (Nat.le_of_ble_eq_true rfl) ?_
  intro p e s m args below meth c C hr hlo ls hl
  have hl : lv_has ls 2 [(0, .ref (gad G k0)), (1, .int a1)] := hl
  unfold f_X7_see
  refine q_ob (fun hk0 => ?_)
  refine q_iload_n C dX7_see_0 rfl (lv_at hl 1 rfl) ?_
  refine q_aload_n C dX7_see_1 rfl (lv_at hl 0 rfl) ?_
  refine g_7_7 C hk0 kf_X7_143 dX7_see_2 (fun v1 => ?_)
  refine q_icmp_ge C 21 dX7_see_5 (by decide) ?_ ?_
  · refine q_iconst C dX7_see_21 rfl (by decide) (fun v2 => ?_)
    exact q_iret C hr hlo dX7_see_22
  · refine q_aload_n C dX7_see_8 rfl (lv_at hl 0 rfl) ?_
    refine g_7_4 C hk0 kf_X7_20 dX7_see_9 ?_
    refine q_iload_n C dX7_see_12 rfl (lv_at hl 1 rfl) ?_
    refine a_bld C (yk_7_4 hk0) (yl_7_4 hk0) dX7_see_13 (fun v3 => ?_)
    refine q_sipush C dX7_see_14 rfl (by decide) (fun v4 => ?_)
    refine q_iand C dX7_see_17 (fun v5 => ?_)
    refine q_goto C 22 dX7_see_18 (by decide) ?_
    exact q_iret C hr hlo dX7_see_22
def f_X7_advance_L144 (F : Nat) (k0 : Nat)   : Nat → St → Option (St)
  | 0, _ => none
  | n + 1, σ =>
    z_gt (σ k0 8) fun v32 =>
    z_c1 (f_X7_see F k0 v32 σ) fun v33 =>
    z_gt v33 fun v34 =>
    z_gt 48 fun v35 =>
    z_gt 57 fun v36 =>
    z_c1 (f_X7_in F v34 v35 v36 σ) fun v37 =>
    if v37 = 0 then (
      z_gt 2 fun v38 =>
      z_sg (z_up σ k0 10 v38) fun σ8 =>
      some σ8)
    else (
      z_gt 99999 fun v39 =>
      z_gt 10 fun v40 =>
      z_gt (σ k0 11) fun v41 =>
      z_ck (v40 * v41) fun v42 =>
      z_gt (σ k0 8) fun v43 =>
      z_c1 (f_X7_see F k0 v43 σ) fun v44 =>
      z_ck (v42 + v44) fun v45 =>
      z_gt 48 fun v46 =>
      z_ck (v45 - v46) fun v47 =>
      z_gt (z_min v39 v47) fun v48 =>
      z_sg (z_up σ k0 11 v48) fun σ9 =>
      z_gt (σ9 k0 8) fun v49 =>
      z_gt 1 fun v50 =>
      z_ck (v49 + v50) fun v51 =>
      z_sg (z_up σ9 k0 8 v51) fun σ10 =>
      f_X7_advance_L144 F k0 n σ10)

def f_X7_advance_L83 (F : Nat) (k0 : Nat)   : Nat → St → Option (St)
  | 0, _ => none
  | n + 1, σ =>
    z_gt (σ k0 8) fun v52 =>
    z_c1 (f_X7_see F k0 v52 σ) fun v53 =>
    z_gt v53 fun v54 =>
    z_gt 97 fun v55 =>
    z_gt 122 fun v56 =>
    z_c1 (f_X7_in F v54 v55 v56 σ) fun v57 =>
    if v57 = 0 then (
      z_gt 1 fun v58 =>
      z_sg (z_up σ k0 10 v58) fun σ11 =>
      some σ11)
    else (
      z_gt (σ k0 8) fun v59 =>
      z_gt 1 fun v60 =>
      z_ck (v59 + v60) fun v61 =>
      z_sg (z_up σ k0 8 v61) fun σ12 =>
      f_X7_advance_L83 F k0 n σ12)

def f_X7_advance_L0 (F : Nat) (k0 : Nat)   : Nat → St → Option (St)
  | 0, _ => none
  | n + 1, σ =>
    z_gt (σ k0 8) fun v1 =>
    z_c1 (f_X7_see F k0 v1 σ) fun v2 =>
    z_gt 32 fun v3 =>
    if v2 = v3 then (
      z_gt (σ k0 8) fun v4 =>
      z_gt 1 fun v5 =>
      z_ck (v4 + v5) fun v6 =>
      z_sg (z_up σ k0 8 v6) fun σ1 =>
      f_X7_advance_L0 F k0 n σ1)
    else (
      z_gt (σ k0 8) fun v7 =>
      z_c1 (f_X7_see F k0 v7 σ) fun v8 =>
      z_gt 10 fun v9 =>
      if ¬ v8 = v9 then (
        z_gt (σ k0 8) fun v10 =>
        z_sg (z_up σ k0 9 v10) fun σ2 =>
        z_gt (σ2 k0 8) fun v11 =>
        z_c1 (f_X7_see F k0 v11 σ2) fun v12 =>
        z_gt (-1) fun v13 =>
        if ¬ v12 = v13 then (
          z_gt v12 fun v14 =>
          z_gt 97 fun v15 =>
          z_gt 122 fun v16 =>
          z_c1 (f_X7_in F v14 v15 v16 σ2) fun v17 =>
          if v17 = 0 then (
            z_gt v12 fun v18 =>
            z_gt 48 fun v19 =>
            z_gt 57 fun v20 =>
            z_c1 (f_X7_in F v18 v19 v20 σ2) fun v21 =>
            if v21 = 0 then (
              z_gt 59 fun v22 =>
              if ¬ v12 = v22 then (
                z_gt 4 fun v23 =>
                z_sg (z_up σ2 k0 10 v23) fun σ3 =>
                z_gt (σ3 k0 8) fun v24 =>
                z_gt 1 fun v25 =>
                z_ck (v24 + v25) fun v26 =>
                z_sg (z_up σ3 k0 8 v26) fun σ4 =>
                some σ4)
              else (
                z_gt 3 fun v27 =>
                z_sg (z_up σ2 k0 10 v27) fun σ5 =>
                z_gt (σ5 k0 8) fun v28 =>
                z_gt 1 fun v29 =>
                z_ck (v28 + v29) fun v30 =>
                z_sg (z_up σ5 k0 8 v30) fun σ6 =>
                some σ6))
            else (
              z_gt 0 fun v31 =>
              z_sg (z_up σ2 k0 11 v31) fun σ7 =>
              f_X7_advance_L144 F k0 F σ7))
          else (
            f_X7_advance_L83 F k0 F σ2))
        else (
          z_gt 0 fun v62 =>
          z_sg (z_up σ2 k0 10 v62) fun σ13 =>
          some σ13))
      else (
        z_gt (σ k0 8) fun v63 =>
        z_gt 1 fun v64 =>
        z_ck (v63 + v64) fun v65 =>
        z_sg (z_up σ k0 8 v65) fun σ14 =>
        f_X7_advance_L0 F k0 n σ14))

def f_X7_advance (F : Nat) (k0 : Nat) (σ : St) : Option (St) :=
  z_ob 7 k0 <| 
  f_X7_advance_L0 F k0 F σ
theorem cb_X7_advance : CB yX7_advance cX7_advance 2 none 0 := ⟨ki_X7_advance, kq_X7_advance, kn_X7, kc_X7_advance, by decide +kernel, by decide +kernel, by decide +kernel⟩
set_option maxRecDepth 20000 in
set_option maxHeartbeats 4000000 in
theorem m_X7_advance (l : Launch) (G : GG) (F : Nat) (k0 : Nat) (σ : St) : ∀ r, f_X7_advance F k0 σ = some r → MC G l yX7_advance cX7_advance 2 none { frames := 1, cells := 0, slots := 0, locals := 45 } [.ref (gad G k0)] σ vV r := by
  refine MC_of (own := RX7) (fun _ => vV) (fun r => r) (by decide +kernel) rfl (Nat.le_of_ble_eq_true rfl) ?_
  intro p e s m args below meth c C hr hlo ls hl
  have hl : lv_has ls 2 [(0, .ref (gad G k0))] := hl
  unfold f_X7_advance
  refine q_ob (fun hk0 => ?_)
  have B144 : ∀ (n : Nat)  (σ : St) (ls : Array Slot), lv_has ls 2 [(0, .ref (gad G k0))] → Sim G (AG G) 0 0 p l e { frames := 1, cells := 0, slots := 0, locals := 45 } s m args below meth c (fun r : St => MQ below (QC G (vV) (r)) args s 0 0 (AG G)) σ (f_X7_advance_L144 F k0   n  σ) (F0 m 144 ls []) := by
    intro n
    induction n with
    | zero =>
      intro  σ ls hl
      exact sim_none
    | succ n ih =>
      intro  σ ls hl
      rw [f_X7_advance_L144]
      refine q_aload_n C dX7_advance_144 rfl (lv_at hl 0 rfl) ?_
      refine q_aload_n C dX7_advance_145 rfl (lv_at hl 0 rfl) ?_
      refine g_7_8 C hk0 kf_X7_146 dX7_advance_146 (fun v32 => ?_)
      refine q_c1i C (fun r h => cr_V (As := [.int v32]) (rest := []) C (m_X7_see l G F k0 v32 σ r h) cb_X7_see hk0 (by decide) rfl (cf_7 hk0 _) rfl kl_X7_149 ⟨Nat.le_of_ble_eq_true rfl, Nat.le_of_ble_eq_true rfl⟩ ⟨Nat.zero_le _, Nat.zero_le _⟩ hl.1 rfl (Nat.le_of_ble_eq_true rfl) dX7_advance_149 rfl) (fun v33 => ?_)
      refine q_i2l C dX7_advance_152 (fun v34 => ?_)
      refine q_ldc2 C kk_X7_162 dX7_advance_153 (by decide) (fun v35 => ?_)
      refine q_ldc2 C kk_X7_164 dX7_advance_156 (by decide) (fun v36 => ?_)
      refine q_c1i C (fun r h => cr_S (As := [.long v34, .long v35, .long v36]) (rest := []) C (m_X7_in l G F v34 v35 v36 σ r h) sb_X7_in kl_X7_103 ⟨Nat.le_of_ble_eq_true rfl, Nat.le_of_ble_eq_true rfl⟩ ⟨Nat.zero_le _, Nat.zero_le _⟩ hl.1 rfl (Nat.le_of_ble_eq_true rfl) dX7_advance_159 rfl) (fun v37 => ?_)
      refine q_if_eq C 206 dX7_advance_162 (by decide) ?_ ?_
      · refine q_aload_n C dX7_advance_206 rfl (lv_at hl 0 rfl) ?_
        refine q_iconst C dX7_advance_207 rfl (by decide) (fun v38 => ?_)
        refine p_7_10 C hk0 kf_X7_155 dX7_advance_208 (q_sg (fun σ8 => ?_))
        refine q_goto C 239 dX7_advance_211 (by decide) ?_
        exact q_vretE C hr hlo dX7_advance_239
      · refine q_aload_n C dX7_advance_165 rfl (lv_at hl 0 rfl) ?_
        refine q_ldc C kk_X7_169 dX7_advance_166 (by decide) (fun v39 => ?_)
        refine q_bipush C dX7_advance_168 rfl (by decide) (fun v40 => ?_)
        refine q_aload_n C dX7_advance_170 rfl (lv_at hl 0 rfl) ?_
        refine g_7_11 C hk0 kf_X7_166 dX7_advance_171 (fun v41 => ?_)
        refine q_imul C dX7_advance_174 (fun v42 => ?_)
        refine q_aload_n C dX7_advance_175 rfl (lv_at hl 0 rfl) ?_
        refine q_aload_n C dX7_advance_176 rfl (lv_at hl 0 rfl) ?_
        refine g_7_8 C hk0 kf_X7_146 dX7_advance_177 (fun v43 => ?_)
        refine q_c1i C (fun r h => cr_V (As := [.int v43]) (rest := [.int v42, .int v39, .ref (gad G k0)]) C (m_X7_see l G F k0 v43 σ r h) cb_X7_see hk0 (by decide) rfl (cf_7 hk0 _) rfl kl_X7_149 ⟨Nat.le_of_ble_eq_true rfl, Nat.le_of_ble_eq_true rfl⟩ ⟨Nat.zero_le _, Nat.zero_le _⟩ hl.1 rfl (Nat.le_of_ble_eq_true rfl) dX7_advance_180 rfl) (fun v44 => ?_)
        refine q_iadd C dX7_advance_183 (fun v45 => ?_)
        refine q_bipush C dX7_advance_184 rfl (by decide) (fun v46 => ?_)
        refine q_isub C dX7_advance_186 (fun v47 => ?_)
        refine q_min C kl_X7_170 ⟨Nat.le_of_ble_eq_true rfl, Nat.le_of_ble_eq_true rfl⟩ ⟨Nat.zero_le _, Nat.zero_le _⟩ hl.1 dX7_advance_187 (fun v48 => ?_)
        refine p_7_11 C hk0 kf_X7_166 dX7_advance_190 (q_sg (fun σ9 => ?_))
        refine q_aload_n C dX7_advance_193 rfl (lv_at hl 0 rfl) ?_
        refine q_dup C dX7_advance_194 rfl ?_
        refine g_7_8 C hk0 kf_X7_146 dX7_advance_195 (fun v49 => ?_)
        refine q_iconst C dX7_advance_198 rfl (by decide) (fun v50 => ?_)
        refine q_iadd C dX7_advance_199 (fun v51 => ?_)
        refine p_7_8 C hk0 kf_X7_146 dX7_advance_200 (q_sg (fun σ10 => ?_))
        refine q_goto C 144 dX7_advance_203 (by decide) ?_
        exact ih σ10 ls (lv_sub hl [0] rfl)
  have B83 : ∀ (n : Nat)  (σ : St) (ls : Array Slot), lv_has ls 2 [(0, .ref (gad G k0))] → Sim G (AG G) 0 0 p l e { frames := 1, cells := 0, slots := 0, locals := 45 } s m args below meth c (fun r : St => MQ below (QC G (vV) (r)) args s 0 0 (AG G)) σ (f_X7_advance_L83 F k0   n  σ) (F0 m 83 ls []) := by
    intro n
    induction n with
    | zero =>
      intro  σ ls hl
      exact sim_none
    | succ n ih =>
      intro  σ ls hl
      rw [f_X7_advance_L83]
      refine q_aload_n C dX7_advance_83 rfl (lv_at hl 0 rfl) ?_
      refine q_aload_n C dX7_advance_84 rfl (lv_at hl 0 rfl) ?_
      refine g_7_8 C hk0 kf_X7_146 dX7_advance_85 (fun v52 => ?_)
      refine q_c1i C (fun r h => cr_V (As := [.int v52]) (rest := []) C (m_X7_see l G F k0 v52 σ r h) cb_X7_see hk0 (by decide) rfl (cf_7 hk0 _) rfl kl_X7_149 ⟨Nat.le_of_ble_eq_true rfl, Nat.le_of_ble_eq_true rfl⟩ ⟨Nat.zero_le _, Nat.zero_le _⟩ hl.1 rfl (Nat.le_of_ble_eq_true rfl) dX7_advance_88 rfl) (fun v53 => ?_)
      refine q_i2l C dX7_advance_91 (fun v54 => ?_)
      refine q_ldc2 C kk_X7_158 dX7_advance_92 (by decide) (fun v55 => ?_)
      refine q_ldc2 C kk_X7_160 dX7_advance_95 (by decide) (fun v56 => ?_)
      refine q_c1i C (fun r h => cr_S (As := [.long v54, .long v55, .long v56]) (rest := []) C (m_X7_in l G F v54 v55 v56 σ r h) sb_X7_in kl_X7_103 ⟨Nat.le_of_ble_eq_true rfl, Nat.le_of_ble_eq_true rfl⟩ ⟨Nat.zero_le _, Nat.zero_le _⟩ hl.1 rfl (Nat.le_of_ble_eq_true rfl) dX7_advance_98 rfl) (fun v57 => ?_)
      refine q_if_eq C 117 dX7_advance_101 (by decide) ?_ ?_
      · refine q_aload_n C dX7_advance_117 rfl (lv_at hl 0 rfl) ?_
        refine q_iconst C dX7_advance_118 rfl (by decide) (fun v58 => ?_)
        refine p_7_10 C hk0 kf_X7_155 dX7_advance_119 (q_sg (fun σ11 => ?_))
        refine q_goto C 239 dX7_advance_122 (by decide) ?_
        exact q_vretE C hr hlo dX7_advance_239
      · refine q_aload_n C dX7_advance_104 rfl (lv_at hl 0 rfl) ?_
        refine q_dup C dX7_advance_105 rfl ?_
        refine g_7_8 C hk0 kf_X7_146 dX7_advance_106 (fun v59 => ?_)
        refine q_iconst C dX7_advance_109 rfl (by decide) (fun v60 => ?_)
        refine q_iadd C dX7_advance_110 (fun v61 => ?_)
        refine p_7_8 C hk0 kf_X7_146 dX7_advance_111 (q_sg (fun σ12 => ?_))
        refine q_goto C 83 dX7_advance_114 (by decide) ?_
        exact ih σ12 ls (lv_sub hl [0] rfl)
  have B0 : ∀ (n : Nat)  (σ : St) (ls : Array Slot), lv_has ls 2 [(0, .ref (gad G k0))] → Sim G (AG G) 0 0 p l e { frames := 1, cells := 0, slots := 0, locals := 45 } s m args below meth c (fun r : St => MQ below (QC G (vV) (r)) args s 0 0 (AG G)) σ (f_X7_advance_L0 F k0   n  σ) (F0 m 0 ls []) := by
    intro n
    induction n with
    | zero =>
      intro  σ ls hl
      exact sim_none
    | succ n ih =>
      intro  σ ls hl
      rw [f_X7_advance_L0]
      refine q_aload_n C dX7_advance_0 rfl (lv_at hl 0 rfl) ?_
      refine q_aload_n C dX7_advance_1 rfl (lv_at hl 0 rfl) ?_
      refine g_7_8 C hk0 kf_X7_146 dX7_advance_2 (fun v1 => ?_)
      refine q_c1i C (fun r h => cr_V (As := [.int v1]) (rest := []) C (m_X7_see l G F k0 v1 σ r h) cb_X7_see hk0 (by decide) rfl (cf_7 hk0 _) rfl kl_X7_149 ⟨Nat.le_of_ble_eq_true rfl, Nat.le_of_ble_eq_true rfl⟩ ⟨Nat.zero_le _, Nat.zero_le _⟩ hl.1 rfl (Nat.le_of_ble_eq_true rfl) dX7_advance_5 rfl) (fun v2 => ?_)
      refine q_bipush C dX7_advance_8 rfl (by decide) (fun v3 => ?_)
      refine q_icmp_eq C 26 dX7_advance_10 (by decide) ?_ ?_
      · refine q_aload_n C dX7_advance_26 rfl (lv_at hl 0 rfl) ?_
        refine q_dup C dX7_advance_27 rfl ?_
        refine g_7_8 C hk0 kf_X7_146 dX7_advance_28 (fun v4 => ?_)
        refine q_iconst C dX7_advance_31 rfl (by decide) (fun v5 => ?_)
        refine q_iadd C dX7_advance_32 (fun v6 => ?_)
        refine p_7_8 C hk0 kf_X7_146 dX7_advance_33 (q_sg (fun σ1 => ?_))
        refine q_goto C 0 dX7_advance_36 (by decide) ?_
        exact ih σ1 ls (lv_sub hl [0] rfl)
      · refine q_aload_n C dX7_advance_13 rfl (lv_at hl 0 rfl) ?_
        refine q_aload_n C dX7_advance_14 rfl (lv_at hl 0 rfl) ?_
        refine g_7_8 C hk0 kf_X7_146 dX7_advance_15 (fun v7 => ?_)
        refine q_c1i C (fun r h => cr_V (As := [.int v7]) (rest := []) C (m_X7_see l G F k0 v7 σ r h) cb_X7_see hk0 (by decide) rfl (cf_7 hk0 _) rfl kl_X7_149 ⟨Nat.le_of_ble_eq_true rfl, Nat.le_of_ble_eq_true rfl⟩ ⟨Nat.zero_le _, Nat.zero_le _⟩ hl.1 rfl (Nat.le_of_ble_eq_true rfl) dX7_advance_18 rfl) (fun v8 => ?_)
        refine q_bipush C dX7_advance_21 rfl (by decide) (fun v9 => ?_)
        refine q_icmp_ne C 39 dX7_advance_23 (by decide) ?_ ?_
        · refine q_aload_n C dX7_advance_39 rfl (lv_at hl 0 rfl) ?_
          refine q_aload_n C dX7_advance_40 rfl (lv_at hl 0 rfl) ?_
          refine g_7_8 C hk0 kf_X7_146 dX7_advance_41 (fun v10 => ?_)
          refine p_7_9 C hk0 kf_X7_152 dX7_advance_44 (q_sg (fun σ2 => ?_))
          refine q_aload_n C dX7_advance_47 rfl (lv_at hl 0 rfl) ?_
          refine q_aload_n C dX7_advance_48 rfl (lv_at hl 0 rfl) ?_
          refine g_7_8 C hk0 kf_X7_146 dX7_advance_49 (fun v11 => ?_)
          refine q_c1i C (fun r h => cr_V (As := [.int v11]) (rest := []) C (m_X7_see l G F k0 v11 σ2 r h) cb_X7_see hk0 (by decide) rfl (cf_7 hk0 _) rfl kl_X7_149 ⟨Nat.le_of_ble_eq_true rfl, Nat.le_of_ble_eq_true rfl⟩ ⟨Nat.zero_le _, Nat.zero_le _⟩ hl.1 rfl (Nat.le_of_ble_eq_true rfl) dX7_advance_52 rfl) (fun v12 => ?_)
          refine q_istore_n C [(1, .int v12), (0, .ref (gad G k0))] dX7_advance_55 rfl hl (by decide) rfl (fun ls hl => ?_)
          refine q_iload_n C dX7_advance_56 rfl (lv_at hl 0 rfl) ?_
          refine q_iconst C dX7_advance_57 rfl (by decide) (fun v13 => ?_)
          refine q_icmp_ne C 69 dX7_advance_58 (by decide) ?_ ?_
          · refine q_iload_n C dX7_advance_69 rfl (lv_at hl 0 rfl) ?_
            refine q_i2l C dX7_advance_70 (fun v14 => ?_)
            refine q_ldc2 C kk_X7_158 dX7_advance_71 (by decide) (fun v15 => ?_)
            refine q_ldc2 C kk_X7_160 dX7_advance_74 (by decide) (fun v16 => ?_)
            refine q_c1i C (fun r h => cr_S (As := [.long v14, .long v15, .long v16]) (rest := []) C (m_X7_in l G F v14 v15 v16 σ2 r h) sb_X7_in kl_X7_103 ⟨Nat.le_of_ble_eq_true rfl, Nat.le_of_ble_eq_true rfl⟩ ⟨Nat.zero_le _, Nat.zero_le _⟩ hl.1 rfl (Nat.le_of_ble_eq_true rfl) dX7_advance_77 rfl) (fun v17 => ?_)
            refine q_if_eq C 125 dX7_advance_80 (by decide) ?_ ?_
            · refine q_iload_n C dX7_advance_125 rfl (lv_at hl 0 rfl) ?_
              refine q_i2l C dX7_advance_126 (fun v18 => ?_)
              refine q_ldc2 C kk_X7_162 dX7_advance_127 (by decide) (fun v19 => ?_)
              refine q_ldc2 C kk_X7_164 dX7_advance_130 (by decide) (fun v20 => ?_)
              refine q_c1i C (fun r h => cr_S (As := [.long v18, .long v19, .long v20]) (rest := []) C (m_X7_in l G F v18 v19 v20 σ2 r h) sb_X7_in kl_X7_103 ⟨Nat.le_of_ble_eq_true rfl, Nat.le_of_ble_eq_true rfl⟩ ⟨Nat.zero_le _, Nat.zero_le _⟩ hl.1 rfl (Nat.le_of_ble_eq_true rfl) dX7_advance_133 rfl) (fun v21 => ?_)
              refine q_if_eq C 214 dX7_advance_136 (by decide) ?_ ?_
              · refine q_aload_n C dX7_advance_214 rfl (lv_at hl 1 rfl) ?_
                refine q_iload_n C dX7_advance_215 rfl (lv_at hl 0 rfl) ?_
                refine q_bipush C dX7_advance_216 rfl (by decide) (fun v22 => ?_)
                refine q_icmp_ne C 225 dX7_advance_218 (by decide) ?_ ?_
                · refine q_iconst C dX7_advance_225 rfl (by decide) (fun v23 => ?_)
                  refine p_7_10 C hk0 kf_X7_155 dX7_advance_226 (q_sg (fun σ3 => ?_))
                  refine q_aload_n C dX7_advance_229 rfl (lv_at hl 1 rfl) ?_
                  refine q_dup C dX7_advance_230 rfl ?_
                  refine g_7_8 C hk0 kf_X7_146 dX7_advance_231 (fun v24 => ?_)
                  refine q_iconst C dX7_advance_234 rfl (by decide) (fun v25 => ?_)
                  refine q_iadd C dX7_advance_235 (fun v26 => ?_)
                  refine p_7_8 C hk0 kf_X7_146 dX7_advance_236 (q_sg (fun σ4 => ?_))
                  exact q_vretE C hr hlo dX7_advance_239
                · refine q_iconst C dX7_advance_221 rfl (by decide) (fun v27 => ?_)
                  refine q_goto C 226 dX7_advance_222 (by decide) ?_
                  refine p_7_10 C hk0 kf_X7_155 dX7_advance_226 (q_sg (fun σ5 => ?_))
                  refine q_aload_n C dX7_advance_229 rfl (lv_at hl 1 rfl) ?_
                  refine q_dup C dX7_advance_230 rfl ?_
                  refine g_7_8 C hk0 kf_X7_146 dX7_advance_231 (fun v28 => ?_)
                  refine q_iconst C dX7_advance_234 rfl (by decide) (fun v29 => ?_)
                  refine q_iadd C dX7_advance_235 (fun v30 => ?_)
                  refine p_7_8 C hk0 kf_X7_146 dX7_advance_236 (q_sg (fun σ6 => ?_))
                  exact q_vretE C hr hlo dX7_advance_239
              · refine q_aload_n C dX7_advance_139 rfl (lv_at hl 1 rfl) ?_
                refine q_iconst C dX7_advance_140 rfl (by decide) (fun v31 => ?_)
                refine p_7_11 C hk0 kf_X7_166 dX7_advance_141 (q_sg (fun σ7 => ?_))
                exact B144 F σ7 ls (lv_sub hl [1] rfl)
            · exact B83 F σ2 ls (lv_sub hl [1] rfl)
          · refine q_aload_n C dX7_advance_61 rfl (lv_at hl 1 rfl) ?_
            refine q_iconst C dX7_advance_62 rfl (by decide) (fun v62 => ?_)
            refine p_7_10 C hk0 kf_X7_155 dX7_advance_63 (q_sg (fun σ13 => ?_))
            refine q_goto C 239 dX7_advance_66 (by decide) ?_
            exact q_vretE C hr hlo dX7_advance_239
        · refine q_aload_n C dX7_advance_26 rfl (lv_at hl 0 rfl) ?_
          refine q_dup C dX7_advance_27 rfl ?_
          refine g_7_8 C hk0 kf_X7_146 dX7_advance_28 (fun v63 => ?_)
          refine q_iconst C dX7_advance_31 rfl (by decide) (fun v64 => ?_)
          refine q_iadd C dX7_advance_32 (fun v65 => ?_)
          refine p_7_8 C hk0 kf_X7_146 dX7_advance_33 (q_sg (fun σ14 => ?_))
          refine q_goto C 0 dX7_advance_36 (by decide) ?_
          exact ih σ14 ls (lv_sub hl [0] rfl)
  exact B0 F σ ls (lv_sub hl [0] rfl)
def f_X7_good (F : Nat) (k0 : Nat) (σ : St) : Option (Int) :=
  z_ob 7 k0 <| 
  z_gt (σ k0 12) fun v1 =>
  if ¬ v1 = 0 then (
    z_gt 0 fun v2 =>
    z_bo v2 <| some v2)
  else (
    z_gt 1 fun v3 =>
    z_bo v3 <| some v3)
theorem cb_X7_good : CB yX7_good cX7_good 1 (some .boolean) 0 := ⟨ki_X7_good, kq_X7_good, kn_X7, kc_X7_good, by decide +kernel, by decide +kernel, by decide +kernel⟩
set_option maxRecDepth 20000 in
set_option maxHeartbeats 4000000 in
theorem m_X7_good (l : Launch) (G : GG) (F : Nat) (k0 : Nat) (σ : St) : ∀ r, f_X7_good F k0 σ = some r → MC G l yX7_good cX7_good 1 (some .boolean) { frames := 0, cells := 0, slots := 0, locals := 0 } [.ref (gad G k0)] σ (vI r) σ := by
  refine MC_of (own := RX7) (vI) (fun _ => σ) (by decide +kernel) rfl (Nat.le_of_ble_eq_true rfl) ?_
  intro p e s m args below meth c C hr hlo ls hl
  have hl : lv_has ls 1 [(0, .ref (gad G k0))] := hl
  unfold f_X7_good
  refine q_ob (fun hk0 => ?_)
  refine q_aload_n C dX7_good_0 rfl (lv_at hl 0 rfl) ?_
  refine g_7_12 C hk0 kf_X7_176 dX7_good_1 (fun v1 => ?_)
  refine q_if_ne C 11 dX7_good_4 (by decide) ?_ ?_
  · refine q_iconst C dX7_good_11 rfl (by decide) (fun v2 => ?_)
    exact q_zret C hr hlo dX7_good_12
  · refine q_iconst C dX7_good_7 rfl (by decide) (fun v3 => ?_)
    refine q_goto C 12 dX7_good_8 (by decide) ?_
    exact q_zret C hr hlo dX7_good_12
def f_X7_errs (F : Nat) (k0 : Nat) (a1 : Int) (σ : St) : Option (St) :=
  z_ob 7 k0 <| 
  z_c1 (f_X7_good F k0 σ) fun v1 =>
  if ¬ v1 = 0 then (
    z_sg (z_up σ k0 12 a1) fun σ1 =>
    z_gt (σ1 k0 9) fun v2 =>
    z_sg (z_up σ1 k0 13 v2) fun σ2 =>
    some σ2)
  else (
    some σ)
theorem cb_X7_errs : CB yX7_errs cX7_errs 2 none 1 := ⟨ki_X7_errs, kq_X7_errs, kn_X7, kc_X7_errs, by decide +kernel, by decide +kernel, by decide +kernel⟩
set_option maxRecDepth 20000 in
set_option maxHeartbeats 4000000 in
theorem m_X7_errs (l : Launch) (G : GG) (F : Nat) (k0 : Nat) (a1 : Int32) (σ : St) : ∀ r, f_X7_errs F k0 a1.toInt σ = some r → MC G l yX7_errs cX7_errs 2 none { frames := 1, cells := 0, slots := 0, locals := 20 } [.ref (gad G k0), .int a1] σ vV r := by
  refine MC_of (own := RX7) (fun _ => vV) (fun r => r) (by decide +kernel) rfl (Nat.le_of_ble_eq_true rfl) ?_
  intro p e s m args below meth c C hr hlo ls hl
  have hl : lv_has ls 2 [(0, .ref (gad G k0)), (1, .int a1)] := hl
  unfold f_X7_errs
  refine q_ob (fun hk0 => ?_)
  refine q_aload_n C dX7_errs_0 rfl (lv_at hl 0 rfl) ?_
  refine q_c1i C (fun r h => cr_V (As := []) (rest := []) C (m_X7_good l G F k0 σ r h) cb_X7_good hk0 (by decide) rfl (cf_7 hk0 _) rfl kl_X7_179 ⟨Nat.le_of_ble_eq_true rfl, Nat.le_of_ble_eq_true rfl⟩ ⟨Nat.zero_le _, Nat.zero_le _⟩ hl.1 rfl (Nat.le_of_ble_eq_true rfl) dX7_errs_1 rfl) (fun v1 => ?_)
  refine q_if_ne C 8 dX7_errs_4 (by decide) ?_ ?_
  · refine q_aload_n C dX7_errs_8 rfl (lv_at hl 0 rfl) ?_
    refine q_iload_n C dX7_errs_9 rfl (lv_at hl 1 rfl) ?_
    refine p_7_12 C hk0 kf_X7_176 dX7_errs_10 (q_sg (fun σ1 => ?_))
    refine q_aload_n C dX7_errs_13 rfl (lv_at hl 0 rfl) ?_
    refine q_aload_n C dX7_errs_14 rfl (lv_at hl 0 rfl) ?_
    refine g_7_9 C hk0 kf_X7_152 dX7_errs_15 (fun v2 => ?_)
    refine p_7_13 C hk0 kf_X7_27 dX7_errs_18 (q_sg (fun σ2 => ?_))
    exact q_vretE C hr hlo dX7_errs_21
  · exact q_vretE C hr hlo dX7_errs_7
def f_X7_is_L39 (F : Nat) (k0 : Nat) (a1 : Nat)  (σ : St) : Nat → Int → Int → Option (Int)
  | 0, _, _ => none
  | n + 1, x4, x5 =>
    z_c1 (f_J0_length_8abf5 F a1 σ) fun v6 =>
    if v6 ≤ x5 then (
      z_bo x4 <| some x4)
    else (
      if x4 = 0 then (
        z_bo x4 <| some x4)
      else (
        z_gt (σ k0 9) fun v7 =>
        z_ck (v7 + x5) fun v8 =>
        z_ix v8 700 <| z_gt (σ (k0 + 4) v8) fun v9 =>
        z_c1 (f_J0_charAt_5068e F a1 x5 σ) fun v10 =>
        if ¬ v9 = v10 then (
          z_gt 0 fun v11 =>
          z_ck (x5 + 1) fun v12 =>
          f_X7_is_L39 F k0 a1 σ n v11 v12)
        else (
          z_gt 1 fun v13 =>
          z_ck (x5 + 1) fun v14 =>
          f_X7_is_L39 F k0 a1 σ n v13 v14)))

def f_X7_is (F : Nat) (k0 : Nat) (a1 : Nat) (σ : St) : Option (Int) :=
  z_ob 7 k0 <| z_st a1 <| 
  z_c1 (f_X7_good F k0 σ) fun v1 =>
  if v1 = 0 then (
    z_gt 0 fun v2 =>
    z_gt 0 fun v3 =>
    f_X7_is_L39 F k0 a1 σ F v2 v3)
  else (
    z_gt (σ k0 10) fun v15 =>
    z_gt 1 fun v16 =>
    if ¬ v15 = v16 then (
      z_gt 0 fun v17 =>
      z_gt 0 fun v18 =>
      f_X7_is_L39 F k0 a1 σ F v17 v18)
    else (
      z_gt (σ k0 8) fun v19 =>
      z_gt (σ k0 9) fun v20 =>
      z_ck (v19 - v20) fun v21 =>
      z_c1 (f_J0_length_8abf5 F a1 σ) fun v22 =>
      if ¬ v21 = v22 then (
        z_gt 0 fun v23 =>
        z_gt 0 fun v24 =>
        f_X7_is_L39 F k0 a1 σ F v23 v24)
      else (
        z_gt 1 fun v25 =>
        z_gt 0 fun v26 =>
        f_X7_is_L39 F k0 a1 σ F v25 v26)))
theorem cb_X7_is : CB yX7_is cX7_is 4 (some .boolean) 1 := ⟨ki_X7_is, kq_X7_is, kn_X7, kc_X7_is, by decide +kernel, by decide +kernel, by decide +kernel⟩
set_option maxRecDepth 20000 in
set_option maxHeartbeats 4000000 in
theorem m_X7_is (l : Launch) (G : GG) (F : Nat) (k0 : Nat) (a1 : Nat) (σ : St) : ∀ r, f_X7_is F k0 a1 σ = some r → MC G l yX7_is cX7_is 4 (some .boolean) { frames := 4, cells := 0, slots := 0, locals := 85 } [.ref (gad G k0), .ref (gak G a1)] σ (vI r) σ := by
  refine MC_of (own := RX7) (vI) (fun _ => σ) (by decide +kernel) rfl (Nat.le_of_ble_eq_true rfl) ?_
  intro p e s m args below meth c C hr hlo ls hl
  have hl : lv_has ls 4 [(0, .ref (gad G k0)), (1, .ref (gak G a1))] := hl
  unfold f_X7_is
  refine q_ob (fun hk0 => ?_)
  refine q_st (fun ht1 => ?_)
  have B39 : ∀ (n : Nat) (x4 : Int32) (x5 : Int32) (ls : Array Slot), lv_has ls 4 [(0, .ref (gad G k0)), (1, .ref (gak G a1)), (2, .int x4), (3, .int x5)] → Sim G (AG G) 0 0 p l e { frames := 4, cells := 0, slots := 0, locals := 85 } s m args below meth c (fun r : Int => MQ below (QC G (vI r) (σ)) args s 0 0 (AG G)) σ (f_X7_is_L39 F k0 a1  σ n x4.toInt x5.toInt) (F0 m 39 ls []) := by
    intro n
    induction n with
    | zero =>
      intro x4 x5 ls hl
      exact sim_none
    | succ n ih =>
      intro x4 x5 ls hl
      rw [f_X7_is_L39]
      refine q_iload_n C dX7_is_39 rfl (lv_at hl 3 rfl) ?_
      refine q_aload_n C dX7_is_40 rfl (lv_at hl 1 rfl) ?_
      refine q_c1i C (fun r h => cr_VS (As := []) (rest := [.int x5]) C (m_J0_length_8abf5 l G F a1 σ r h) ht1 cb_J0_length_8abf5 rfl kl_X7_182 ⟨Nat.le_of_ble_eq_true rfl, Nat.le_of_ble_eq_true rfl⟩ ⟨Nat.zero_le _, Nat.zero_le _⟩ hl.1 rfl (Nat.le_of_ble_eq_true rfl) dX7_is_41 rfl) (fun v6 => ?_)
      refine q_icmp_ge C 82 dX7_is_44 (by decide) ?_ ?_
      · refine q_iload_n C dX7_is_82 rfl (lv_at hl 2 rfl) ?_
        exact q_zret C hr hlo dX7_is_83
      · refine q_iload_n C dX7_is_47 rfl (lv_at hl 2 rfl) ?_
        refine q_if_eq C 82 dX7_is_48 (by decide) ?_ ?_
        · refine q_iload_n C dX7_is_82 rfl (lv_at hl 2 rfl) ?_
          exact q_zret C hr hlo dX7_is_83
        · refine q_aload_n C dX7_is_51 rfl (lv_at hl 0 rfl) ?_
          refine g_7_4 C hk0 kf_X7_20 dX7_is_52 ?_
          refine q_aload_n C dX7_is_55 rfl (lv_at hl 0 rfl) ?_
          refine g_7_9 C hk0 kf_X7_152 dX7_is_56 (fun v7 => ?_)
          refine q_iload_n C dX7_is_59 rfl (lv_at hl 3 rfl) ?_
          refine q_iadd C dX7_is_60 (fun v8 => ?_)
          refine a_bld C (yk_7_4 hk0) (yl_7_4 hk0) dX7_is_61 (fun v9 => ?_)
          refine q_aload_n C dX7_is_62 rfl (lv_at hl 1 rfl) ?_
          refine q_iload_n C dX7_is_63 rfl (lv_at hl 3 rfl) ?_
          refine q_c1i C (fun r h => cr_VS (As := [.int x5]) (rest := [.int v9]) C (m_J0_charAt_5068e l G F a1 x5 σ r h) ht1 cb_J0_charAt_5068e rfl kl_X7_187 ⟨Nat.le_of_ble_eq_true rfl, Nat.le_of_ble_eq_true rfl⟩ ⟨Nat.zero_le _, Nat.zero_le _⟩ hl.1 rfl (Nat.le_of_ble_eq_true rfl) dX7_is_64 rfl) (fun v10 => ?_)
          refine q_icmp_ne C 74 dX7_is_67 (by decide) ?_ ?_
          · refine q_iconst C dX7_is_74 rfl (by decide) (fun v11 => ?_)
            refine q_istore_n C [(2, .int v11), (0, .ref (gad G k0)), (1, .ref (gak G a1)), (3, .int x5)] dX7_is_75 rfl hl (by decide) rfl (fun ls hl => ?_)
            refine q_iinc (k := 3) C (fun v12 => [(3, .int v12), (2, .int v11), (0, .ref (gad G k0)), (1, .ref (gak G a1))]) dX7_is_76 hl rfl (by decide) (by decide) (fun _ => rfl) (fun v12 ls hl => ?_)
            refine q_goto C 39 dX7_is_79 (by decide) ?_
            exact ih v11 v12 ls (lv_sub hl [2, 3, 1, 0] rfl)
          · refine q_iconst C dX7_is_70 rfl (by decide) (fun v13 => ?_)
            refine q_goto C 75 dX7_is_71 (by decide) ?_
            refine q_istore_n C [(2, .int v13), (0, .ref (gad G k0)), (1, .ref (gak G a1)), (3, .int x5)] dX7_is_75 rfl hl (by decide) rfl (fun ls hl => ?_)
            refine q_iinc (k := 3) C (fun v14 => [(3, .int v14), (2, .int v13), (0, .ref (gad G k0)), (1, .ref (gak G a1))]) dX7_is_76 hl rfl (by decide) (by decide) (fun _ => rfl) (fun v14 ls hl => ?_)
            refine q_goto C 39 dX7_is_79 (by decide) ?_
            exact ih v13 v14 ls (lv_sub hl [2, 3, 1, 0] rfl)
  refine q_aload_n C dX7_is_0 rfl (lv_at hl 0 rfl) ?_
  refine q_c1i C (fun r h => cr_V (As := []) (rest := []) C (m_X7_good l G F k0 σ r h) cb_X7_good hk0 (by decide) rfl (cf_7 hk0 _) rfl kl_X7_179 ⟨Nat.le_of_ble_eq_true rfl, Nat.le_of_ble_eq_true rfl⟩ ⟨Nat.zero_le _, Nat.zero_le _⟩ hl.1 rfl (Nat.le_of_ble_eq_true rfl) dX7_is_1 rfl) (fun v1 => ?_)
  refine q_if_eq C 35 dX7_is_4 (by decide) ?_ ?_
  · refine q_iconst C dX7_is_35 rfl (by decide) (fun v2 => ?_)
    refine q_istore_n C [(2, .int v2), (0, .ref (gad G k0)), (1, .ref (gak G a1))] dX7_is_36 rfl hl (by decide) rfl (fun ls hl => ?_)
    refine q_iconst C dX7_is_37 rfl (by decide) (fun v3 => ?_)
    refine q_istore_n C [(3, .int v3), (2, .int v2), (0, .ref (gad G k0)), (1, .ref (gak G a1))] dX7_is_38 rfl hl (by decide) rfl (fun ls hl => ?_)
    exact B39 F v2 v3 ls (lv_sub hl [2, 3, 1, 0] rfl)
  · refine q_aload_n C dX7_is_7 rfl (lv_at hl 0 rfl) ?_
    refine g_7_10 C hk0 kf_X7_155 dX7_is_8 (fun v15 => ?_)
    refine q_iconst C dX7_is_11 rfl (by decide) (fun v16 => ?_)
    refine q_icmp_ne C 35 dX7_is_12 (by decide) ?_ ?_
    · refine q_iconst C dX7_is_35 rfl (by decide) (fun v17 => ?_)
      refine q_istore_n C [(2, .int v17), (0, .ref (gad G k0)), (1, .ref (gak G a1))] dX7_is_36 rfl hl (by decide) rfl (fun ls hl => ?_)
      refine q_iconst C dX7_is_37 rfl (by decide) (fun v18 => ?_)
      refine q_istore_n C [(3, .int v18), (2, .int v17), (0, .ref (gad G k0)), (1, .ref (gak G a1))] dX7_is_38 rfl hl (by decide) rfl (fun ls hl => ?_)
      exact B39 F v17 v18 ls (lv_sub hl [2, 3, 1, 0] rfl)
    · refine q_aload_n C dX7_is_15 rfl (lv_at hl 0 rfl) ?_
      refine g_7_8 C hk0 kf_X7_146 dX7_is_16 (fun v19 => ?_)
      refine q_aload_n C dX7_is_19 rfl (lv_at hl 0 rfl) ?_
      refine g_7_9 C hk0 kf_X7_152 dX7_is_20 (fun v20 => ?_)
      refine q_isub C dX7_is_23 (fun v21 => ?_)
      refine q_aload_n C dX7_is_24 rfl (lv_at hl 1 rfl) ?_
      refine q_c1i C (fun r h => cr_VS (As := []) (rest := [.int v21]) C (m_J0_length_8abf5 l G F a1 σ r h) ht1 cb_J0_length_8abf5 rfl kl_X7_182 ⟨Nat.le_of_ble_eq_true rfl, Nat.le_of_ble_eq_true rfl⟩ ⟨Nat.zero_le _, Nat.zero_le _⟩ hl.1 rfl (Nat.le_of_ble_eq_true rfl) dX7_is_25 rfl) (fun v22 => ?_)
      refine q_icmp_ne C 35 dX7_is_28 (by decide) ?_ ?_
      · refine q_iconst C dX7_is_35 rfl (by decide) (fun v23 => ?_)
        refine q_istore_n C [(2, .int v23), (0, .ref (gad G k0)), (1, .ref (gak G a1))] dX7_is_36 rfl hl (by decide) rfl (fun ls hl => ?_)
        refine q_iconst C dX7_is_37 rfl (by decide) (fun v24 => ?_)
        refine q_istore_n C [(3, .int v24), (2, .int v23), (0, .ref (gad G k0)), (1, .ref (gak G a1))] dX7_is_38 rfl hl (by decide) rfl (fun ls hl => ?_)
        exact B39 F v23 v24 ls (lv_sub hl [2, 3, 1, 0] rfl)
      · refine q_iconst C dX7_is_31 rfl (by decide) (fun v25 => ?_)
        refine q_goto C 36 dX7_is_32 (by decide) ?_
        refine q_istore_n C [(2, .int v25), (0, .ref (gad G k0)), (1, .ref (gak G a1))] dX7_is_36 rfl hl (by decide) rfl (fun ls hl => ?_)
        refine q_iconst C dX7_is_37 rfl (by decide) (fun v26 => ?_)
        refine q_istore_n C [(3, .int v26), (2, .int v25), (0, .ref (gad G k0)), (1, .ref (gak G a1))] dX7_is_38 rfl hl (by decide) rfl (fun ls hl => ?_)
        exact B39 F v25 v26 ls (lv_sub hl [2, 3, 1, 0] rfl)
def f_X7_expects (F : Nat) (k0 : Nat) (a1 : Nat) (σ : St) : Option (St) :=
  z_ob 7 k0 <| z_st a1 <| 
  z_c1 (f_X7_is F k0 a1 σ) fun v1 =>
  if v1 = 0 then (
    z_gt 1 fun v2 =>
    z_c1 (f_X7_errs F k0 v2 σ) fun σ1 =>
    some σ1)
  else (
    z_c1 (f_X7_advance F k0 σ) fun σ2 =>
    some σ2)
theorem cb_X7_expects : CB yX7_expects cX7_expects 2 none 1 := ⟨ki_X7_expects, kq_X7_expects, kn_X7, kc_X7_expects, by decide +kernel, by decide +kernel, by decide +kernel⟩
set_option maxRecDepth 20000 in
set_option maxHeartbeats 4000000 in
theorem m_X7_expects (l : Launch) (G : GG) (F : Nat) (k0 : Nat) (a1 : Nat) (σ : St) : ∀ r, f_X7_expects F k0 a1 σ = some r → MC G l yX7_expects cX7_expects 2 none { frames := 5, cells := 0, slots := 0, locals := 108 } [.ref (gad G k0), .ref (gak G a1)] σ vV r := by
  refine MC_of (own := RX7) (fun _ => vV) (fun r => r) (by decide +kernel) rfl (Nat.le_of_ble_eq_true rfl) ?_
  intro p e s m args below meth c C hr hlo ls hl
  have hl : lv_has ls 2 [(0, .ref (gad G k0)), (1, .ref (gak G a1))] := hl
  unfold f_X7_expects
  refine q_ob (fun hk0 => ?_)
  refine q_st (fun ht1 => ?_)
  refine q_aload_n C dX7_expects_0 rfl (lv_at hl 0 rfl) ?_
  refine q_aload_n C dX7_expects_1 rfl (lv_at hl 1 rfl) ?_
  refine q_c1i C (fun r h => cr_V (As := [.ref (gak G a1)]) (rest := []) C (m_X7_is l G F k0 a1 σ r h) cb_X7_is hk0 (by decide) rfl (cf_7 hk0 _) rfl kl_X7_191 ⟨Nat.le_of_ble_eq_true rfl, Nat.le_of_ble_eq_true rfl⟩ ⟨Nat.zero_le _, Nat.zero_le _⟩ hl.1 rfl (Nat.le_of_ble_eq_true rfl) dX7_expects_2 rfl) (fun v1 => ?_)
  refine q_if_eq C 15 dX7_expects_5 (by decide) ?_ ?_
  · refine q_aload_n C dX7_expects_15 rfl (lv_at hl 0 rfl) ?_
    refine q_iconst C dX7_expects_16 rfl (by decide) (fun v2 => ?_)
    refine q_cv C (fun r h => cr_V (As := [.int v2]) (rest := []) C (m_X7_errs l G F k0 v2 σ r h) cb_X7_errs hk0 (by decide) rfl (cf_7 hk0 _) rfl kl_X7_198 ⟨Nat.le_of_ble_eq_true rfl, Nat.le_of_ble_eq_true rfl⟩ ⟨Nat.zero_le _, Nat.zero_le _⟩ hl.1 rfl (Nat.le_of_ble_eq_true rfl) dX7_expects_17 rfl) (fun σ1 => ?_)
    exact q_vretE C hr hlo dX7_expects_20
  · refine q_aload_n C dX7_expects_8 rfl (lv_at hl 0 rfl) ?_
    refine q_cv C (fun r h => cr_V (As := []) (rest := []) C (m_X7_advance l G F k0 σ r h) cb_X7_advance hk0 (by decide) rfl (cf_7 hk0 _) rfl kl_X7_195 ⟨Nat.le_of_ble_eq_true rfl, Nat.le_of_ble_eq_true rfl⟩ ⟨Nat.zero_le _, Nat.zero_le _⟩ hl.1 rfl (Nat.le_of_ble_eq_true rfl) dX7_expects_9 rfl) (fun σ2 => ?_)
    refine q_goto C 20 dX7_expects_12 (by decide) ?_
    exact q_vretE C hr hlo dX7_expects_20
def f_X7_number_J47 (F : Nat) (k0 : Nat) (a1 : Int) (a2 : Int)    (σ : St) : Option (Int × St) :=
  z_c1 (f_X7_good F k0 σ) fun v3 =>
  if ¬ v3 = 0 then (
    z_gt (σ k0 11) fun v4 =>
    z_c1 (f_X7_advance F k0 σ) fun σ1 =>
    some (v4, σ1))
  else (
    z_gt 0 fun v5 =>
    some (v5, σ))

def f_X7_number_J20 (F : Nat) (k0 : Nat) (a1 : Int) (a2 : Int)    (σ : St) : Option (Int × St) :=
  z_c1 (f_X7_good F k0 σ) fun v2 =>
  if v2 = 0 then (
    f_X7_number_J47 F k0 a1 a2 σ)
  else (
    z_gt (σ k0 11) fun v6 =>
    z_gt v6 fun v7 =>
    z_gt a1 fun v8 =>
    z_gt a2 fun v9 =>
    z_c1 (f_X7_in F v7 v8 v9 σ) fun v10 =>
    if ¬ v10 = 0 then (
      f_X7_number_J47 F k0 a1 a2 σ)
    else (
      z_gt 2 fun v11 =>
      z_c1 (f_X7_errs F k0 v11 σ) fun σ2 =>
      f_X7_number_J47 F k0 a1 a2 σ2))

def f_X7_number (F : Nat) (k0 : Nat) (a1 : Int) (a2 : Int) (σ : St) : Option (Int × St) :=
  z_ob 7 k0 <| 
  z_c1 (f_X7_good F k0 σ) fun v1 =>
  if v1 = 0 then (
    f_X7_number_J20 F k0 a1 a2 σ)
  else (
    z_gt (σ k0 10) fun v12 =>
    z_gt 2 fun v13 =>
    if v12 = v13 then (
      f_X7_number_J20 F k0 a1 a2 σ)
    else (
      z_gt 1 fun v14 =>
      z_c1 (f_X7_errs F k0 v14 σ) fun σ3 =>
      f_X7_number_J20 F k0 a1 a2 σ3))
theorem cb_X7_number : CB yX7_number cX7_number 4 (some .int) 2 := ⟨ki_X7_number, kq_X7_number, kn_X7, kc_X7_number, by decide +kernel, by decide +kernel, by decide +kernel⟩
set_option maxRecDepth 20000 in
set_option maxHeartbeats 4000000 in
theorem m_X7_number (l : Launch) (G : GG) (F : Nat) (k0 : Nat) (a1 : Int32) (a2 : Int32) (σ : St) : ∀ r, f_X7_number F k0 a1.toInt a2.toInt σ = some r → MC G l yX7_number cX7_number 4 (some .int) { frames := 2, cells := 0, slots := 0, locals := 66 } [.ref (gad G k0), .int a1, .int a2] σ (vI r.1) r.2 := by
  refine MC_of (own := RX7) (fun r : Int × St => vI r.1) (fun r : Int × St => r.2) (by decide +kernel) rfl (Nat.le_of_ble_eq_true rfl) ?_
  intro p e s m args below meth c C hr hlo ls hl
  have hl : lv_has ls 4 [(0, .ref (gad G k0)), (1, .int a1), (2, .int a2)] := hl
  unfold f_X7_number
  refine q_ob (fun hk0 => ?_)
  have B47 : ∀   (σ : St) (ls : Array Slot), lv_has ls 4 [(0, .ref (gad G k0))] → Sim G (AG G) 0 0 p l e { frames := 2, cells := 0, slots := 0, locals := 66 } s m args below meth c (fun r : Int × St => MQ below (QC G (vI r.1) (r.2)) args s 0 0 (AG G)) σ (f_X7_number_J47 F k0 a1.toInt a2.toInt     σ) (F0 m 47 ls []) := by
    intro  σ ls hl
    unfold f_X7_number_J47
    refine q_aload_n C dX7_number_47 rfl (lv_at hl 0 rfl) ?_
    refine q_c1i C (fun r h => cr_V (As := []) (rest := []) C (m_X7_good l G F k0 σ r h) cb_X7_good hk0 (by decide) rfl (cf_7 hk0 _) rfl kl_X7_179 ⟨Nat.le_of_ble_eq_true rfl, Nat.le_of_ble_eq_true rfl⟩ ⟨Nat.zero_le _, Nat.zero_le _⟩ hl.1 rfl (Nat.le_of_ble_eq_true rfl) dX7_number_48 rfl) (fun v3 => ?_)
    refine q_if_ne C 56 dX7_number_51 (by decide) ?_ ?_
    · refine q_aload_n C dX7_number_56 rfl (lv_at hl 0 rfl) ?_
      refine g_7_11 C hk0 kf_X7_166 dX7_number_57 (fun v4 => ?_)
      refine q_istore_n C [(3, .int v4), (0, .ref (gad G k0))] dX7_number_60 rfl hl (by decide) rfl (fun ls hl => ?_)
      refine q_aload_n C dX7_number_61 rfl (lv_at hl 1 rfl) ?_
      refine q_cv C (fun r h => cr_V (As := []) (rest := []) C (m_X7_advance l G F k0 σ r h) cb_X7_advance hk0 (by decide) rfl (cf_7 hk0 _) rfl kl_X7_195 ⟨Nat.le_of_ble_eq_true rfl, Nat.le_of_ble_eq_true rfl⟩ ⟨Nat.zero_le _, Nat.zero_le _⟩ hl.1 rfl (Nat.le_of_ble_eq_true rfl) dX7_number_62 rfl) (fun σ1 => ?_)
      refine q_iload_n C dX7_number_65 rfl (lv_at hl 0 rfl) ?_
      exact q_iretE C hr hlo dX7_number_66
    · refine q_iconst C dX7_number_54 rfl (by decide) (fun v5 => ?_)
      exact q_iretE C hr hlo dX7_number_55
  have B20 : ∀   (σ : St) (ls : Array Slot), lv_has ls 4 [(0, .ref (gad G k0)), (1, .int a1), (2, .int a2)] → Sim G (AG G) 0 0 p l e { frames := 2, cells := 0, slots := 0, locals := 66 } s m args below meth c (fun r : Int × St => MQ below (QC G (vI r.1) (r.2)) args s 0 0 (AG G)) σ (f_X7_number_J20 F k0 a1.toInt a2.toInt     σ) (F0 m 20 ls []) := by
    intro  σ ls hl
    unfold f_X7_number_J20
    refine q_aload_n C dX7_number_20 rfl (lv_at hl 0 rfl) ?_
    refine q_c1i C (fun r h => cr_V (As := []) (rest := []) C (m_X7_good l G F k0 σ r h) cb_X7_good hk0 (by decide) rfl (cf_7 hk0 _) rfl kl_X7_179 ⟨Nat.le_of_ble_eq_true rfl, Nat.le_of_ble_eq_true rfl⟩ ⟨Nat.zero_le _, Nat.zero_le _⟩ hl.1 rfl (Nat.le_of_ble_eq_true rfl) dX7_number_21 rfl) (fun v2 => ?_)
    refine q_if_eq C 47 dX7_number_24 (by decide) ?_ ?_
    · exact B47 σ ls (lv_sub hl [0] rfl)
    · refine q_aload_n C dX7_number_27 rfl (lv_at hl 0 rfl) ?_
      refine g_7_11 C hk0 kf_X7_166 dX7_number_28 (fun v6 => ?_)
      refine q_i2l C dX7_number_31 (fun v7 => ?_)
      refine q_iload_n C dX7_number_32 rfl (lv_at hl 1 rfl) ?_
      refine q_i2l C dX7_number_33 (fun v8 => ?_)
      refine q_iload_n C dX7_number_34 rfl (lv_at hl 2 rfl) ?_
      refine q_i2l C dX7_number_35 (fun v9 => ?_)
      refine q_c1i C (fun r h => cr_S (As := [.long v7, .long v8, .long v9]) (rest := []) C (m_X7_in l G F v7 v8 v9 σ r h) sb_X7_in kl_X7_103 ⟨Nat.le_of_ble_eq_true rfl, Nat.le_of_ble_eq_true rfl⟩ ⟨Nat.zero_le _, Nat.zero_le _⟩ hl.1 rfl (Nat.le_of_ble_eq_true rfl) dX7_number_36 rfl) (fun v10 => ?_)
      refine q_if_ne C 47 dX7_number_39 (by decide) ?_ ?_
      · exact B47 σ ls (lv_sub hl [0] rfl)
      · refine q_aload_n C dX7_number_42 rfl (lv_at hl 0 rfl) ?_
        refine q_iconst C dX7_number_43 rfl (by decide) (fun v11 => ?_)
        refine q_cv C (fun r h => cr_V (As := [.int v11]) (rest := []) C (m_X7_errs l G F k0 v11 σ r h) cb_X7_errs hk0 (by decide) rfl (cf_7 hk0 _) rfl kl_X7_198 ⟨Nat.le_of_ble_eq_true rfl, Nat.le_of_ble_eq_true rfl⟩ ⟨Nat.zero_le _, Nat.zero_le _⟩ hl.1 rfl (Nat.le_of_ble_eq_true rfl) dX7_number_44 rfl) (fun σ2 => ?_)
        exact B47 σ2 ls (lv_sub hl [0] rfl)
  refine q_aload_n C dX7_number_0 rfl (lv_at hl 0 rfl) ?_
  refine q_c1i C (fun r h => cr_V (As := []) (rest := []) C (m_X7_good l G F k0 σ r h) cb_X7_good hk0 (by decide) rfl (cf_7 hk0 _) rfl kl_X7_179 ⟨Nat.le_of_ble_eq_true rfl, Nat.le_of_ble_eq_true rfl⟩ ⟨Nat.zero_le _, Nat.zero_le _⟩ hl.1 rfl (Nat.le_of_ble_eq_true rfl) dX7_number_1 rfl) (fun v1 => ?_)
  refine q_if_eq C 20 dX7_number_4 (by decide) ?_ ?_
  · exact B20 σ ls (lv_sub hl [0, 1, 2] rfl)
  · refine q_aload_n C dX7_number_7 rfl (lv_at hl 0 rfl) ?_
    refine g_7_10 C hk0 kf_X7_155 dX7_number_8 (fun v12 => ?_)
    refine q_iconst C dX7_number_11 rfl (by decide) (fun v13 => ?_)
    refine q_icmp_eq C 20 dX7_number_12 (by decide) ?_ ?_
    · exact B20 σ ls (lv_sub hl [0, 1, 2] rfl)
    · refine q_aload_n C dX7_number_15 rfl (lv_at hl 0 rfl) ?_
      refine q_iconst C dX7_number_16 rfl (by decide) (fun v14 => ?_)
      refine q_cv C (fun r h => cr_V (As := [.int v14]) (rest := []) C (m_X7_errs l G F k0 v14 σ r h) cb_X7_errs hk0 (by decide) rfl (cf_7 hk0 _) rfl kl_X7_198 ⟨Nat.le_of_ble_eq_true rfl, Nat.le_of_ble_eq_true rfl⟩ ⟨Nat.zero_le _, Nat.zero_le _⟩ hl.1 rfl (Nat.le_of_ble_eq_true rfl) dX7_number_17 rfl) (fun σ3 => ?_)
      exact B20 σ3 ls (lv_sub hl [0, 1, 2] rfl)
def f_X7_toldBy (F : Nat) (k0 : Nat) (a1 : Nat) (a2 : Int) (a3 : Int) (σ : St) : Option (Int × St) :=
  z_ob 7 k0 <| z_st a1 <| 
  z_c1 (f_X7_expects F k0 a1 σ) fun σ1 =>
  z_c2 (f_X7_number F k0 a2 a3 σ1) fun v1 σ2 =>
  some (v1, σ2)
theorem cb_X7_toldBy : CB yX7_toldBy cX7_toldBy 4 (some .int) 3 := ⟨ki_X7_toldBy, kq_X7_toldBy, kn_X7, kc_X7_toldBy, by decide +kernel, by decide +kernel, by decide +kernel⟩
set_option maxRecDepth 20000 in
set_option maxHeartbeats 4000000 in
theorem m_X7_toldBy (l : Launch) (G : GG) (F : Nat) (k0 : Nat) (a1 : Nat) (a2 : Int32) (a3 : Int32) (σ : St) : ∀ r, f_X7_toldBy F k0 a1 a2.toInt a3.toInt σ = some r → MC G l yX7_toldBy cX7_toldBy 4 (some .int) { frames := 6, cells := 0, slots := 0, locals := 129 } [.ref (gad G k0), .ref (gak G a1), .int a2, .int a3] σ (vI r.1) r.2 := by
  refine MC_of (own := RX7) (fun r : Int × St => vI r.1) (fun r : Int × St => r.2) (by decide +kernel) rfl (Nat.le_of_ble_eq_true rfl) ?_
  intro p e s m args below meth c C hr hlo ls hl
  have hl : lv_has ls 4 [(0, .ref (gad G k0)), (1, .ref (gak G a1)), (2, .int a2), (3, .int a3)] := hl
  unfold f_X7_toldBy
  refine q_ob (fun hk0 => ?_)
  refine q_st (fun ht1 => ?_)
  refine q_aload_n C dX7_toldBy_0 rfl (lv_at hl 0 rfl) ?_
  refine q_aload_n C dX7_toldBy_1 rfl (lv_at hl 1 rfl) ?_
  refine q_cv C (fun r h => cr_V (As := [.ref (gak G a1)]) (rest := []) C (m_X7_expects l G F k0 a1 σ r h) cb_X7_expects hk0 (by decide) rfl (cf_7 hk0 _) rfl kl_X7_202 ⟨Nat.le_of_ble_eq_true rfl, Nat.le_of_ble_eq_true rfl⟩ ⟨Nat.zero_le _, Nat.zero_le _⟩ hl.1 rfl (Nat.le_of_ble_eq_true rfl) dX7_toldBy_2 rfl) (fun σ1 => ?_)
  refine q_aload_n C dX7_toldBy_5 rfl (lv_at hl 0 rfl) ?_
  refine q_iload_n C dX7_toldBy_6 rfl (lv_at hl 2 rfl) ?_
  refine q_iload_n C dX7_toldBy_7 rfl (lv_at hl 3 rfl) ?_
  refine q_c2i C (fun r h => cr_V (As := [.int a2, .int a3]) (rest := []) C (m_X7_number l G F k0 a2 a3 σ1 r h) cb_X7_number hk0 (by decide) rfl (cf_7 hk0 _) rfl kl_X7_206 ⟨Nat.le_of_ble_eq_true rfl, Nat.le_of_ble_eq_true rfl⟩ ⟨Nat.zero_le _, Nat.zero_le _⟩ hl.1 rfl (Nat.le_of_ble_eq_true rfl) dX7_toldBy_8 rfl) (fun v1 σ2 => ?_)
  exact q_iretE C hr hlo dX7_toldBy_11
def f_X7_fault (F : Nat) (k0 : Nat) (a1 : Int) (σ : St) : Option (Int) :=
  z_ob 7 k0 <| 
  if ¬ a1 = 0 then (
    z_gt 1 fun v1 =>
    if ¬ a1 = v1 then (
      z_gt (-1) fun v2 =>
      some v2)
    else (
      z_gt (σ k0 13) fun v3 =>
      some v3))
  else (
    z_gt (σ k0 12) fun v4 =>
    some v4)
theorem cb_X7_fault : CB yX7_fault cX7_fault 2 (some .int) 1 := ⟨ki_X7_fault, kq_X7_fault, kn_X7, kc_X7_fault, by decide +kernel, by decide +kernel, by decide +kernel⟩
set_option maxRecDepth 20000 in
set_option maxHeartbeats 4000000 in
theorem m_X7_fault (l : Launch) (G : GG) (F : Nat) (k0 : Nat) (a1 : Int32) (σ : St) : ∀ r, f_X7_fault F k0 a1.toInt σ = some r → MC G l yX7_fault cX7_fault 2 (some .int) { frames := 0, cells := 0, slots := 0, locals := 0 } [.ref (gad G k0), .int a1] σ (vI r) σ := by
  refine MC_of (own := RX7) (vI) (fun _ => σ) (by decide +kernel) rfl (Nat.le_of_ble_eq_true rfl) ?_
  intro p e s m args below meth c C hr hlo ls hl
  have hl : lv_has ls 2 [(0, .ref (gad G k0)), (1, .int a1)] := hl
  unfold f_X7_fault
  refine q_ob (fun hk0 => ?_)
  refine q_iload_n C dX7_fault_0 rfl (lv_at hl 1 rfl) ?_
  refine q_if_ne C 11 dX7_fault_1 (by decide) ?_ ?_
  · refine q_iload_n C dX7_fault_11 rfl (lv_at hl 1 rfl) ?_
    refine q_iconst C dX7_fault_12 rfl (by decide) (fun v1 => ?_)
    refine q_icmp_ne C 23 dX7_fault_13 (by decide) ?_ ?_
    · refine q_iconst C dX7_fault_23 rfl (by decide) (fun v2 => ?_)
      exact q_iret C hr hlo dX7_fault_24
    · refine q_aload_n C dX7_fault_16 rfl (lv_at hl 0 rfl) ?_
      refine g_7_13 C hk0 kf_X7_27 dX7_fault_17 (fun v3 => ?_)
      refine q_goto C 24 dX7_fault_20 (by decide) ?_
      exact q_iret C hr hlo dX7_fault_24
  · refine q_aload_n C dX7_fault_4 rfl (lv_at hl 0 rfl) ?_
    refine g_7_12 C hk0 kf_X7_176 dX7_fault_5 (fun v4 => ?_)
    refine q_goto C 24 dX7_fault_8 (by decide) ?_
    exact q_iret C hr hlo dX7_fault_24
def f_X7_readFirst (F : Nat) (k0 : Nat) (σ : St) : Option (St) :=
  z_ob 7 k0 <| 
  z_c1 (f_X7_expects F k0 0 σ) fun σ1 =>
  z_gt 0 fun v1 =>
  z_gt 2 fun v2 =>
  z_gt 32 fun v3 =>
  z_c2 (f_X7_toldBy F k0 1 v2 v3 σ1) fun v4 σ2 =>
  z_ix v1 246 <| z_sg (z_up σ2 (k0 + 6) v1 v4) fun σ3 =>
  z_gt 1 fun v5 =>
  z_gt 0 fun v6 =>
  z_gt 3 fun v7 =>
  z_c2 (f_X7_toldBy F k0 2 v6 v7 σ3) fun v8 σ4 =>
  z_ix v5 246 <| z_sg (z_up σ4 (k0 + 6) v5 v8) fun σ5 =>
  z_gt 2 fun v9 =>
  z_gt 0 fun v10 =>
  z_gt 10 fun v11 =>
  z_c2 (f_X7_toldBy F k0 3 v10 v11 σ5) fun v12 σ6 =>
  z_ix v9 246 <| z_sg (z_up σ6 (k0 + 6) v9 v12) fun σ7 =>
  some σ7
theorem cb_X7_readFirst : CB yX7_readFirst cX7_readFirst 1 none 0 := ⟨ki_X7_readFirst, kq_X7_readFirst, kn_X7, kc_X7_readFirst, by decide +kernel, by decide +kernel, by decide +kernel⟩
set_option maxRecDepth 20000 in
set_option maxHeartbeats 4000000 in
theorem m_X7_readFirst (l : Launch) (G : GG) (F : Nat) (k0 : Nat) (σ : St) : ∀ r, f_X7_readFirst F k0 σ = some r → MC G l yX7_readFirst cX7_readFirst 1 none { frames := 7, cells := 0, slots := 0, locals := 152 } [.ref (gad G k0)] σ vV r := by
  refine MC_of (own := RX7) (fun _ => vV) (fun r => r) (by decide +kernel) rfl (Nat.le_of_ble_eq_true rfl) ?_
  intro p e s m args below meth c C hr hlo ls hl
  have hl : lv_has ls 1 [(0, .ref (gad G k0))] := hl
  unfold f_X7_readFirst
  refine q_ob (fun hk0 => ?_)
  refine q_aload_n C dX7_readFirst_0 rfl (lv_at hl 0 rfl) ?_
  refine q_ldcs C 0 (tx := "store") (List.mem_of_getElem? (i := 13) rfl) dX7_readFirst_1 ?_
  refine q_cv C (fun r h => cr_V (As := [.ref (gak G 0)]) (rest := []) C (m_X7_expects l G F k0 0 σ r h) cb_X7_expects hk0 (by decide) rfl (cf_7 hk0 _) rfl kl_X7_202 ⟨Nat.le_of_ble_eq_true rfl, Nat.le_of_ble_eq_true rfl⟩ ⟨Nat.zero_le _, Nat.zero_le _⟩ hl.1 rfl (Nat.le_of_ble_eq_true rfl) dX7_readFirst_3 rfl) (fun σ1 => ?_)
  refine q_aload_n C dX7_readFirst_6 rfl (lv_at hl 0 rfl) ?_
  refine g_7_14 C hk0 kf_X7_31 dX7_readFirst_7 ?_
  refine q_iconst C dX7_readFirst_10 rfl (by decide) (fun v1 => ?_)
  refine q_aload_n C dX7_readFirst_11 rfl (lv_at hl 0 rfl) ?_
  refine q_ldcs C 1 (tx := "cells") (List.mem_of_getElem? (i := 14) rfl) dX7_readFirst_12 ?_
  refine q_iconst C dX7_readFirst_14 rfl (by decide) (fun v2 => ?_)
  refine q_bipush C dX7_readFirst_15 rfl (by decide) (fun v3 => ?_)
  refine q_c2i C (fun r h => cr_V (As := [.ref (gak G 1), .int v2, .int v3]) (rest := [.int v1, .ref (gad G (k0 + 6))]) C (m_X7_toldBy l G F k0 1 v2 v3 σ1 r h) cb_X7_toldBy hk0 (by decide) rfl (cf_7 hk0 _) rfl kl_X7_212 ⟨Nat.le_of_ble_eq_true rfl, Nat.le_of_ble_eq_true rfl⟩ ⟨Nat.zero_le _, Nat.zero_le _⟩ hl.1 rfl (Nat.le_of_ble_eq_true rfl) dX7_readFirst_17 rfl) (fun v4 σ2 => ?_)
  refine a_ist C (yk_7_14 hk0) (yl_7_14 hk0) dX7_readFirst_20 (q_sg (fun σ3 => ?_))
  refine q_aload_n C dX7_readFirst_21 rfl (lv_at hl 0 rfl) ?_
  refine g_7_14 C hk0 kf_X7_31 dX7_readFirst_22 ?_
  refine q_iconst C dX7_readFirst_25 rfl (by decide) (fun v5 => ?_)
  refine q_aload_n C dX7_readFirst_26 rfl (lv_at hl 0 rfl) ?_
  refine q_ldcs C 2 (tx := "law") (List.mem_of_getElem? (i := 15) rfl) dX7_readFirst_27 ?_
  refine q_iconst C dX7_readFirst_29 rfl (by decide) (fun v6 => ?_)
  refine q_iconst C dX7_readFirst_30 rfl (by decide) (fun v7 => ?_)
  refine q_c2i C (fun r h => cr_V (As := [.ref (gak G 2), .int v6, .int v7]) (rest := [.int v5, .ref (gad G (k0 + 6))]) C (m_X7_toldBy l G F k0 2 v6 v7 σ3 r h) cb_X7_toldBy hk0 (by decide) rfl (cf_7 hk0 _) rfl kl_X7_212 ⟨Nat.le_of_ble_eq_true rfl, Nat.le_of_ble_eq_true rfl⟩ ⟨Nat.zero_le _, Nat.zero_le _⟩ hl.1 rfl (Nat.le_of_ble_eq_true rfl) dX7_readFirst_31 rfl) (fun v8 σ4 => ?_)
  refine a_ist C (yk_7_14 hk0) (yl_7_14 hk0) dX7_readFirst_34 (q_sg (fun σ5 => ?_))
  refine q_aload_n C dX7_readFirst_35 rfl (lv_at hl 0 rfl) ?_
  refine g_7_14 C hk0 kf_X7_31 dX7_readFirst_36 ?_
  refine q_iconst C dX7_readFirst_39 rfl (by decide) (fun v9 => ?_)
  refine q_aload_n C dX7_readFirst_40 rfl (lv_at hl 0 rfl) ?_
  refine q_ldcs C 3 (tx := "odds") (List.mem_of_getElem? (i := 16) rfl) dX7_readFirst_41 ?_
  refine q_iconst C dX7_readFirst_43 rfl (by decide) (fun v10 => ?_)
  refine q_bipush C dX7_readFirst_44 rfl (by decide) (fun v11 => ?_)
  refine q_c2i C (fun r h => cr_V (As := [.ref (gak G 3), .int v10, .int v11]) (rest := [.int v9, .ref (gad G (k0 + 6))]) C (m_X7_toldBy l G F k0 3 v10 v11 σ5 r h) cb_X7_toldBy hk0 (by decide) rfl (cf_7 hk0 _) rfl kl_X7_212 ⟨Nat.le_of_ble_eq_true rfl, Nat.le_of_ble_eq_true rfl⟩ ⟨Nat.zero_le _, Nat.zero_le _⟩ hl.1 rfl (Nat.le_of_ble_eq_true rfl) dX7_readFirst_46 rfl) (fun v12 σ6 => ?_)
  refine a_ist C (yk_7_14 hk0) (yl_7_14 hk0) dX7_readFirst_49 (q_sg (fun σ7 => ?_))
  exact q_vretE C hr hlo dX7_readFirst_50
def f_X7_kindRead_L2 (F : Nat) (k0 : Nat)  (σ : St) : Nat → Int → Option (Int)
  | 0, _ => none
  | n + 1, x2 =>
    z_gt 8 fun v3 =>
    if v3 < x2 then (
      z_gt (-1) fun v4 =>
      some v4)
    else (
      z_c1 (f_X7_wordOf F x2 σ) fun t5 =>
      z_c1 (f_X7_is F k0 t5 σ) fun v6 =>
      if v6 = 0 then (
        z_ck (x2 + 1) fun v7 =>
        f_X7_kindRead_L2 F k0 σ n v7)
      else (
        some x2))

def f_X7_kindRead (F : Nat) (k0 : Nat) (σ : St) : Option (Int) :=
  z_ob 7 k0 <| 
  z_gt 0 fun v1 =>
  f_X7_kindRead_L2 F k0 σ F v1
theorem cb_X7_kindRead : CB yX7_kindRead cX7_kindRead 2 (some .int) 0 := ⟨ki_X7_kindRead, kq_X7_kindRead, kn_X7, kc_X7_kindRead, by decide +kernel, by decide +kernel, by decide +kernel⟩
set_option maxRecDepth 20000 in
set_option maxHeartbeats 4000000 in
theorem m_X7_kindRead (l : Launch) (G : GG) (F : Nat) (k0 : Nat) (σ : St) : ∀ r, f_X7_kindRead F k0 σ = some r → MC G l yX7_kindRead cX7_kindRead 2 (some .int) { frames := 5, cells := 0, slots := 0, locals := 108 } [.ref (gad G k0)] σ (vI r) σ := by
  refine MC_of (own := RX7) (vI) (fun _ => σ) (by decide +kernel) rfl (Nat.le_of_ble_eq_true rfl) ?_
  intro p e s m args below meth c C hr hlo ls hl
  have hl : lv_has ls 2 [(0, .ref (gad G k0))] := hl
  unfold f_X7_kindRead
  refine q_ob (fun hk0 => ?_)
  have B2 : ∀ (n : Nat) (x2 : Int32) (ls : Array Slot), lv_has ls 2 [(0, .ref (gad G k0)), (1, .int x2)] → Sim G (AG G) 0 0 p l e { frames := 5, cells := 0, slots := 0, locals := 108 } s m args below meth c (fun r : Int => MQ below (QC G (vI r) (σ)) args s 0 0 (AG G)) σ (f_X7_kindRead_L2 F k0  σ n x2.toInt) (F0 m 2 ls []) := by
    intro n
    induction n with
    | zero =>
      intro x2 ls hl
      exact sim_none
    | succ n ih =>
      intro x2 ls hl
      rw [f_X7_kindRead_L2]
      refine q_iload_n C dX7_kindRead_2 rfl (lv_at hl 1 rfl) ?_
      refine q_bipush C dX7_kindRead_3 rfl (by decide) (fun v3 => ?_)
      refine q_icmp_gt C 27 dX7_kindRead_5 (by decide) ?_ ?_
      · refine q_iconst C dX7_kindRead_27 rfl (by decide) (fun v4 => ?_)
        exact q_iret C hr hlo dX7_kindRead_28
      · refine q_aload_n C dX7_kindRead_8 rfl (lv_at hl 0 rfl) ?_
        refine q_iload_n C dX7_kindRead_9 rfl (lv_at hl 1 rfl) ?_
        refine q_cs C (fun r h => cr_S (As := [.int x2]) (rest := [.ref (gad G k0)]) C (m_X7_wordOf l G F x2 σ r h) sb_X7_wordOf kl_X7_220 ⟨Nat.le_of_ble_eq_true rfl, Nat.le_of_ble_eq_true rfl⟩ ⟨Nat.zero_le _, Nat.zero_le _⟩ hl.1 rfl (Nat.le_of_ble_eq_true rfl) dX7_kindRead_10 rfl) (fun t5 ht5 => ?_)
        refine q_c1i C (fun r h => cr_V (As := [.ref (gak G t5)]) (rest := []) C (m_X7_is l G F k0 t5 σ r h) cb_X7_is hk0 (by decide) rfl (cf_7 hk0 _) rfl kl_X7_191 ⟨Nat.le_of_ble_eq_true rfl, Nat.le_of_ble_eq_true rfl⟩ ⟨Nat.zero_le _, Nat.zero_le _⟩ hl.1 rfl (Nat.le_of_ble_eq_true rfl) dX7_kindRead_13 rfl) (fun v6 => ?_)
        refine q_if_eq C 21 dX7_kindRead_16 (by decide) ?_ ?_
        · refine q_iinc (k := 1) C (fun v7 => [(1, .int v7), (0, .ref (gad G k0))]) dX7_kindRead_21 hl rfl (by decide) (by decide) (fun _ => rfl) (fun v7 ls hl => ?_)
          refine q_goto C 2 dX7_kindRead_24 (by decide) ?_
          exact ih v7 ls (lv_sub hl [1, 0] rfl)
        · refine q_iload_n C dX7_kindRead_19 rfl (lv_at hl 1 rfl) ?_
          exact q_iret C hr hlo dX7_kindRead_20
  refine q_iconst C dX7_kindRead_0 rfl (by decide) (fun v1 => ?_)
  refine q_istore_n C [(1, .int v1), (0, .ref (gad G k0))] dX7_kindRead_1 rfl hl (by decide) rfl (fun ls hl => ?_)
  exact B2 F v1 ls (lv_sub hl [1, 0] rfl)
def f_X7_readNext_J136 (F : Nat) (k0 : Nat) (K64 : Int → Int → Int → St → Option (St))  (x29 : Int) (x30 : Int) (x31 : Int) (σ : St) : Option (St) :=
  z_gt 1 fun v32 =>
  z_ck (x30 + v32) fun v33 =>
  z_ck (v33 + x31) fun v34 =>
  z_gt 1 fun v35 =>
  z_ck (x30 + v35) fun v36 =>
  z_ix v36 246 <| z_gt (σ (k0 + 6) v36) fun v37 =>
  z_c1 (f_X7_lowOf F x29 x31 v37 σ) fun v38 =>
  z_gt 0 fun v39 =>
  z_ix v39 246 <| z_gt (σ (k0 + 6) v39) fun v40 =>
  z_c1 (f_X7_highOf F x29 x31 v40 σ) fun v41 =>
  z_c2 (f_X7_number F k0 v38 v41 σ) fun v42 σ5 =>
  z_ix v34 246 <| z_sg (z_up σ5 (k0 + 6) v34 v42) fun σ6 =>
  z_ck (x31 + 1) fun v43 =>
  K64 x29 x30 v43 σ6

def f_X7_readNext_L64 (F : Nat) (k0 : Nat)   : Nat → Int → Int → Int → St → Option (St)
  | 0, _, _, _, _ => none
  | n + 1, x15, x16, x17, σ =>
    z_gt 3 fun v18 =>
    if v18 ≤ x17 then (
      z_gt 3 fun v19 =>
      z_ix v19 246 <| z_gt (σ (k0 + 6) v19) fun v20 =>
      z_gt 1 fun v21 =>
      z_ck (v20 + v21) fun v22 =>
      z_ix v19 246 <| z_sg (z_up σ (k0 + 6) v19 v22) fun σ3 =>
      some σ3)
    else (
      z_gt 1 fun v23 =>
      z_ck (x16 + v23) fun v24 =>
      z_ck (v24 + x17) fun v25 =>
      z_gt (-1) fun v26 =>
      z_ix v25 246 <| z_sg (z_up σ (k0 + 6) v25 v26) fun σ4 =>
      z_c1 (f_X7_numbersOf F x15 σ4) fun v27 =>
      if x17 < v27 then (
        z_c1 (f_X7_good F k0 σ4) fun v28 =>
        if v28 = 0 then (
          f_X7_readNext_J136 F k0 (f_X7_readNext_L64 F k0 n) x15 x16 x17 σ4)
        else (
          z_gt 2 fun v44 =>
          if ¬ x15 = v44 then (
            f_X7_readNext_J136 F k0 (f_X7_readNext_L64 F k0 n) x15 x16 x17 σ4)
          else (
            z_gt 1 fun v45 =>
            if ¬ x17 = v45 then (
              f_X7_readNext_J136 F k0 (f_X7_readNext_L64 F k0 n) x15 x16 x17 σ4)
            else (
              z_gt (σ4 k0 10) fun v46 =>
              z_gt 2 fun v47 =>
              if ¬ v46 = v47 then (
                f_X7_readNext_J136 F k0 (f_X7_readNext_L64 F k0 n) x15 x16 x17 σ4)
              else (
                z_gt (σ4 k0 11) fun v48 =>
                z_gt 1 fun v49 =>
                z_ck (x16 + v49) fun v50 =>
                z_ix v50 246 <| z_gt (σ4 (k0 + 6) v50) fun v51 =>
                if ¬ v48 = v51 then (
                  f_X7_readNext_J136 F k0 (f_X7_readNext_L64 F k0 n) x15 x16 x17 σ4)
                else (
                  z_gt 2 fun v52 =>
                  z_c1 (f_X7_errs F k0 v52 σ4) fun σ7 =>
                  f_X7_readNext_J136 F k0 (f_X7_readNext_L64 F k0 n) x15 x16 x17 σ7))))))
      else (
        z_ck (x17 + 1) fun v53 =>
        f_X7_readNext_L64 F k0 n x15 x16 v53 σ4))

def f_X7_readNext_J31 (F : Nat) (k0 : Nat)   (x6 : Int) (σ : St) : Option (St) :=
  z_c1 (f_X7_good F k0 σ) fun v7 =>
  if ¬ v7 = 0 then (
    z_c1 (f_X7_advance F k0 σ) fun σ1 =>
    z_gt 6 fun v8 =>
    z_gt 4 fun v9 =>
    z_gt 3 fun v10 =>
    z_ix v10 246 <| z_gt (σ1 (k0 + 6) v10) fun v11 =>
    z_ck (v9 * v11) fun v12 =>
    z_ck (v8 + v12) fun v13 =>
    z_ix v13 246 <| z_sg (z_up σ1 (k0 + 6) v13 x6) fun σ2 =>
    z_gt 0 fun v14 =>
    f_X7_readNext_L64 F k0 F x6 v13 v14 σ2)
  else (
    some σ)

def f_X7_readNext (F : Nat) (k0 : Nat) (σ : St) : Option (St) :=
  z_ob 7 k0 <| 
  z_c1 (f_X7_kindRead F k0 σ) fun v1 =>
  z_gt (-1) fun v2 =>
  if ¬ v1 = v2 then (
    z_gt 3 fun v3 =>
    z_ix v3 246 <| z_gt (σ (k0 + 6) v3) fun v4 =>
    z_gt 40 fun v5 =>
    if ¬ v4 = v5 then (
      f_X7_readNext_J31 F k0 v1 σ)
    else (
      z_gt 3 fun v54 =>
      z_c1 (f_X7_errs F k0 v54 σ) fun σ8 =>
      f_X7_readNext_J31 F k0 v1 σ8))
  else (
    z_gt 1 fun v55 =>
    z_c1 (f_X7_errs F k0 v55 σ) fun σ9 =>
    z_gt 3 fun v56 =>
    z_ix v56 246 <| z_gt (σ9 (k0 + 6) v56) fun v57 =>
    z_gt 40 fun v58 =>
    if ¬ v57 = v58 then (
      f_X7_readNext_J31 F k0 v1 σ9)
    else (
      z_gt 3 fun v59 =>
      z_c1 (f_X7_errs F k0 v59 σ9) fun σ10 =>
      f_X7_readNext_J31 F k0 v1 σ10))
theorem cb_X7_readNext : CB yX7_readNext cX7_readNext 4 none 0 := ⟨ki_X7_readNext, kq_X7_readNext, kn_X7, kc_X7_readNext, by decide +kernel, by decide +kernel, by decide +kernel⟩
set_option maxRecDepth 20000 in
set_option maxHeartbeats 4000000 in
theorem m_X7_readNext (l : Launch) (G : GG) (F : Nat) (k0 : Nat) (σ : St) : ∀ r, f_X7_readNext F k0 σ = some r → MC G l yX7_readNext cX7_readNext 4 none { frames := 6, cells := 0, slots := 0, locals := 129 } [.ref (gad G k0)] σ vV r := by
  refine MC_of (own := RX7) (fun _ => vV) (fun r => r) (by decide +kernel) rfl (Nat.le_of_ble_eq_true rfl) ?_
  intro p e s m args below meth c C hr hlo ls hl
  have hl : lv_has ls 4 [(0, .ref (gad G k0))] := hl
  unfold f_X7_readNext
  refine q_ob (fun hk0 => ?_)
  have B136 : ∀ (K64 : Int → Int → Int → St → Option (St)) (hK64 : ∀ (y0 : Int32) (y1 : Int32) (y2 : Int32) (σ : St) (ls : Array Slot), lv_has ls 4 [(0, .ref (gad G k0)), (1, .int y0), (2, .int y1), (3, .int y2)] → Sim G (AG G) 0 0 p l e { frames := 6, cells := 0, slots := 0, locals := 129 } s m args below meth c (fun r : St => MQ below (QC G (vV) (r)) args s 0 0 (AG G)) σ (K64 y0.toInt y1.toInt y2.toInt σ) (F0 m 64 ls [])), ∀  (x29 : Int32) (x30 : Int32) (x31 : Int32) (σ : St) (ls : Array Slot), lv_has ls 4 [(0, .ref (gad G k0)), (1, .int x29), (2, .int x30), (3, .int x31)] → Sim G (AG G) 0 0 p l e { frames := 6, cells := 0, slots := 0, locals := 129 } s m args below meth c (fun r : St => MQ below (QC G (vV) (r)) args s 0 0 (AG G)) σ (f_X7_readNext_J136 F k0 K64   x29.toInt x30.toInt x31.toInt σ) (F0 m 136 ls []) := by
    intro K64 hK64
    intro x29 x30 x31 σ ls hl
    unfold f_X7_readNext_J136
    refine q_aload_n C dX7_readNext_136 rfl (lv_at hl 0 rfl) ?_
    refine g_7_14 C hk0 kf_X7_31 dX7_readNext_137 ?_
    refine q_iload_n C dX7_readNext_140 rfl (lv_at hl 2 rfl) ?_
    refine q_iconst C dX7_readNext_141 rfl (by decide) (fun v32 => ?_)
    refine q_iadd C dX7_readNext_142 (fun v33 => ?_)
    refine q_iload_n C dX7_readNext_143 rfl (lv_at hl 3 rfl) ?_
    refine q_iadd C dX7_readNext_144 (fun v34 => ?_)
    refine q_aload_n C dX7_readNext_145 rfl (lv_at hl 0 rfl) ?_
    refine q_iload_n C dX7_readNext_146 rfl (lv_at hl 1 rfl) ?_
    refine q_iload_n C dX7_readNext_147 rfl (lv_at hl 3 rfl) ?_
    refine q_aload_n C dX7_readNext_148 rfl (lv_at hl 0 rfl) ?_
    refine g_7_14 C hk0 kf_X7_31 dX7_readNext_149 ?_
    refine q_iload_n C dX7_readNext_152 rfl (lv_at hl 2 rfl) ?_
    refine q_iconst C dX7_readNext_153 rfl (by decide) (fun v35 => ?_)
    refine q_iadd C dX7_readNext_154 (fun v36 => ?_)
    refine a_ild C (yk_7_14 hk0) (yl_7_14 hk0) dX7_readNext_155 (fun v37 => ?_)
    refine q_c1i C (fun r h => cr_S (As := [.int x29, .int x31, .int v37]) (rest := [.ref (gad G k0), .int v34, .ref (gad G (k0 + 6))]) C (m_X7_lowOf l G F x29 x31 v37 σ r h) sb_X7_lowOf kl_X7_230 ⟨Nat.le_of_ble_eq_true rfl, Nat.le_of_ble_eq_true rfl⟩ ⟨Nat.zero_le _, Nat.zero_le _⟩ hl.1 rfl (Nat.le_of_ble_eq_true rfl) dX7_readNext_156 rfl) (fun v38 => ?_)
    refine q_iload_n C dX7_readNext_159 rfl (lv_at hl 1 rfl) ?_
    refine q_iload_n C dX7_readNext_160 rfl (lv_at hl 3 rfl) ?_
    refine q_aload_n C dX7_readNext_161 rfl (lv_at hl 0 rfl) ?_
    refine g_7_14 C hk0 kf_X7_31 dX7_readNext_162 ?_
    refine q_iconst C dX7_readNext_165 rfl (by decide) (fun v39 => ?_)
    refine a_ild C (yk_7_14 hk0) (yl_7_14 hk0) dX7_readNext_166 (fun v40 => ?_)
    refine q_c1i C (fun r h => cr_S (As := [.int x29, .int x31, .int v40]) (rest := [.int v38, .ref (gad G k0), .int v34, .ref (gad G (k0 + 6))]) C (m_X7_highOf l G F x29 x31 v40 σ r h) sb_X7_highOf kl_X7_234 ⟨Nat.le_of_ble_eq_true rfl, Nat.le_of_ble_eq_true rfl⟩ ⟨Nat.zero_le _, Nat.zero_le _⟩ hl.1 rfl (Nat.le_of_ble_eq_true rfl) dX7_readNext_167 rfl) (fun v41 => ?_)
    refine q_c2i C (fun r h => cr_V (As := [.int v38, .int v41]) (rest := [.int v34, .ref (gad G (k0 + 6))]) C (m_X7_number l G F k0 v38 v41 σ r h) cb_X7_number hk0 (by decide) rfl (cf_7 hk0 _) rfl kl_X7_206 ⟨Nat.le_of_ble_eq_true rfl, Nat.le_of_ble_eq_true rfl⟩ ⟨Nat.zero_le _, Nat.zero_le _⟩ hl.1 rfl (Nat.le_of_ble_eq_true rfl) dX7_readNext_170 rfl) (fun v42 σ5 => ?_)
    refine a_ist C (yk_7_14 hk0) (yl_7_14 hk0) dX7_readNext_173 (q_sg (fun σ6 => ?_))
    refine q_iinc (k := 3) C (fun v43 => [(3, .int v43), (0, .ref (gad G k0)), (1, .int x29), (2, .int x30)]) dX7_readNext_174 hl rfl (by decide) (by decide) (fun _ => rfl) (fun v43 ls hl => ?_)
    refine q_goto C 64 dX7_readNext_177 (by decide) ?_
    exact hK64 x29 x30 v43 σ6 ls (lv_sub hl [1, 2, 3, 0] rfl)
  have B64 : ∀ (n : Nat) (x15 : Int32) (x16 : Int32) (x17 : Int32) (σ : St) (ls : Array Slot), lv_has ls 4 [(0, .ref (gad G k0)), (1, .int x15), (2, .int x16), (3, .int x17)] → Sim G (AG G) 0 0 p l e { frames := 6, cells := 0, slots := 0, locals := 129 } s m args below meth c (fun r : St => MQ below (QC G (vV) (r)) args s 0 0 (AG G)) σ (f_X7_readNext_L64 F k0   n x15.toInt x16.toInt x17.toInt σ) (F0 m 64 ls []) := by
    intro n
    induction n with
    | zero =>
      intro x15 x16 x17 σ ls hl
      exact sim_none
    | succ n ih =>
      intro x15 x16 x17 σ ls hl
      rw [f_X7_readNext_L64]
      refine q_iload_n C dX7_readNext_64 rfl (lv_at hl 3 rfl) ?_
      refine q_iconst C dX7_readNext_65 rfl (by decide) (fun v18 => ?_)
      refine q_icmp_ge C 180 dX7_readNext_66 (by decide) ?_ ?_
      · refine q_aload_n C dX7_readNext_180 rfl (lv_at hl 0 rfl) ?_
        refine g_7_14 C hk0 kf_X7_31 dX7_readNext_181 ?_
        refine q_iconst C dX7_readNext_184 rfl (by decide) (fun v19 => ?_)
        refine q_dup2 C dX7_readNext_185 rfl rfl ?_
        refine a_ild C (yk_7_14 hk0) (yl_7_14 hk0) dX7_readNext_186 (fun v20 => ?_)
        refine q_iconst C dX7_readNext_187 rfl (by decide) (fun v21 => ?_)
        refine q_iadd C dX7_readNext_188 (fun v22 => ?_)
        refine a_ist C (yk_7_14 hk0) (yl_7_14 hk0) dX7_readNext_189 (q_sg (fun σ3 => ?_))
        exact q_vretE C hr hlo dX7_readNext_190
      · refine q_aload_n C dX7_readNext_69 rfl (lv_at hl 0 rfl) ?_
        refine g_7_14 C hk0 kf_X7_31 dX7_readNext_70 ?_
        refine q_iload_n C dX7_readNext_73 rfl (lv_at hl 2 rfl) ?_
        refine q_iconst C dX7_readNext_74 rfl (by decide) (fun v23 => ?_)
        refine q_iadd C dX7_readNext_75 (fun v24 => ?_)
        refine q_iload_n C dX7_readNext_76 rfl (lv_at hl 3 rfl) ?_
        refine q_iadd C dX7_readNext_77 (fun v25 => ?_)
        refine q_iconst C dX7_readNext_78 rfl (by decide) (fun v26 => ?_)
        refine a_ist C (yk_7_14 hk0) (yl_7_14 hk0) dX7_readNext_79 (q_sg (fun σ4 => ?_))
        refine q_iload_n C dX7_readNext_80 rfl (lv_at hl 3 rfl) ?_
        refine q_iload_n C dX7_readNext_81 rfl (lv_at hl 1 rfl) ?_
        refine q_c1i C (fun r h => cr_S (As := [.int x15]) (rest := [.int x17]) C (m_X7_numbersOf l G F x15 σ4 r h) sb_X7_numbersOf kl_X7_227 ⟨Nat.le_of_ble_eq_true rfl, Nat.le_of_ble_eq_true rfl⟩ ⟨Nat.zero_le _, Nat.zero_le _⟩ hl.1 rfl (Nat.le_of_ble_eq_true rfl) dX7_readNext_82 rfl) (fun v27 => ?_)
        refine q_icmp_lt C 91 dX7_readNext_85 (by decide) ?_ ?_
        · refine q_aload_n C dX7_readNext_91 rfl (lv_at hl 0 rfl) ?_
          refine q_c1i C (fun r h => cr_V (As := []) (rest := []) C (m_X7_good l G F k0 σ4 r h) cb_X7_good hk0 (by decide) rfl (cf_7 hk0 _) rfl kl_X7_179 ⟨Nat.le_of_ble_eq_true rfl, Nat.le_of_ble_eq_true rfl⟩ ⟨Nat.zero_le _, Nat.zero_le _⟩ hl.1 rfl (Nat.le_of_ble_eq_true rfl) dX7_readNext_92 rfl) (fun v28 => ?_)
          refine q_if_eq C 136 dX7_readNext_95 (by decide) ?_ ?_
          · exact B136 (f_X7_readNext_L64 F k0 n) ih x15 x16 x17 σ4 ls (lv_sub hl [0, 1, 2, 3] rfl)
          · refine q_iload_n C dX7_readNext_98 rfl (lv_at hl 1 rfl) ?_
            refine q_iconst C dX7_readNext_99 rfl (by decide) (fun v44 => ?_)
            refine q_icmp_ne C 136 dX7_readNext_100 (by decide) ?_ ?_
            · exact B136 (f_X7_readNext_L64 F k0 n) ih x15 x16 x17 σ4 ls (lv_sub hl [0, 1, 2, 3] rfl)
            · refine q_iload_n C dX7_readNext_103 rfl (lv_at hl 3 rfl) ?_
              refine q_iconst C dX7_readNext_104 rfl (by decide) (fun v45 => ?_)
              refine q_icmp_ne C 136 dX7_readNext_105 (by decide) ?_ ?_
              · exact B136 (f_X7_readNext_L64 F k0 n) ih x15 x16 x17 σ4 ls (lv_sub hl [0, 1, 2, 3] rfl)
              · refine q_aload_n C dX7_readNext_108 rfl (lv_at hl 0 rfl) ?_
                refine g_7_10 C hk0 kf_X7_155 dX7_readNext_109 (fun v46 => ?_)
                refine q_iconst C dX7_readNext_112 rfl (by decide) (fun v47 => ?_)
                refine q_icmp_ne C 136 dX7_readNext_113 (by decide) ?_ ?_
                · exact B136 (f_X7_readNext_L64 F k0 n) ih x15 x16 x17 σ4 ls (lv_sub hl [0, 1, 2, 3] rfl)
                · refine q_aload_n C dX7_readNext_116 rfl (lv_at hl 0 rfl) ?_
                  refine g_7_11 C hk0 kf_X7_166 dX7_readNext_117 (fun v48 => ?_)
                  refine q_aload_n C dX7_readNext_120 rfl (lv_at hl 0 rfl) ?_
                  refine g_7_14 C hk0 kf_X7_31 dX7_readNext_121 ?_
                  refine q_iload_n C dX7_readNext_124 rfl (lv_at hl 2 rfl) ?_
                  refine q_iconst C dX7_readNext_125 rfl (by decide) (fun v49 => ?_)
                  refine q_iadd C dX7_readNext_126 (fun v50 => ?_)
                  refine a_ild C (yk_7_14 hk0) (yl_7_14 hk0) dX7_readNext_127 (fun v51 => ?_)
                  refine q_icmp_ne C 136 dX7_readNext_128 (by decide) ?_ ?_
                  · exact B136 (f_X7_readNext_L64 F k0 n) ih x15 x16 x17 σ4 ls (lv_sub hl [0, 1, 2, 3] rfl)
                  · refine q_aload_n C dX7_readNext_131 rfl (lv_at hl 0 rfl) ?_
                    refine q_iconst C dX7_readNext_132 rfl (by decide) (fun v52 => ?_)
                    refine q_cv C (fun r h => cr_V (As := [.int v52]) (rest := []) C (m_X7_errs l G F k0 v52 σ4 r h) cb_X7_errs hk0 (by decide) rfl (cf_7 hk0 _) rfl kl_X7_198 ⟨Nat.le_of_ble_eq_true rfl, Nat.le_of_ble_eq_true rfl⟩ ⟨Nat.zero_le _, Nat.zero_le _⟩ hl.1 rfl (Nat.le_of_ble_eq_true rfl) dX7_readNext_133 rfl) (fun σ7 => ?_)
                    exact B136 (f_X7_readNext_L64 F k0 n) ih x15 x16 x17 σ7 ls (lv_sub hl [0, 1, 2, 3] rfl)
        · refine q_goto C 174 dX7_readNext_88 (by decide) ?_
          refine q_iinc (k := 3) C (fun v53 => [(3, .int v53), (0, .ref (gad G k0)), (1, .int x15), (2, .int x16)]) dX7_readNext_174 hl rfl (by decide) (by decide) (fun _ => rfl) (fun v53 ls hl => ?_)
          refine q_goto C 64 dX7_readNext_177 (by decide) ?_
          exact ih x15 x16 v53 σ4 ls (lv_sub hl [1, 2, 3, 0] rfl)
  have B31 : ∀  (x6 : Int32) (σ : St) (ls : Array Slot), lv_has ls 4 [(0, .ref (gad G k0)), (1, .int x6)] → Sim G (AG G) 0 0 p l e { frames := 6, cells := 0, slots := 0, locals := 129 } s m args below meth c (fun r : St => MQ below (QC G (vV) (r)) args s 0 0 (AG G)) σ (f_X7_readNext_J31 F k0    x6.toInt σ) (F0 m 31 ls []) := by
    intro x6 σ ls hl
    unfold f_X7_readNext_J31
    refine q_aload_n C dX7_readNext_31 rfl (lv_at hl 0 rfl) ?_
    refine q_c1i C (fun r h => cr_V (As := []) (rest := []) C (m_X7_good l G F k0 σ r h) cb_X7_good hk0 (by decide) rfl (cf_7 hk0 _) rfl kl_X7_179 ⟨Nat.le_of_ble_eq_true rfl, Nat.le_of_ble_eq_true rfl⟩ ⟨Nat.zero_le _, Nat.zero_le _⟩ hl.1 rfl (Nat.le_of_ble_eq_true rfl) dX7_readNext_32 rfl) (fun v7 => ?_)
    refine q_if_ne C 39 dX7_readNext_35 (by decide) ?_ ?_
    · refine q_aload_n C dX7_readNext_39 rfl (lv_at hl 0 rfl) ?_
      refine q_cv C (fun r h => cr_V (As := []) (rest := []) C (m_X7_advance l G F k0 σ r h) cb_X7_advance hk0 (by decide) rfl (cf_7 hk0 _) rfl kl_X7_195 ⟨Nat.le_of_ble_eq_true rfl, Nat.le_of_ble_eq_true rfl⟩ ⟨Nat.zero_le _, Nat.zero_le _⟩ hl.1 rfl (Nat.le_of_ble_eq_true rfl) dX7_readNext_40 rfl) (fun σ1 => ?_)
      refine q_bipush C dX7_readNext_43 rfl (by decide) (fun v8 => ?_)
      refine q_iconst C dX7_readNext_45 rfl (by decide) (fun v9 => ?_)
      refine q_aload_n C dX7_readNext_46 rfl (lv_at hl 0 rfl) ?_
      refine g_7_14 C hk0 kf_X7_31 dX7_readNext_47 ?_
      refine q_iconst C dX7_readNext_50 rfl (by decide) (fun v10 => ?_)
      refine a_ild C (yk_7_14 hk0) (yl_7_14 hk0) dX7_readNext_51 (fun v11 => ?_)
      refine q_imul C dX7_readNext_52 (fun v12 => ?_)
      refine q_iadd C dX7_readNext_53 (fun v13 => ?_)
      refine q_istore_n C [(2, .int v13), (0, .ref (gad G k0)), (1, .int x6)] dX7_readNext_54 rfl hl (by decide) rfl (fun ls hl => ?_)
      refine q_aload_n C dX7_readNext_55 rfl (lv_at hl 1 rfl) ?_
      refine g_7_14 C hk0 kf_X7_31 dX7_readNext_56 ?_
      refine q_iload_n C dX7_readNext_59 rfl (lv_at hl 0 rfl) ?_
      refine q_iload_n C dX7_readNext_60 rfl (lv_at hl 2 rfl) ?_
      refine a_ist C (yk_7_14 hk0) (yl_7_14 hk0) dX7_readNext_61 (q_sg (fun σ2 => ?_))
      refine q_iconst C dX7_readNext_62 rfl (by decide) (fun v14 => ?_)
      refine q_istore_n C [(3, .int v14), (2, .int v13), (0, .ref (gad G k0)), (1, .int x6)] dX7_readNext_63 rfl hl (by decide) rfl (fun ls hl => ?_)
      exact B64 F x6 v13 v14 σ2 ls (lv_sub hl [2, 3, 1, 0] rfl)
    · exact q_vretE C hr hlo dX7_readNext_38
  refine q_aload_n C dX7_readNext_0 rfl (lv_at hl 0 rfl) ?_
  refine q_c1i C (fun r h => cr_V (As := []) (rest := []) C (m_X7_kindRead l G F k0 σ r h) cb_X7_kindRead hk0 (by decide) rfl (cf_7 hk0 _) rfl kl_X7_224 ⟨Nat.le_of_ble_eq_true rfl, Nat.le_of_ble_eq_true rfl⟩ ⟨Nat.zero_le _, Nat.zero_le _⟩ hl.1 rfl (Nat.le_of_ble_eq_true rfl) dX7_readNext_1 rfl) (fun v1 => ?_)
  refine q_istore_n C [(1, .int v1), (0, .ref (gad G k0))] dX7_readNext_4 rfl hl (by decide) rfl (fun ls hl => ?_)
  refine q_iload_n C dX7_readNext_5 rfl (lv_at hl 0 rfl) ?_
  refine q_iconst C dX7_readNext_6 rfl (by decide) (fun v2 => ?_)
  refine q_icmp_ne C 15 dX7_readNext_7 (by decide) ?_ ?_
  · refine q_aload_n C dX7_readNext_15 rfl (lv_at hl 1 rfl) ?_
    refine g_7_14 C hk0 kf_X7_31 dX7_readNext_16 ?_
    refine q_iconst C dX7_readNext_19 rfl (by decide) (fun v3 => ?_)
    refine a_ild C (yk_7_14 hk0) (yl_7_14 hk0) dX7_readNext_20 (fun v4 => ?_)
    refine q_bipush C dX7_readNext_21 rfl (by decide) (fun v5 => ?_)
    refine q_icmp_ne C 31 dX7_readNext_23 (by decide) ?_ ?_
    · exact B31 v1 σ ls (lv_sub hl [1, 0] rfl)
    · refine q_aload_n C dX7_readNext_26 rfl (lv_at hl 1 rfl) ?_
      refine q_iconst C dX7_readNext_27 rfl (by decide) (fun v54 => ?_)
      refine q_cv C (fun r h => cr_V (As := [.int v54]) (rest := []) C (m_X7_errs l G F k0 v54 σ r h) cb_X7_errs hk0 (by decide) rfl (cf_7 hk0 _) rfl kl_X7_198 ⟨Nat.le_of_ble_eq_true rfl, Nat.le_of_ble_eq_true rfl⟩ ⟨Nat.zero_le _, Nat.zero_le _⟩ hl.1 rfl (Nat.le_of_ble_eq_true rfl) dX7_readNext_28 rfl) (fun σ8 => ?_)
      exact B31 v1 σ8 ls (lv_sub hl [1, 0] rfl)
  · refine q_aload_n C dX7_readNext_10 rfl (lv_at hl 1 rfl) ?_
    refine q_iconst C dX7_readNext_11 rfl (by decide) (fun v55 => ?_)
    refine q_cv C (fun r h => cr_V (As := [.int v55]) (rest := []) C (m_X7_errs l G F k0 v55 σ r h) cb_X7_errs hk0 (by decide) rfl (cf_7 hk0 _) rfl kl_X7_198 ⟨Nat.le_of_ble_eq_true rfl, Nat.le_of_ble_eq_true rfl⟩ ⟨Nat.zero_le _, Nat.zero_le _⟩ hl.1 rfl (Nat.le_of_ble_eq_true rfl) dX7_readNext_12 rfl) (fun σ9 => ?_)
    refine q_aload_n C dX7_readNext_15 rfl (lv_at hl 1 rfl) ?_
    refine g_7_14 C hk0 kf_X7_31 dX7_readNext_16 ?_
    refine q_iconst C dX7_readNext_19 rfl (by decide) (fun v56 => ?_)
    refine a_ild C (yk_7_14 hk0) (yl_7_14 hk0) dX7_readNext_20 (fun v57 => ?_)
    refine q_bipush C dX7_readNext_21 rfl (by decide) (fun v58 => ?_)
    refine q_icmp_ne C 31 dX7_readNext_23 (by decide) ?_ ?_
    · exact B31 v1 σ9 ls (lv_sub hl [1, 0] rfl)
    · refine q_aload_n C dX7_readNext_26 rfl (lv_at hl 1 rfl) ?_
      refine q_iconst C dX7_readNext_27 rfl (by decide) (fun v59 => ?_)
      refine q_cv C (fun r h => cr_V (As := [.int v59]) (rest := []) C (m_X7_errs l G F k0 v59 σ9 r h) cb_X7_errs hk0 (by decide) rfl (cf_7 hk0 _) rfl kl_X7_198 ⟨Nat.le_of_ble_eq_true rfl, Nat.le_of_ble_eq_true rfl⟩ ⟨Nat.zero_le _, Nat.zero_le _⟩ hl.1 rfl (Nat.le_of_ble_eq_true rfl) dX7_readNext_28 rfl) (fun σ10 => ?_)
      exact B31 v1 σ10 ls (lv_sub hl [1, 0] rfl)
def f_X7_readText_J40 (F : Nat) (k0 : Nat)    (σ : St) : Option (St) :=
  z_c1 (f_X7_good F k0 σ) fun v4 =>
  if v4 = 0 then (
    z_gt 5 fun v5 =>
    z_ix v5 246 <| z_gt (σ (k0 + 6) v5) fun v6 =>
    z_gt 1 fun v7 =>
    z_ck (v6 + v7) fun v8 =>
    z_ix v5 246 <| z_sg (z_up σ (k0 + 6) v5 v8) fun σ2 =>
    some σ2)
  else (
    z_c1 (f_X7_advance F k0 σ) fun σ3 =>
    z_gt 5 fun v9 =>
    z_ix v9 246 <| z_gt (σ3 (k0 + 6) v9) fun v10 =>
    z_gt 1 fun v11 =>
    z_ck (v10 + v11) fun v12 =>
    z_ix v9 246 <| z_sg (z_up σ3 (k0 + 6) v9 v12) fun σ4 =>
    some σ4)

def f_X7_readText (F : Nat) (k0 : Nat) (σ : St) : Option (St) :=
  z_ob 7 k0 <| 
  z_gt 5 fun v1 =>
  z_ix v1 246 <| z_gt (σ (k0 + 6) v1) fun v2 =>
  if ¬ v2 = 0 then (
    z_c1 (f_X7_readNext F k0 σ) fun σ1 =>
    z_c1 (f_X7_good F k0 σ1) fun v3 =>
    if v3 = 0 then (
      f_X7_readText_J40 F k0 σ1)
    else (
      z_gt (σ1 k0 10) fun v13 =>
      z_gt 3 fun v14 =>
      if v13 = v14 then (
        f_X7_readText_J40 F k0 σ1)
      else (
        z_gt 1 fun v15 =>
        z_c1 (f_X7_errs F k0 v15 σ1) fun σ5 =>
        f_X7_readText_J40 F k0 σ5)))
  else (
    z_c1 (f_X7_readFirst F k0 σ) fun σ6 =>
    z_c1 (f_X7_good F k0 σ6) fun v16 =>
    if v16 = 0 then (
      f_X7_readText_J40 F k0 σ6)
    else (
      z_gt (σ6 k0 10) fun v17 =>
      z_gt 3 fun v18 =>
      if v17 = v18 then (
        f_X7_readText_J40 F k0 σ6)
      else (
        z_gt 1 fun v19 =>
        z_c1 (f_X7_errs F k0 v19 σ6) fun σ7 =>
        f_X7_readText_J40 F k0 σ7)))
theorem cb_X7_readText : CB yX7_readText cX7_readText 1 none 0 := ⟨ki_X7_readText, kq_X7_readText, kn_X7, kc_X7_readText, by decide +kernel, by decide +kernel, by decide +kernel⟩
set_option maxRecDepth 20000 in
set_option maxHeartbeats 4000000 in
theorem m_X7_readText (l : Launch) (G : GG) (F : Nat) (k0 : Nat) (σ : St) : ∀ r, f_X7_readText F k0 σ = some r → MC G l yX7_readText cX7_readText 1 none { frames := 8, cells := 0, slots := 0, locals := 172 } [.ref (gad G k0)] σ vV r := by
  refine MC_of (own := RX7) (fun _ => vV) (fun r => r) (by decide +kernel) rfl (Nat.le_of_ble_eq_true rfl) ?_
  intro p e s m args below meth c C hr hlo ls hl
  have hl : lv_has ls 1 [(0, .ref (gad G k0))] := hl
  unfold f_X7_readText
  refine q_ob (fun hk0 => ?_)
  have B40 : ∀   (σ : St) (ls : Array Slot), lv_has ls 1 [(0, .ref (gad G k0))] → Sim G (AG G) 0 0 p l e { frames := 8, cells := 0, slots := 0, locals := 172 } s m args below meth c (fun r : St => MQ below (QC G (vV) (r)) args s 0 0 (AG G)) σ (f_X7_readText_J40 F k0     σ) (F0 m 40 ls []) := by
    intro  σ ls hl
    unfold f_X7_readText_J40
    refine q_aload_n C dX7_readText_40 rfl (lv_at hl 0 rfl) ?_
    refine q_c1i C (fun r h => cr_V (As := []) (rest := []) C (m_X7_good l G F k0 σ r h) cb_X7_good hk0 (by decide) rfl (cf_7 hk0 _) rfl kl_X7_179 ⟨Nat.le_of_ble_eq_true rfl, Nat.le_of_ble_eq_true rfl⟩ ⟨Nat.zero_le _, Nat.zero_le _⟩ hl.1 rfl (Nat.le_of_ble_eq_true rfl) dX7_readText_41 rfl) (fun v4 => ?_)
    refine q_if_eq C 51 dX7_readText_44 (by decide) ?_ ?_
    · refine q_aload_n C dX7_readText_51 rfl (lv_at hl 0 rfl) ?_
      refine g_7_14 C hk0 kf_X7_31 dX7_readText_52 ?_
      refine q_iconst C dX7_readText_55 rfl (by decide) (fun v5 => ?_)
      refine q_dup2 C dX7_readText_56 rfl rfl ?_
      refine a_ild C (yk_7_14 hk0) (yl_7_14 hk0) dX7_readText_57 (fun v6 => ?_)
      refine q_iconst C dX7_readText_58 rfl (by decide) (fun v7 => ?_)
      refine q_iadd C dX7_readText_59 (fun v8 => ?_)
      refine a_ist C (yk_7_14 hk0) (yl_7_14 hk0) dX7_readText_60 (q_sg (fun σ2 => ?_))
      exact q_vretE C hr hlo dX7_readText_61
    · refine q_aload_n C dX7_readText_47 rfl (lv_at hl 0 rfl) ?_
      refine q_cv C (fun r h => cr_V (As := []) (rest := []) C (m_X7_advance l G F k0 σ r h) cb_X7_advance hk0 (by decide) rfl (cf_7 hk0 _) rfl kl_X7_195 ⟨Nat.le_of_ble_eq_true rfl, Nat.le_of_ble_eq_true rfl⟩ ⟨Nat.zero_le _, Nat.zero_le _⟩ hl.1 rfl (Nat.le_of_ble_eq_true rfl) dX7_readText_48 rfl) (fun σ3 => ?_)
      refine q_aload_n C dX7_readText_51 rfl (lv_at hl 0 rfl) ?_
      refine g_7_14 C hk0 kf_X7_31 dX7_readText_52 ?_
      refine q_iconst C dX7_readText_55 rfl (by decide) (fun v9 => ?_)
      refine q_dup2 C dX7_readText_56 rfl rfl ?_
      refine a_ild C (yk_7_14 hk0) (yl_7_14 hk0) dX7_readText_57 (fun v10 => ?_)
      refine q_iconst C dX7_readText_58 rfl (by decide) (fun v11 => ?_)
      refine q_iadd C dX7_readText_59 (fun v12 => ?_)
      refine a_ist C (yk_7_14 hk0) (yl_7_14 hk0) dX7_readText_60 (q_sg (fun σ4 => ?_))
      exact q_vretE C hr hlo dX7_readText_61
  refine q_aload_n C dX7_readText_0 rfl (lv_at hl 0 rfl) ?_
  refine g_7_14 C hk0 kf_X7_31 dX7_readText_1 ?_
  refine q_iconst C dX7_readText_4 rfl (by decide) (fun v1 => ?_)
  refine a_ild C (yk_7_14 hk0) (yl_7_14 hk0) dX7_readText_5 (fun v2 => ?_)
  refine q_if_ne C 16 dX7_readText_6 (by decide) ?_ ?_
  · refine q_aload_n C dX7_readText_16 rfl (lv_at hl 0 rfl) ?_
    refine q_cv C (fun r h => cr_V (As := []) (rest := []) C (m_X7_readNext l G F k0 σ r h) cb_X7_readNext hk0 (by decide) rfl (cf_7 hk0 _) rfl kl_X7_240 ⟨Nat.le_of_ble_eq_true rfl, Nat.le_of_ble_eq_true rfl⟩ ⟨Nat.zero_le _, Nat.zero_le _⟩ hl.1 rfl (Nat.le_of_ble_eq_true rfl) dX7_readText_17 rfl) (fun σ1 => ?_)
    refine q_aload_n C dX7_readText_20 rfl (lv_at hl 0 rfl) ?_
    refine q_c1i C (fun r h => cr_V (As := []) (rest := []) C (m_X7_good l G F k0 σ1 r h) cb_X7_good hk0 (by decide) rfl (cf_7 hk0 _) rfl kl_X7_179 ⟨Nat.le_of_ble_eq_true rfl, Nat.le_of_ble_eq_true rfl⟩ ⟨Nat.zero_le _, Nat.zero_le _⟩ hl.1 rfl (Nat.le_of_ble_eq_true rfl) dX7_readText_21 rfl) (fun v3 => ?_)
    refine q_if_eq C 40 dX7_readText_24 (by decide) ?_ ?_
    · exact B40 σ1 ls (lv_sub hl [0] rfl)
    · refine q_aload_n C dX7_readText_27 rfl (lv_at hl 0 rfl) ?_
      refine g_7_10 C hk0 kf_X7_155 dX7_readText_28 (fun v13 => ?_)
      refine q_iconst C dX7_readText_31 rfl (by decide) (fun v14 => ?_)
      refine q_icmp_eq C 40 dX7_readText_32 (by decide) ?_ ?_
      · exact B40 σ1 ls (lv_sub hl [0] rfl)
      · refine q_aload_n C dX7_readText_35 rfl (lv_at hl 0 rfl) ?_
        refine q_iconst C dX7_readText_36 rfl (by decide) (fun v15 => ?_)
        refine q_cv C (fun r h => cr_V (As := [.int v15]) (rest := []) C (m_X7_errs l G F k0 v15 σ1 r h) cb_X7_errs hk0 (by decide) rfl (cf_7 hk0 _) rfl kl_X7_198 ⟨Nat.le_of_ble_eq_true rfl, Nat.le_of_ble_eq_true rfl⟩ ⟨Nat.zero_le _, Nat.zero_le _⟩ hl.1 rfl (Nat.le_of_ble_eq_true rfl) dX7_readText_37 rfl) (fun σ5 => ?_)
        exact B40 σ5 ls (lv_sub hl [0] rfl)
  · refine q_aload_n C dX7_readText_9 rfl (lv_at hl 0 rfl) ?_
    refine q_cv C (fun r h => cr_V (As := []) (rest := []) C (m_X7_readFirst l G F k0 σ r h) cb_X7_readFirst hk0 (by decide) rfl (cf_7 hk0 _) rfl kl_X7_237 ⟨Nat.le_of_ble_eq_true rfl, Nat.le_of_ble_eq_true rfl⟩ ⟨Nat.zero_le _, Nat.zero_le _⟩ hl.1 rfl (Nat.le_of_ble_eq_true rfl) dX7_readText_10 rfl) (fun σ6 => ?_)
    refine q_goto C 20 dX7_readText_13 (by decide) ?_
    refine q_aload_n C dX7_readText_20 rfl (lv_at hl 0 rfl) ?_
    refine q_c1i C (fun r h => cr_V (As := []) (rest := []) C (m_X7_good l G F k0 σ6 r h) cb_X7_good hk0 (by decide) rfl (cf_7 hk0 _) rfl kl_X7_179 ⟨Nat.le_of_ble_eq_true rfl, Nat.le_of_ble_eq_true rfl⟩ ⟨Nat.zero_le _, Nat.zero_le _⟩ hl.1 rfl (Nat.le_of_ble_eq_true rfl) dX7_readText_21 rfl) (fun v16 => ?_)
    refine q_if_eq C 40 dX7_readText_24 (by decide) ?_ ?_
    · exact B40 σ6 ls (lv_sub hl [0] rfl)
    · refine q_aload_n C dX7_readText_27 rfl (lv_at hl 0 rfl) ?_
      refine g_7_10 C hk0 kf_X7_155 dX7_readText_28 (fun v17 => ?_)
      refine q_iconst C dX7_readText_31 rfl (by decide) (fun v18 => ?_)
      refine q_icmp_eq C 40 dX7_readText_32 (by decide) ?_ ?_
      · exact B40 σ6 ls (lv_sub hl [0] rfl)
      · refine q_aload_n C dX7_readText_35 rfl (lv_at hl 0 rfl) ?_
        refine q_iconst C dX7_readText_36 rfl (by decide) (fun v19 => ?_)
        refine q_cv C (fun r h => cr_V (As := [.int v19]) (rest := []) C (m_X7_errs l G F k0 v19 σ6 r h) cb_X7_errs hk0 (by decide) rfl (cf_7 hk0 _) rfl kl_X7_198 ⟨Nat.le_of_ble_eq_true rfl, Nat.le_of_ble_eq_true rfl⟩ ⟨Nat.zero_le _, Nat.zero_le _⟩ hl.1 rfl (Nat.le_of_ble_eq_true rfl) dX7_readText_37 rfl) (fun σ7 => ?_)
        exact B40 σ7 ls (lv_sub hl [0] rfl)
def f_X7_store_L87 (F : Nat) (k0 : Nat)   : Nat → Int → St → Option (Int × St)
  | 0, _, _ => none
  | n + 1, x12, σ =>
    z_gt 246 fun v13 =>
    if v13 ≤ x12 then (
      z_gt 5 fun v14 =>
      z_ix v14 246 <| z_gt (σ (k0 + 1) v14) fun v15 =>
      some (v15, σ))
    else (
      z_ix x12 246 <| z_gt (σ (k0 + 6) x12) fun v16 =>
      z_ix x12 246 <| z_sg (z_up σ (k0 + 1) x12 v16) fun σ7 =>
      z_ck (x12 + 1) fun v17 =>
      f_X7_store_L87 F k0 n v17 σ7)

def f_X7_store_L54 (F : Nat) (k0 : Nat)   : Nat → St → Option (Int × St)
  | 0, _ => none
  | n + 1, σ =>
    z_c1 (f_X7_good F k0 σ) fun v9 =>
    if v9 = 0 then (
      z_c1 (f_X7_good F k0 σ) fun v10 =>
      if ¬ v10 = 0 then (
        z_gt 0 fun v11 =>
        f_X7_store_L87 F k0 F v11 σ)
      else (
        z_gt (-4) fun v18 =>
        some (v18, σ)))
    else (
      z_gt (σ k0 10) fun v19 =>
      if v19 = 0 then (
        z_c1 (f_X7_good F k0 σ) fun v20 =>
        if ¬ v20 = 0 then (
          z_gt 0 fun v21 =>
          f_X7_store_L87 F k0 F v21 σ)
        else (
          z_gt (-4) fun v22 =>
          some (v22, σ)))
      else (
        z_c1 (f_X7_readText F k0 σ) fun σ8 =>
        f_X7_store_L54 F k0 n σ8))

def f_X7_store_L30 (F : Nat) (k0 : Nat)   : Nat → Int → St → Option (Int × St)
  | 0, _, _ => none
  | n + 1, x7, σ =>
    z_gt 246 fun v8 =>
    if v8 ≤ x7 then (
      z_c1 (f_X7_advance F k0 σ) fun σ6 =>
      f_X7_store_L54 F k0 F σ6)
    else (
      z_gt 0 fun v23 =>
      z_ix x7 246 <| z_sg (z_up σ (k0 + 6) x7 v23) fun σ9 =>
      z_ck (x7 + 1) fun v24 =>
      f_X7_store_L30 F k0 n v24 σ9)

def f_X7_store (F : Nat) (k0 : Nat) (σ : St) : Option (Int × St) :=
  z_ob 7 k0 <| 
  z_gt (σ k0 5) fun v1 =>
  z_sg (z_up σ k0 7 v1) fun σ1 =>
  z_gt 0 fun v2 =>
  z_sg (z_up σ1 k0 5 v2) fun σ2 =>
  z_gt 0 fun v3 =>
  z_sg (z_up σ2 k0 8 v3) fun σ3 =>
  z_gt 0 fun v4 =>
  z_sg (z_up σ3 k0 12 v4) fun σ4 =>
  z_gt (-1) fun v5 =>
  z_sg (z_up σ4 k0 13 v5) fun σ5 =>
  z_gt 0 fun v6 =>
  f_X7_store_L30 F k0 F v6 σ5
theorem cb_X7_store : CB yX7_store cX7_store 2 (some .int) 0 := ⟨ki_X7_store, kq_X7_store, kn_X7, kc_X7_store, by decide +kernel, by decide +kernel, by decide +kernel⟩
set_option maxRecDepth 20000 in
set_option maxHeartbeats 4000000 in
theorem m_X7_store (l : Launch) (G : GG) (F : Nat) (k0 : Nat) (σ : St) : ∀ r, f_X7_store F k0 σ = some r → MC G l yX7_store cX7_store 2 (some .int) { frames := 9, cells := 0, slots := 0, locals := 192 } [.ref (gad G k0)] σ (vI r.1) r.2 := by
  refine MC_of (own := RX7) (fun r : Int × St => vI r.1) (fun r : Int × St => r.2) (by decide +kernel) rfl (Nat.le_of_ble_eq_true rfl) ?_
  intro p e s m args below meth c C hr hlo ls hl
  have hl : lv_has ls 2 [(0, .ref (gad G k0))] := hl
  unfold f_X7_store
  refine q_ob (fun hk0 => ?_)
  have B87 : ∀ (n : Nat) (x12 : Int32) (σ : St) (ls : Array Slot), lv_has ls 2 [(0, .ref (gad G k0)), (1, .int x12)] → Sim G (AG G) 0 0 p l e { frames := 9, cells := 0, slots := 0, locals := 192 } s m args below meth c (fun r : Int × St => MQ below (QC G (vI r.1) (r.2)) args s 0 0 (AG G)) σ (f_X7_store_L87 F k0   n x12.toInt σ) (F0 m 87 ls []) := by
    intro n
    induction n with
    | zero =>
      intro x12 σ ls hl
      exact sim_none
    | succ n ih =>
      intro x12 σ ls hl
      rw [f_X7_store_L87]
      refine q_iload_n C dX7_store_87 rfl (lv_at hl 1 rfl) ?_
      refine q_sipush C dX7_store_88 rfl (by decide) (fun v13 => ?_)
      refine q_icmp_ge C 112 dX7_store_91 (by decide) ?_ ?_
      · refine q_aload_n C dX7_store_112 rfl (lv_at hl 0 rfl) ?_
        refine g_7_1 C hk0 kf_X7_9 dX7_store_113 ?_
        refine q_iconst C dX7_store_116 rfl (by decide) (fun v14 => ?_)
        refine a_ild C (yk_7_1 hk0) (yl_7_1 hk0) dX7_store_117 (fun v15 => ?_)
        exact q_iretE C hr hlo dX7_store_118
      · refine q_aload_n C dX7_store_94 rfl (lv_at hl 0 rfl) ?_
        refine g_7_1 C hk0 kf_X7_9 dX7_store_95 ?_
        refine q_iload_n C dX7_store_98 rfl (lv_at hl 1 rfl) ?_
        refine q_aload_n C dX7_store_99 rfl (lv_at hl 0 rfl) ?_
        refine g_7_14 C hk0 kf_X7_31 dX7_store_100 ?_
        refine q_iload_n C dX7_store_103 rfl (lv_at hl 1 rfl) ?_
        refine a_ild C (yk_7_14 hk0) (yl_7_14 hk0) dX7_store_104 (fun v16 => ?_)
        refine a_ist C (yk_7_1 hk0) (yl_7_1 hk0) dX7_store_105 (q_sg (fun σ7 => ?_))
        refine q_iinc (k := 1) C (fun v17 => [(1, .int v17), (0, .ref (gad G k0))]) dX7_store_106 hl rfl (by decide) (by decide) (fun _ => rfl) (fun v17 ls hl => ?_)
        refine q_goto C 87 dX7_store_109 (by decide) ?_
        exact ih v17 σ7 ls (lv_sub hl [1, 0] rfl)
  have B54 : ∀ (n : Nat)  (σ : St) (ls : Array Slot), lv_has ls 2 [(0, .ref (gad G k0))] → Sim G (AG G) 0 0 p l e { frames := 9, cells := 0, slots := 0, locals := 192 } s m args below meth c (fun r : Int × St => MQ below (QC G (vI r.1) (r.2)) args s 0 0 (AG G)) σ (f_X7_store_L54 F k0   n  σ) (F0 m 54 ls []) := by
    intro n
    induction n with
    | zero =>
      intro  σ ls hl
      exact sim_none
    | succ n ih =>
      intro  σ ls hl
      rw [f_X7_store_L54]
      refine q_aload_n C dX7_store_54 rfl (lv_at hl 0 rfl) ?_
      refine q_c1i C (fun r h => cr_V (As := []) (rest := []) C (m_X7_good l G F k0 σ r h) cb_X7_good hk0 (by decide) rfl (cf_7 hk0 _) rfl kl_X7_179 ⟨Nat.le_of_ble_eq_true rfl, Nat.le_of_ble_eq_true rfl⟩ ⟨Nat.zero_le _, Nat.zero_le _⟩ hl.1 rfl (Nat.le_of_ble_eq_true rfl) dX7_store_55 rfl) (fun v9 => ?_)
      refine q_if_eq C 75 dX7_store_58 (by decide) ?_ ?_
      · refine q_aload_n C dX7_store_75 rfl (lv_at hl 0 rfl) ?_
        refine q_c1i C (fun r h => cr_V (As := []) (rest := []) C (m_X7_good l G F k0 σ r h) cb_X7_good hk0 (by decide) rfl (cf_7 hk0 _) rfl kl_X7_179 ⟨Nat.le_of_ble_eq_true rfl, Nat.le_of_ble_eq_true rfl⟩ ⟨Nat.zero_le _, Nat.zero_le _⟩ hl.1 rfl (Nat.le_of_ble_eq_true rfl) dX7_store_76 rfl) (fun v10 => ?_)
        refine q_if_ne C 85 dX7_store_79 (by decide) ?_ ?_
        · refine q_iconst C dX7_store_85 rfl (by decide) (fun v11 => ?_)
          refine q_istore_n C [(1, .int v11), (0, .ref (gad G k0))] dX7_store_86 rfl hl (by decide) rfl (fun ls hl => ?_)
          exact B87 F v11 σ ls (lv_sub hl [1, 0] rfl)
        · refine q_bipush C dX7_store_82 rfl (by decide) (fun v18 => ?_)
          exact q_iretE C hr hlo dX7_store_84
      · refine q_aload_n C dX7_store_61 rfl (lv_at hl 0 rfl) ?_
        refine g_7_10 C hk0 kf_X7_155 dX7_store_62 (fun v19 => ?_)
        refine q_if_eq C 75 dX7_store_65 (by decide) ?_ ?_
        · refine q_aload_n C dX7_store_75 rfl (lv_at hl 0 rfl) ?_
          refine q_c1i C (fun r h => cr_V (As := []) (rest := []) C (m_X7_good l G F k0 σ r h) cb_X7_good hk0 (by decide) rfl (cf_7 hk0 _) rfl kl_X7_179 ⟨Nat.le_of_ble_eq_true rfl, Nat.le_of_ble_eq_true rfl⟩ ⟨Nat.zero_le _, Nat.zero_le _⟩ hl.1 rfl (Nat.le_of_ble_eq_true rfl) dX7_store_76 rfl) (fun v20 => ?_)
          refine q_if_ne C 85 dX7_store_79 (by decide) ?_ ?_
          · refine q_iconst C dX7_store_85 rfl (by decide) (fun v21 => ?_)
            refine q_istore_n C [(1, .int v21), (0, .ref (gad G k0))] dX7_store_86 rfl hl (by decide) rfl (fun ls hl => ?_)
            exact B87 F v21 σ ls (lv_sub hl [1, 0] rfl)
          · refine q_bipush C dX7_store_82 rfl (by decide) (fun v22 => ?_)
            exact q_iretE C hr hlo dX7_store_84
        · refine q_aload_n C dX7_store_68 rfl (lv_at hl 0 rfl) ?_
          refine q_cv C (fun r h => cr_V (As := []) (rest := []) C (m_X7_readText l G F k0 σ r h) cb_X7_readText hk0 (by decide) rfl (cf_7 hk0 _) rfl kl_X7_243 ⟨Nat.le_of_ble_eq_true rfl, Nat.le_of_ble_eq_true rfl⟩ ⟨Nat.zero_le _, Nat.zero_le _⟩ hl.1 rfl (Nat.le_of_ble_eq_true rfl) dX7_store_69 rfl) (fun σ8 => ?_)
          refine q_goto C 54 dX7_store_72 (by decide) ?_
          exact ih σ8 ls (lv_sub hl [0] rfl)
  have B30 : ∀ (n : Nat) (x7 : Int32) (σ : St) (ls : Array Slot), lv_has ls 2 [(0, .ref (gad G k0)), (1, .int x7)] → Sim G (AG G) 0 0 p l e { frames := 9, cells := 0, slots := 0, locals := 192 } s m args below meth c (fun r : Int × St => MQ below (QC G (vI r.1) (r.2)) args s 0 0 (AG G)) σ (f_X7_store_L30 F k0   n x7.toInt σ) (F0 m 30 ls []) := by
    intro n
    induction n with
    | zero =>
      intro x7 σ ls hl
      exact sim_none
    | succ n ih =>
      intro x7 σ ls hl
      rw [f_X7_store_L30]
      refine q_iload_n C dX7_store_30 rfl (lv_at hl 1 rfl) ?_
      refine q_sipush C dX7_store_31 rfl (by decide) (fun v8 => ?_)
      refine q_icmp_ge C 50 dX7_store_34 (by decide) ?_ ?_
      · refine q_aload_n C dX7_store_50 rfl (lv_at hl 0 rfl) ?_
        refine q_cv C (fun r h => cr_V (As := []) (rest := []) C (m_X7_advance l G F k0 σ r h) cb_X7_advance hk0 (by decide) rfl (cf_7 hk0 _) rfl kl_X7_195 ⟨Nat.le_of_ble_eq_true rfl, Nat.le_of_ble_eq_true rfl⟩ ⟨Nat.zero_le _, Nat.zero_le _⟩ hl.1 rfl (Nat.le_of_ble_eq_true rfl) dX7_store_51 rfl) (fun σ6 => ?_)
        exact B54 F σ6 ls (lv_sub hl [0] rfl)
      · refine q_aload_n C dX7_store_37 rfl (lv_at hl 0 rfl) ?_
        refine g_7_14 C hk0 kf_X7_31 dX7_store_38 ?_
        refine q_iload_n C dX7_store_41 rfl (lv_at hl 1 rfl) ?_
        refine q_iconst C dX7_store_42 rfl (by decide) (fun v23 => ?_)
        refine a_ist C (yk_7_14 hk0) (yl_7_14 hk0) dX7_store_43 (q_sg (fun σ9 => ?_))
        refine q_iinc (k := 1) C (fun v24 => [(1, .int v24), (0, .ref (gad G k0))]) dX7_store_44 hl rfl (by decide) (by decide) (fun _ => rfl) (fun v24 ls hl => ?_)
        refine q_goto C 30 dX7_store_47 (by decide) ?_
        exact ih v24 σ9 ls (lv_sub hl [1, 0] rfl)
  refine q_aload_n C dX7_store_0 rfl (lv_at hl 0 rfl) ?_
  refine q_aload_n C dX7_store_1 rfl (lv_at hl 0 rfl) ?_
  refine g_7_5 C hk0 kf_X7_140 dX7_store_2 (fun v1 => ?_)
  refine p_7_7 C hk0 kf_X7_143 dX7_store_5 (q_sg (fun σ1 => ?_))
  refine q_aload_n C dX7_store_8 rfl (lv_at hl 0 rfl) ?_
  refine q_iconst C dX7_store_9 rfl (by decide) (fun v2 => ?_)
  refine p_7_5 C hk0 kf_X7_140 dX7_store_10 (q_sg (fun σ2 => ?_))
  refine q_aload_n C dX7_store_13 rfl (lv_at hl 0 rfl) ?_
  refine q_iconst C dX7_store_14 rfl (by decide) (fun v3 => ?_)
  refine p_7_8 C hk0 kf_X7_146 dX7_store_15 (q_sg (fun σ3 => ?_))
  refine q_aload_n C dX7_store_18 rfl (lv_at hl 0 rfl) ?_
  refine q_iconst C dX7_store_19 rfl (by decide) (fun v4 => ?_)
  refine p_7_12 C hk0 kf_X7_176 dX7_store_20 (q_sg (fun σ4 => ?_))
  refine q_aload_n C dX7_store_23 rfl (lv_at hl 0 rfl) ?_
  refine q_iconst C dX7_store_24 rfl (by decide) (fun v5 => ?_)
  refine p_7_13 C hk0 kf_X7_27 dX7_store_25 (q_sg (fun σ5 => ?_))
  refine q_iconst C dX7_store_28 rfl (by decide) (fun v6 => ?_)
  refine q_istore_n C [(1, .int v6), (0, .ref (gad G k0))] dX7_store_29 rfl hl (by decide) rfl (fun ls hl => ?_)
  exact B30 F v6 σ5 ls (lv_sub hl [1, 0] rfl)
def f_X7_nothingGone_L2 (F : Nat) (k0 : Nat)   : Nat → Int → St → Option (St)
  | 0, _, _ => none
  | n + 1, x2, σ =>
    z_gt 60 fun v3 =>
    if v3 ≤ x2 then (
      some σ)
    else (
      z_gt 0 fun v4 =>
      z_ix x2 60 <| z_bo v4 <| z_sg (z_up σ (k0 + 7) x2 v4) fun σ1 =>
      z_ck (x2 + 1) fun v5 =>
      f_X7_nothingGone_L2 F k0 n v5 σ1)

def f_X7_nothingGone (F : Nat) (k0 : Nat) (σ : St) : Option (St) :=
  z_ob 7 k0 <| 
  z_gt 0 fun v1 =>
  f_X7_nothingGone_L2 F k0 F v1 σ
theorem cb_X7_nothingGone : CB yX7_nothingGone cX7_nothingGone 2 none 0 := ⟨ki_X7_nothingGone, kq_X7_nothingGone, kn_X7, kc_X7_nothingGone, by decide +kernel, by decide +kernel, by decide +kernel⟩
set_option maxRecDepth 20000 in
set_option maxHeartbeats 4000000 in
theorem m_X7_nothingGone (l : Launch) (G : GG) (F : Nat) (k0 : Nat) (σ : St) : ∀ r, f_X7_nothingGone F k0 σ = some r → MC G l yX7_nothingGone cX7_nothingGone 2 none { frames := 0, cells := 0, slots := 0, locals := 0 } [.ref (gad G k0)] σ vV r := by
  refine MC_of (own := RX7) (fun _ => vV) (fun r => r) (by decide +kernel) rfl (Nat.le_of_ble_eq_true rfl) ?_
  intro p e s m args below meth c C hr hlo ls hl
  have hl : lv_has ls 2 [(0, .ref (gad G k0))] := hl
  unfold f_X7_nothingGone
  refine q_ob (fun hk0 => ?_)
  have B2 : ∀ (n : Nat) (x2 : Int32) (σ : St) (ls : Array Slot), lv_has ls 2 [(0, .ref (gad G k0)), (1, .int x2)] → Sim G (AG G) 0 0 p l e { frames := 0, cells := 0, slots := 0, locals := 0 } s m args below meth c (fun r : St => MQ below (QC G (vV) (r)) args s 0 0 (AG G)) σ (f_X7_nothingGone_L2 F k0   n x2.toInt σ) (F0 m 2 ls []) := by
    intro n
    induction n with
    | zero =>
      intro x2 σ ls hl
      exact sim_none
    | succ n ih =>
      intro x2 σ ls hl
      rw [f_X7_nothingGone_L2]
      refine q_iload_n C dX7_nothingGone_2 rfl (lv_at hl 1 rfl) ?_
      refine q_bipush C dX7_nothingGone_3 rfl (by decide) (fun v3 => ?_)
      refine q_icmp_ge C 21 dX7_nothingGone_5 (by decide) ?_ ?_
      · exact q_vretE C hr hlo dX7_nothingGone_21
      · refine q_aload_n C dX7_nothingGone_8 rfl (lv_at hl 0 rfl) ?_
        refine g_7_15 C hk0 kf_X7_34 dX7_nothingGone_9 ?_
        refine q_iload_n C dX7_nothingGone_12 rfl (lv_at hl 1 rfl) ?_
        refine q_iconst C dX7_nothingGone_13 rfl (by decide) (fun v4 => ?_)
        refine a_zst C (yk_7_15 hk0) (yl_7_15 hk0) dX7_nothingGone_14 (q_sg (fun σ1 => ?_))
        refine q_iinc (k := 1) C (fun v5 => [(1, .int v5), (0, .ref (gad G k0))]) dX7_nothingGone_15 hl rfl (by decide) (by decide) (fun _ => rfl) (fun v5 ls hl => ?_)
        refine q_goto C 2 dX7_nothingGone_18 (by decide) ?_
        exact ih v5 σ1 ls (lv_sub hl [1, 0] rfl)
  refine q_iconst C dX7_nothingGone_0 rfl (by decide) (fun v1 => ?_)
  refine q_istore_n C [(1, .int v1), (0, .ref (gad G k0))] dX7_nothingGone_1 rfl hl (by decide) rfl (fun ls hl => ?_)
  exact B2 F v1 σ ls (lv_sub hl [1, 0] rfl)
def f_X7_obey_L112 (F : Nat) (k0 : Nat) (a1 : Int) (a2 : Nat) (a3 : Int)   : Nat → Int → Int → St → Option (St)
  | 0, _, _, _ => none
  | n + 1, x17, x18, σ =>
    if x17 < x18 then (
      some σ)
    else (
      z_ck (a3 + x18) fun v19 =>
      z_gt 2 fun v20 =>
      z_c1 (f_X7_numberOf F k0 a1 v20 σ) fun v21 =>
      z_ix v19 (lnX a2) <| z_sg (z_up σ a2 v19 v21) fun σ5 =>
      z_ck (x18 + 1) fun v22 =>
      f_X7_obey_L112 F k0 a1 a2 a3 n x17 v22 σ5)

def f_X7_obey (F : Nat) (k0 : Nat) (a1 : Int) (a2 : Nat) (a3 : Int) (σ : St) : Option (St) :=
  z_ob 7 k0 <| z_ob 9 a2 <| 
  z_gt 0 fun v1 =>
  z_c1 (f_X7_numberOf F k0 a1 v1 σ) fun v2 =>
  z_gt 1 fun v3 =>
  z_c1 (f_X7_numberOf F k0 a1 v3 σ) fun v4 =>
  z_ck (a3 + v2) fun v5 =>
  z_ix v5 (lnX a2) <| z_gt (σ a2 v5) fun v6 =>
  z_c1 (f_X7_kindOf F k0 a1 σ) fun v7 =>
  if v7 = 0 then (
    z_ck (a3 + v2) fun v8 =>
    z_ix v8 (lnX a2) <| z_sg (z_up σ a2 v8 v4) fun σ1 =>
    some σ1)
  else
  if v7 = 1 then (
    z_ck (a3 + v2) fun v9 =>
    z_ck (v6 + v4) fun v10 =>
    z_gt 256 fun v11 =>
    z_nz v11 <| z_gt (v10.tmod v11) fun v12 =>
    z_ix v9 (lnX a2) <| z_sg (z_up σ a2 v9 v12) fun σ2 =>
    some σ2)
  else
  if v7 = 2 then (
    z_ck (a3 + v2) fun v13 =>
    z_ck (a3 + v4) fun v14 =>
    z_ix v14 (lnX a2) <| z_gt (σ a2 v14) fun v15 =>
    z_ix v13 (lnX a2) <| z_sg (z_up σ a2 v13 v15) fun σ3 =>
    z_ck (a3 + v4) fun v16 =>
    z_ix v16 (lnX a2) <| z_sg (z_up σ3 a2 v16 v6) fun σ4 =>
    some σ4)
  else
  (
    f_X7_obey_L112 F k0 a1 a2 a3 F v4 v2 σ)
theorem cb_X7_obey : CB yX7_obey cX7_obey 8 none 3 := ⟨ki_X7_obey, kq_X7_obey, kn_X7, kc_X7_obey, by decide +kernel, by decide +kernel, by decide +kernel⟩
set_option maxRecDepth 20000 in
set_option maxHeartbeats 4000000 in
theorem m_X7_obey (l : Launch) (G : GG) (F : Nat) (k0 : Nat) (a1 : Int32) (a2 : Nat) (a3 : Int32) (σ : St) : ∀ r, f_X7_obey F k0 a1.toInt a2 a3.toInt σ = some r → MC G l yX7_obey cX7_obey 8 none { frames := 1, cells := 0, slots := 0, locals := 22 } [.ref (gad G k0), .int a1, .ref (gad G a2), .int a3] σ vV r := by
  refine MC_of (own := RX7) (fun _ => vV) (fun r => r) (by decide +kernel) rfl (Nat.le_of_ble_eq_true rfl) ?_
  intro p e s m args below meth c C hr hlo ls hl
  have hl : lv_has ls 8 [(0, .ref (gad G k0)), (1, .int a1), (2, .ref (gad G a2)), (3, .int a3)] := hl
  unfold f_X7_obey
  refine q_ob (fun hk0 => ?_)
  refine q_ob (fun hk2 => ?_)
  have B112 : ∀ (n : Nat) (x17 : Int32) (x18 : Int32) (σ : St) (ls : Array Slot), lv_has ls 8 [(0, .ref (gad G k0)), (1, .int a1), (2, .ref (gad G a2)), (3, .int a3), (5, .int x17), (7, .int x18)] → Sim G (AG G) 0 0 p l e { frames := 1, cells := 0, slots := 0, locals := 22 } s m args below meth c (fun r : St => MQ below (QC G (vV) (r)) args s 0 0 (AG G)) σ (f_X7_obey_L112 F k0 a1.toInt a2 a3.toInt   n x17.toInt x18.toInt σ) (F0 m 112 ls []) := by
    intro n
    induction n with
    | zero =>
      intro x17 x18 σ ls hl
      exact sim_none
    | succ n ih =>
      intro x17 x18 σ ls hl
      rw [f_X7_obey_L112]
      refine q_iload C dX7_obey_112 (lv_at hl 5 rfl) ?_
      refine q_iload C dX7_obey_114 (lv_at hl 4 rfl) ?_
      refine q_icmp_gt C 137 dX7_obey_116 (by decide) ?_ ?_
      · exact q_vretE C hr hlo dX7_obey_137
      · refine q_aload_n C dX7_obey_119 rfl (lv_at hl 2 rfl) ?_
        refine q_iload_n C dX7_obey_120 rfl (lv_at hl 3 rfl) ?_
        refine q_iload C dX7_obey_121 (lv_at hl 5 rfl) ?_
        refine q_iadd C dX7_obey_123 (fun v19 => ?_)
        refine q_aload_n C dX7_obey_124 rfl (lv_at hl 0 rfl) ?_
        refine q_iload_n C dX7_obey_125 rfl (lv_at hl 1 rfl) ?_
        refine q_iconst C dX7_obey_126 rfl (by decide) (fun v20 => ?_)
        refine q_c1i C (fun r h => cr_V (As := [.int a1, .int v20]) (rest := [.int v19, .ref (gad G a2)]) C (m_X7_numberOf l G F k0 a1 v20 σ r h) cb_X7_numberOf hk0 (by decide) rfl (cf_7 hk0 _) rfl kl_X7_246 ⟨Nat.le_of_ble_eq_true rfl, Nat.le_of_ble_eq_true rfl⟩ ⟨Nat.zero_le _, Nat.zero_le _⟩ hl.1 rfl (Nat.le_of_ble_eq_true rfl) dX7_obey_127 rfl) (fun v21 => ?_)
        refine a_ist C hk2 rfl dX7_obey_130 (q_sg (fun σ5 => ?_))
        refine q_iinc (k := 5) C (fun v22 => [(7, .int v22), (0, .ref (gad G k0)), (1, .int a1), (2, .ref (gad G a2)), (3, .int a3), (5, .int x17)]) dX7_obey_131 hl rfl (by decide) (by decide) (fun _ => rfl) (fun v22 ls hl => ?_)
        refine q_goto C 112 dX7_obey_134 (by decide) ?_
        exact ih x17 v22 σ5 ls (lv_sub hl [1, 2, 3, 4, 5, 0] rfl)
  refine q_aload_n C dX7_obey_0 rfl (lv_at hl 0 rfl) ?_
  refine q_iload_n C dX7_obey_1 rfl (lv_at hl 1 rfl) ?_
  refine q_iconst C dX7_obey_2 rfl (by decide) (fun v1 => ?_)
  refine q_c1i C (fun r h => cr_V (As := [.int a1, .int v1]) (rest := []) C (m_X7_numberOf l G F k0 a1 v1 σ r h) cb_X7_numberOf hk0 (by decide) rfl (cf_7 hk0 _) rfl kl_X7_246 ⟨Nat.le_of_ble_eq_true rfl, Nat.le_of_ble_eq_true rfl⟩ ⟨Nat.zero_le _, Nat.zero_le _⟩ hl.1 rfl (Nat.le_of_ble_eq_true rfl) dX7_obey_3 rfl) (fun v2 => ?_)
  refine q_istore C [(4, .int v2), (0, .ref (gad G k0)), (1, .int a1), (2, .ref (gad G a2)), (3, .int a3)] dX7_obey_6 hl (by decide) rfl (fun ls hl => ?_)
  refine q_aload_n C dX7_obey_8 rfl (lv_at hl 1 rfl) ?_
  refine q_iload_n C dX7_obey_9 rfl (lv_at hl 2 rfl) ?_
  refine q_iconst C dX7_obey_10 rfl (by decide) (fun v3 => ?_)
  refine q_c1i C (fun r h => cr_V (As := [.int a1, .int v3]) (rest := []) C (m_X7_numberOf l G F k0 a1 v3 σ r h) cb_X7_numberOf hk0 (by decide) rfl (cf_7 hk0 _) rfl kl_X7_246 ⟨Nat.le_of_ble_eq_true rfl, Nat.le_of_ble_eq_true rfl⟩ ⟨Nat.zero_le _, Nat.zero_le _⟩ hl.1 rfl (Nat.le_of_ble_eq_true rfl) dX7_obey_11 rfl) (fun v4 => ?_)
  refine q_istore C [(5, .int v4), (4, .int v2), (0, .ref (gad G k0)), (1, .int a1), (2, .ref (gad G a2)), (3, .int a3)] dX7_obey_14 hl (by decide) rfl (fun ls hl => ?_)
  refine q_aload_n C dX7_obey_16 rfl (lv_at hl 4 rfl) ?_
  refine q_iload_n C dX7_obey_17 rfl (lv_at hl 5 rfl) ?_
  refine q_iload C dX7_obey_18 (lv_at hl 1 rfl) ?_
  refine q_iadd C dX7_obey_20 (fun v5 => ?_)
  refine a_ild C hk2 rfl dX7_obey_21 (fun v6 => ?_)
  refine q_istore C [(6, .int v6), (5, .int v4), (4, .int v2), (0, .ref (gad G k0)), (1, .int a1), (2, .ref (gad G a2)), (3, .int a3)] dX7_obey_22 hl (by decide) rfl (fun ls hl => ?_)
  refine q_aload_n C dX7_obey_24 rfl (lv_at hl 3 rfl) ?_
  refine q_iload_n C dX7_obey_25 rfl (lv_at hl 4 rfl) ?_
  refine q_c1i C (fun r h => cr_V (As := [.int a1]) (rest := []) C (m_X7_kindOf l G F k0 a1 σ r h) cb_X7_kindOf hk0 (by decide) rfl (cf_7 hk0 _) rfl kl_X7_118 ⟨Nat.le_of_ble_eq_true rfl, Nat.le_of_ble_eq_true rfl⟩ ⟨Nat.zero_le _, Nat.zero_le _⟩ hl.1 rfl (Nat.le_of_ble_eq_true rfl) dX7_obey_26 rfl) (fun v7 => ?_)
  refine q_ite (fun e0 => ?_) (fun e0 => ?_) _
  · refine q_tin C 56 e0 dX7_obey_29 (by decide) (by decide) rfl (by decide) ?_
    refine q_aload_n C dX7_obey_56 rfl (lv_at hl 5 rfl) ?_
    refine q_iload_n C dX7_obey_57 rfl (lv_at hl 6 rfl) ?_
    refine q_iload C dX7_obey_58 (lv_at hl 2 rfl) ?_
    refine q_iadd C dX7_obey_60 (fun v8 => ?_)
    refine q_iload C dX7_obey_61 (lv_at hl 1 rfl) ?_
    refine a_ist C hk2 rfl dX7_obey_63 (q_sg (fun σ1 => ?_))
    refine q_goto C 137 dX7_obey_64 (by decide) ?_
    exact q_vretE C hr hlo dX7_obey_137
  refine q_ite (fun e1 => ?_) (fun e1 => ?_) _
  · refine q_tin C 67 e1 dX7_obey_29 (by decide) (by decide) rfl (by decide) ?_
    refine q_aload_n C dX7_obey_67 rfl (lv_at hl 5 rfl) ?_
    refine q_iload_n C dX7_obey_68 rfl (lv_at hl 6 rfl) ?_
    refine q_iload C dX7_obey_69 (lv_at hl 2 rfl) ?_
    refine q_iadd C dX7_obey_71 (fun v9 => ?_)
    refine q_iload C dX7_obey_72 (lv_at hl 0 rfl) ?_
    refine q_iload C dX7_obey_74 (lv_at hl 1 rfl) ?_
    refine q_iadd C dX7_obey_76 (fun v10 => ?_)
    refine q_sipush C dX7_obey_77 rfl (by decide) (fun v11 => ?_)
    refine q_irem C dX7_obey_80 (fun v12 => ?_)
    refine a_ist C hk2 rfl dX7_obey_81 (q_sg (fun σ2 => ?_))
    refine q_goto C 137 dX7_obey_82 (by decide) ?_
    exact q_vretE C hr hlo dX7_obey_137
  refine q_ite (fun e2 => ?_) (fun e2 => ?_) _
  · refine q_tin C 85 e2 dX7_obey_29 (by decide) (by decide) rfl (by decide) ?_
    refine q_aload_n C dX7_obey_85 rfl (lv_at hl 5 rfl) ?_
    refine q_iload_n C dX7_obey_86 rfl (lv_at hl 6 rfl) ?_
    refine q_iload C dX7_obey_87 (lv_at hl 2 rfl) ?_
    refine q_iadd C dX7_obey_89 (fun v13 => ?_)
    refine q_aload_n C dX7_obey_90 rfl (lv_at hl 5 rfl) ?_
    refine q_iload_n C dX7_obey_91 rfl (lv_at hl 6 rfl) ?_
    refine q_iload C dX7_obey_92 (lv_at hl 1 rfl) ?_
    refine q_iadd C dX7_obey_94 (fun v14 => ?_)
    refine a_ild C hk2 rfl dX7_obey_95 (fun v15 => ?_)
    refine a_ist C hk2 rfl dX7_obey_96 (q_sg (fun σ3 => ?_))
    refine q_aload_n C dX7_obey_97 rfl (lv_at hl 5 rfl) ?_
    refine q_iload_n C dX7_obey_98 rfl (lv_at hl 6 rfl) ?_
    refine q_iload C dX7_obey_99 (lv_at hl 1 rfl) ?_
    refine q_iadd C dX7_obey_101 (fun v16 => ?_)
    refine q_iload C dX7_obey_102 (lv_at hl 0 rfl) ?_
    refine a_ist C hk2 rfl dX7_obey_104 (q_sg (fun σ4 => ?_))
    refine q_goto C 137 dX7_obey_105 (by decide) ?_
    exact q_vretE C hr hlo dX7_obey_137
  refine q_tout C 108 dX7_obey_29 (by omega) (by decide) ?_
  refine q_iload C dX7_obey_108 (lv_at hl 2 rfl) ?_
  refine q_istore C [(7, .int v2), (6, .int v6), (5, .int v4), (4, .int v2), (0, .ref (gad G k0)), (1, .int a1), (2, .ref (gad G a2)), (3, .int a3)] dX7_obey_110 hl (by decide) rfl (fun ls hl => ?_)
  exact B112 F v4 v2 σ ls (lv_sub hl [4, 5, 6, 7, 2, 0] rfl)
def f_X7_layValues_L105 (F : Nat) (k0 : Nat) (K23 : Int → St → Option (St))  : Nat → Int → Int → Int → Int → St → Option (St)
  | 0, _, _, _, _, _ => none
  | n + 1, x19, x20, x21, x22, σ =>
    z_gt 32 fun v23 =>
    if v23 ≤ x22 then (
      z_ck (x19 + 1) fun v24 =>
      K23 v24 σ)
    else (
      z_ck (x20 + x22) fun v25 =>
      z_ck (x20 + x22) fun v26 =>
      z_ix v26 1952 <| z_gt (σ (k0 + 8) v26) fun v27 =>
      z_ck (x21 + x22) fun v28 =>
      z_ix v28 1952 <| z_gt (σ (k0 + 8) v28) fun v29 =>
      if v27 = v29 then (
        z_gt 0 fun v30 =>
        z_ix v25 1920 <| z_bo v30 <| z_sg (z_up σ (k0 + 9) v25 v30) fun σ1 =>
        z_ck (x22 + 1) fun v31 =>
        f_X7_layValues_L105 F k0 K23 n x19 x20 x21 v31 σ1)
      else (
        z_gt 1 fun v32 =>
        z_ix v25 1920 <| z_bo v32 <| z_sg (z_up σ (k0 + 9) v25 v32) fun σ2 =>
        z_ck (x22 + 1) fun v33 =>
        f_X7_layValues_L105 F k0 K23 n x19 x20 x21 v33 σ2))

def f_X7_layValues_L44 (F : Nat) (k0 : Nat) (K23 : Int → St → Option (St))  : Nat → Int → Int → Int → Int → St → Option (St)
  | 0, _, _, _, _, _ => none
  | n + 1, x12, x13, x14, x15, σ =>
    z_gt 32 fun v16 =>
    if v16 ≤ x15 then (
      z_ix x12 60 <| z_gt (σ (k0 + 7) x12) fun v17 =>
      if ¬ v17 = 0 then (
        z_gt 0 fun v18 =>
        f_X7_layValues_L105 F k0 K23 F x12 x13 x14 v18 σ)
      else (
        z_c1 (f_X7_isCommand F k0 x12 σ) fun v34 =>
        if v34 = 0 then (
          z_gt 0 fun v35 =>
          f_X7_layValues_L105 F k0 K23 F x12 x13 x14 v35 σ)
        else (
          z_c1 (f_X7_obey F k0 x12 (k0 + 8) x14 σ) fun σ3 =>
          z_gt 0 fun v36 =>
          f_X7_layValues_L105 F k0 K23 F x12 x13 x14 v36 σ3)))
    else (
      z_ck (x14 + x15) fun v37 =>
      z_ck (x13 + x15) fun v38 =>
      z_ix v38 1952 <| z_gt (σ (k0 + 8) v38) fun v39 =>
      z_ix v37 1952 <| z_sg (z_up σ (k0 + 8) v37 v39) fun σ4 =>
      z_ck (x15 + 1) fun v40 =>
      f_X7_layValues_L44 F k0 K23 n x12 x13 x14 v40 σ4)

def f_X7_layValues_L23 (F : Nat) (k0 : Nat)   : Nat → Int → St → Option (St)
  | 0, _, _ => none
  | n + 1, x5, σ =>
    z_c1 (f_X7_events F k0 σ) fun v6 =>
    if v6 ≤ x5 then (
      some σ)
    else (
      z_gt 32 fun v7 =>
      z_ck (v7 * x5) fun v8 =>
      z_gt 32 fun v9 =>
      z_ck (v8 + v9) fun v10 =>
      z_gt 0 fun v11 =>
      f_X7_layValues_L44 F k0 (f_X7_layValues_L23 F k0 n) F x5 v8 v10 v11 σ)

def f_X7_layValues_L2 (F : Nat) (k0 : Nat)   : Nat → Int → St → Option (St)
  | 0, _, _ => none
  | n + 1, x2, σ =>
    z_gt 32 fun v3 =>
    if v3 ≤ x2 then (
      z_gt 0 fun v4 =>
      f_X7_layValues_L23 F k0 F v4 σ)
    else (
      z_gt 0 fun v41 =>
      z_ix x2 1952 <| z_sg (z_up σ (k0 + 8) x2 v41) fun σ5 =>
      z_ck (x2 + 1) fun v42 =>
      f_X7_layValues_L2 F k0 n v42 σ5)

def f_X7_layValues (F : Nat) (k0 : Nat) (σ : St) : Option (St) :=
  z_ob 7 k0 <| 
  z_gt 0 fun v1 =>
  f_X7_layValues_L2 F k0 F v1 σ
theorem cb_X7_layValues : CB yX7_layValues cX7_layValues 5 none 0 := ⟨ki_X7_layValues, kq_X7_layValues, kn_X7, kc_X7_layValues, by decide +kernel, by decide +kernel, by decide +kernel⟩
set_option maxRecDepth 20000 in
set_option maxHeartbeats 4000000 in
theorem m_X7_layValues (l : Launch) (G : GG) (F : Nat) (k0 : Nat) (σ : St) : ∀ r, f_X7_layValues F k0 σ = some r → MC G l yX7_layValues cX7_layValues 5 none { frames := 2, cells := 0, slots := 0, locals := 49 } [.ref (gad G k0)] σ vV r := by
  refine MC_of (own := RX7) (fun _ => vV) (fun r => r) (by decide +kernel) rfl (Nat.le_of_ble_eq_true rfl) ?_
  intro p e s m args below meth c C hr hlo ls hl
  have hl : lv_has ls 5 [(0, .ref (gad G k0))] := hl
  unfold f_X7_layValues
  refine q_ob (fun hk0 => ?_)
  have B105 : ∀ (K23 : Int → St → Option (St)) (hK23 : ∀ (y0 : Int32) (σ : St) (ls : Array Slot), lv_has ls 5 [(0, .ref (gad G k0)), (1, .int y0)] → Sim G (AG G) 0 0 p l e { frames := 2, cells := 0, slots := 0, locals := 49 } s m args below meth c (fun r : St => MQ below (QC G (vV) (r)) args s 0 0 (AG G)) σ (K23 y0.toInt σ) (F0 m 23 ls [])), ∀ (n : Nat) (x19 : Int32) (x20 : Int32) (x21 : Int32) (x22 : Int32) (σ : St) (ls : Array Slot), lv_has ls 5 [(0, .ref (gad G k0)), (1, .int x19), (2, .int x20), (3, .int x21), (4, .int x22)] → Sim G (AG G) 0 0 p l e { frames := 2, cells := 0, slots := 0, locals := 49 } s m args below meth c (fun r : St => MQ below (QC G (vV) (r)) args s 0 0 (AG G)) σ (f_X7_layValues_L105 F k0 K23  n x19.toInt x20.toInt x21.toInt x22.toInt σ) (F0 m 105 ls []) := by
    intro K23 hK23
    intro n
    induction n with
    | zero =>
      intro x19 x20 x21 x22 σ ls hl
      exact sim_none
    | succ n ih =>
      intro x19 x20 x21 x22 σ ls hl
      rw [f_X7_layValues_L105]
      refine q_iload C dX7_layValues_105 (lv_at hl 4 rfl) ?_
      refine q_bipush C dX7_layValues_107 rfl (by decide) (fun v23 => ?_)
      refine q_icmp_ge C 153 dX7_layValues_109 (by decide) ?_ ?_
      · refine q_iinc (k := 1) C (fun v24 => [(1, .int v24), (0, .ref (gad G k0)), (2, .int x20), (3, .int x21), (4, .int x22)]) dX7_layValues_153 hl rfl (by decide) (by decide) (fun _ => rfl) (fun v24 ls hl => ?_)
        refine q_goto C 23 dX7_layValues_156 (by decide) ?_
        exact hK23 v24 σ ls (lv_sub hl [1, 0] rfl)
      · refine q_aload_n C dX7_layValues_112 rfl (lv_at hl 0 rfl) ?_
        refine g_7_17 C hk0 kf_X7_40 dX7_layValues_113 ?_
        refine q_iload_n C dX7_layValues_116 rfl (lv_at hl 2 rfl) ?_
        refine q_iload C dX7_layValues_117 (lv_at hl 4 rfl) ?_
        refine q_iadd C dX7_layValues_119 (fun v25 => ?_)
        refine q_aload_n C dX7_layValues_120 rfl (lv_at hl 0 rfl) ?_
        refine g_7_16 C hk0 kf_X7_37 dX7_layValues_121 ?_
        refine q_iload_n C dX7_layValues_124 rfl (lv_at hl 2 rfl) ?_
        refine q_iload C dX7_layValues_125 (lv_at hl 4 rfl) ?_
        refine q_iadd C dX7_layValues_127 (fun v26 => ?_)
        refine a_ild C (yk_7_16 hk0) (yl_7_16 hk0) dX7_layValues_128 (fun v27 => ?_)
        refine q_aload_n C dX7_layValues_129 rfl (lv_at hl 0 rfl) ?_
        refine g_7_16 C hk0 kf_X7_37 dX7_layValues_130 ?_
        refine q_iload_n C dX7_layValues_133 rfl (lv_at hl 3 rfl) ?_
        refine q_iload C dX7_layValues_134 (lv_at hl 4 rfl) ?_
        refine q_iadd C dX7_layValues_136 (fun v28 => ?_)
        refine a_ild C (yk_7_16 hk0) (yl_7_16 hk0) dX7_layValues_137 (fun v29 => ?_)
        refine q_icmp_eq C 145 dX7_layValues_138 (by decide) ?_ ?_
        · refine q_iconst C dX7_layValues_145 rfl (by decide) (fun v30 => ?_)
          refine a_zst C (yk_7_17 hk0) (yl_7_17 hk0) dX7_layValues_146 (q_sg (fun σ1 => ?_))
          refine q_iinc (k := 4) C (fun v31 => [(4, .int v31), (0, .ref (gad G k0)), (1, .int x19), (2, .int x20), (3, .int x21)]) dX7_layValues_147 hl rfl (by decide) (by decide) (fun _ => rfl) (fun v31 ls hl => ?_)
          refine q_goto C 105 dX7_layValues_150 (by decide) ?_
          exact ih x19 x20 x21 v31 σ1 ls (lv_sub hl [1, 2, 3, 4, 0] rfl)
        · refine q_iconst C dX7_layValues_141 rfl (by decide) (fun v32 => ?_)
          refine q_goto C 146 dX7_layValues_142 (by decide) ?_
          refine a_zst C (yk_7_17 hk0) (yl_7_17 hk0) dX7_layValues_146 (q_sg (fun σ2 => ?_))
          refine q_iinc (k := 4) C (fun v33 => [(4, .int v33), (0, .ref (gad G k0)), (1, .int x19), (2, .int x20), (3, .int x21)]) dX7_layValues_147 hl rfl (by decide) (by decide) (fun _ => rfl) (fun v33 ls hl => ?_)
          refine q_goto C 105 dX7_layValues_150 (by decide) ?_
          exact ih x19 x20 x21 v33 σ2 ls (lv_sub hl [1, 2, 3, 4, 0] rfl)
  have B44 : ∀ (K23 : Int → St → Option (St)) (hK23 : ∀ (y0 : Int32) (σ : St) (ls : Array Slot), lv_has ls 5 [(0, .ref (gad G k0)), (1, .int y0)] → Sim G (AG G) 0 0 p l e { frames := 2, cells := 0, slots := 0, locals := 49 } s m args below meth c (fun r : St => MQ below (QC G (vV) (r)) args s 0 0 (AG G)) σ (K23 y0.toInt σ) (F0 m 23 ls [])), ∀ (n : Nat) (x12 : Int32) (x13 : Int32) (x14 : Int32) (x15 : Int32) (σ : St) (ls : Array Slot), lv_has ls 5 [(0, .ref (gad G k0)), (1, .int x12), (2, .int x13), (3, .int x14), (4, .int x15)] → Sim G (AG G) 0 0 p l e { frames := 2, cells := 0, slots := 0, locals := 49 } s m args below meth c (fun r : St => MQ below (QC G (vV) (r)) args s 0 0 (AG G)) σ (f_X7_layValues_L44 F k0 K23  n x12.toInt x13.toInt x14.toInt x15.toInt σ) (F0 m 44 ls []) := by
    intro K23 hK23
    intro n
    induction n with
    | zero =>
      intro x12 x13 x14 x15 σ ls hl
      exact sim_none
    | succ n ih =>
      intro x12 x13 x14 x15 σ ls hl
      rw [f_X7_layValues_L44]
      refine q_iload C dX7_layValues_44 (lv_at hl 4 rfl) ?_
      refine q_bipush C dX7_layValues_46 rfl (by decide) (fun v16 => ?_)
      refine q_icmp_ge C 75 dX7_layValues_48 (by decide) ?_ ?_
      · refine q_aload_n C dX7_layValues_75 rfl (lv_at hl 0 rfl) ?_
        refine g_7_15 C hk0 kf_X7_34 dX7_layValues_76 ?_
        refine q_iload_n C dX7_layValues_79 rfl (lv_at hl 1 rfl) ?_
        refine a_zld C (yk_7_15 hk0) (yl_7_15 hk0) dX7_layValues_80 (fun v17 => ?_)
        refine q_if_ne C 102 dX7_layValues_81 (by decide) ?_ ?_
        · refine q_iconst C dX7_layValues_102 rfl (by decide) (fun v18 => ?_)
          refine q_istore C [(4, .int v18), (0, .ref (gad G k0)), (1, .int x12), (2, .int x13), (3, .int x14)] dX7_layValues_103 hl (by decide) rfl (fun ls hl => ?_)
          exact B105 K23 hK23 F x12 x13 x14 v18 σ ls (lv_sub hl [1, 2, 3, 4, 0] rfl)
        · refine q_aload_n C dX7_layValues_84 rfl (lv_at hl 0 rfl) ?_
          refine q_iload_n C dX7_layValues_85 rfl (lv_at hl 1 rfl) ?_
          refine q_c1i C (fun r h => cr_V (As := [.int x12]) (rest := []) C (m_X7_isCommand l G F k0 x12 σ r h) cb_X7_isCommand hk0 (by decide) rfl (cf_7 hk0 _) rfl kl_X7_249 ⟨Nat.le_of_ble_eq_true rfl, Nat.le_of_ble_eq_true rfl⟩ ⟨Nat.zero_le _, Nat.zero_le _⟩ hl.1 rfl (Nat.le_of_ble_eq_true rfl) dX7_layValues_86 rfl) (fun v34 => ?_)
          refine q_if_eq C 102 dX7_layValues_89 (by decide) ?_ ?_
          · refine q_iconst C dX7_layValues_102 rfl (by decide) (fun v35 => ?_)
            refine q_istore C [(4, .int v35), (0, .ref (gad G k0)), (1, .int x12), (2, .int x13), (3, .int x14)] dX7_layValues_103 hl (by decide) rfl (fun ls hl => ?_)
            exact B105 K23 hK23 F x12 x13 x14 v35 σ ls (lv_sub hl [1, 2, 3, 4, 0] rfl)
          · refine q_aload_n C dX7_layValues_92 rfl (lv_at hl 0 rfl) ?_
            refine q_iload_n C dX7_layValues_93 rfl (lv_at hl 1 rfl) ?_
            refine q_aload_n C dX7_layValues_94 rfl (lv_at hl 0 rfl) ?_
            refine g_7_16 C hk0 kf_X7_37 dX7_layValues_95 ?_
            refine q_iload_n C dX7_layValues_98 rfl (lv_at hl 3 rfl) ?_
            refine q_cv C (fun r h => cr_V (As := [.int x12, .ref (gad G (k0 + 8)), .int x14]) (rest := []) C (m_X7_obey l G F k0 x12 (k0 + 8) x14 σ r h) cb_X7_obey hk0 (by decide) rfl (cf_7 hk0 _) rfl kl_X7_253 ⟨Nat.le_of_ble_eq_true rfl, Nat.le_of_ble_eq_true rfl⟩ ⟨Nat.zero_le _, Nat.zero_le _⟩ hl.1 rfl (Nat.le_of_ble_eq_true rfl) dX7_layValues_99 rfl) (fun σ3 => ?_)
            refine q_iconst C dX7_layValues_102 rfl (by decide) (fun v36 => ?_)
            refine q_istore C [(4, .int v36), (0, .ref (gad G k0)), (1, .int x12), (2, .int x13), (3, .int x14)] dX7_layValues_103 hl (by decide) rfl (fun ls hl => ?_)
            exact B105 K23 hK23 F x12 x13 x14 v36 σ3 ls (lv_sub hl [1, 2, 3, 4, 0] rfl)
      · refine q_aload_n C dX7_layValues_51 rfl (lv_at hl 0 rfl) ?_
        refine g_7_16 C hk0 kf_X7_37 dX7_layValues_52 ?_
        refine q_iload_n C dX7_layValues_55 rfl (lv_at hl 3 rfl) ?_
        refine q_iload C dX7_layValues_56 (lv_at hl 4 rfl) ?_
        refine q_iadd C dX7_layValues_58 (fun v37 => ?_)
        refine q_aload_n C dX7_layValues_59 rfl (lv_at hl 0 rfl) ?_
        refine g_7_16 C hk0 kf_X7_37 dX7_layValues_60 ?_
        refine q_iload_n C dX7_layValues_63 rfl (lv_at hl 2 rfl) ?_
        refine q_iload C dX7_layValues_64 (lv_at hl 4 rfl) ?_
        refine q_iadd C dX7_layValues_66 (fun v38 => ?_)
        refine a_ild C (yk_7_16 hk0) (yl_7_16 hk0) dX7_layValues_67 (fun v39 => ?_)
        refine a_ist C (yk_7_16 hk0) (yl_7_16 hk0) dX7_layValues_68 (q_sg (fun σ4 => ?_))
        refine q_iinc (k := 4) C (fun v40 => [(4, .int v40), (0, .ref (gad G k0)), (1, .int x12), (2, .int x13), (3, .int x14)]) dX7_layValues_69 hl rfl (by decide) (by decide) (fun _ => rfl) (fun v40 ls hl => ?_)
        refine q_goto C 44 dX7_layValues_72 (by decide) ?_
        exact ih x12 x13 x14 v40 σ4 ls (lv_sub hl [1, 2, 3, 4, 0] rfl)
  have B23 : ∀ (n : Nat) (x5 : Int32) (σ : St) (ls : Array Slot), lv_has ls 5 [(0, .ref (gad G k0)), (1, .int x5)] → Sim G (AG G) 0 0 p l e { frames := 2, cells := 0, slots := 0, locals := 49 } s m args below meth c (fun r : St => MQ below (QC G (vV) (r)) args s 0 0 (AG G)) σ (f_X7_layValues_L23 F k0   n x5.toInt σ) (F0 m 23 ls []) := by
    intro n
    induction n with
    | zero =>
      intro x5 σ ls hl
      exact sim_none
    | succ n ih =>
      intro x5 σ ls hl
      rw [f_X7_layValues_L23]
      refine q_iload_n C dX7_layValues_23 rfl (lv_at hl 1 rfl) ?_
      refine q_aload_n C dX7_layValues_24 rfl (lv_at hl 0 rfl) ?_
      refine q_c1i C (fun r h => cr_V (As := []) (rest := [.int x5]) C (m_X7_events l G F k0 σ r h) cb_X7_events hk0 (by decide) rfl (cf_7 hk0 _) rfl kl_X7_111 ⟨Nat.le_of_ble_eq_true rfl, Nat.le_of_ble_eq_true rfl⟩ ⟨Nat.zero_le _, Nat.zero_le _⟩ hl.1 rfl (Nat.le_of_ble_eq_true rfl) dX7_layValues_25 rfl) (fun v6 => ?_)
      refine q_icmp_ge C 159 dX7_layValues_28 (by decide) ?_ ?_
      · exact q_vretE C hr hlo dX7_layValues_159
      · refine q_bipush C dX7_layValues_31 rfl (by decide) (fun v7 => ?_)
        refine q_iload_n C dX7_layValues_33 rfl (lv_at hl 1 rfl) ?_
        refine q_imul C dX7_layValues_34 (fun v8 => ?_)
        refine q_istore_n C [(2, .int v8), (0, .ref (gad G k0)), (1, .int x5)] dX7_layValues_35 rfl hl (by decide) rfl (fun ls hl => ?_)
        refine q_iload_n C dX7_layValues_36 rfl (lv_at hl 0 rfl) ?_
        refine q_bipush C dX7_layValues_37 rfl (by decide) (fun v9 => ?_)
        refine q_iadd C dX7_layValues_39 (fun v10 => ?_)
        refine q_istore_n C [(3, .int v10), (2, .int v8), (0, .ref (gad G k0)), (1, .int x5)] dX7_layValues_40 rfl hl (by decide) rfl (fun ls hl => ?_)
        refine q_iconst C dX7_layValues_41 rfl (by decide) (fun v11 => ?_)
        refine q_istore C [(4, .int v11), (3, .int v10), (2, .int v8), (0, .ref (gad G k0)), (1, .int x5)] dX7_layValues_42 hl (by decide) rfl (fun ls hl => ?_)
        exact B44 (f_X7_layValues_L23 F k0 n) ih F x5 v8 v10 v11 σ ls (lv_sub hl [3, 4, 2, 1, 0] rfl)
  have B2 : ∀ (n : Nat) (x2 : Int32) (σ : St) (ls : Array Slot), lv_has ls 5 [(0, .ref (gad G k0)), (1, .int x2)] → Sim G (AG G) 0 0 p l e { frames := 2, cells := 0, slots := 0, locals := 49 } s m args below meth c (fun r : St => MQ below (QC G (vV) (r)) args s 0 0 (AG G)) σ (f_X7_layValues_L2 F k0   n x2.toInt σ) (F0 m 2 ls []) := by
    intro n
    induction n with
    | zero =>
      intro x2 σ ls hl
      exact sim_none
    | succ n ih =>
      intro x2 σ ls hl
      rw [f_X7_layValues_L2]
      refine q_iload_n C dX7_layValues_2 rfl (lv_at hl 1 rfl) ?_
      refine q_bipush C dX7_layValues_3 rfl (by decide) (fun v3 => ?_)
      refine q_icmp_ge C 21 dX7_layValues_5 (by decide) ?_ ?_
      · refine q_iconst C dX7_layValues_21 rfl (by decide) (fun v4 => ?_)
        refine q_istore_n C [(1, .int v4), (0, .ref (gad G k0))] dX7_layValues_22 rfl hl (by decide) rfl (fun ls hl => ?_)
        exact B23 F v4 σ ls (lv_sub hl [1, 0] rfl)
      · refine q_aload_n C dX7_layValues_8 rfl (lv_at hl 0 rfl) ?_
        refine g_7_16 C hk0 kf_X7_37 dX7_layValues_9 ?_
        refine q_iload_n C dX7_layValues_12 rfl (lv_at hl 1 rfl) ?_
        refine q_iconst C dX7_layValues_13 rfl (by decide) (fun v41 => ?_)
        refine a_ist C (yk_7_16 hk0) (yl_7_16 hk0) dX7_layValues_14 (q_sg (fun σ5 => ?_))
        refine q_iinc (k := 1) C (fun v42 => [(1, .int v42), (0, .ref (gad G k0))]) dX7_layValues_15 hl rfl (by decide) (by decide) (fun _ => rfl) (fun v42 ls hl => ?_)
        refine q_goto C 2 dX7_layValues_18 (by decide) ?_
        exact ih v42 σ5 ls (lv_sub hl [1, 0] rfl)
  refine q_iconst C dX7_layValues_0 rfl (by decide) (fun v1 => ?_)
  refine q_istore_n C [(1, .int v1), (0, .ref (gad G k0))] dX7_layValues_1 rfl hl (by decide) rfl (fun ls hl => ?_)
  exact B2 F v1 σ ls (lv_sub hl [1, 0] rfl)
def f_X7_valueAt (F : Nat) (k0 : Nat) (a1 : Int) (a2 : Int) (σ : St) : Option (Int) :=
  z_ob 7 k0 <| 
  z_gt 32 fun v1 =>
  z_ck (v1 * a2) fun v2 =>
  z_ck (v2 + a1) fun v3 =>
  z_ix v3 1952 <| z_gt (σ (k0 + 8) v3) fun v4 =>
  some v4
theorem cb_X7_valueAt : CB yX7_valueAt cX7_valueAt 3 (some .int) 2 := ⟨ki_X7_valueAt, kq_X7_valueAt, kn_X7, kc_X7_valueAt, by decide +kernel, by decide +kernel, by decide +kernel⟩
set_option maxRecDepth 20000 in
set_option maxHeartbeats 4000000 in
theorem m_X7_valueAt (l : Launch) (G : GG) (F : Nat) (k0 : Nat) (a1 : Int32) (a2 : Int32) (σ : St) : ∀ r, f_X7_valueAt F k0 a1.toInt a2.toInt σ = some r → MC G l yX7_valueAt cX7_valueAt 3 (some .int) { frames := 0, cells := 0, slots := 0, locals := 0 } [.ref (gad G k0), .int a1, .int a2] σ (vI r) σ := by
  refine MC_of (own := RX7) (vI) (fun _ => σ) (by decide +kernel) rfl (Nat.le_of_ble_eq_true rfl) ?_
  intro p e s m args below meth c C hr hlo ls hl
  have hl : lv_has ls 3 [(0, .ref (gad G k0)), (1, .int a1), (2, .int a2)] := hl
  unfold f_X7_valueAt
  refine q_ob (fun hk0 => ?_)
  refine q_aload_n C dX7_valueAt_0 rfl (lv_at hl 0 rfl) ?_
  refine g_7_16 C hk0 kf_X7_37 dX7_valueAt_1 ?_
  refine q_bipush C dX7_valueAt_4 rfl (by decide) (fun v1 => ?_)
  refine q_iload_n C dX7_valueAt_6 rfl (lv_at hl 2 rfl) ?_
  refine q_imul C dX7_valueAt_7 (fun v2 => ?_)
  refine q_iload_n C dX7_valueAt_8 rfl (lv_at hl 1 rfl) ?_
  refine q_iadd C dX7_valueAt_9 (fun v3 => ?_)
  refine a_ild C (yk_7_16 hk0) (yl_7_16 hk0) dX7_valueAt_10 (fun v4 => ?_)
  exact q_iret C hr hlo dX7_valueAt_11
def f_X7_latestAt_L4 (F : Nat) (k0 : Nat) (a1 : Int) (a2 : Int)  (σ : St) : Nat → Int → Option (Int)
  | 0, _ => none
  | n + 1, x3 =>
    if x3 < 0 then (
      some x3)
    else (
      z_gt 32 fun v4 =>
      z_ck (v4 * x3) fun v5 =>
      z_ck (v5 + a1) fun v6 =>
      z_ix v6 1920 <| z_gt (σ (k0 + 9) v6) fun v7 =>
      if ¬ v7 = 0 then (
        some x3)
      else (
        z_ck (x3 + (-1)) fun v8 =>
        f_X7_latestAt_L4 F k0 a1 a2 σ n v8))

def f_X7_latestAt (F : Nat) (k0 : Nat) (a1 : Int) (a2 : Int) (σ : St) : Option (Int) :=
  z_ob 7 k0 <| 
  z_gt 1 fun v1 =>
  z_ck (a2 - v1) fun v2 =>
  f_X7_latestAt_L4 F k0 a1 a2 σ F v2
theorem cb_X7_latestAt : CB yX7_latestAt cX7_latestAt 4 (some .int) 2 := ⟨ki_X7_latestAt, kq_X7_latestAt, kn_X7, kc_X7_latestAt, by decide +kernel, by decide +kernel, by decide +kernel⟩
set_option maxRecDepth 20000 in
set_option maxHeartbeats 4000000 in
theorem m_X7_latestAt (l : Launch) (G : GG) (F : Nat) (k0 : Nat) (a1 : Int32) (a2 : Int32) (σ : St) : ∀ r, f_X7_latestAt F k0 a1.toInt a2.toInt σ = some r → MC G l yX7_latestAt cX7_latestAt 4 (some .int) { frames := 0, cells := 0, slots := 0, locals := 0 } [.ref (gad G k0), .int a1, .int a2] σ (vI r) σ := by
  refine MC_of (own := RX7) (vI) (fun _ => σ) (by decide +kernel) rfl (Nat.le_of_ble_eq_true rfl) ?_
  intro p e s m args below meth c C hr hlo ls hl
  have hl : lv_has ls 4 [(0, .ref (gad G k0)), (1, .int a1), (2, .int a2)] := hl
  unfold f_X7_latestAt
  refine q_ob (fun hk0 => ?_)
  have B4 : ∀ (n : Nat) (x3 : Int32) (ls : Array Slot), lv_has ls 4 [(0, .ref (gad G k0)), (1, .int a1), (3, .int x3)] → Sim G (AG G) 0 0 p l e { frames := 0, cells := 0, slots := 0, locals := 0 } s m args below meth c (fun r : Int => MQ below (QC G (vI r) (σ)) args s 0 0 (AG G)) σ (f_X7_latestAt_L4 F k0 a1.toInt a2.toInt  σ n x3.toInt) (F0 m 4 ls []) := by
    intro n
    induction n with
    | zero =>
      intro x3 ls hl
      exact sim_none
    | succ n ih =>
      intro x3 ls hl
      rw [f_X7_latestAt_L4]
      refine q_iload_n C dX7_latestAt_4 rfl (lv_at hl 2 rfl) ?_
      refine q_if_lt C 28 dX7_latestAt_5 (by decide) ?_ ?_
      · refine q_iload_n C dX7_latestAt_28 rfl (lv_at hl 2 rfl) ?_
        exact q_iret C hr hlo dX7_latestAt_29
      · refine q_aload_n C dX7_latestAt_8 rfl (lv_at hl 0 rfl) ?_
        refine g_7_17 C hk0 kf_X7_40 dX7_latestAt_9 ?_
        refine q_bipush C dX7_latestAt_12 rfl (by decide) (fun v4 => ?_)
        refine q_iload_n C dX7_latestAt_14 rfl (lv_at hl 2 rfl) ?_
        refine q_imul C dX7_latestAt_15 (fun v5 => ?_)
        refine q_iload_n C dX7_latestAt_16 rfl (lv_at hl 1 rfl) ?_
        refine q_iadd C dX7_latestAt_17 (fun v6 => ?_)
        refine a_zld C (yk_7_17 hk0) (yl_7_17 hk0) dX7_latestAt_18 (fun v7 => ?_)
        refine q_if_ne C 28 dX7_latestAt_19 (by decide) ?_ ?_
        · refine q_iload_n C dX7_latestAt_28 rfl (lv_at hl 2 rfl) ?_
          exact q_iret C hr hlo dX7_latestAt_29
        · refine q_iinc (k := 2) C (fun v8 => [(3, .int v8), (0, .ref (gad G k0)), (1, .int a1)]) dX7_latestAt_22 hl rfl (by decide) (by decide) (fun _ => rfl) (fun v8 ls hl => ?_)
          refine q_goto C 4 dX7_latestAt_25 (by decide) ?_
          exact ih v8 ls (lv_sub hl [1, 2, 0] rfl)
  refine q_iload_n C dX7_latestAt_0 rfl (lv_at hl 2 rfl) ?_
  refine q_iconst C dX7_latestAt_1 rfl (by decide) (fun v1 => ?_)
  refine q_isub C dX7_latestAt_2 (fun v2 => ?_)
  refine q_istore_n C [(3, .int v2), (0, .ref (gad G k0)), (1, .int a1), (2, .int a2)] dX7_latestAt_3 rfl hl (by decide) rfl (fun ls hl => ?_)
  exact B4 F v2 ls (lv_sub hl [1, 2, 0] rfl)
def f_X7_isWholeBy (F : Nat) (k0 : Nat) (a1 : Int) (a2 : Int) (σ : St) : Option (Int) :=
  z_ob 7 k0 <| 
  z_ix a1 60 <| z_gt (σ (k0 + 12) a1) fun v1 =>
  z_gt 1 fun v2 =>
  if ¬ v1 = v2 then (
    z_gt 0 fun v3 =>
    z_bo v3 <| some v3)
  else (
    z_ix a1 60 <| z_gt (σ (k0 + 13) a1) fun v4 =>
    if a2 < v4 then (
      z_gt 0 fun v5 =>
      z_bo v5 <| some v5)
    else (
      z_gt 1 fun v6 =>
      z_bo v6 <| some v6))
theorem cb_X7_isWholeBy : CB yX7_isWholeBy cX7_isWholeBy 3 (some .boolean) 2 := ⟨ki_X7_isWholeBy, kq_X7_isWholeBy, kn_X7, kc_X7_isWholeBy, by decide +kernel, by decide +kernel, by decide +kernel⟩
set_option maxRecDepth 20000 in
set_option maxHeartbeats 4000000 in
theorem m_X7_isWholeBy (l : Launch) (G : GG) (F : Nat) (k0 : Nat) (a1 : Int32) (a2 : Int32) (σ : St) : ∀ r, f_X7_isWholeBy F k0 a1.toInt a2.toInt σ = some r → MC G l yX7_isWholeBy cX7_isWholeBy 3 (some .boolean) { frames := 0, cells := 0, slots := 0, locals := 0 } [.ref (gad G k0), .int a1, .int a2] σ (vI r) σ := by
  refine MC_of (own := RX7) (vI) (fun _ => σ) (by decide +kernel) rfl (Nat.le_of_ble_eq_true rfl) ?_
  intro p e s m args below meth c C hr hlo ls hl
  have hl : lv_has ls 3 [(0, .ref (gad G k0)), (1, .int a1), (2, .int a2)] := hl
  unfold f_X7_isWholeBy
  refine q_ob (fun hk0 => ?_)
  refine q_aload_n C dX7_isWholeBy_0 rfl (lv_at hl 0 rfl) ?_
  refine g_7_20 C hk0 kf_X7_49 dX7_isWholeBy_1 ?_
  refine q_iload_n C dX7_isWholeBy_4 rfl (lv_at hl 1 rfl) ?_
  refine a_ild C (yk_7_20 hk0) (yl_7_20 hk0) dX7_isWholeBy_5 (fun v1 => ?_)
  refine q_iconst C dX7_isWholeBy_6 rfl (by decide) (fun v2 => ?_)
  refine q_icmp_ne C 24 dX7_isWholeBy_7 (by decide) ?_ ?_
  · refine q_iconst C dX7_isWholeBy_24 rfl (by decide) (fun v3 => ?_)
    exact q_zret C hr hlo dX7_isWholeBy_25
  · refine q_aload_n C dX7_isWholeBy_10 rfl (lv_at hl 0 rfl) ?_
    refine g_7_21 C hk0 kf_X7_52 dX7_isWholeBy_11 ?_
    refine q_iload_n C dX7_isWholeBy_14 rfl (lv_at hl 1 rfl) ?_
    refine a_ild C (yk_7_21 hk0) (yl_7_21 hk0) dX7_isWholeBy_15 (fun v4 => ?_)
    refine q_iload_n C dX7_isWholeBy_16 rfl (lv_at hl 2 rfl) ?_
    refine q_icmp_gt C 24 dX7_isWholeBy_17 (by decide) ?_ ?_
    · refine q_iconst C dX7_isWholeBy_24 rfl (by decide) (fun v5 => ?_)
      exact q_zret C hr hlo dX7_isWholeBy_25
    · refine q_iconst C dX7_isWholeBy_20 rfl (by decide) (fun v6 => ?_)
      refine q_goto C 25 dX7_isWholeBy_21 (by decide) ?_
      exact q_zret C hr hlo dX7_isWholeBy_25
def f_X7_baseAt_L4 (F : Nat) (k0 : Nat) (a1 : Int)  (σ : St) : Nat → Int → Int → Option (Int)
  | 0, _, _ => none
  | n + 1, x3, x4 =>
    z_gt (σ k0 28) fun v5 =>
    if v5 ≤ x4 then (
      some x3)
    else (
      z_c1 (f_X7_isWholeBy F k0 x4 a1 σ) fun v6 =>
      if v6 = 0 then (
        z_ck (x4 + 1) fun v7 =>
        f_X7_baseAt_L4 F k0 a1 σ n x3 v7)
      else (
        z_ix x4 60 <| z_gt (σ (k0 + 11) x4) fun v8 =>
        z_ck (x4 + 1) fun v9 =>
        f_X7_baseAt_L4 F k0 a1 σ n v8 v9))

def f_X7_baseAt (F : Nat) (k0 : Nat) (a1 : Int) (σ : St) : Option (Int) :=
  z_ob 7 k0 <| 
  z_gt 0 fun v1 =>
  z_gt 0 fun v2 =>
  f_X7_baseAt_L4 F k0 a1 σ F v1 v2
theorem cb_X7_baseAt : CB yX7_baseAt cX7_baseAt 4 (some .int) 1 := ⟨ki_X7_baseAt, kq_X7_baseAt, kn_X7, kc_X7_baseAt, by decide +kernel, by decide +kernel, by decide +kernel⟩
set_option maxRecDepth 20000 in
set_option maxHeartbeats 4000000 in
theorem m_X7_baseAt (l : Launch) (G : GG) (F : Nat) (k0 : Nat) (a1 : Int32) (σ : St) : ∀ r, f_X7_baseAt F k0 a1.toInt σ = some r → MC G l yX7_baseAt cX7_baseAt 4 (some .int) { frames := 1, cells := 0, slots := 0, locals := 22 } [.ref (gad G k0), .int a1] σ (vI r) σ := by
  refine MC_of (own := RX7) (vI) (fun _ => σ) (by decide +kernel) rfl (Nat.le_of_ble_eq_true rfl) ?_
  intro p e s m args below meth c C hr hlo ls hl
  have hl : lv_has ls 4 [(0, .ref (gad G k0)), (1, .int a1)] := hl
  unfold f_X7_baseAt
  refine q_ob (fun hk0 => ?_)
  have B4 : ∀ (n : Nat) (x3 : Int32) (x4 : Int32) (ls : Array Slot), lv_has ls 4 [(0, .ref (gad G k0)), (1, .int a1), (2, .int x3), (3, .int x4)] → Sim G (AG G) 0 0 p l e { frames := 1, cells := 0, slots := 0, locals := 22 } s m args below meth c (fun r : Int => MQ below (QC G (vI r) (σ)) args s 0 0 (AG G)) σ (f_X7_baseAt_L4 F k0 a1.toInt  σ n x3.toInt x4.toInt) (F0 m 4 ls []) := by
    intro n
    induction n with
    | zero =>
      intro x3 x4 ls hl
      exact sim_none
    | succ n ih =>
      intro x3 x4 ls hl
      rw [f_X7_baseAt_L4]
      refine q_iload_n C dX7_baseAt_4 rfl (lv_at hl 3 rfl) ?_
      refine q_aload_n C dX7_baseAt_5 rfl (lv_at hl 0 rfl) ?_
      refine g_7_28 C hk0 kf_X7_257 dX7_baseAt_6 (fun v5 => ?_)
      refine q_icmp_ge C 34 dX7_baseAt_9 (by decide) ?_ ?_
      · refine q_iload_n C dX7_baseAt_34 rfl (lv_at hl 2 rfl) ?_
        exact q_iret C hr hlo dX7_baseAt_35
      · refine q_aload_n C dX7_baseAt_12 rfl (lv_at hl 0 rfl) ?_
        refine q_iload_n C dX7_baseAt_13 rfl (lv_at hl 3 rfl) ?_
        refine q_iload_n C dX7_baseAt_14 rfl (lv_at hl 1 rfl) ?_
        refine q_c1i C (fun r h => cr_V (As := [.int x4, .int a1]) (rest := []) C (m_X7_isWholeBy l G F k0 x4 a1 σ r h) cb_X7_isWholeBy hk0 (by decide) rfl (cf_7 hk0 _) rfl kl_X7_260 ⟨Nat.le_of_ble_eq_true rfl, Nat.le_of_ble_eq_true rfl⟩ ⟨Nat.zero_le _, Nat.zero_le _⟩ hl.1 rfl (Nat.le_of_ble_eq_true rfl) dX7_baseAt_15 rfl) (fun v6 => ?_)
        refine q_if_eq C 28 dX7_baseAt_18 (by decide) ?_ ?_
        · refine q_iinc (k := 3) C (fun v7 => [(3, .int v7), (0, .ref (gad G k0)), (1, .int a1), (2, .int x3)]) dX7_baseAt_28 hl rfl (by decide) (by decide) (fun _ => rfl) (fun v7 ls hl => ?_)
          refine q_goto C 4 dX7_baseAt_31 (by decide) ?_
          exact ih x3 v7 ls (lv_sub hl [1, 2, 3, 0] rfl)
        · refine q_aload_n C dX7_baseAt_21 rfl (lv_at hl 0 rfl) ?_
          refine g_7_19 C hk0 kf_X7_46 dX7_baseAt_22 ?_
          refine q_iload_n C dX7_baseAt_25 rfl (lv_at hl 3 rfl) ?_
          refine a_ild C (yk_7_19 hk0) (yl_7_19 hk0) dX7_baseAt_26 (fun v8 => ?_)
          refine q_istore_n C [(2, .int v8), (0, .ref (gad G k0)), (1, .int a1), (3, .int x4)] dX7_baseAt_27 rfl hl (by decide) rfl (fun ls hl => ?_)
          refine q_iinc (k := 3) C (fun v9 => [(3, .int v9), (2, .int v8), (0, .ref (gad G k0)), (1, .int a1)]) dX7_baseAt_28 hl rfl (by decide) (by decide) (fun _ => rfl) (fun v9 ls hl => ?_)
          refine q_goto C 4 dX7_baseAt_31 (by decide) ?_
          exact ih v8 v9 ls (lv_sub hl [2, 3, 1, 0] rfl)
  refine q_iconst C dX7_baseAt_0 rfl (by decide) (fun v1 => ?_)
  refine q_istore_n C [(2, .int v1), (0, .ref (gad G k0)), (1, .int a1)] dX7_baseAt_1 rfl hl (by decide) rfl (fun ls hl => ?_)
  refine q_iconst C dX7_baseAt_2 rfl (by decide) (fun v2 => ?_)
  refine q_istore_n C [(3, .int v2), (2, .int v1), (0, .ref (gad G k0)), (1, .int a1)] dX7_baseAt_3 rfl hl (by decide) rfl (fun ls hl => ?_)
  exact B4 F v1 v2 ls (lv_sub hl [2, 3, 1, 0] rfl)
def f_X7_isDirtyAt (F : Nat) (k0 : Nat) (a1 : Int) (a2 : Int) (σ : St) : Option (Int) :=
  z_ob 7 k0 <| 
  z_c1 (f_X7_latestAt F k0 a1 a2 σ) fun v1 =>
  z_c1 (f_X7_baseAt F k0 a2 σ) fun v2 =>
  if v1 < v2 then (
    z_gt 0 fun v3 =>
    z_bo v3 <| some v3)
  else (
    z_gt 1 fun v4 =>
    z_bo v4 <| some v4)
theorem cb_X7_isDirtyAt : CB yX7_isDirtyAt cX7_isDirtyAt 3 (some .boolean) 2 := ⟨ki_X7_isDirtyAt, kq_X7_isDirtyAt, kn_X7, kc_X7_isDirtyAt, by decide +kernel, by decide +kernel, by decide +kernel⟩
set_option maxRecDepth 20000 in
set_option maxHeartbeats 4000000 in
theorem m_X7_isDirtyAt (l : Launch) (G : GG) (F : Nat) (k0 : Nat) (a1 : Int32) (a2 : Int32) (σ : St) : ∀ r, f_X7_isDirtyAt F k0 a1.toInt a2.toInt σ = some r → MC G l yX7_isDirtyAt cX7_isDirtyAt 3 (some .boolean) { frames := 2, cells := 0, slots := 0, locals := 45 } [.ref (gad G k0), .int a1, .int a2] σ (vI r) σ := by
  refine MC_of (own := RX7) (vI) (fun _ => σ) (by decide +kernel) rfl (Nat.le_of_ble_eq_true rfl) ?_
  intro p e s m args below meth c C hr hlo ls hl
  have hl : lv_has ls 3 [(0, .ref (gad G k0)), (1, .int a1), (2, .int a2)] := hl
  unfold f_X7_isDirtyAt
  refine q_ob (fun hk0 => ?_)
  refine q_aload_n C dX7_isDirtyAt_0 rfl (lv_at hl 0 rfl) ?_
  refine q_iload_n C dX7_isDirtyAt_1 rfl (lv_at hl 1 rfl) ?_
  refine q_iload_n C dX7_isDirtyAt_2 rfl (lv_at hl 2 rfl) ?_
  refine q_c1i C (fun r h => cr_V (As := [.int a1, .int a2]) (rest := []) C (m_X7_latestAt l G F k0 a1 a2 σ r h) cb_X7_latestAt hk0 (by decide) rfl (cf_7 hk0 _) rfl kl_X7_264 ⟨Nat.le_of_ble_eq_true rfl, Nat.le_of_ble_eq_true rfl⟩ ⟨Nat.zero_le _, Nat.zero_le _⟩ hl.1 rfl (Nat.le_of_ble_eq_true rfl) dX7_isDirtyAt_3 rfl) (fun v1 => ?_)
  refine q_aload_n C dX7_isDirtyAt_6 rfl (lv_at hl 0 rfl) ?_
  refine q_iload_n C dX7_isDirtyAt_7 rfl (lv_at hl 2 rfl) ?_
  refine q_c1i C (fun r h => cr_V (As := [.int a2]) (rest := [.int v1]) C (m_X7_baseAt l G F k0 a2 σ r h) cb_X7_baseAt hk0 (by decide) rfl (cf_7 hk0 _) rfl kl_X7_267 ⟨Nat.le_of_ble_eq_true rfl, Nat.le_of_ble_eq_true rfl⟩ ⟨Nat.zero_le _, Nat.zero_le _⟩ hl.1 rfl (Nat.le_of_ble_eq_true rfl) dX7_isDirtyAt_8 rfl) (fun v2 => ?_)
  refine q_icmp_lt C 18 dX7_isDirtyAt_11 (by decide) ?_ ?_
  · refine q_iconst C dX7_isDirtyAt_18 rfl (by decide) (fun v3 => ?_)
    exact q_zret C hr hlo dX7_isDirtyAt_19
  · refine q_iconst C dX7_isDirtyAt_14 rfl (by decide) (fun v4 => ?_)
    refine q_goto C 19 dX7_isDirtyAt_15 (by decide) ?_
    exact q_zret C hr hlo dX7_isDirtyAt_19
def f_X7_isLeft (F : Nat) (k0 : Nat) (a1 : Int) (a2 : Int) (σ : St) : Option (Int) :=
  z_ob 7 k0 <| 
  z_gt 32 fun v1 =>
  z_ck (v1 * a1) fun v2 =>
  z_ck (v2 + a2) fun v3 =>
  z_ix v3 1920 <| z_gt (σ (k0 + 15) v3) fun v4 =>
  if v4 = 0 then (
    z_gt 0 fun v5 =>
    z_bo v5 <| some v5)
  else (
    z_gt 32 fun v6 =>
    z_ck (v6 * a1) fun v7 =>
    z_ck (v7 + a2) fun v8 =>
    z_ix v8 1920 <| z_gt (σ (k0 + 17) v8) fun v9 =>
    z_gt (-1) fun v10 =>
    if ¬ v9 = v10 then (
      z_gt 0 fun v11 =>
      z_bo v11 <| some v11)
    else (
      z_gt 1 fun v12 =>
      z_bo v12 <| some v12))
theorem cb_X7_isLeft : CB yX7_isLeft cX7_isLeft 3 (some .boolean) 2 := ⟨ki_X7_isLeft, kq_X7_isLeft, kn_X7, kc_X7_isLeft, by decide +kernel, by decide +kernel, by decide +kernel⟩
set_option maxRecDepth 20000 in
set_option maxHeartbeats 4000000 in
theorem m_X7_isLeft (l : Launch) (G : GG) (F : Nat) (k0 : Nat) (a1 : Int32) (a2 : Int32) (σ : St) : ∀ r, f_X7_isLeft F k0 a1.toInt a2.toInt σ = some r → MC G l yX7_isLeft cX7_isLeft 3 (some .boolean) { frames := 0, cells := 0, slots := 0, locals := 0 } [.ref (gad G k0), .int a1, .int a2] σ (vI r) σ := by
  refine MC_of (own := RX7) (vI) (fun _ => σ) (by decide +kernel) rfl (Nat.le_of_ble_eq_true rfl) ?_
  intro p e s m args below meth c C hr hlo ls hl
  have hl : lv_has ls 3 [(0, .ref (gad G k0)), (1, .int a1), (2, .int a2)] := hl
  unfold f_X7_isLeft
  refine q_ob (fun hk0 => ?_)
  refine q_aload_n C dX7_isLeft_0 rfl (lv_at hl 0 rfl) ?_
  refine g_7_23 C hk0 kf_X7_58 dX7_isLeft_1 ?_
  refine q_bipush C dX7_isLeft_4 rfl (by decide) (fun v1 => ?_)
  refine q_iload_n C dX7_isLeft_6 rfl (lv_at hl 1 rfl) ?_
  refine q_imul C dX7_isLeft_7 (fun v2 => ?_)
  refine q_iload_n C dX7_isLeft_8 rfl (lv_at hl 2 rfl) ?_
  refine q_iadd C dX7_isLeft_9 (fun v3 => ?_)
  refine a_zld C (yk_7_23 hk0) (yl_7_23 hk0) dX7_isLeft_10 (fun v4 => ?_)
  refine q_if_eq C 33 dX7_isLeft_11 (by decide) ?_ ?_
  · refine q_iconst C dX7_isLeft_33 rfl (by decide) (fun v5 => ?_)
    exact q_zret C hr hlo dX7_isLeft_34
  · refine q_aload_n C dX7_isLeft_14 rfl (lv_at hl 0 rfl) ?_
    refine g_7_25 C hk0 kf_X7_64 dX7_isLeft_15 ?_
    refine q_bipush C dX7_isLeft_18 rfl (by decide) (fun v6 => ?_)
    refine q_iload_n C dX7_isLeft_20 rfl (lv_at hl 1 rfl) ?_
    refine q_imul C dX7_isLeft_21 (fun v7 => ?_)
    refine q_iload_n C dX7_isLeft_22 rfl (lv_at hl 2 rfl) ?_
    refine q_iadd C dX7_isLeft_23 (fun v8 => ?_)
    refine a_ild C (yk_7_25 hk0) (yl_7_25 hk0) dX7_isLeft_24 (fun v9 => ?_)
    refine q_iconst C dX7_isLeft_25 rfl (by decide) (fun v10 => ?_)
    refine q_icmp_ne C 33 dX7_isLeft_26 (by decide) ?_ ?_
    · refine q_iconst C dX7_isLeft_33 rfl (by decide) (fun v11 => ?_)
      exact q_zret C hr hlo dX7_isLeft_34
    · refine q_iconst C dX7_isLeft_29 rfl (by decide) (fun v12 => ?_)
      refine q_goto C 34 dX7_isLeft_30 (by decide) ?_
      exact q_zret C hr hlo dX7_isLeft_34
def f_X7_keep (F : Nat) (k0 : Nat) (a1 : Int) (a2 : Int) (a3 : Int) (σ : St) : Option (St) :=
  z_ob 7 k0 <| 
  z_gt 32 fun v1 =>
  z_gt (σ k0 29) fun v2 =>
  z_ck (v1 * v2) fun v3 =>
  z_ck (v3 + a1) fun v4 =>
  z_ix v4 1920 <| z_sg (z_up σ (k0 + 17) v4 a2) fun σ1 =>
  z_ck (v3 + a1) fun v5 =>
  z_ix v5 1920 <| z_bo a3 <| z_sg (z_up σ1 (k0 + 16) v5 a3) fun σ2 =>
  z_gt (σ2 k0 29) fun v6 =>
  z_ix v6 60 <| z_gt (σ2 (k0 + 14) v6) fun v7 =>
  z_ck (v3 + v7) fun v8 =>
  z_ix v8 1920 <| z_sg (z_up σ2 (k0 + 18) v8 a1) fun σ3 =>
  z_gt (σ3 k0 29) fun v9 =>
  z_ix v9 60 <| z_gt (σ3 (k0 + 14) v9) fun v10 =>
  z_gt 1 fun v11 =>
  z_ck (v10 + v11) fun v12 =>
  z_ix v9 60 <| z_sg (z_up σ3 (k0 + 14) v9 v12) fun σ4 =>
  some σ4
theorem cb_X7_keep : CB yX7_keep cX7_keep 5 none 3 := ⟨ki_X7_keep, kq_X7_keep, kn_X7, kc_X7_keep, by decide +kernel, by decide +kernel, by decide +kernel⟩
set_option maxRecDepth 20000 in
set_option maxHeartbeats 4000000 in
theorem m_X7_keep (l : Launch) (G : GG) (F : Nat) (k0 : Nat) (a1 : Int32) (a2 : Int32) (a3 : Int32) (σ : St) : ∀ r, f_X7_keep F k0 a1.toInt a2.toInt a3.toInt σ = some r → MC G l yX7_keep cX7_keep 5 none { frames := 0, cells := 0, slots := 0, locals := 0 } [.ref (gad G k0), .int a1, .int a2, .int a3] σ vV r := by
  refine MC_of (own := RX7) (fun _ => vV) (fun r => r) (by decide +kernel) rfl (Nat.le_of_ble_eq_true rfl) ?_
  intro p e s m args below meth c C hr hlo ls hl
  have hl : lv_has ls 5 [(0, .ref (gad G k0)), (1, .int a1), (2, .int a2), (3, .int a3)] := hl
  unfold f_X7_keep
  refine q_ob (fun hk0 => ?_)
  refine q_bipush C dX7_keep_0 rfl (by decide) (fun v1 => ?_)
  refine q_aload_n C dX7_keep_2 rfl (lv_at hl 0 rfl) ?_
  refine g_7_29 C hk0 kf_X7_270 dX7_keep_3 (fun v2 => ?_)
  refine q_imul C dX7_keep_6 (fun v3 => ?_)
  refine q_istore C [(4, .int v3), (0, .ref (gad G k0)), (1, .int a1), (2, .int a2), (3, .int a3)] dX7_keep_7 hl (by decide) rfl (fun ls hl => ?_)
  refine q_aload_n C dX7_keep_9 rfl (lv_at hl 1 rfl) ?_
  refine g_7_25 C hk0 kf_X7_64 dX7_keep_10 ?_
  refine q_iload C dX7_keep_13 (lv_at hl 0 rfl) ?_
  refine q_iload_n C dX7_keep_15 rfl (lv_at hl 2 rfl) ?_
  refine q_iadd C dX7_keep_16 (fun v4 => ?_)
  refine q_iload_n C dX7_keep_17 rfl (lv_at hl 3 rfl) ?_
  refine a_ist C (yk_7_25 hk0) (yl_7_25 hk0) dX7_keep_18 (q_sg (fun σ1 => ?_))
  refine q_aload_n C dX7_keep_19 rfl (lv_at hl 1 rfl) ?_
  refine g_7_24 C hk0 kf_X7_61 dX7_keep_20 ?_
  refine q_iload C dX7_keep_23 (lv_at hl 0 rfl) ?_
  refine q_iload_n C dX7_keep_25 rfl (lv_at hl 2 rfl) ?_
  refine q_iadd C dX7_keep_26 (fun v5 => ?_)
  refine q_iload_n C dX7_keep_27 rfl (lv_at hl 4 rfl) ?_
  refine a_zst C (yk_7_24 hk0) (yl_7_24 hk0) dX7_keep_28 (q_sg (fun σ2 => ?_))
  refine q_aload_n C dX7_keep_29 rfl (lv_at hl 1 rfl) ?_
  refine g_7_26 C hk0 kf_X7_67 dX7_keep_30 ?_
  refine q_iload C dX7_keep_33 (lv_at hl 0 rfl) ?_
  refine q_aload_n C dX7_keep_35 rfl (lv_at hl 1 rfl) ?_
  refine g_7_22 C hk0 kf_X7_55 dX7_keep_36 ?_
  refine q_aload_n C dX7_keep_39 rfl (lv_at hl 1 rfl) ?_
  refine g_7_29 C hk0 kf_X7_270 dX7_keep_40 (fun v6 => ?_)
  refine a_ild C (yk_7_22 hk0) (yl_7_22 hk0) dX7_keep_43 (fun v7 => ?_)
  refine q_iadd C dX7_keep_44 (fun v8 => ?_)
  refine q_iload_n C dX7_keep_45 rfl (lv_at hl 2 rfl) ?_
  refine a_ist C (yk_7_26 hk0) (yl_7_26 hk0) dX7_keep_46 (q_sg (fun σ3 => ?_))
  refine q_aload_n C dX7_keep_47 rfl (lv_at hl 1 rfl) ?_
  refine g_7_22 C hk0 kf_X7_55 dX7_keep_48 ?_
  refine q_aload_n C dX7_keep_51 rfl (lv_at hl 1 rfl) ?_
  refine g_7_29 C hk0 kf_X7_270 dX7_keep_52 (fun v9 => ?_)
  refine q_dup2 C dX7_keep_55 rfl rfl ?_
  refine a_ild C (yk_7_22 hk0) (yl_7_22 hk0) dX7_keep_56 (fun v10 => ?_)
  refine q_iconst C dX7_keep_57 rfl (by decide) (fun v11 => ?_)
  refine q_iadd C dX7_keep_58 (fun v12 => ?_)
  refine a_ist C (yk_7_22 hk0) (yl_7_22 hk0) dX7_keep_59 (q_sg (fun σ4 => ?_))
  exact q_vretE C hr hlo dX7_keep_60
def f_X7_rankBy (F : Nat) (k0 : Nat) (a1 : Int) (a2 : Int) (a3 : Int) (σ : St) : Option (Int) :=
  z_ob 7 k0 <| 
  if a1 = 0 then (
    some a2)
  else
  if a1 = 1 then (
    z_ck (-a2) fun v1 =>
    some v1)
  else
  if a1 = 2 then (
    z_gt 100 fun v2 =>
    z_c1 (f_X7_latestAt F k0 a2 a3 σ) fun v3 =>
    z_ck (v2 * v3) fun v4 =>
    z_ck (a2 - v4) fun v5 =>
    some v5)
  else
  (
    z_gt 100 fun v6 =>
    z_gt 2 fun v7 =>
    z_nz v7 <| z_gt (a2.tmod v7) fun v8 =>
    z_ck (v6 * v8) fun v9 =>
    z_ck (a2 + v9) fun v10 =>
    some v10)
theorem cb_X7_rankBy : CB yX7_rankBy cX7_rankBy 4 (some .int) 3 := ⟨ki_X7_rankBy, kq_X7_rankBy, kn_X7, kc_X7_rankBy, by decide +kernel, by decide +kernel, by decide +kernel⟩
set_option maxRecDepth 20000 in
set_option maxHeartbeats 4000000 in
theorem m_X7_rankBy (l : Launch) (G : GG) (F : Nat) (k0 : Nat) (a1 : Int32) (a2 : Int32) (a3 : Int32) (σ : St) : ∀ r, f_X7_rankBy F k0 a1.toInt a2.toInt a3.toInt σ = some r → MC G l yX7_rankBy cX7_rankBy 4 (some .int) { frames := 1, cells := 0, slots := 0, locals := 23 } [.ref (gad G k0), .int a1, .int a2, .int a3] σ (vI r) σ := by
  refine MC_of (own := RX7) (vI) (fun _ => σ) (by decide +kernel) rfl (Nat.le_of_ble_eq_true rfl) ?_
  intro p e s m args below meth c C hr hlo ls hl
  have hl : lv_has ls 4 [(0, .ref (gad G k0)), (1, .int a1), (2, .int a2), (3, .int a3)] := hl
  unfold f_X7_rankBy
  refine q_ob (fun hk0 => ?_)
  refine q_iload_n C dX7_rankBy_0 rfl (lv_at hl 1 rfl) ?_
  refine q_ite (fun e0 => ?_) (fun e0 => ?_) _
  · refine q_tin C 28 e0 dX7_rankBy_1 (by decide) (by decide) rfl (by decide) ?_
    refine q_iload_n C dX7_rankBy_28 rfl (lv_at hl 2 rfl) ?_
    exact q_iret C hr hlo dX7_rankBy_29
  refine q_ite (fun e1 => ?_) (fun e1 => ?_) _
  · refine q_tin C 30 e1 dX7_rankBy_1 (by decide) (by decide) rfl (by decide) ?_
    refine q_iload_n C dX7_rankBy_30 rfl (lv_at hl 2 rfl) ?_
    refine q_ineg C dX7_rankBy_31 (fun v1 => ?_)
    exact q_iret C hr hlo dX7_rankBy_32
  refine q_ite (fun e2 => ?_) (fun e2 => ?_) _
  · refine q_tin C 33 e2 dX7_rankBy_1 (by decide) (by decide) rfl (by decide) ?_
    refine q_iload_n C dX7_rankBy_33 rfl (lv_at hl 2 rfl) ?_
    refine q_bipush C dX7_rankBy_34 rfl (by decide) (fun v2 => ?_)
    refine q_aload_n C dX7_rankBy_36 rfl (lv_at hl 0 rfl) ?_
    refine q_iload_n C dX7_rankBy_37 rfl (lv_at hl 2 rfl) ?_
    refine q_iload_n C dX7_rankBy_38 rfl (lv_at hl 3 rfl) ?_
    refine q_c1i C (fun r h => cr_V (As := [.int a2, .int a3]) (rest := [.int v2, .int a2]) C (m_X7_latestAt l G F k0 a2 a3 σ r h) cb_X7_latestAt hk0 (by decide) rfl (cf_7 hk0 _) rfl kl_X7_264 ⟨Nat.le_of_ble_eq_true rfl, Nat.le_of_ble_eq_true rfl⟩ ⟨Nat.zero_le _, Nat.zero_le _⟩ hl.1 rfl (Nat.le_of_ble_eq_true rfl) dX7_rankBy_39 rfl) (fun v3 => ?_)
    refine q_imul C dX7_rankBy_42 (fun v4 => ?_)
    refine q_isub C dX7_rankBy_43 (fun v5 => ?_)
    exact q_iret C hr hlo dX7_rankBy_44
  refine q_tout C 45 dX7_rankBy_1 (by omega) (by decide) ?_
  refine q_iload_n C dX7_rankBy_45 rfl (lv_at hl 2 rfl) ?_
  refine q_bipush C dX7_rankBy_46 rfl (by decide) (fun v6 => ?_)
  refine q_iload_n C dX7_rankBy_48 rfl (lv_at hl 2 rfl) ?_
  refine q_iconst C dX7_rankBy_49 rfl (by decide) (fun v7 => ?_)
  refine q_irem C dX7_rankBy_50 (fun v8 => ?_)
  refine q_imul C dX7_rankBy_51 (fun v9 => ?_)
  refine q_iadd C dX7_rankBy_52 (fun v10 => ?_)
  exact q_iret C hr hlo dX7_rankBy_53
def f_X7_scanOn_L15 (F : Nat) (k0 : Nat) (a1 : Int) (a2 : Int) (a3 : Int) (K3 : Int → St → Option (St))  : Nat → Int → Int → Int → St → Option (St)
  | 0, _, _, _, _ => none
  | n + 1, x5, x6, x7, σ =>
    z_c1 (f_X7_cells F k0 σ) fun v8 =>
    if v8 ≤ x7 then (
      z_gt (-1) fun v9 =>
      if ¬ x6 = v9 then (
        z_gt 0 fun v10 =>
        z_c1 (f_X7_keep F k0 x6 a2 v10 σ) fun σ1 =>
        z_ck (x5 + 1) fun v11 =>
        K3 v11 σ1)
      else (
        some σ))
    else (
      z_gt (σ k0 29) fun v12 =>
      z_c1 (f_X7_isLeft F k0 v12 x7 σ) fun v13 =>
      if v13 = 0 then (
        z_ck (x7 + 1) fun v14 =>
        f_X7_scanOn_L15 F k0 a1 a2 a3 K3 n x5 x6 v14 σ)
      else (
        z_gt (-1) fun v15 =>
        if x6 = v15 then (
          z_ck (x7 + 1) fun v16 =>
          f_X7_scanOn_L15 F k0 a1 a2 a3 K3 n x5 x7 v16 σ)
        else (
          z_c1 (f_X7_rankBy F k0 a3 x7 a2 σ) fun v17 =>
          z_c1 (f_X7_rankBy F k0 a3 x6 a2 σ) fun v18 =>
          if v18 ≤ v17 then (
            z_ck (x7 + 1) fun v19 =>
            f_X7_scanOn_L15 F k0 a1 a2 a3 K3 n x5 x6 v19 σ)
          else (
            z_ck (x7 + 1) fun v20 =>
            f_X7_scanOn_L15 F k0 a1 a2 a3 K3 n x5 x7 v20 σ))))

def f_X7_scanOn_L3 (F : Nat) (k0 : Nat) (a1 : Int) (a2 : Int) (a3 : Int)   : Nat → Int → St → Option (St)
  | 0, _, _ => none
  | n + 1, x2, σ =>
    if a1 ≤ x2 then (
      some σ)
    else (
      z_gt (-1) fun v3 =>
      z_gt 0 fun v4 =>
      f_X7_scanOn_L15 F k0 a1 a2 a3 (f_X7_scanOn_L3 F k0 a1 a2 a3 n) F x2 v3 v4 σ)

def f_X7_scanOn (F : Nat) (k0 : Nat) (a1 : Int) (a2 : Int) (a3 : Int) (σ : St) : Option (St) :=
  z_ob 7 k0 <| 
  z_gt 0 fun v1 =>
  f_X7_scanOn_L3 F k0 a1 a2 a3 F v1 σ
theorem cb_X7_scanOn : CB yX7_scanOn cX7_scanOn 7 none 3 := ⟨ki_X7_scanOn, kq_X7_scanOn, kn_X7, kc_X7_scanOn, by decide +kernel, by decide +kernel, by decide +kernel⟩
set_option maxRecDepth 20000 in
set_option maxHeartbeats 4000000 in
theorem m_X7_scanOn (l : Launch) (G : GG) (F : Nat) (k0 : Nat) (a1 : Int32) (a2 : Int32) (a3 : Int32) (σ : St) : ∀ r, f_X7_scanOn F k0 a1.toInt a2.toInt a3.toInt σ = some r → MC G l yX7_scanOn cX7_scanOn 7 none { frames := 2, cells := 0, slots := 0, locals := 46 } [.ref (gad G k0), .int a1, .int a2, .int a3] σ vV r := by
  refine MC_of (own := RX7) (fun _ => vV) (fun r => r) (by decide +kernel) rfl (Nat.le_of_ble_eq_true rfl) ?_
  intro p e s m args below meth c C hr hlo ls hl
  have hl : lv_has ls 7 [(0, .ref (gad G k0)), (1, .int a1), (2, .int a2), (3, .int a3)] := hl
  unfold f_X7_scanOn
  refine q_ob (fun hk0 => ?_)
  have B15 : ∀ (K3 : Int → St → Option (St)) (hK3 : ∀ (y0 : Int32) (σ : St) (ls : Array Slot), lv_has ls 7 [(0, .ref (gad G k0)), (1, .int a1), (2, .int a2), (3, .int a3), (4, .int y0)] → Sim G (AG G) 0 0 p l e { frames := 2, cells := 0, slots := 0, locals := 46 } s m args below meth c (fun r : St => MQ below (QC G (vV) (r)) args s 0 0 (AG G)) σ (K3 y0.toInt σ) (F0 m 3 ls [])), ∀ (n : Nat) (x5 : Int32) (x6 : Int32) (x7 : Int32) (σ : St) (ls : Array Slot), lv_has ls 7 [(0, .ref (gad G k0)), (1, .int a1), (2, .int a2), (3, .int a3), (4, .int x5), (5, .int x6), (6, .int x7)] → Sim G (AG G) 0 0 p l e { frames := 2, cells := 0, slots := 0, locals := 46 } s m args below meth c (fun r : St => MQ below (QC G (vV) (r)) args s 0 0 (AG G)) σ (f_X7_scanOn_L15 F k0 a1.toInt a2.toInt a3.toInt K3  n x5.toInt x6.toInt x7.toInt σ) (F0 m 15 ls []) := by
    intro K3 hK3
    intro n
    induction n with
    | zero =>
      intro x5 x6 x7 σ ls hl
      exact sim_none
    | succ n ih =>
      intro x5 x6 x7 σ ls hl
      rw [f_X7_scanOn_L15]
      refine q_iload C dX7_scanOn_15 (lv_at hl 6 rfl) ?_
      refine q_aload_n C dX7_scanOn_17 rfl (lv_at hl 0 rfl) ?_
      refine q_c1i C (fun r h => cr_V (As := []) (rest := [.int x7]) C (m_X7_cells l G F k0 σ r h) cb_X7_cells hk0 (by decide) rfl (cf_7 hk0 _) rfl kl_X7_107 ⟨Nat.le_of_ble_eq_true rfl, Nat.le_of_ble_eq_true rfl⟩ ⟨Nat.zero_le _, Nat.zero_le _⟩ hl.1 rfl (Nat.le_of_ble_eq_true rfl) dX7_scanOn_18 rfl) (fun v8 => ?_)
      refine q_icmp_ge C 72 dX7_scanOn_21 (by decide) ?_ ?_
      · refine q_iload C dX7_scanOn_72 (lv_at hl 5 rfl) ?_
        refine q_iconst C dX7_scanOn_74 rfl (by decide) (fun v9 => ?_)
        refine q_icmp_ne C 79 dX7_scanOn_75 (by decide) ?_ ?_
        · refine q_aload_n C dX7_scanOn_79 rfl (lv_at hl 0 rfl) ?_
          refine q_iload C dX7_scanOn_80 (lv_at hl 5 rfl) ?_
          refine q_iload_n C dX7_scanOn_82 rfl (lv_at hl 2 rfl) ?_
          refine q_iconst C dX7_scanOn_83 rfl (by decide) (fun v10 => ?_)
          refine q_cv C (fun r h => cr_V (As := [.int x6, .int a2, .int v10]) (rest := []) C (m_X7_keep l G F k0 x6 a2 v10 σ r h) cb_X7_keep hk0 (by decide) rfl (cf_7 hk0 _) rfl kl_X7_279 ⟨Nat.le_of_ble_eq_true rfl, Nat.le_of_ble_eq_true rfl⟩ ⟨Nat.zero_le _, Nat.zero_le _⟩ hl.1 rfl (Nat.le_of_ble_eq_true rfl) dX7_scanOn_84 rfl) (fun σ1 => ?_)
          refine q_iinc (k := 4) C (fun v11 => [(4, .int v11), (0, .ref (gad G k0)), (1, .int a1), (2, .int a2), (3, .int a3), (5, .int x6), (6, .int x7)]) dX7_scanOn_87 hl rfl (by decide) (by decide) (fun _ => rfl) (fun v11 ls hl => ?_)
          refine q_goto C 3 dX7_scanOn_90 (by decide) ?_
          exact hK3 v11 σ1 ls (lv_sub hl [1, 2, 3, 4, 0] rfl)
        · exact q_vretE C hr hlo dX7_scanOn_78
      · refine q_aload_n C dX7_scanOn_24 rfl (lv_at hl 0 rfl) ?_
        refine q_aload_n C dX7_scanOn_25 rfl (lv_at hl 0 rfl) ?_
        refine g_7_29 C hk0 kf_X7_270 dX7_scanOn_26 (fun v12 => ?_)
        refine q_iload C dX7_scanOn_29 (lv_at hl 6 rfl) ?_
        refine q_c1i C (fun r h => cr_V (As := [.int v12, .int x7]) (rest := []) C (m_X7_isLeft l G F k0 v12 x7 σ r h) cb_X7_isLeft hk0 (by decide) rfl (cf_7 hk0 _) rfl kl_X7_273 ⟨Nat.le_of_ble_eq_true rfl, Nat.le_of_ble_eq_true rfl⟩ ⟨Nat.zero_le _, Nat.zero_le _⟩ hl.1 rfl (Nat.le_of_ble_eq_true rfl) dX7_scanOn_31 rfl) (fun v13 => ?_)
        refine q_if_eq C 66 dX7_scanOn_34 (by decide) ?_ ?_
        · refine q_iinc (k := 6) C (fun v14 => [(6, .int v14), (0, .ref (gad G k0)), (1, .int a1), (2, .int a2), (3, .int a3), (4, .int x5), (5, .int x6)]) dX7_scanOn_66 hl rfl (by decide) (by decide) (fun _ => rfl) (fun v14 ls hl => ?_)
          refine q_goto C 15 dX7_scanOn_69 (by decide) ?_
          exact ih x5 x6 v14 σ ls (lv_sub hl [1, 2, 3, 4, 5, 6, 0] rfl)
        · refine q_iload C dX7_scanOn_37 (lv_at hl 5 rfl) ?_
          refine q_iconst C dX7_scanOn_39 rfl (by decide) (fun v15 => ?_)
          refine q_icmp_eq C 62 dX7_scanOn_40 (by decide) ?_ ?_
          · refine q_iload C dX7_scanOn_62 (lv_at hl 6 rfl) ?_
            refine q_istore C [(5, .int x7), (0, .ref (gad G k0)), (1, .int a1), (2, .int a2), (3, .int a3), (4, .int x5), (6, .int x7)] dX7_scanOn_64 hl (by decide) rfl (fun ls hl => ?_)
            refine q_iinc (k := 6) C (fun v16 => [(6, .int v16), (5, .int x7), (0, .ref (gad G k0)), (1, .int a1), (2, .int a2), (3, .int a3), (4, .int x5)]) dX7_scanOn_66 hl rfl (by decide) (by decide) (fun _ => rfl) (fun v16 ls hl => ?_)
            refine q_goto C 15 dX7_scanOn_69 (by decide) ?_
            exact ih x5 x7 v16 σ ls (lv_sub hl [2, 3, 4, 5, 6, 1, 0] rfl)
          · refine q_aload_n C dX7_scanOn_43 rfl (lv_at hl 0 rfl) ?_
            refine q_iload_n C dX7_scanOn_44 rfl (lv_at hl 3 rfl) ?_
            refine q_iload C dX7_scanOn_45 (lv_at hl 6 rfl) ?_
            refine q_iload_n C dX7_scanOn_47 rfl (lv_at hl 2 rfl) ?_
            refine q_c1i C (fun r h => cr_V (As := [.int a3, .int x7, .int a2]) (rest := []) C (m_X7_rankBy l G F k0 a3 x7 a2 σ r h) cb_X7_rankBy hk0 (by decide) rfl (cf_7 hk0 _) rfl kl_X7_276 ⟨Nat.le_of_ble_eq_true rfl, Nat.le_of_ble_eq_true rfl⟩ ⟨Nat.zero_le _, Nat.zero_le _⟩ hl.1 rfl (Nat.le_of_ble_eq_true rfl) dX7_scanOn_48 rfl) (fun v17 => ?_)
            refine q_aload_n C dX7_scanOn_51 rfl (lv_at hl 0 rfl) ?_
            refine q_iload_n C dX7_scanOn_52 rfl (lv_at hl 3 rfl) ?_
            refine q_iload C dX7_scanOn_53 (lv_at hl 5 rfl) ?_
            refine q_iload_n C dX7_scanOn_55 rfl (lv_at hl 2 rfl) ?_
            refine q_c1i C (fun r h => cr_V (As := [.int a3, .int x6, .int a2]) (rest := [.int v17]) C (m_X7_rankBy l G F k0 a3 x6 a2 σ r h) cb_X7_rankBy hk0 (by decide) rfl (cf_7 hk0 _) rfl kl_X7_276 ⟨Nat.le_of_ble_eq_true rfl, Nat.le_of_ble_eq_true rfl⟩ ⟨Nat.zero_le _, Nat.zero_le _⟩ hl.1 rfl (Nat.le_of_ble_eq_true rfl) dX7_scanOn_56 rfl) (fun v18 => ?_)
            refine q_icmp_ge C 66 dX7_scanOn_59 (by decide) ?_ ?_
            · refine q_iinc (k := 6) C (fun v19 => [(6, .int v19), (0, .ref (gad G k0)), (1, .int a1), (2, .int a2), (3, .int a3), (4, .int x5), (5, .int x6)]) dX7_scanOn_66 hl rfl (by decide) (by decide) (fun _ => rfl) (fun v19 ls hl => ?_)
              refine q_goto C 15 dX7_scanOn_69 (by decide) ?_
              exact ih x5 x6 v19 σ ls (lv_sub hl [1, 2, 3, 4, 5, 6, 0] rfl)
            · refine q_iload C dX7_scanOn_62 (lv_at hl 6 rfl) ?_
              refine q_istore C [(5, .int x7), (0, .ref (gad G k0)), (1, .int a1), (2, .int a2), (3, .int a3), (4, .int x5), (6, .int x7)] dX7_scanOn_64 hl (by decide) rfl (fun ls hl => ?_)
              refine q_iinc (k := 6) C (fun v20 => [(6, .int v20), (5, .int x7), (0, .ref (gad G k0)), (1, .int a1), (2, .int a2), (3, .int a3), (4, .int x5)]) dX7_scanOn_66 hl rfl (by decide) (by decide) (fun _ => rfl) (fun v20 ls hl => ?_)
              refine q_goto C 15 dX7_scanOn_69 (by decide) ?_
              exact ih x5 x7 v20 σ ls (lv_sub hl [2, 3, 4, 5, 6, 1, 0] rfl)
  have B3 : ∀ (n : Nat) (x2 : Int32) (σ : St) (ls : Array Slot), lv_has ls 7 [(0, .ref (gad G k0)), (1, .int a1), (2, .int a2), (3, .int a3), (4, .int x2)] → Sim G (AG G) 0 0 p l e { frames := 2, cells := 0, slots := 0, locals := 46 } s m args below meth c (fun r : St => MQ below (QC G (vV) (r)) args s 0 0 (AG G)) σ (f_X7_scanOn_L3 F k0 a1.toInt a2.toInt a3.toInt   n x2.toInt σ) (F0 m 3 ls []) := by
    intro n
    induction n with
    | zero =>
      intro x2 σ ls hl
      exact sim_none
    | succ n ih =>
      intro x2 σ ls hl
      rw [f_X7_scanOn_L3]
      refine q_iload C dX7_scanOn_3 (lv_at hl 4 rfl) ?_
      refine q_iload_n C dX7_scanOn_5 rfl (lv_at hl 1 rfl) ?_
      refine q_icmp_ge C 93 dX7_scanOn_6 (by decide) ?_ ?_
      · exact q_vretE C hr hlo dX7_scanOn_93
      · refine q_iconst C dX7_scanOn_9 rfl (by decide) (fun v3 => ?_)
        refine q_istore C [(5, .int v3), (0, .ref (gad G k0)), (1, .int a1), (2, .int a2), (3, .int a3), (4, .int x2)] dX7_scanOn_10 hl (by decide) rfl (fun ls hl => ?_)
        refine q_iconst C dX7_scanOn_12 rfl (by decide) (fun v4 => ?_)
        refine q_istore C [(6, .int v4), (5, .int v3), (0, .ref (gad G k0)), (1, .int a1), (2, .int a2), (3, .int a3), (4, .int x2)] dX7_scanOn_13 hl (by decide) rfl (fun ls hl => ?_)
        exact B15 (f_X7_scanOn_L3 F k0 a1.toInt a2.toInt a3.toInt n) ih F x2 v3 v4 σ ls (lv_sub hl [2, 3, 4, 5, 6, 1, 0] rfl)
  refine q_iconst C dX7_scanOn_0 rfl (by decide) (fun v1 => ?_)
  refine q_istore C [(4, .int v1), (0, .ref (gad G k0)), (1, .int a1), (2, .int a2), (3, .int a3)] dX7_scanOn_1 hl (by decide) rfl (fun ls hl => ?_)
  exact B3 F v1 σ ls (lv_sub hl [1, 2, 3, 4, 0] rfl)
def f_X7_begin_J127 (F : Nat) (k0 : Nat) (a1 : Int) (a2 : Int) (K78 : Int → St → Option (St))  (x26 : Int) (x27 : Int) (x28 : Int) (x29 : Int) (x30 : Nat) (σ : St) : Option (St) :=
  z_ix x29 (lnX x30) <| z_bo x28 <| z_sg (z_up σ x30 x29 x28) fun σ8 =>
  z_gt 0 fun v31 =>
  z_ix x27 1920 <| z_bo v31 <| z_sg (z_up σ8 (k0 + 16) x27 v31) fun σ9 =>
  z_gt (-1) fun v32 =>
  z_ix x27 1920 <| z_sg (z_up σ9 (k0 + 17) x27 v32) fun σ10 =>
  z_gt (-1) fun v33 =>
  z_ix x27 1920 <| z_sg (z_up σ10 (k0 + 18) x27 v33) fun σ11 =>
  z_ck (x26 + 1) fun v34 =>
  K78 v34 σ11

def f_X7_begin_L78 (F : Nat) (k0 : Nat) (a1 : Int) (a2 : Int)   : Nat → Int → St → Option (St)
  | 0, _, _ => none
  | n + 1, x18, σ =>
    z_gt 32 fun v19 =>
    if v19 ≤ x18 then (
      some σ)
    else (
      z_gt 32 fun v20 =>
      z_gt (σ k0 29) fun v21 =>
      z_ck (v20 * v21) fun v22 =>
      z_ck (v22 + x18) fun v23 =>
      z_c1 (f_X7_cells F k0 σ) fun v24 =>
      if v24 ≤ x18 then (
        z_gt 0 fun v25 =>
        f_X7_begin_J127 F k0 a1 a2 (f_X7_begin_L78 F k0 a1 a2 n) x18 v23 v25 v23 (k0 + 15) σ)
      else (
        if ¬ a2 = 0 then (
          z_gt 1 fun v35 =>
          f_X7_begin_J127 F k0 a1 a2 (f_X7_begin_L78 F k0 a1 a2 n) x18 v23 v35 v23 (k0 + 15) σ)
        else (
          z_c1 (f_X7_isDirtyAt F k0 x18 a1 σ) fun v36 =>
          if v36 = 0 then (
            z_gt 0 fun v37 =>
            f_X7_begin_J127 F k0 a1 a2 (f_X7_begin_L78 F k0 a1 a2 n) x18 v23 v37 v23 (k0 + 15) σ)
          else (
            z_gt 1 fun v38 =>
            f_X7_begin_J127 F k0 a1 a2 (f_X7_begin_L78 F k0 a1 a2 n) x18 v23 v38 v23 (k0 + 15) σ))))

def f_X7_begin_J35 (F : Nat) (k0 : Nat) (a1 : Int) (a2 : Int)   (x7 : Int) (x8 : Int) (x9 : Nat) (σ : St) : Option (St) :=
  z_ix x8 (lnX x9) <| z_sg (z_up σ x9 x8 x7) fun σ3 =>
  z_gt (σ3 k0 29) fun v10 =>
  z_ix v10 60 <| z_sg (z_up σ3 (k0 + 11) v10 a1) fun σ4 =>
  z_gt (σ4 k0 29) fun v11 =>
  z_gt 0 fun v12 =>
  z_ix v11 60 <| z_sg (z_up σ4 (k0 + 12) v11 v12) fun σ5 =>
  z_gt (σ5 k0 29) fun v13 =>
  z_gt (-1) fun v14 =>
  z_ix v13 60 <| z_sg (z_up σ5 (k0 + 13) v13 v14) fun σ6 =>
  z_gt (σ6 k0 29) fun v15 =>
  z_gt 0 fun v16 =>
  z_ix v15 60 <| z_sg (z_up σ6 (k0 + 14) v15 v16) fun σ7 =>
  z_gt 0 fun v17 =>
  f_X7_begin_L78 F k0 a1 a2 F v17 σ7

def f_X7_begin (F : Nat) (k0 : Nat) (a1 : Int) (a2 : Int) (σ : St) : Option (St) :=
  z_ob 7 k0 <| 
  z_gt (σ k0 28) fun v1 =>
  z_sg (z_up σ k0 29 v1) fun σ1 =>
  z_gt (σ1 k0 28) fun v2 =>
  z_gt 1 fun v3 =>
  z_ck (v2 + v3) fun v4 =>
  z_sg (z_up σ1 k0 28 v4) fun σ2 =>
  z_gt (σ2 k0 29) fun v5 =>
  if a2 = 0 then (
    z_gt 0 fun v6 =>
    f_X7_begin_J35 F k0 a1 a2 v6 v5 (k0 + 10) σ2)
  else (
    z_gt 1 fun v39 =>
    f_X7_begin_J35 F k0 a1 a2 v39 v5 (k0 + 10) σ2)
theorem cb_X7_begin : CB yX7_begin cX7_begin 5 none 2 := ⟨ki_X7_begin, kq_X7_begin, kn_X7, kc_X7_begin, by decide +kernel, by decide +kernel, by decide +kernel⟩
set_option maxRecDepth 20000 in
set_option maxHeartbeats 4000000 in
theorem m_X7_begin (l : Launch) (G : GG) (F : Nat) (k0 : Nat) (a1 : Int32) (a2 : Int32) (σ : St) : ∀ r, f_X7_begin F k0 a1.toInt a2.toInt σ = some r → MC G l yX7_begin cX7_begin 5 none { frames := 3, cells := 0, slots := 0, locals := 67 } [.ref (gad G k0), .int a1, .int a2] σ vV r := by
  refine MC_of (own := RX7) (fun _ => vV) (fun r => r) (by decide +kernel) rfl (Nat.le_of_ble_eq_true rfl) ?_
  intro p e s m args below meth c C hr hlo ls hl
  have hl : lv_has ls 5 [(0, .ref (gad G k0)), (1, .int a1), (2, .int a2)] := hl
  unfold f_X7_begin
  refine q_ob (fun hk0 => ?_)
  have B127 : ∀ (K78 : Int → St → Option (St)) (hK78 : ∀ (y0 : Int32) (σ : St) (ls : Array Slot), lv_has ls 5 [(0, .ref (gad G k0)), (1, .int a1), (2, .int a2), (3, .int y0)] → Sim G (AG G) 0 0 p l e { frames := 3, cells := 0, slots := 0, locals := 67 } s m args below meth c (fun r : St => MQ below (QC G (vV) (r)) args s 0 0 (AG G)) σ (K78 y0.toInt σ) (F0 m 78 ls [])), ∀  (x26 : Int32) (x27 : Int32) (x28 : Int32) (x29 : Int32) (x30 : Nat) (σ : St) (ls : Array Slot), lv_has ls 5 [(0, .ref (gad G k0)), (1, .int a1), (2, .int a2), (3, .int x26), (4, .int x27)] → kdX x30 = 11 → Sim G (AG G) 0 0 p l e { frames := 3, cells := 0, slots := 0, locals := 67 } s m args below meth c (fun r : St => MQ below (QC G (vV) (r)) args s 0 0 (AG G)) σ (f_X7_begin_J127 F k0 a1.toInt a2.toInt K78   x26.toInt x27.toInt x28.toInt x29.toInt x30 σ) (F0 m 127 ls [.int x28, .int x29, .ref (gad G x30)]) := by
    intro K78 hK78
    intro x26 x27 x28 x29 x30 σ ls hl hx30
    unfold f_X7_begin_J127
    refine a_zst C hx30 rfl dX7_begin_127 (q_sg (fun σ8 => ?_))
    refine q_aload_n C dX7_begin_128 rfl (lv_at hl 0 rfl) ?_
    refine g_7_24 C hk0 kf_X7_61 dX7_begin_129 ?_
    refine q_iload C dX7_begin_132 (lv_at hl 4 rfl) ?_
    refine q_iconst C dX7_begin_134 rfl (by decide) (fun v31 => ?_)
    refine a_zst C (yk_7_24 hk0) (yl_7_24 hk0) dX7_begin_135 (q_sg (fun σ9 => ?_))
    refine q_aload_n C dX7_begin_136 rfl (lv_at hl 0 rfl) ?_
    refine g_7_25 C hk0 kf_X7_64 dX7_begin_137 ?_
    refine q_iload C dX7_begin_140 (lv_at hl 4 rfl) ?_
    refine q_iconst C dX7_begin_142 rfl (by decide) (fun v32 => ?_)
    refine a_ist C (yk_7_25 hk0) (yl_7_25 hk0) dX7_begin_143 (q_sg (fun σ10 => ?_))
    refine q_aload_n C dX7_begin_144 rfl (lv_at hl 0 rfl) ?_
    refine g_7_26 C hk0 kf_X7_67 dX7_begin_145 ?_
    refine q_iload C dX7_begin_148 (lv_at hl 4 rfl) ?_
    refine q_iconst C dX7_begin_150 rfl (by decide) (fun v33 => ?_)
    refine a_ist C (yk_7_26 hk0) (yl_7_26 hk0) dX7_begin_151 (q_sg (fun σ11 => ?_))
    refine q_iinc (k := 3) C (fun v34 => [(3, .int v34), (0, .ref (gad G k0)), (1, .int a1), (2, .int a2), (4, .int x27)]) dX7_begin_152 hl rfl (by decide) (by decide) (fun _ => rfl) (fun v34 ls hl => ?_)
    refine q_goto C 78 dX7_begin_155 (by decide) ?_
    exact hK78 v34 σ11 ls (lv_sub hl [1, 2, 3, 0] rfl)
  have B78 : ∀ (n : Nat) (x18 : Int32) (σ : St) (ls : Array Slot), lv_has ls 5 [(0, .ref (gad G k0)), (1, .int a1), (2, .int a2), (3, .int x18)] → Sim G (AG G) 0 0 p l e { frames := 3, cells := 0, slots := 0, locals := 67 } s m args below meth c (fun r : St => MQ below (QC G (vV) (r)) args s 0 0 (AG G)) σ (f_X7_begin_L78 F k0 a1.toInt a2.toInt   n x18.toInt σ) (F0 m 78 ls []) := by
    intro n
    induction n with
    | zero =>
      intro x18 σ ls hl
      exact sim_none
    | succ n ih =>
      intro x18 σ ls hl
      rw [f_X7_begin_L78]
      refine q_iload_n C dX7_begin_78 rfl (lv_at hl 3 rfl) ?_
      refine q_bipush C dX7_begin_79 rfl (by decide) (fun v19 => ?_)
      refine q_icmp_ge C 158 dX7_begin_81 (by decide) ?_ ?_
      · exact q_vretE C hr hlo dX7_begin_158
      · refine q_bipush C dX7_begin_84 rfl (by decide) (fun v20 => ?_)
        refine q_aload_n C dX7_begin_86 rfl (lv_at hl 0 rfl) ?_
        refine g_7_29 C hk0 kf_X7_270 dX7_begin_87 (fun v21 => ?_)
        refine q_imul C dX7_begin_90 (fun v22 => ?_)
        refine q_iload_n C dX7_begin_91 rfl (lv_at hl 3 rfl) ?_
        refine q_iadd C dX7_begin_92 (fun v23 => ?_)
        refine q_istore C [(4, .int v23), (0, .ref (gad G k0)), (1, .int a1), (2, .int a2), (3, .int x18)] dX7_begin_93 hl (by decide) rfl (fun ls hl => ?_)
        refine q_aload_n C dX7_begin_95 rfl (lv_at hl 1 rfl) ?_
        refine g_7_23 C hk0 kf_X7_58 dX7_begin_96 ?_
        refine q_iload C dX7_begin_99 (lv_at hl 0 rfl) ?_
        refine q_iload_n C dX7_begin_101 rfl (lv_at hl 4 rfl) ?_
        refine q_aload_n C dX7_begin_102 rfl (lv_at hl 1 rfl) ?_
        refine q_c1i C (fun r h => cr_V (As := []) (rest := [.int x18, .int v23, .ref (gad G (k0 + 15))]) C (m_X7_cells l G F k0 σ r h) cb_X7_cells hk0 (by decide) rfl (cf_7 hk0 _) rfl kl_X7_107 ⟨Nat.le_of_ble_eq_true rfl, Nat.le_of_ble_eq_true rfl⟩ ⟨Nat.zero_le _, Nat.zero_le _⟩ hl.1 rfl (Nat.le_of_ble_eq_true rfl) dX7_begin_103 rfl) (fun v24 => ?_)
        refine q_icmp_ge C 126 dX7_begin_106 (by decide) ?_ ?_
        · refine q_iconst C dX7_begin_126 rfl (by decide) (fun v25 => ?_)
          exact B127 (f_X7_begin_L78 F k0 a1.toInt a2.toInt n) ih x18 v23 v25 v23 (k0 + 15) σ ls (lv_sub hl [1, 2, 3, 4, 0] rfl) (yk_7_23 hk0)
        · refine q_iload_n C dX7_begin_109 rfl (lv_at hl 3 rfl) ?_
          refine q_if_ne C 122 dX7_begin_110 (by decide) ?_ ?_
          · refine q_iconst C dX7_begin_122 rfl (by decide) (fun v35 => ?_)
            refine q_goto C 127 dX7_begin_123 (by decide) ?_
            exact B127 (f_X7_begin_L78 F k0 a1.toInt a2.toInt n) ih x18 v23 v35 v23 (k0 + 15) σ ls (lv_sub hl [1, 2, 3, 4, 0] rfl) (yk_7_23 hk0)
          · refine q_aload_n C dX7_begin_113 rfl (lv_at hl 1 rfl) ?_
            refine q_iload_n C dX7_begin_114 rfl (lv_at hl 4 rfl) ?_
            refine q_iload_n C dX7_begin_115 rfl (lv_at hl 2 rfl) ?_
            refine q_c1i C (fun r h => cr_V (As := [.int x18, .int a1]) (rest := [.int v23, .ref (gad G (k0 + 15))]) C (m_X7_isDirtyAt l G F k0 x18 a1 σ r h) cb_X7_isDirtyAt hk0 (by decide) rfl (cf_7 hk0 _) rfl kl_X7_283 ⟨Nat.le_of_ble_eq_true rfl, Nat.le_of_ble_eq_true rfl⟩ ⟨Nat.zero_le _, Nat.zero_le _⟩ hl.1 rfl (Nat.le_of_ble_eq_true rfl) dX7_begin_116 rfl) (fun v36 => ?_)
            refine q_if_eq C 126 dX7_begin_119 (by decide) ?_ ?_
            · refine q_iconst C dX7_begin_126 rfl (by decide) (fun v37 => ?_)
              exact B127 (f_X7_begin_L78 F k0 a1.toInt a2.toInt n) ih x18 v23 v37 v23 (k0 + 15) σ ls (lv_sub hl [1, 2, 3, 4, 0] rfl) (yk_7_23 hk0)
            · refine q_iconst C dX7_begin_122 rfl (by decide) (fun v38 => ?_)
              refine q_goto C 127 dX7_begin_123 (by decide) ?_
              exact B127 (f_X7_begin_L78 F k0 a1.toInt a2.toInt n) ih x18 v23 v38 v23 (k0 + 15) σ ls (lv_sub hl [1, 2, 3, 4, 0] rfl) (yk_7_23 hk0)
  have B35 : ∀  (x7 : Int32) (x8 : Int32) (x9 : Nat) (σ : St) (ls : Array Slot), lv_has ls 5 [(0, .ref (gad G k0)), (1, .int a1), (2, .int a2)] → kdX x9 = 9 → Sim G (AG G) 0 0 p l e { frames := 3, cells := 0, slots := 0, locals := 67 } s m args below meth c (fun r : St => MQ below (QC G (vV) (r)) args s 0 0 (AG G)) σ (f_X7_begin_J35 F k0 a1.toInt a2.toInt    x7.toInt x8.toInt x9 σ) (F0 m 35 ls [.int x7, .int x8, .ref (gad G x9)]) := by
    intro x7 x8 x9 σ ls hl hx9
    unfold f_X7_begin_J35
    refine a_ist C hx9 rfl dX7_begin_35 (q_sg (fun σ3 => ?_))
    refine q_aload_n C dX7_begin_36 rfl (lv_at hl 0 rfl) ?_
    refine g_7_19 C hk0 kf_X7_46 dX7_begin_37 ?_
    refine q_aload_n C dX7_begin_40 rfl (lv_at hl 0 rfl) ?_
    refine g_7_29 C hk0 kf_X7_270 dX7_begin_41 (fun v10 => ?_)
    refine q_iload_n C dX7_begin_44 rfl (lv_at hl 1 rfl) ?_
    refine a_ist C (yk_7_19 hk0) (yl_7_19 hk0) dX7_begin_45 (q_sg (fun σ4 => ?_))
    refine q_aload_n C dX7_begin_46 rfl (lv_at hl 0 rfl) ?_
    refine g_7_20 C hk0 kf_X7_49 dX7_begin_47 ?_
    refine q_aload_n C dX7_begin_50 rfl (lv_at hl 0 rfl) ?_
    refine g_7_29 C hk0 kf_X7_270 dX7_begin_51 (fun v11 => ?_)
    refine q_iconst C dX7_begin_54 rfl (by decide) (fun v12 => ?_)
    refine a_ist C (yk_7_20 hk0) (yl_7_20 hk0) dX7_begin_55 (q_sg (fun σ5 => ?_))
    refine q_aload_n C dX7_begin_56 rfl (lv_at hl 0 rfl) ?_
    refine g_7_21 C hk0 kf_X7_52 dX7_begin_57 ?_
    refine q_aload_n C dX7_begin_60 rfl (lv_at hl 0 rfl) ?_
    refine g_7_29 C hk0 kf_X7_270 dX7_begin_61 (fun v13 => ?_)
    refine q_iconst C dX7_begin_64 rfl (by decide) (fun v14 => ?_)
    refine a_ist C (yk_7_21 hk0) (yl_7_21 hk0) dX7_begin_65 (q_sg (fun σ6 => ?_))
    refine q_aload_n C dX7_begin_66 rfl (lv_at hl 0 rfl) ?_
    refine g_7_22 C hk0 kf_X7_55 dX7_begin_67 ?_
    refine q_aload_n C dX7_begin_70 rfl (lv_at hl 0 rfl) ?_
    refine g_7_29 C hk0 kf_X7_270 dX7_begin_71 (fun v15 => ?_)
    refine q_iconst C dX7_begin_74 rfl (by decide) (fun v16 => ?_)
    refine a_ist C (yk_7_22 hk0) (yl_7_22 hk0) dX7_begin_75 (q_sg (fun σ7 => ?_))
    refine q_iconst C dX7_begin_76 rfl (by decide) (fun v17 => ?_)
    refine q_istore_n C [(3, .int v17), (0, .ref (gad G k0)), (1, .int a1), (2, .int a2)] dX7_begin_77 rfl hl (by decide) rfl (fun ls hl => ?_)
    exact B78 F v17 σ7 ls (lv_sub hl [1, 2, 3, 0] rfl)
  refine q_aload_n C dX7_begin_0 rfl (lv_at hl 0 rfl) ?_
  refine q_aload_n C dX7_begin_1 rfl (lv_at hl 0 rfl) ?_
  refine g_7_28 C hk0 kf_X7_257 dX7_begin_2 (fun v1 => ?_)
  refine p_7_29 C hk0 kf_X7_270 dX7_begin_5 (q_sg (fun σ1 => ?_))
  refine q_aload_n C dX7_begin_8 rfl (lv_at hl 0 rfl) ?_
  refine q_dup C dX7_begin_9 rfl ?_
  refine g_7_28 C hk0 kf_X7_257 dX7_begin_10 (fun v2 => ?_)
  refine q_iconst C dX7_begin_13 rfl (by decide) (fun v3 => ?_)
  refine q_iadd C dX7_begin_14 (fun v4 => ?_)
  refine p_7_28 C hk0 kf_X7_257 dX7_begin_15 (q_sg (fun σ2 => ?_))
  refine q_aload_n C dX7_begin_18 rfl (lv_at hl 0 rfl) ?_
  refine g_7_18 C hk0 kf_X7_43 dX7_begin_19 ?_
  refine q_aload_n C dX7_begin_22 rfl (lv_at hl 0 rfl) ?_
  refine g_7_29 C hk0 kf_X7_270 dX7_begin_23 (fun v5 => ?_)
  refine q_iload_n C dX7_begin_26 rfl (lv_at hl 2 rfl) ?_
  refine q_if_eq C 34 dX7_begin_27 (by decide) ?_ ?_
  · refine q_iconst C dX7_begin_34 rfl (by decide) (fun v6 => ?_)
    exact B35 v6 v5 (k0 + 10) σ2 ls (lv_sub hl [0, 1, 2] rfl) (yk_7_18 hk0)
  · refine q_iconst C dX7_begin_30 rfl (by decide) (fun v39 => ?_)
    refine q_goto C 35 dX7_begin_31 (by decide) ?_
    exact B35 v39 v5 (k0 + 10) σ2 ls (lv_sub hl [0, 1, 2] rfl) (yk_7_18 hk0)
def f_X7_close (F : Nat) (k0 : Nat) (a1 : Int) (a2 : Int) (σ : St) : Option (St) :=
  z_ob 7 k0 <| 
  z_gt (σ k0 29) fun v1 =>
  z_ix v1 60 <| z_sg (z_up σ (k0 + 12) v1 a2) fun σ1 =>
  z_gt (σ1 k0 29) fun v2 =>
  z_gt 1 fun v3 =>
  z_ck (a1 + v3) fun v4 =>
  z_ix v2 60 <| z_sg (z_up σ1 (k0 + 13) v2 v4) fun σ2 =>
  z_gt (-1) fun v5 =>
  z_sg (z_up σ2 k0 29 v5) fun σ3 =>
  some σ3
theorem cb_X7_close : CB yX7_close cX7_close 3 none 2 := ⟨ki_X7_close, kq_X7_close, kn_X7, kc_X7_close, by decide +kernel, by decide +kernel, by decide +kernel⟩
set_option maxRecDepth 20000 in
set_option maxHeartbeats 4000000 in
theorem m_X7_close (l : Launch) (G : GG) (F : Nat) (k0 : Nat) (a1 : Int32) (a2 : Int32) (σ : St) : ∀ r, f_X7_close F k0 a1.toInt a2.toInt σ = some r → MC G l yX7_close cX7_close 3 none { frames := 0, cells := 0, slots := 0, locals := 0 } [.ref (gad G k0), .int a1, .int a2] σ vV r := by
  refine MC_of (own := RX7) (fun _ => vV) (fun r => r) (by decide +kernel) rfl (Nat.le_of_ble_eq_true rfl) ?_
  intro p e s m args below meth c C hr hlo ls hl
  have hl : lv_has ls 3 [(0, .ref (gad G k0)), (1, .int a1), (2, .int a2)] := hl
  unfold f_X7_close
  refine q_ob (fun hk0 => ?_)
  refine q_aload_n C dX7_close_0 rfl (lv_at hl 0 rfl) ?_
  refine g_7_20 C hk0 kf_X7_49 dX7_close_1 ?_
  refine q_aload_n C dX7_close_4 rfl (lv_at hl 0 rfl) ?_
  refine g_7_29 C hk0 kf_X7_270 dX7_close_5 (fun v1 => ?_)
  refine q_iload_n C dX7_close_8 rfl (lv_at hl 2 rfl) ?_
  refine a_ist C (yk_7_20 hk0) (yl_7_20 hk0) dX7_close_9 (q_sg (fun σ1 => ?_))
  refine q_aload_n C dX7_close_10 rfl (lv_at hl 0 rfl) ?_
  refine g_7_21 C hk0 kf_X7_52 dX7_close_11 ?_
  refine q_aload_n C dX7_close_14 rfl (lv_at hl 0 rfl) ?_
  refine g_7_29 C hk0 kf_X7_270 dX7_close_15 (fun v2 => ?_)
  refine q_iload_n C dX7_close_18 rfl (lv_at hl 1 rfl) ?_
  refine q_iconst C dX7_close_19 rfl (by decide) (fun v3 => ?_)
  refine q_iadd C dX7_close_20 (fun v4 => ?_)
  refine a_ist C (yk_7_21 hk0) (yl_7_21 hk0) dX7_close_21 (q_sg (fun σ2 => ?_))
  refine q_aload_n C dX7_close_22 rfl (lv_at hl 0 rfl) ?_
  refine q_iconst C dX7_close_23 rfl (by decide) (fun v5 => ?_)
  refine p_7_29 C hk0 kf_X7_270 dX7_close_24 (q_sg (fun σ3 => ?_))
  exact q_vretE C hr hlo dX7_close_27
def f_X7_hasWhole_L4 (F : Nat) (k0 : Nat)  (σ : St) : Nat → Int → Int → Option (Int)
  | 0, _, _ => none
  | n + 1, x3, x4 =>
    z_gt (σ k0 28) fun v5 =>
    if v5 ≤ x4 then (
      z_bo x3 <| some x3)
    else (
      if ¬ x3 = 0 then (
        z_gt 1 fun v6 =>
        z_ck (x4 + 1) fun v7 =>
        f_X7_hasWhole_L4 F k0 σ n v6 v7)
      else (
        z_ix x4 60 <| z_gt (σ (k0 + 12) x4) fun v8 =>
        z_gt 1 fun v9 =>
        if ¬ v8 = v9 then (
          z_gt 0 fun v10 =>
          z_ck (x4 + 1) fun v11 =>
          f_X7_hasWhole_L4 F k0 σ n v10 v11)
        else (
          z_gt 1 fun v12 =>
          z_ck (x4 + 1) fun v13 =>
          f_X7_hasWhole_L4 F k0 σ n v12 v13)))

def f_X7_hasWhole (F : Nat) (k0 : Nat) (σ : St) : Option (Int) :=
  z_ob 7 k0 <| 
  z_gt 0 fun v1 =>
  z_gt 0 fun v2 =>
  f_X7_hasWhole_L4 F k0 σ F v1 v2
theorem cb_X7_hasWhole : CB yX7_hasWhole cX7_hasWhole 3 (some .boolean) 0 := ⟨ki_X7_hasWhole, kq_X7_hasWhole, kn_X7, kc_X7_hasWhole, by decide +kernel, by decide +kernel, by decide +kernel⟩
set_option maxRecDepth 20000 in
set_option maxHeartbeats 4000000 in
theorem m_X7_hasWhole (l : Launch) (G : GG) (F : Nat) (k0 : Nat) (σ : St) : ∀ r, f_X7_hasWhole F k0 σ = some r → MC G l yX7_hasWhole cX7_hasWhole 3 (some .boolean) { frames := 0, cells := 0, slots := 0, locals := 0 } [.ref (gad G k0)] σ (vI r) σ := by
  refine MC_of (own := RX7) (vI) (fun _ => σ) (by decide +kernel) rfl (Nat.le_of_ble_eq_true rfl) ?_
  intro p e s m args below meth c C hr hlo ls hl
  have hl : lv_has ls 3 [(0, .ref (gad G k0))] := hl
  unfold f_X7_hasWhole
  refine q_ob (fun hk0 => ?_)
  have B4 : ∀ (n : Nat) (x3 : Int32) (x4 : Int32) (ls : Array Slot), lv_has ls 3 [(0, .ref (gad G k0)), (1, .int x3), (2, .int x4)] → Sim G (AG G) 0 0 p l e { frames := 0, cells := 0, slots := 0, locals := 0 } s m args below meth c (fun r : Int => MQ below (QC G (vI r) (σ)) args s 0 0 (AG G)) σ (f_X7_hasWhole_L4 F k0  σ n x3.toInt x4.toInt) (F0 m 4 ls []) := by
    intro n
    induction n with
    | zero =>
      intro x3 x4 ls hl
      exact sim_none
    | succ n ih =>
      intro x3 x4 ls hl
      rw [f_X7_hasWhole_L4]
      refine q_iload_n C dX7_hasWhole_4 rfl (lv_at hl 2 rfl) ?_
      refine q_aload_n C dX7_hasWhole_5 rfl (lv_at hl 0 rfl) ?_
      refine g_7_28 C hk0 kf_X7_257 dX7_hasWhole_6 (fun v5 => ?_)
      refine q_icmp_ge C 38 dX7_hasWhole_9 (by decide) ?_ ?_
      · refine q_iload_n C dX7_hasWhole_38 rfl (lv_at hl 1 rfl) ?_
        exact q_zret C hr hlo dX7_hasWhole_39
      · refine q_iload_n C dX7_hasWhole_12 rfl (lv_at hl 1 rfl) ?_
        refine q_if_ne C 26 dX7_hasWhole_13 (by decide) ?_ ?_
        · refine q_iconst C dX7_hasWhole_26 rfl (by decide) (fun v6 => ?_)
          refine q_goto C 31 dX7_hasWhole_27 (by decide) ?_
          refine q_istore_n C [(1, .int v6), (0, .ref (gad G k0)), (2, .int x4)] dX7_hasWhole_31 rfl hl (by decide) rfl (fun ls hl => ?_)
          refine q_iinc (k := 2) C (fun v7 => [(2, .int v7), (1, .int v6), (0, .ref (gad G k0))]) dX7_hasWhole_32 hl rfl (by decide) (by decide) (fun _ => rfl) (fun v7 ls hl => ?_)
          refine q_goto C 4 dX7_hasWhole_35 (by decide) ?_
          exact ih v6 v7 ls (lv_sub hl [2, 1, 0] rfl)
        · refine q_aload_n C dX7_hasWhole_16 rfl (lv_at hl 0 rfl) ?_
          refine g_7_20 C hk0 kf_X7_49 dX7_hasWhole_17 ?_
          refine q_iload_n C dX7_hasWhole_20 rfl (lv_at hl 2 rfl) ?_
          refine a_ild C (yk_7_20 hk0) (yl_7_20 hk0) dX7_hasWhole_21 (fun v8 => ?_)
          refine q_iconst C dX7_hasWhole_22 rfl (by decide) (fun v9 => ?_)
          refine q_icmp_ne C 30 dX7_hasWhole_23 (by decide) ?_ ?_
          · refine q_iconst C dX7_hasWhole_30 rfl (by decide) (fun v10 => ?_)
            refine q_istore_n C [(1, .int v10), (0, .ref (gad G k0)), (2, .int x4)] dX7_hasWhole_31 rfl hl (by decide) rfl (fun ls hl => ?_)
            refine q_iinc (k := 2) C (fun v11 => [(2, .int v11), (1, .int v10), (0, .ref (gad G k0))]) dX7_hasWhole_32 hl rfl (by decide) (by decide) (fun _ => rfl) (fun v11 ls hl => ?_)
            refine q_goto C 4 dX7_hasWhole_35 (by decide) ?_
            exact ih v10 v11 ls (lv_sub hl [2, 1, 0] rfl)
          · refine q_iconst C dX7_hasWhole_26 rfl (by decide) (fun v12 => ?_)
            refine q_goto C 31 dX7_hasWhole_27 (by decide) ?_
            refine q_istore_n C [(1, .int v12), (0, .ref (gad G k0)), (2, .int x4)] dX7_hasWhole_31 rfl hl (by decide) rfl (fun ls hl => ?_)
            refine q_iinc (k := 2) C (fun v13 => [(2, .int v13), (1, .int v12), (0, .ref (gad G k0))]) dX7_hasWhole_32 hl rfl (by decide) (by decide) (fun _ => rfl) (fun v13 ls hl => ?_)
            refine q_goto C 4 dX7_hasWhole_35 (by decide) ?_
            exact ih v12 v13 ls (lv_sub hl [2, 1, 0] rfl)
  refine q_iconst C dX7_hasWhole_0 rfl (by decide) (fun v1 => ?_)
  refine q_istore_n C [(1, .int v1), (0, .ref (gad G k0))] dX7_hasWhole_1 rfl hl (by decide) rfl (fun ls hl => ?_)
  refine q_iconst C dX7_hasWhole_2 rfl (by decide) (fun v2 => ?_)
  refine q_istore_n C [(2, .int v2), (1, .int v1), (0, .ref (gad G k0))] dX7_hasWhole_3 rfl hl (by decide) rfl (fun ls hl => ?_)
  exact B4 F v1 v2 ls (lv_sub hl [2, 1, 0] rfl)
def f_X7_whyNot (F : Nat) (k0 : Nat) (a1 : Int) (σ : St) : Option (Int) :=
  z_ob 7 k0 <| 
  z_gt 4 fun v1 =>
  if v1 ≤ a1 then (
    z_gt 5 fun v2 =>
    if a1 ≤ v2 then (
      z_gt (σ k0 29) fun v3 =>
      z_gt (-1) fun v4 =>
      if v3 = v4 then (
        z_gt 5 fun v5 =>
        if ¬ a1 = v5 then (
          z_gt 0 fun v6 =>
          some v6)
        else (
          z_c1 (f_X7_hasWhole F k0 σ) fun v7 =>
          if ¬ v7 = 0 then (
            z_gt 0 fun v8 =>
            some v8)
          else (
            z_gt 3 fun v9 =>
            some v9)))
      else (
        z_gt 1 fun v10 =>
        some v10))
    else (
      z_gt (σ k0 29) fun v11 =>
      z_gt (-1) fun v12 =>
      if ¬ v11 = v12 then (
        z_gt 0 fun v13 =>
        some v13)
      else (
        z_gt 2 fun v14 =>
        some v14)))
  else (
    z_gt 0 fun v15 =>
    some v15)
theorem cb_X7_whyNot : CB yX7_whyNot cX7_whyNot 2 (some .int) 1 := ⟨ki_X7_whyNot, kq_X7_whyNot, kn_X7, kc_X7_whyNot, by decide +kernel, by decide +kernel, by decide +kernel⟩
set_option maxRecDepth 20000 in
set_option maxHeartbeats 4000000 in
theorem m_X7_whyNot (l : Launch) (G : GG) (F : Nat) (k0 : Nat) (a1 : Int32) (σ : St) : ∀ r, f_X7_whyNot F k0 a1.toInt σ = some r → MC G l yX7_whyNot cX7_whyNot 2 (some .int) { frames := 1, cells := 0, slots := 0, locals := 22 } [.ref (gad G k0), .int a1] σ (vI r) σ := by
  refine MC_of (own := RX7) (vI) (fun _ => σ) (by decide +kernel) rfl (Nat.le_of_ble_eq_true rfl) ?_
  intro p e s m args below meth c C hr hlo ls hl
  have hl : lv_has ls 2 [(0, .ref (gad G k0)), (1, .int a1)] := hl
  unfold f_X7_whyNot
  refine q_ob (fun hk0 => ?_)
  refine q_iload_n C dX7_whyNot_0 rfl (lv_at hl 1 rfl) ?_
  refine q_iconst C dX7_whyNot_1 rfl (by decide) (fun v1 => ?_)
  refine q_icmp_ge C 7 dX7_whyNot_2 (by decide) ?_ ?_
  · refine q_iload_n C dX7_whyNot_7 rfl (lv_at hl 1 rfl) ?_
    refine q_iconst C dX7_whyNot_8 rfl (by decide) (fun v2 => ?_)
    refine q_icmp_le C 26 dX7_whyNot_9 (by decide) ?_ ?_
    · refine q_aload_n C dX7_whyNot_26 rfl (lv_at hl 0 rfl) ?_
      refine g_7_29 C hk0 kf_X7_270 dX7_whyNot_27 (fun v3 => ?_)
      refine q_iconst C dX7_whyNot_30 rfl (by decide) (fun v4 => ?_)
      refine q_icmp_eq C 36 dX7_whyNot_31 (by decide) ?_ ?_
      · refine q_iload_n C dX7_whyNot_36 rfl (lv_at hl 1 rfl) ?_
        refine q_iconst C dX7_whyNot_37 rfl (by decide) (fun v5 => ?_)
        refine q_icmp_ne C 52 dX7_whyNot_38 (by decide) ?_ ?_
        · refine q_iconst C dX7_whyNot_52 rfl (by decide) (fun v6 => ?_)
          exact q_iret C hr hlo dX7_whyNot_53
        · refine q_aload_n C dX7_whyNot_41 rfl (lv_at hl 0 rfl) ?_
          refine q_c1i C (fun r h => cr_V (As := []) (rest := []) C (m_X7_hasWhole l G F k0 σ r h) cb_X7_hasWhole hk0 (by decide) rfl (cf_7 hk0 _) rfl kl_X7_286 ⟨Nat.le_of_ble_eq_true rfl, Nat.le_of_ble_eq_true rfl⟩ ⟨Nat.zero_le _, Nat.zero_le _⟩ hl.1 rfl (Nat.le_of_ble_eq_true rfl) dX7_whyNot_42 rfl) (fun v7 => ?_)
          refine q_if_ne C 52 dX7_whyNot_45 (by decide) ?_ ?_
          · refine q_iconst C dX7_whyNot_52 rfl (by decide) (fun v8 => ?_)
            exact q_iret C hr hlo dX7_whyNot_53
          · refine q_iconst C dX7_whyNot_48 rfl (by decide) (fun v9 => ?_)
            refine q_goto C 53 dX7_whyNot_49 (by decide) ?_
            exact q_iret C hr hlo dX7_whyNot_53
      · refine q_iconst C dX7_whyNot_34 rfl (by decide) (fun v10 => ?_)
        exact q_iret C hr hlo dX7_whyNot_35
    · refine q_aload_n C dX7_whyNot_12 rfl (lv_at hl 0 rfl) ?_
      refine g_7_29 C hk0 kf_X7_270 dX7_whyNot_13 (fun v11 => ?_)
      refine q_iconst C dX7_whyNot_16 rfl (by decide) (fun v12 => ?_)
      refine q_icmp_ne C 24 dX7_whyNot_17 (by decide) ?_ ?_
      · refine q_iconst C dX7_whyNot_24 rfl (by decide) (fun v13 => ?_)
        exact q_iret C hr hlo dX7_whyNot_25
      · refine q_iconst C dX7_whyNot_20 rfl (by decide) (fun v14 => ?_)
        refine q_goto C 25 dX7_whyNot_21 (by decide) ?_
        exact q_iret C hr hlo dX7_whyNot_25
  · refine q_iconst C dX7_whyNot_5 rfl (by decide) (fun v15 => ?_)
    exact q_iret C hr hlo dX7_whyNot_6
def f_X7_goOn_L35 (F : Nat) (k0 : Nat) (a1 : Int) (a2 : Int)   : Nat → Int → St → Option (St)
  | 0, _, _ => none
  | n + 1, x25, σ =>
    z_c1 (f_X7_cells F k0 σ) fun v26 =>
    if v26 ≤ x25 then (
      some σ)
    else (
      z_gt (σ k0 29) fun v27 =>
      z_gt (-1) fun v28 =>
      if v27 = v28 then (
        z_ck (x25 + 1) fun v29 =>
        f_X7_goOn_L35 F k0 a1 a2 n v29 σ)
      else (
        z_gt 32 fun v30 =>
        z_ck (v30 * a1) fun v31 =>
        z_ck (v31 + x25) fun v32 =>
        z_ix v32 1920 <| z_gt (σ (k0 + 9) v32) fun v33 =>
        if v33 = 0 then (
          z_ck (x25 + 1) fun v34 =>
          f_X7_goOn_L35 F k0 a1 a2 n v34 σ)
        else (
          z_gt (σ k0 29) fun v35 =>
          z_c1 (f_X7_isLeft F k0 v35 x25 σ) fun v36 =>
          if v36 = 0 then (
            z_ck (x25 + 1) fun v37 =>
            f_X7_goOn_L35 F k0 a1 a2 n v37 σ)
          else (
            z_gt 1 fun v38 =>
            z_c1 (f_X7_keep F k0 x25 a1 v38 σ) fun σ12 =>
            z_ck (x25 + 1) fun v39 =>
            f_X7_goOn_L35 F k0 a1 a2 n v39 σ12))))

def f_X7_goOn (F : Nat) (k0 : Nat) (a1 : Int) (a2 : Int) (σ : St) : Option (St) :=
  z_ob 7 k0 <| 
  z_c1 (f_X7_kindOf F k0 a1 σ) fun v1 =>
  z_c1 (f_X7_whyNot F k0 v1 σ) fun v2 =>
  z_ix a1 60 <| z_sg (z_up σ (k0 + 19) a1 v2) fun σ1 =>
  z_ix a1 60 <| z_gt (σ1 (k0 + 19) a1) fun v3 =>
  if v3 ≤ 0 then (
    z_gt 4 fun v4 =>
    if v4 ≤ v1 then (
      z_gt 4 fun v5 =>
      if v1 = v5 then (
        z_gt 4 fun v6 =>
        if ¬ v1 = v6 then (
          z_gt 0 fun v7 =>
          z_c1 (f_X7_begin F k0 a1 v7 σ1) fun σ2 =>
          some σ2)
        else (
          z_gt 1 fun v8 =>
          z_c1 (f_X7_begin F k0 a1 v8 σ1) fun σ3 =>
          some σ3))
      else (
        z_gt 5 fun v9 =>
        if ¬ v1 = v9 then (
          z_gt 6 fun v10 =>
          if ¬ v1 = v10 then (
            z_gt 7 fun v11 =>
            if ¬ v1 = v11 then (
              z_gt 7 fun v12 =>
              if ¬ v1 = v12 then (
                z_gt 2 fun v13 =>
                z_c1 (f_X7_close F k0 a1 v13 σ1) fun σ4 =>
                some σ4)
              else (
                z_gt 1 fun v14 =>
                z_c1 (f_X7_close F k0 a1 v14 σ1) fun σ5 =>
                some σ5))
            else (
              z_gt 32 fun v15 =>
              z_c1 (f_X7_scanOn F k0 v15 a1 a2 σ1) fun σ6 =>
              z_gt 7 fun v16 =>
              if ¬ v1 = v16 then (
                z_gt 2 fun v17 =>
                z_c1 (f_X7_close F k0 a1 v17 σ6) fun σ7 =>
                some σ7)
              else (
                z_gt 1 fun v18 =>
                z_c1 (f_X7_close F k0 a1 v18 σ6) fun σ8 =>
                some σ8)))
          else (
            z_gt 0 fun v19 =>
            z_c1 (f_X7_numberOf F k0 a1 v19 σ1) fun v20 =>
            z_c1 (f_X7_scanOn F k0 v20 a1 a2 σ1) fun σ9 =>
            some σ9))
        else (
          z_gt 4 fun v21 =>
          if ¬ v1 = v21 then (
            z_gt 0 fun v22 =>
            z_c1 (f_X7_begin F k0 a1 v22 σ1) fun σ10 =>
            some σ10)
          else (
            z_gt 1 fun v23 =>
            z_c1 (f_X7_begin F k0 a1 v23 σ1) fun σ11 =>
            some σ11))))
    else (
      z_gt 0 fun v24 =>
      f_X7_goOn_L35 F k0 a1 a2 F v24 σ1))
  else (
    some σ1)
theorem cb_X7_goOn : CB yX7_goOn cX7_goOn 5 none 2 := ⟨ki_X7_goOn, kq_X7_goOn, kn_X7, kc_X7_goOn, by decide +kernel, by decide +kernel, by decide +kernel⟩
set_option maxRecDepth 20000 in
set_option maxHeartbeats 4000000 in
theorem m_X7_goOn (l : Launch) (G : GG) (F : Nat) (k0 : Nat) (a1 : Int32) (a2 : Int32) (σ : St) : ∀ r, f_X7_goOn F k0 a1.toInt a2.toInt σ = some r → MC G l yX7_goOn cX7_goOn 5 none { frames := 4, cells := 0, slots := 0, locals := 91 } [.ref (gad G k0), .int a1, .int a2] σ vV r := by
  refine MC_of (own := RX7) (fun _ => vV) (fun r => r) (by decide +kernel) rfl (Nat.le_of_ble_eq_true rfl) ?_
  intro p e s m args below meth c C hr hlo ls hl
  have hl : lv_has ls 5 [(0, .ref (gad G k0)), (1, .int a1), (2, .int a2)] := hl
  unfold f_X7_goOn
  refine q_ob (fun hk0 => ?_)
  have B35 : ∀ (n : Nat) (x25 : Int32) (σ : St) (ls : Array Slot), lv_has ls 5 [(0, .ref (gad G k0)), (1, .int a1), (4, .int x25)] → Sim G (AG G) 0 0 p l e { frames := 4, cells := 0, slots := 0, locals := 91 } s m args below meth c (fun r : St => MQ below (QC G (vV) (r)) args s 0 0 (AG G)) σ (f_X7_goOn_L35 F k0 a1.toInt a2.toInt   n x25.toInt σ) (F0 m 35 ls []) := by
    intro n
    induction n with
    | zero =>
      intro x25 σ ls hl
      exact sim_none
    | succ n ih =>
      intro x25 σ ls hl
      rw [f_X7_goOn_L35]
      refine q_iload C dX7_goOn_35 (lv_at hl 2 rfl) ?_
      refine q_aload_n C dX7_goOn_37 rfl (lv_at hl 0 rfl) ?_
      refine q_c1i C (fun r h => cr_V (As := []) (rest := [.int x25]) C (m_X7_cells l G F k0 σ r h) cb_X7_cells hk0 (by decide) rfl (cf_7 hk0 _) rfl kl_X7_107 ⟨Nat.le_of_ble_eq_true rfl, Nat.le_of_ble_eq_true rfl⟩ ⟨Nat.zero_le _, Nat.zero_le _⟩ hl.1 rfl (Nat.le_of_ble_eq_true rfl) dX7_goOn_38 rfl) (fun v26 => ?_)
      refine q_icmp_ge C 94 dX7_goOn_41 (by decide) ?_ ?_
      · refine q_goto C 176 dX7_goOn_94 (by decide) ?_
        exact q_vretE C hr hlo dX7_goOn_176
      · refine q_aload_n C dX7_goOn_44 rfl (lv_at hl 0 rfl) ?_
        refine g_7_29 C hk0 kf_X7_270 dX7_goOn_45 (fun v27 => ?_)
        refine q_iconst C dX7_goOn_48 rfl (by decide) (fun v28 => ?_)
        refine q_icmp_eq C 88 dX7_goOn_49 (by decide) ?_ ?_
        · refine q_iinc (k := 2) C (fun v29 => [(4, .int v29), (0, .ref (gad G k0)), (1, .int a1)]) dX7_goOn_88 hl rfl (by decide) (by decide) (fun _ => rfl) (fun v29 ls hl => ?_)
          refine q_goto C 35 dX7_goOn_91 (by decide) ?_
          exact ih v29 σ ls (lv_sub hl [1, 2, 0] rfl)
        · refine q_aload_n C dX7_goOn_52 rfl (lv_at hl 0 rfl) ?_
          refine g_7_17 C hk0 kf_X7_40 dX7_goOn_53 ?_
          refine q_bipush C dX7_goOn_56 rfl (by decide) (fun v30 => ?_)
          refine q_iload_n C dX7_goOn_58 rfl (lv_at hl 1 rfl) ?_
          refine q_imul C dX7_goOn_59 (fun v31 => ?_)
          refine q_iload C dX7_goOn_60 (lv_at hl 2 rfl) ?_
          refine q_iadd C dX7_goOn_62 (fun v32 => ?_)
          refine a_zld C (yk_7_17 hk0) (yl_7_17 hk0) dX7_goOn_63 (fun v33 => ?_)
          refine q_if_eq C 88 dX7_goOn_64 (by decide) ?_ ?_
          · refine q_iinc (k := 2) C (fun v34 => [(4, .int v34), (0, .ref (gad G k0)), (1, .int a1)]) dX7_goOn_88 hl rfl (by decide) (by decide) (fun _ => rfl) (fun v34 ls hl => ?_)
            refine q_goto C 35 dX7_goOn_91 (by decide) ?_
            exact ih v34 σ ls (lv_sub hl [1, 2, 0] rfl)
          · refine q_aload_n C dX7_goOn_67 rfl (lv_at hl 0 rfl) ?_
            refine q_aload_n C dX7_goOn_68 rfl (lv_at hl 0 rfl) ?_
            refine g_7_29 C hk0 kf_X7_270 dX7_goOn_69 (fun v35 => ?_)
            refine q_iload C dX7_goOn_72 (lv_at hl 2 rfl) ?_
            refine q_c1i C (fun r h => cr_V (As := [.int v35, .int x25]) (rest := []) C (m_X7_isLeft l G F k0 v35 x25 σ r h) cb_X7_isLeft hk0 (by decide) rfl (cf_7 hk0 _) rfl kl_X7_273 ⟨Nat.le_of_ble_eq_true rfl, Nat.le_of_ble_eq_true rfl⟩ ⟨Nat.zero_le _, Nat.zero_le _⟩ hl.1 rfl (Nat.le_of_ble_eq_true rfl) dX7_goOn_74 rfl) (fun v36 => ?_)
            refine q_if_eq C 88 dX7_goOn_77 (by decide) ?_ ?_
            · refine q_iinc (k := 2) C (fun v37 => [(4, .int v37), (0, .ref (gad G k0)), (1, .int a1)]) dX7_goOn_88 hl rfl (by decide) (by decide) (fun _ => rfl) (fun v37 ls hl => ?_)
              refine q_goto C 35 dX7_goOn_91 (by decide) ?_
              exact ih v37 σ ls (lv_sub hl [1, 2, 0] rfl)
            · refine q_aload_n C dX7_goOn_80 rfl (lv_at hl 0 rfl) ?_
              refine q_iload C dX7_goOn_81 (lv_at hl 2 rfl) ?_
              refine q_iload_n C dX7_goOn_83 rfl (lv_at hl 1 rfl) ?_
              refine q_iconst C dX7_goOn_84 rfl (by decide) (fun v38 => ?_)
              refine q_cv C (fun r h => cr_V (As := [.int x25, .int a1, .int v38]) (rest := []) C (m_X7_keep l G F k0 x25 a1 v38 σ r h) cb_X7_keep hk0 (by decide) rfl (cf_7 hk0 _) rfl kl_X7_279 ⟨Nat.le_of_ble_eq_true rfl, Nat.le_of_ble_eq_true rfl⟩ ⟨Nat.zero_le _, Nat.zero_le _⟩ hl.1 rfl (Nat.le_of_ble_eq_true rfl) dX7_goOn_85 rfl) (fun σ12 => ?_)
              refine q_iinc (k := 2) C (fun v39 => [(4, .int v39), (0, .ref (gad G k0)), (1, .int a1)]) dX7_goOn_88 hl rfl (by decide) (by decide) (fun _ => rfl) (fun v39 ls hl => ?_)
              refine q_goto C 35 dX7_goOn_91 (by decide) ?_
              exact ih v39 σ12 ls (lv_sub hl [1, 2, 0] rfl)
  refine q_aload_n C dX7_goOn_0 rfl (lv_at hl 0 rfl) ?_
  refine q_iload_n C dX7_goOn_1 rfl (lv_at hl 1 rfl) ?_
  refine q_c1i C (fun r h => cr_V (As := [.int a1]) (rest := []) C (m_X7_kindOf l G F k0 a1 σ r h) cb_X7_kindOf hk0 (by decide) rfl (cf_7 hk0 _) rfl kl_X7_118 ⟨Nat.le_of_ble_eq_true rfl, Nat.le_of_ble_eq_true rfl⟩ ⟨Nat.zero_le _, Nat.zero_le _⟩ hl.1 rfl (Nat.le_of_ble_eq_true rfl) dX7_goOn_2 rfl) (fun v1 => ?_)
  refine q_istore_n C [(3, .int v1), (0, .ref (gad G k0)), (1, .int a1), (2, .int a2)] dX7_goOn_5 rfl hl (by decide) rfl (fun ls hl => ?_)
  refine q_aload_n C dX7_goOn_6 rfl (lv_at hl 1 rfl) ?_
  refine g_7_27 C hk0 kf_X7_70 dX7_goOn_7 ?_
  refine q_iload_n C dX7_goOn_10 rfl (lv_at hl 2 rfl) ?_
  refine q_aload_n C dX7_goOn_11 rfl (lv_at hl 1 rfl) ?_
  refine q_iload_n C dX7_goOn_12 rfl (lv_at hl 0 rfl) ?_
  refine q_c1i C (fun r h => cr_V (As := [.int v1]) (rest := [.int a1, .ref (gad G (k0 + 19))]) C (m_X7_whyNot l G F k0 v1 σ r h) cb_X7_whyNot hk0 (by decide) rfl (cf_7 hk0 _) rfl kl_X7_289 ⟨Nat.le_of_ble_eq_true rfl, Nat.le_of_ble_eq_true rfl⟩ ⟨Nat.zero_le _, Nat.zero_le _⟩ hl.1 rfl (Nat.le_of_ble_eq_true rfl) dX7_goOn_13 rfl) (fun v2 => ?_)
  refine a_ist C (yk_7_27 hk0) (yl_7_27 hk0) dX7_goOn_16 (q_sg (fun σ1 => ?_))
  refine q_aload_n C dX7_goOn_17 rfl (lv_at hl 1 rfl) ?_
  refine g_7_27 C hk0 kf_X7_70 dX7_goOn_18 ?_
  refine q_iload_n C dX7_goOn_21 rfl (lv_at hl 2 rfl) ?_
  refine a_ild C (yk_7_27 hk0) (yl_7_27 hk0) dX7_goOn_22 (fun v3 => ?_)
  refine q_if_le C 27 dX7_goOn_23 (by decide) ?_ ?_
  · refine q_iload_n C dX7_goOn_27 rfl (lv_at hl 0 rfl) ?_
    refine q_iconst C dX7_goOn_28 rfl (by decide) (fun v4 => ?_)
    refine q_icmp_ge C 97 dX7_goOn_29 (by decide) ?_ ?_
    · refine q_iload_n C dX7_goOn_97 rfl (lv_at hl 0 rfl) ?_
      refine q_iconst C dX7_goOn_98 rfl (by decide) (fun v5 => ?_)
      refine q_icmp_eq C 107 dX7_goOn_99 (by decide) ?_ ?_
      · refine q_aload_n C dX7_goOn_107 rfl (lv_at hl 1 rfl) ?_
        refine q_iload_n C dX7_goOn_108 rfl (lv_at hl 2 rfl) ?_
        refine q_iload_n C dX7_goOn_109 rfl (lv_at hl 0 rfl) ?_
        refine q_iconst C dX7_goOn_110 rfl (by decide) (fun v6 => ?_)
        refine q_icmp_ne C 118 dX7_goOn_111 (by decide) ?_ ?_
        · refine q_iconst C dX7_goOn_118 rfl (by decide) (fun v7 => ?_)
          refine q_cv C (fun r h => cr_V (As := [.int a1, .int v7]) (rest := []) C (m_X7_begin l G F k0 a1 v7 σ1 r h) cb_X7_begin hk0 (by decide) rfl (cf_7 hk0 _) rfl kl_X7_292 ⟨Nat.le_of_ble_eq_true rfl, Nat.le_of_ble_eq_true rfl⟩ ⟨Nat.zero_le _, Nat.zero_le _⟩ hl.1 rfl (Nat.le_of_ble_eq_true rfl) dX7_goOn_119 rfl) (fun σ2 => ?_)
          refine q_goto C 176 dX7_goOn_122 (by decide) ?_
          exact q_vretE C hr hlo dX7_goOn_176
        · refine q_iconst C dX7_goOn_114 rfl (by decide) (fun v8 => ?_)
          refine q_goto C 119 dX7_goOn_115 (by decide) ?_
          refine q_cv C (fun r h => cr_V (As := [.int a1, .int v8]) (rest := []) C (m_X7_begin l G F k0 a1 v8 σ1 r h) cb_X7_begin hk0 (by decide) rfl (cf_7 hk0 _) rfl kl_X7_292 ⟨Nat.le_of_ble_eq_true rfl, Nat.le_of_ble_eq_true rfl⟩ ⟨Nat.zero_le _, Nat.zero_le _⟩ hl.1 rfl (Nat.le_of_ble_eq_true rfl) dX7_goOn_119 rfl) (fun σ3 => ?_)
          refine q_goto C 176 dX7_goOn_122 (by decide) ?_
          exact q_vretE C hr hlo dX7_goOn_176
      · refine q_iload_n C dX7_goOn_102 rfl (lv_at hl 0 rfl) ?_
        refine q_iconst C dX7_goOn_103 rfl (by decide) (fun v9 => ?_)
        refine q_icmp_ne C 125 dX7_goOn_104 (by decide) ?_ ?_
        · refine q_iload_n C dX7_goOn_125 rfl (lv_at hl 0 rfl) ?_
          refine q_bipush C dX7_goOn_126 rfl (by decide) (fun v10 => ?_)
          refine q_icmp_ne C 146 dX7_goOn_128 (by decide) ?_ ?_
          · refine q_iload_n C dX7_goOn_146 rfl (lv_at hl 0 rfl) ?_
            refine q_bipush C dX7_goOn_147 rfl (by decide) (fun v11 => ?_)
            refine q_icmp_ne C 160 dX7_goOn_149 (by decide) ?_ ?_
            · refine q_aload_n C dX7_goOn_160 rfl (lv_at hl 1 rfl) ?_
              refine q_iload_n C dX7_goOn_161 rfl (lv_at hl 2 rfl) ?_
              refine q_iload_n C dX7_goOn_162 rfl (lv_at hl 0 rfl) ?_
              refine q_bipush C dX7_goOn_163 rfl (by decide) (fun v12 => ?_)
              refine q_icmp_ne C 172 dX7_goOn_165 (by decide) ?_ ?_
              · refine q_iconst C dX7_goOn_172 rfl (by decide) (fun v13 => ?_)
                refine q_cv C (fun r h => cr_V (As := [.int a1, .int v13]) (rest := []) C (m_X7_close l G F k0 a1 v13 σ1 r h) cb_X7_close hk0 (by decide) rfl (cf_7 hk0 _) rfl kl_X7_300 ⟨Nat.le_of_ble_eq_true rfl, Nat.le_of_ble_eq_true rfl⟩ ⟨Nat.zero_le _, Nat.zero_le _⟩ hl.1 rfl (Nat.le_of_ble_eq_true rfl) dX7_goOn_173 rfl) (fun σ4 => ?_)
                exact q_vretE C hr hlo dX7_goOn_176
              · refine q_iconst C dX7_goOn_168 rfl (by decide) (fun v14 => ?_)
                refine q_goto C 173 dX7_goOn_169 (by decide) ?_
                refine q_cv C (fun r h => cr_V (As := [.int a1, .int v14]) (rest := []) C (m_X7_close l G F k0 a1 v14 σ1 r h) cb_X7_close hk0 (by decide) rfl (cf_7 hk0 _) rfl kl_X7_300 ⟨Nat.le_of_ble_eq_true rfl, Nat.le_of_ble_eq_true rfl⟩ ⟨Nat.zero_le _, Nat.zero_le _⟩ hl.1 rfl (Nat.le_of_ble_eq_true rfl) dX7_goOn_173 rfl) (fun σ5 => ?_)
                exact q_vretE C hr hlo dX7_goOn_176
            · refine q_aload_n C dX7_goOn_152 rfl (lv_at hl 1 rfl) ?_
              refine q_bipush C dX7_goOn_153 rfl (by decide) (fun v15 => ?_)
              refine q_iload_n C dX7_goOn_155 rfl (lv_at hl 2 rfl) ?_
              refine q_iload_n C dX7_goOn_156 rfl (lv_at hl 3 rfl) ?_
              refine q_cv C (fun r h => cr_V (As := [.int v15, .int a1, .int a2]) (rest := []) C (m_X7_scanOn l G F k0 v15 a1 a2 σ1 r h) cb_X7_scanOn hk0 (by decide) rfl (cf_7 hk0 _) rfl kl_X7_296 ⟨Nat.le_of_ble_eq_true rfl, Nat.le_of_ble_eq_true rfl⟩ ⟨Nat.zero_le _, Nat.zero_le _⟩ hl.1 rfl (Nat.le_of_ble_eq_true rfl) dX7_goOn_157 rfl) (fun σ6 => ?_)
              refine q_aload_n C dX7_goOn_160 rfl (lv_at hl 1 rfl) ?_
              refine q_iload_n C dX7_goOn_161 rfl (lv_at hl 2 rfl) ?_
              refine q_iload_n C dX7_goOn_162 rfl (lv_at hl 0 rfl) ?_
              refine q_bipush C dX7_goOn_163 rfl (by decide) (fun v16 => ?_)
              refine q_icmp_ne C 172 dX7_goOn_165 (by decide) ?_ ?_
              · refine q_iconst C dX7_goOn_172 rfl (by decide) (fun v17 => ?_)
                refine q_cv C (fun r h => cr_V (As := [.int a1, .int v17]) (rest := []) C (m_X7_close l G F k0 a1 v17 σ6 r h) cb_X7_close hk0 (by decide) rfl (cf_7 hk0 _) rfl kl_X7_300 ⟨Nat.le_of_ble_eq_true rfl, Nat.le_of_ble_eq_true rfl⟩ ⟨Nat.zero_le _, Nat.zero_le _⟩ hl.1 rfl (Nat.le_of_ble_eq_true rfl) dX7_goOn_173 rfl) (fun σ7 => ?_)
                exact q_vretE C hr hlo dX7_goOn_176
              · refine q_iconst C dX7_goOn_168 rfl (by decide) (fun v18 => ?_)
                refine q_goto C 173 dX7_goOn_169 (by decide) ?_
                refine q_cv C (fun r h => cr_V (As := [.int a1, .int v18]) (rest := []) C (m_X7_close l G F k0 a1 v18 σ6 r h) cb_X7_close hk0 (by decide) rfl (cf_7 hk0 _) rfl kl_X7_300 ⟨Nat.le_of_ble_eq_true rfl, Nat.le_of_ble_eq_true rfl⟩ ⟨Nat.zero_le _, Nat.zero_le _⟩ hl.1 rfl (Nat.le_of_ble_eq_true rfl) dX7_goOn_173 rfl) (fun σ8 => ?_)
                exact q_vretE C hr hlo dX7_goOn_176
          · refine q_aload_n C dX7_goOn_131 rfl (lv_at hl 1 rfl) ?_
            refine q_aload_n C dX7_goOn_132 rfl (lv_at hl 1 rfl) ?_
            refine q_iload_n C dX7_goOn_133 rfl (lv_at hl 2 rfl) ?_
            refine q_iconst C dX7_goOn_134 rfl (by decide) (fun v19 => ?_)
            refine q_c1i C (fun r h => cr_V (As := [.int a1, .int v19]) (rest := [.ref (gad G k0)]) C (m_X7_numberOf l G F k0 a1 v19 σ1 r h) cb_X7_numberOf hk0 (by decide) rfl (cf_7 hk0 _) rfl kl_X7_246 ⟨Nat.le_of_ble_eq_true rfl, Nat.le_of_ble_eq_true rfl⟩ ⟨Nat.zero_le _, Nat.zero_le _⟩ hl.1 rfl (Nat.le_of_ble_eq_true rfl) dX7_goOn_135 rfl) (fun v20 => ?_)
            refine q_iload_n C dX7_goOn_138 rfl (lv_at hl 2 rfl) ?_
            refine q_iload_n C dX7_goOn_139 rfl (lv_at hl 3 rfl) ?_
            refine q_cv C (fun r h => cr_V (As := [.int v20, .int a1, .int a2]) (rest := []) C (m_X7_scanOn l G F k0 v20 a1 a2 σ1 r h) cb_X7_scanOn hk0 (by decide) rfl (cf_7 hk0 _) rfl kl_X7_296 ⟨Nat.le_of_ble_eq_true rfl, Nat.le_of_ble_eq_true rfl⟩ ⟨Nat.zero_le _, Nat.zero_le _⟩ hl.1 rfl (Nat.le_of_ble_eq_true rfl) dX7_goOn_140 rfl) (fun σ9 => ?_)
            refine q_goto C 176 dX7_goOn_143 (by decide) ?_
            exact q_vretE C hr hlo dX7_goOn_176
        · refine q_aload_n C dX7_goOn_107 rfl (lv_at hl 1 rfl) ?_
          refine q_iload_n C dX7_goOn_108 rfl (lv_at hl 2 rfl) ?_
          refine q_iload_n C dX7_goOn_109 rfl (lv_at hl 0 rfl) ?_
          refine q_iconst C dX7_goOn_110 rfl (by decide) (fun v21 => ?_)
          refine q_icmp_ne C 118 dX7_goOn_111 (by decide) ?_ ?_
          · refine q_iconst C dX7_goOn_118 rfl (by decide) (fun v22 => ?_)
            refine q_cv C (fun r h => cr_V (As := [.int a1, .int v22]) (rest := []) C (m_X7_begin l G F k0 a1 v22 σ1 r h) cb_X7_begin hk0 (by decide) rfl (cf_7 hk0 _) rfl kl_X7_292 ⟨Nat.le_of_ble_eq_true rfl, Nat.le_of_ble_eq_true rfl⟩ ⟨Nat.zero_le _, Nat.zero_le _⟩ hl.1 rfl (Nat.le_of_ble_eq_true rfl) dX7_goOn_119 rfl) (fun σ10 => ?_)
            refine q_goto C 176 dX7_goOn_122 (by decide) ?_
            exact q_vretE C hr hlo dX7_goOn_176
          · refine q_iconst C dX7_goOn_114 rfl (by decide) (fun v23 => ?_)
            refine q_goto C 119 dX7_goOn_115 (by decide) ?_
            refine q_cv C (fun r h => cr_V (As := [.int a1, .int v23]) (rest := []) C (m_X7_begin l G F k0 a1 v23 σ1 r h) cb_X7_begin hk0 (by decide) rfl (cf_7 hk0 _) rfl kl_X7_292 ⟨Nat.le_of_ble_eq_true rfl, Nat.le_of_ble_eq_true rfl⟩ ⟨Nat.zero_le _, Nat.zero_le _⟩ hl.1 rfl (Nat.le_of_ble_eq_true rfl) dX7_goOn_119 rfl) (fun σ11 => ?_)
            refine q_goto C 176 dX7_goOn_122 (by decide) ?_
            exact q_vretE C hr hlo dX7_goOn_176
    · refine q_iconst C dX7_goOn_32 rfl (by decide) (fun v24 => ?_)
      refine q_istore C [(4, .int v24), (3, .int v1), (0, .ref (gad G k0)), (1, .int a1), (2, .int a2)] dX7_goOn_33 hl (by decide) rfl (fun ls hl => ?_)
      exact B35 F v24 σ1 ls (lv_sub hl [2, 3, 0] rfl)
  · exact q_vretE C hr hlo dX7_goOn_26
def f_X7_layAll_L16 (F : Nat) (k0 : Nat) (a1 : Int)   : Nat → Int → St → Option (St)
  | 0, _, _ => none
  | n + 1, x4, σ =>
    z_c1 (f_X7_events F k0 σ) fun v5 =>
    if v5 ≤ x4 then (
      some σ)
    else (
      z_ix x4 60 <| z_gt (σ (k0 + 7) x4) fun v6 =>
      if ¬ v6 = 0 then (
        z_ck (x4 + 1) fun v7 =>
        f_X7_layAll_L16 F k0 a1 n v7 σ)
      else (
        z_c1 (f_X7_goOn F k0 x4 a1 σ) fun σ4 =>
        z_ck (x4 + 1) fun v8 =>
        f_X7_layAll_L16 F k0 a1 n v8 σ4))

def f_X7_layAll (F : Nat) (k0 : Nat) (a1 : Int) (σ : St) : Option (St) :=
  z_ob 7 k0 <| 
  z_c1 (f_X7_layValues F k0 σ) fun σ1 =>
  z_gt 0 fun v1 =>
  z_sg (z_up σ1 k0 28 v1) fun σ2 =>
  z_gt (-1) fun v2 =>
  z_sg (z_up σ2 k0 29 v2) fun σ3 =>
  z_gt 0 fun v3 =>
  f_X7_layAll_L16 F k0 a1 F v3 σ3
theorem cb_X7_layAll : CB yX7_layAll cX7_layAll 3 none 1 := ⟨ki_X7_layAll, kq_X7_layAll, kn_X7, kc_X7_layAll, by decide +kernel, by decide +kernel, by decide +kernel⟩
set_option maxRecDepth 20000 in
set_option maxHeartbeats 4000000 in
theorem m_X7_layAll (l : Launch) (G : GG) (F : Nat) (k0 : Nat) (a1 : Int32) (σ : St) : ∀ r, f_X7_layAll F k0 a1.toInt σ = some r → MC G l yX7_layAll cX7_layAll 3 none { frames := 5, cells := 0, slots := 0, locals := 115 } [.ref (gad G k0), .int a1] σ vV r := by
  refine MC_of (own := RX7) (fun _ => vV) (fun r => r) (by decide +kernel) rfl (Nat.le_of_ble_eq_true rfl) ?_
  intro p e s m args below meth c C hr hlo ls hl
  have hl : lv_has ls 3 [(0, .ref (gad G k0)), (1, .int a1)] := hl
  unfold f_X7_layAll
  refine q_ob (fun hk0 => ?_)
  have B16 : ∀ (n : Nat) (x4 : Int32) (σ : St) (ls : Array Slot), lv_has ls 3 [(0, .ref (gad G k0)), (1, .int a1), (2, .int x4)] → Sim G (AG G) 0 0 p l e { frames := 5, cells := 0, slots := 0, locals := 115 } s m args below meth c (fun r : St => MQ below (QC G (vV) (r)) args s 0 0 (AG G)) σ (f_X7_layAll_L16 F k0 a1.toInt   n x4.toInt σ) (F0 m 16 ls []) := by
    intro n
    induction n with
    | zero =>
      intro x4 σ ls hl
      exact sim_none
    | succ n ih =>
      intro x4 σ ls hl
      rw [f_X7_layAll_L16]
      refine q_iload_n C dX7_layAll_16 rfl (lv_at hl 2 rfl) ?_
      refine q_aload_n C dX7_layAll_17 rfl (lv_at hl 0 rfl) ?_
      refine q_c1i C (fun r h => cr_V (As := []) (rest := [.int x4]) C (m_X7_events l G F k0 σ r h) cb_X7_events hk0 (by decide) rfl (cf_7 hk0 _) rfl kl_X7_111 ⟨Nat.le_of_ble_eq_true rfl, Nat.le_of_ble_eq_true rfl⟩ ⟨Nat.zero_le _, Nat.zero_le _⟩ hl.1 rfl (Nat.le_of_ble_eq_true rfl) dX7_layAll_18 rfl) (fun v5 => ?_)
      refine q_icmp_ge C 45 dX7_layAll_21 (by decide) ?_ ?_
      · exact q_vretE C hr hlo dX7_layAll_45
      · refine q_aload_n C dX7_layAll_24 rfl (lv_at hl 0 rfl) ?_
        refine g_7_15 C hk0 kf_X7_34 dX7_layAll_25 ?_
        refine q_iload_n C dX7_layAll_28 rfl (lv_at hl 2 rfl) ?_
        refine a_zld C (yk_7_15 hk0) (yl_7_15 hk0) dX7_layAll_29 (fun v6 => ?_)
        refine q_if_ne C 39 dX7_layAll_30 (by decide) ?_ ?_
        · refine q_iinc (k := 2) C (fun v7 => [(2, .int v7), (0, .ref (gad G k0)), (1, .int a1)]) dX7_layAll_39 hl rfl (by decide) (by decide) (fun _ => rfl) (fun v7 ls hl => ?_)
          refine q_goto C 16 dX7_layAll_42 (by decide) ?_
          exact ih v7 σ ls (lv_sub hl [1, 2, 0] rfl)
        · refine q_aload_n C dX7_layAll_33 rfl (lv_at hl 0 rfl) ?_
          refine q_iload_n C dX7_layAll_34 rfl (lv_at hl 2 rfl) ?_
          refine q_iload_n C dX7_layAll_35 rfl (lv_at hl 1 rfl) ?_
          refine q_cv C (fun r h => cr_V (As := [.int x4, .int a1]) (rest := []) C (m_X7_goOn l G F k0 x4 a1 σ r h) cb_X7_goOn hk0 (by decide) rfl (cf_7 hk0 _) rfl kl_X7_307 ⟨Nat.le_of_ble_eq_true rfl, Nat.le_of_ble_eq_true rfl⟩ ⟨Nat.zero_le _, Nat.zero_le _⟩ hl.1 rfl (Nat.le_of_ble_eq_true rfl) dX7_layAll_36 rfl) (fun σ4 => ?_)
          refine q_iinc (k := 2) C (fun v8 => [(2, .int v8), (0, .ref (gad G k0)), (1, .int a1)]) dX7_layAll_39 hl rfl (by decide) (by decide) (fun _ => rfl) (fun v8 ls hl => ?_)
          refine q_goto C 16 dX7_layAll_42 (by decide) ?_
          exact ih v8 σ4 ls (lv_sub hl [1, 2, 0] rfl)
  refine q_aload_n C dX7_layAll_0 rfl (lv_at hl 0 rfl) ?_
  refine q_cv C (fun r h => cr_V (As := []) (rest := []) C (m_X7_layValues l G F k0 σ r h) cb_X7_layValues hk0 (by decide) rfl (cf_7 hk0 _) rfl kl_X7_304 ⟨Nat.le_of_ble_eq_true rfl, Nat.le_of_ble_eq_true rfl⟩ ⟨Nat.zero_le _, Nat.zero_le _⟩ hl.1 rfl (Nat.le_of_ble_eq_true rfl) dX7_layAll_1 rfl) (fun σ1 => ?_)
  refine q_aload_n C dX7_layAll_4 rfl (lv_at hl 0 rfl) ?_
  refine q_iconst C dX7_layAll_5 rfl (by decide) (fun v1 => ?_)
  refine p_7_28 C hk0 kf_X7_257 dX7_layAll_6 (q_sg (fun σ2 => ?_))
  refine q_aload_n C dX7_layAll_9 rfl (lv_at hl 0 rfl) ?_
  refine q_iconst C dX7_layAll_10 rfl (by decide) (fun v2 => ?_)
  refine p_7_29 C hk0 kf_X7_270 dX7_layAll_11 (q_sg (fun σ3 => ?_))
  refine q_iconst C dX7_layAll_14 rfl (by decide) (fun v3 => ?_)
  refine q_istore_n C [(2, .int v3), (0, .ref (gad G k0)), (1, .int a1)] dX7_layAll_15 rfl hl (by decide) rfl (fun ls hl => ?_)
  exact B16 F v3 σ3 ls (lv_sub hl [1, 2, 0] rfl)
def f_X7_asks (F : Nat) (k0 : Nat) (σ : St) : Option (Int × St) :=
  z_ob 7 k0 <| 
  z_c1 (f_X7_nothingGone F k0 σ) fun σ1 =>
  z_gt 1 fun v1 =>
  z_ix v1 246 <| z_gt (σ1 (k0 + 1) v1) fun v2 =>
  z_c1 (f_X7_layAll F k0 v2 σ1) fun σ2 =>
  z_c1 (f_X7_isStore F k0 σ2) fun v3 =>
  z_bo v3 <| some (v3, σ2)
theorem cb_X7_asks : CB yX7_asks cX7_asks 1 (some .boolean) 0 := ⟨ki_X7_asks, kq_X7_asks, kn_X7, kc_X7_asks, by decide +kernel, by decide +kernel, by decide +kernel⟩
set_option maxRecDepth 20000 in
set_option maxHeartbeats 4000000 in
theorem m_X7_asks (l : Launch) (G : GG) (F : Nat) (k0 : Nat) (σ : St) : ∀ r, f_X7_asks F k0 σ = some r → MC G l yX7_asks cX7_asks 1 (some .boolean) { frames := 6, cells := 0, slots := 0, locals := 137 } [.ref (gad G k0)] σ (vI r.1) r.2 := by
  refine MC_of (own := RX7) (fun r : Int × St => vI r.1) (fun r : Int × St => r.2) (by decide +kernel) rfl (Nat.le_of_ble_eq_true rfl) ?_
  intro p e s m args below meth c C hr hlo ls hl
  have hl : lv_has ls 1 [(0, .ref (gad G k0))] := hl
  unfold f_X7_asks
  refine q_ob (fun hk0 => ?_)
  refine q_aload_n C dX7_asks_0 rfl (lv_at hl 0 rfl) ?_
  refine q_cv C (fun r h => cr_V (As := []) (rest := []) C (m_X7_nothingGone l G F k0 σ r h) cb_X7_nothingGone hk0 (by decide) rfl (cf_7 hk0 _) rfl kl_X7_310 ⟨Nat.le_of_ble_eq_true rfl, Nat.le_of_ble_eq_true rfl⟩ ⟨Nat.zero_le _, Nat.zero_le _⟩ hl.1 rfl (Nat.le_of_ble_eq_true rfl) dX7_asks_1 rfl) (fun σ1 => ?_)
  refine q_aload_n C dX7_asks_4 rfl (lv_at hl 0 rfl) ?_
  refine q_aload_n C dX7_asks_5 rfl (lv_at hl 0 rfl) ?_
  refine g_7_1 C hk0 kf_X7_9 dX7_asks_6 ?_
  refine q_iconst C dX7_asks_9 rfl (by decide) (fun v1 => ?_)
  refine a_ild C (yk_7_1 hk0) (yl_7_1 hk0) dX7_asks_10 (fun v2 => ?_)
  refine q_cv C (fun r h => cr_V (As := [.int v2]) (rest := []) C (m_X7_layAll l G F k0 v2 σ1 r h) cb_X7_layAll hk0 (by decide) rfl (cf_7 hk0 _) rfl kl_X7_313 ⟨Nat.le_of_ble_eq_true rfl, Nat.le_of_ble_eq_true rfl⟩ ⟨Nat.zero_le _, Nat.zero_le _⟩ hl.1 rfl (Nat.le_of_ble_eq_true rfl) dX7_asks_11 rfl) (fun σ2 => ?_)
  refine q_aload_n C dX7_asks_14 rfl (lv_at hl 0 rfl) ?_
  refine q_c1i C (fun r h => cr_V (As := []) (rest := []) C (m_X7_isStore l G F k0 σ2 r h) cb_X7_isStore hk0 (by decide) rfl (cf_7 hk0 _) rfl kl_X7_114 ⟨Nat.le_of_ble_eq_true rfl, Nat.le_of_ble_eq_true rfl⟩ ⟨Nat.zero_le _, Nat.zero_le _⟩ hl.1 rfl (Nat.le_of_ble_eq_true rfl) dX7_asks_15 rfl) (fun v3 => ?_)
  exact q_zretE C hr hlo dX7_asks_18
def f_X7_asksAt (F : Nat) (k0 : Nat) (a1 : Int) (σ : St) : Option (Int × St) :=
  z_ob 7 k0 <| 
  z_c2 (f_X7_asks F k0 σ) fun v1 σ1 =>
  if v1 = 0 then (
    z_gt 0 fun v2 =>
    z_bo v2 <| some (v2, σ1))
  else (
    z_gt a1 fun v3 =>
    z_c1 (f_X7_isTick F k0 v3 σ1) fun v4 =>
    if v4 = 0 then (
      z_gt 0 fun v5 =>
      z_bo v5 <| some (v5, σ1))
    else (
      z_gt 1 fun v6 =>
      z_bo v6 <| some (v6, σ1)))
theorem cb_X7_asksAt : CB yX7_asksAt cX7_asksAt 2 (some .boolean) 1 := ⟨ki_X7_asksAt, kq_X7_asksAt, kn_X7, kc_X7_asksAt, by decide +kernel, by decide +kernel, by decide +kernel⟩
set_option maxRecDepth 20000 in
set_option maxHeartbeats 4000000 in
theorem m_X7_asksAt (l : Launch) (G : GG) (F : Nat) (k0 : Nat) (a1 : Int32) (σ : St) : ∀ r, f_X7_asksAt F k0 a1.toInt σ = some r → MC G l yX7_asksAt cX7_asksAt 2 (some .boolean) { frames := 7, cells := 0, slots := 0, locals := 157 } [.ref (gad G k0), .int a1] σ (vI r.1) r.2 := by
  refine MC_of (own := RX7) (fun r : Int × St => vI r.1) (fun r : Int × St => r.2) (by decide +kernel) rfl (Nat.le_of_ble_eq_true rfl) ?_
  intro p e s m args below meth c C hr hlo ls hl
  have hl : lv_has ls 2 [(0, .ref (gad G k0)), (1, .int a1)] := hl
  unfold f_X7_asksAt
  refine q_ob (fun hk0 => ?_)
  refine q_aload_n C dX7_asksAt_0 rfl (lv_at hl 0 rfl) ?_
  refine q_c2i C (fun r h => cr_V (As := []) (rest := []) C (m_X7_asks l G F k0 σ r h) cb_X7_asks hk0 (by decide) rfl (cf_7 hk0 _) rfl kl_X7_316 ⟨Nat.le_of_ble_eq_true rfl, Nat.le_of_ble_eq_true rfl⟩ ⟨Nat.zero_le _, Nat.zero_le _⟩ hl.1 rfl (Nat.le_of_ble_eq_true rfl) dX7_asksAt_1 rfl) (fun v1 σ1 => ?_)
  refine q_if_eq C 20 dX7_asksAt_4 (by decide) ?_ ?_
  · refine q_iconst C dX7_asksAt_20 rfl (by decide) (fun v2 => ?_)
    exact q_zretE C hr hlo dX7_asksAt_21
  · refine q_aload_n C dX7_asksAt_7 rfl (lv_at hl 0 rfl) ?_
    refine q_iload_n C dX7_asksAt_8 rfl (lv_at hl 1 rfl) ?_
    refine q_i2l C dX7_asksAt_9 (fun v3 => ?_)
    refine q_c1i C (fun r h => cr_V (As := [.long v3]) (rest := []) C (m_X7_isTick l G F k0 v3 σ1 r h) cb_X7_isTick hk0 (by decide) rfl (cf_7 hk0 _) rfl kl_X7_319 ⟨Nat.le_of_ble_eq_true rfl, Nat.le_of_ble_eq_true rfl⟩ ⟨Nat.zero_le _, Nat.zero_le _⟩ hl.1 rfl (Nat.le_of_ble_eq_true rfl) dX7_asksAt_10 rfl) (fun v4 => ?_)
    refine q_if_eq C 20 dX7_asksAt_13 (by decide) ?_ ?_
    · refine q_iconst C dX7_asksAt_20 rfl (by decide) (fun v5 => ?_)
      exact q_zretE C hr hlo dX7_asksAt_21
    · refine q_iconst C dX7_asksAt_16 rfl (by decide) (fun v6 => ?_)
      refine q_goto C 21 dX7_asksAt_17 (by decide) ?_
      exact q_zretE C hr hlo dX7_asksAt_21
def f_X7_asksCell (F : Nat) (k0 : Nat) (a1 : Int) (a2 : Int) (σ : St) : Option (Int × St) :=
  z_ob 7 k0 <| 
  z_c2 (f_X7_asksAt F k0 a2 σ) fun v1 σ1 =>
  if v1 = 0 then (
    z_gt 0 fun v2 =>
    z_bo v2 <| some (v2, σ1))
  else (
    z_gt a1 fun v3 =>
    z_c1 (f_X7_isCell F k0 v3 σ1) fun v4 =>
    if v4 = 0 then (
      z_gt 0 fun v5 =>
      z_bo v5 <| some (v5, σ1))
    else (
      z_gt 1 fun v6 =>
      z_bo v6 <| some (v6, σ1)))
theorem cb_X7_asksCell : CB yX7_asksCell cX7_asksCell 3 (some .boolean) 2 := ⟨ki_X7_asksCell, kq_X7_asksCell, kn_X7, kc_X7_asksCell, by decide +kernel, by decide +kernel, by decide +kernel⟩
set_option maxRecDepth 20000 in
set_option maxHeartbeats 4000000 in
theorem m_X7_asksCell (l : Launch) (G : GG) (F : Nat) (k0 : Nat) (a1 : Int32) (a2 : Int32) (σ : St) : ∀ r, f_X7_asksCell F k0 a1.toInt a2.toInt σ = some r → MC G l yX7_asksCell cX7_asksCell 3 (some .boolean) { frames := 8, cells := 0, slots := 0, locals := 178 } [.ref (gad G k0), .int a1, .int a2] σ (vI r.1) r.2 := by
  refine MC_of (own := RX7) (fun r : Int × St => vI r.1) (fun r : Int × St => r.2) (by decide +kernel) rfl (Nat.le_of_ble_eq_true rfl) ?_
  intro p e s m args below meth c C hr hlo ls hl
  have hl : lv_has ls 3 [(0, .ref (gad G k0)), (1, .int a1), (2, .int a2)] := hl
  unfold f_X7_asksCell
  refine q_ob (fun hk0 => ?_)
  refine q_aload_n C dX7_asksCell_0 rfl (lv_at hl 0 rfl) ?_
  refine q_iload_n C dX7_asksCell_1 rfl (lv_at hl 2 rfl) ?_
  refine q_c2i C (fun r h => cr_V (As := [.int a2]) (rest := []) C (m_X7_asksAt l G F k0 a2 σ r h) cb_X7_asksAt hk0 (by decide) rfl (cf_7 hk0 _) rfl kl_X7_323 ⟨Nat.le_of_ble_eq_true rfl, Nat.le_of_ble_eq_true rfl⟩ ⟨Nat.zero_le _, Nat.zero_le _⟩ hl.1 rfl (Nat.le_of_ble_eq_true rfl) dX7_asksCell_2 rfl) (fun v1 σ1 => ?_)
  refine q_if_eq C 21 dX7_asksCell_5 (by decide) ?_ ?_
  · refine q_iconst C dX7_asksCell_21 rfl (by decide) (fun v2 => ?_)
    exact q_zretE C hr hlo dX7_asksCell_22
  · refine q_aload_n C dX7_asksCell_8 rfl (lv_at hl 0 rfl) ?_
    refine q_iload_n C dX7_asksCell_9 rfl (lv_at hl 1 rfl) ?_
    refine q_i2l C dX7_asksCell_10 (fun v3 => ?_)
    refine q_c1i C (fun r h => cr_V (As := [.long v3]) (rest := []) C (m_X7_isCell l G F k0 v3 σ1 r h) cb_X7_isCell hk0 (by decide) rfl (cf_7 hk0 _) rfl kl_X7_326 ⟨Nat.le_of_ble_eq_true rfl, Nat.le_of_ble_eq_true rfl⟩ ⟨Nat.zero_le _, Nat.zero_le _⟩ hl.1 rfl (Nat.le_of_ble_eq_true rfl) dX7_asksCell_11 rfl) (fun v4 => ?_)
    refine q_if_eq C 21 dX7_asksCell_14 (by decide) ?_ ?_
    · refine q_iconst C dX7_asksCell_21 rfl (by decide) (fun v5 => ?_)
      exact q_zretE C hr hlo dX7_asksCell_22
    · refine q_iconst C dX7_asksCell_17 rfl (by decide) (fun v6 => ?_)
      refine q_goto C 22 dX7_asksCell_18 (by decide) ?_
      exact q_zretE C hr hlo dX7_asksCell_22
def f_X7_event (F : Nat) (k0 : Nat) (a1 : Int) (a2 : Int) (σ : St) : Option (Int) :=
  z_ob 7 k0 <| 
  z_gt a1 fun v1 =>
  z_c1 (f_X7_isEvent F k0 v1 σ) fun v2 =>
  if v2 = 0 then (
    z_gt (-2) fun v3 =>
    some v3)
  else (
    z_gt a2 fun v4 =>
    z_gt 0 fun v5 =>
    z_gt 3 fun v6 =>
    z_c1 (f_X7_in F v4 v5 v6 σ) fun v7 =>
    if ¬ v7 = 0 then (
      if ¬ a2 = 0 then (
        z_gt 1 fun v8 =>
        z_ck (a2 - v8) fun v9 =>
        z_c1 (f_X7_numberOf F k0 a1 v9 σ) fun v10 =>
        some v10)
      else (
        z_c1 (f_X7_kindOf F k0 a1 σ) fun v11 =>
        some v11))
    else (
      z_gt (-2) fun v12 =>
      some v12))
theorem cb_X7_event : CB yX7_event cX7_event 3 (some .int) 2 := ⟨ki_X7_event, kq_X7_event, kn_X7, kc_X7_event, by decide +kernel, by decide +kernel, by decide +kernel⟩
set_option maxRecDepth 20000 in
set_option maxHeartbeats 4000000 in
theorem m_X7_event (l : Launch) (G : GG) (F : Nat) (k0 : Nat) (a1 : Int32) (a2 : Int32) (σ : St) : ∀ r, f_X7_event F k0 a1.toInt a2.toInt σ = some r → MC G l yX7_event cX7_event 3 (some .int) { frames := 2, cells := 0, slots := 0, locals := 47 } [.ref (gad G k0), .int a1, .int a2] σ (vI r) σ := by
  refine MC_of (own := RX7) (vI) (fun _ => σ) (by decide +kernel) rfl (Nat.le_of_ble_eq_true rfl) ?_
  intro p e s m args below meth c C hr hlo ls hl
  have hl : lv_has ls 3 [(0, .ref (gad G k0)), (1, .int a1), (2, .int a2)] := hl
  unfold f_X7_event
  refine q_ob (fun hk0 => ?_)
  refine q_aload_n C dX7_event_0 rfl (lv_at hl 0 rfl) ?_
  refine q_iload_n C dX7_event_1 rfl (lv_at hl 1 rfl) ?_
  refine q_i2l C dX7_event_2 (fun v1 => ?_)
  refine q_c1i C (fun r h => cr_V (As := [.long v1]) (rest := []) C (m_X7_isEvent l G F k0 v1 σ r h) cb_X7_isEvent hk0 (by decide) rfl (cf_7 hk0 _) rfl kl_X7_329 ⟨Nat.le_of_ble_eq_true rfl, Nat.le_of_ble_eq_true rfl⟩ ⟨Nat.zero_le _, Nat.zero_le _⟩ hl.1 rfl (Nat.le_of_ble_eq_true rfl) dX7_event_3 rfl) (fun v2 => ?_)
  refine q_if_eq C 21 dX7_event_6 (by decide) ?_ ?_
  · refine q_bipush C dX7_event_21 rfl (by decide) (fun v3 => ?_)
    exact q_iret C hr hlo dX7_event_23
  · refine q_iload_n C dX7_event_9 rfl (lv_at hl 2 rfl) ?_
    refine q_i2l C dX7_event_10 (fun v4 => ?_)
    refine q_lconst C dX7_event_11 rfl (by decide) (fun v5 => ?_)
    refine q_ldc2 C kk_X7_332 dX7_event_12 (by decide) (fun v6 => ?_)
    refine q_c1i C (fun r h => cr_S (As := [.long v4, .long v5, .long v6]) (rest := []) C (m_X7_in l G F v4 v5 v6 σ r h) sb_X7_in kl_X7_103 ⟨Nat.le_of_ble_eq_true rfl, Nat.le_of_ble_eq_true rfl⟩ ⟨Nat.zero_le _, Nat.zero_le _⟩ hl.1 rfl (Nat.le_of_ble_eq_true rfl) dX7_event_15 rfl) (fun v7 => ?_)
    refine q_if_ne C 24 dX7_event_18 (by decide) ?_ ?_
    · refine q_iload_n C dX7_event_24 rfl (lv_at hl 2 rfl) ?_
      refine q_if_ne C 36 dX7_event_25 (by decide) ?_ ?_
      · refine q_aload_n C dX7_event_36 rfl (lv_at hl 0 rfl) ?_
        refine q_iload_n C dX7_event_37 rfl (lv_at hl 1 rfl) ?_
        refine q_iload_n C dX7_event_38 rfl (lv_at hl 2 rfl) ?_
        refine q_iconst C dX7_event_39 rfl (by decide) (fun v8 => ?_)
        refine q_isub C dX7_event_40 (fun v9 => ?_)
        refine q_c1i C (fun r h => cr_V (As := [.int a1, .int v9]) (rest := []) C (m_X7_numberOf l G F k0 a1 v9 σ r h) cb_X7_numberOf hk0 (by decide) rfl (cf_7 hk0 _) rfl kl_X7_246 ⟨Nat.le_of_ble_eq_true rfl, Nat.le_of_ble_eq_true rfl⟩ ⟨Nat.zero_le _, Nat.zero_le _⟩ hl.1 rfl (Nat.le_of_ble_eq_true rfl) dX7_event_41 rfl) (fun v10 => ?_)
        exact q_iret C hr hlo dX7_event_44
      · refine q_aload_n C dX7_event_28 rfl (lv_at hl 0 rfl) ?_
        refine q_iload_n C dX7_event_29 rfl (lv_at hl 1 rfl) ?_
        refine q_c1i C (fun r h => cr_V (As := [.int a1]) (rest := []) C (m_X7_kindOf l G F k0 a1 σ r h) cb_X7_kindOf hk0 (by decide) rfl (cf_7 hk0 _) rfl kl_X7_118 ⟨Nat.le_of_ble_eq_true rfl, Nat.le_of_ble_eq_true rfl⟩ ⟨Nat.zero_le _, Nat.zero_le _⟩ hl.1 rfl (Nat.le_of_ble_eq_true rfl) dX7_event_30 rfl) (fun v11 => ?_)
        refine q_goto C 44 dX7_event_33 (by decide) ?_
        exact q_iret C hr hlo dX7_event_44
    · refine q_bipush C dX7_event_21 rfl (by decide) (fun v12 => ?_)
      exact q_iret C hr hlo dX7_event_23
def f_X7_refused (F : Nat) (k0 : Nat) (a1 : Int) (σ : St) : Option (Int × St) :=
  z_ob 7 k0 <| 
  z_c2 (f_X7_asks F k0 σ) fun v1 σ1 =>
  if v1 = 0 then (
    z_gt (-2) fun v2 =>
    some (v2, σ1))
  else (
    z_gt a1 fun v3 =>
    z_c1 (f_X7_isEvent F k0 v3 σ1) fun v4 =>
    if v4 = 0 then (
      z_gt (-2) fun v5 =>
      some (v5, σ1))
    else (
      z_ix a1 60 <| z_gt (σ1 (k0 + 19) a1) fun v6 =>
      some (v6, σ1)))
theorem cb_X7_refused : CB yX7_refused cX7_refused 2 (some .int) 1 := ⟨ki_X7_refused, kq_X7_refused, kn_X7, kc_X7_refused, by decide +kernel, by decide +kernel, by decide +kernel⟩
set_option maxRecDepth 20000 in
set_option maxHeartbeats 4000000 in
theorem m_X7_refused (l : Launch) (G : GG) (F : Nat) (k0 : Nat) (a1 : Int32) (σ : St) : ∀ r, f_X7_refused F k0 a1.toInt σ = some r → MC G l yX7_refused cX7_refused 2 (some .int) { frames := 7, cells := 0, slots := 0, locals := 157 } [.ref (gad G k0), .int a1] σ (vI r.1) r.2 := by
  refine MC_of (own := RX7) (fun r : Int × St => vI r.1) (fun r : Int × St => r.2) (by decide +kernel) rfl (Nat.le_of_ble_eq_true rfl) ?_
  intro p e s m args below meth c C hr hlo ls hl
  have hl : lv_has ls 2 [(0, .ref (gad G k0)), (1, .int a1)] := hl
  unfold f_X7_refused
  refine q_ob (fun hk0 => ?_)
  refine q_aload_n C dX7_refused_0 rfl (lv_at hl 0 rfl) ?_
  refine q_c2i C (fun r h => cr_V (As := []) (rest := []) C (m_X7_asks l G F k0 σ r h) cb_X7_asks hk0 (by decide) rfl (cf_7 hk0 _) rfl kl_X7_316 ⟨Nat.le_of_ble_eq_true rfl, Nat.le_of_ble_eq_true rfl⟩ ⟨Nat.zero_le _, Nat.zero_le _⟩ hl.1 rfl (Nat.le_of_ble_eq_true rfl) dX7_refused_1 rfl) (fun v1 σ1 => ?_)
  refine q_if_eq C 25 dX7_refused_4 (by decide) ?_ ?_
  · refine q_bipush C dX7_refused_25 rfl (by decide) (fun v2 => ?_)
    exact q_iretE C hr hlo dX7_refused_27
  · refine q_aload_n C dX7_refused_7 rfl (lv_at hl 0 rfl) ?_
    refine q_iload_n C dX7_refused_8 rfl (lv_at hl 1 rfl) ?_
    refine q_i2l C dX7_refused_9 (fun v3 => ?_)
    refine q_c1i C (fun r h => cr_V (As := [.long v3]) (rest := []) C (m_X7_isEvent l G F k0 v3 σ1 r h) cb_X7_isEvent hk0 (by decide) rfl (cf_7 hk0 _) rfl kl_X7_329 ⟨Nat.le_of_ble_eq_true rfl, Nat.le_of_ble_eq_true rfl⟩ ⟨Nat.zero_le _, Nat.zero_le _⟩ hl.1 rfl (Nat.le_of_ble_eq_true rfl) dX7_refused_10 rfl) (fun v4 => ?_)
    refine q_if_eq C 25 dX7_refused_13 (by decide) ?_ ?_
    · refine q_bipush C dX7_refused_25 rfl (by decide) (fun v5 => ?_)
      exact q_iretE C hr hlo dX7_refused_27
    · refine q_aload_n C dX7_refused_16 rfl (lv_at hl 0 rfl) ?_
      refine g_7_27 C hk0 kf_X7_70 dX7_refused_17 ?_
      refine q_iload_n C dX7_refused_20 rfl (lv_at hl 1 rfl) ?_
      refine a_ild C (yk_7_27 hk0) (yl_7_27 hk0) dX7_refused_21 (fun v6 => ?_)
      refine q_goto C 27 dX7_refused_22 (by decide) ?_
      exact q_iretE C hr hlo dX7_refused_27
def f_X7_value (F : Nat) (k0 : Nat) (a1 : Int) (a2 : Int) (σ : St) : Option (Int × St) :=
  z_ob 7 k0 <| 
  z_c2 (f_X7_asksCell F k0 a1 a2 σ) fun v1 σ1 =>
  if v1 = 0 then (
    z_gt (-2) fun v2 =>
    some (v2, σ1))
  else (
    z_c1 (f_X7_valueAt F k0 a1 a2 σ1) fun v3 =>
    some (v3, σ1))
theorem cb_X7_value : CB yX7_value cX7_value 3 (some .int) 2 := ⟨ki_X7_value, kq_X7_value, kn_X7, kc_X7_value, by decide +kernel, by decide +kernel, by decide +kernel⟩
set_option maxRecDepth 20000 in
set_option maxHeartbeats 4000000 in
theorem m_X7_value (l : Launch) (G : GG) (F : Nat) (k0 : Nat) (a1 : Int32) (a2 : Int32) (σ : St) : ∀ r, f_X7_value F k0 a1.toInt a2.toInt σ = some r → MC G l yX7_value cX7_value 3 (some .int) { frames := 9, cells := 0, slots := 0, locals := 200 } [.ref (gad G k0), .int a1, .int a2] σ (vI r.1) r.2 := by
  refine MC_of (own := RX7) (fun r : Int × St => vI r.1) (fun r : Int × St => r.2) (by decide +kernel) rfl (Nat.le_of_ble_eq_true rfl) ?_
  intro p e s m args below meth c C hr hlo ls hl
  have hl : lv_has ls 3 [(0, .ref (gad G k0)), (1, .int a1), (2, .int a2)] := hl
  unfold f_X7_value
  refine q_ob (fun hk0 => ?_)
  refine q_aload_n C dX7_value_0 rfl (lv_at hl 0 rfl) ?_
  refine q_iload_n C dX7_value_1 rfl (lv_at hl 1 rfl) ?_
  refine q_iload_n C dX7_value_2 rfl (lv_at hl 2 rfl) ?_
  refine q_c2i C (fun r h => cr_V (As := [.int a1, .int a2]) (rest := []) C (m_X7_asksCell l G F k0 a1 a2 σ r h) cb_X7_asksCell hk0 (by decide) rfl (cf_7 hk0 _) rfl kl_X7_334 ⟨Nat.le_of_ble_eq_true rfl, Nat.le_of_ble_eq_true rfl⟩ ⟨Nat.zero_le _, Nat.zero_le _⟩ hl.1 rfl (Nat.le_of_ble_eq_true rfl) dX7_value_3 rfl) (fun v1 σ1 => ?_)
  refine q_if_eq C 18 dX7_value_6 (by decide) ?_ ?_
  · refine q_bipush C dX7_value_18 rfl (by decide) (fun v2 => ?_)
    exact q_iretE C hr hlo dX7_value_20
  · refine q_aload_n C dX7_value_9 rfl (lv_at hl 0 rfl) ?_
    refine q_iload_n C dX7_value_10 rfl (lv_at hl 1 rfl) ?_
    refine q_iload_n C dX7_value_11 rfl (lv_at hl 2 rfl) ?_
    refine q_c1i C (fun r h => cr_V (As := [.int a1, .int a2]) (rest := []) C (m_X7_valueAt l G F k0 a1 a2 σ1 r h) cb_X7_valueAt hk0 (by decide) rfl (cf_7 hk0 _) rfl kl_X7_337 ⟨Nat.le_of_ble_eq_true rfl, Nat.le_of_ble_eq_true rfl⟩ ⟨Nat.zero_le _, Nat.zero_le _⟩ hl.1 rfl (Nat.le_of_ble_eq_true rfl) dX7_value_12 rfl) (fun v3 => ?_)
    refine q_goto C 20 dX7_value_15 (by decide) ?_
    exact q_iretE C hr hlo dX7_value_20
