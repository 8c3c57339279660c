def f_J7_fill_53178_L5 (F : Nat) (a1 : Nat) (a2 : Int)   : Nat → Int → Int → St → Option (St)
  | 0, _, _, _ => none
  | n + 1, x3, x4, σ =>
    if x4 ≤ x3 then (
      some σ)
    else (
      z_ix x3 (lnX a1) <| z_sg (z_up σ a1 x3 a2) fun σ1 =>
      z_ck (x3 + 1) fun v5 =>
      f_J7_fill_53178_L5 F a1 a2 n v5 x4 σ1)

def f_J7_fill_53178 (F : Nat) (a1 : Nat) (a2 : Int) (σ : St) : Option (St) :=
  z_ob 9 a1 <| 
  z_gt 0 fun v1 =>
  z_gt (lnX a1) fun v2 =>
  f_J7_fill_53178_L5 F a1 a2 F v1 v2 σ
theorem sb_J7_fill_53178 : SB yJ7_fill_53178 cJ7_fill_53178 4 none 2 := ⟨ks_J7_fill_53178, kn_J7, kc_J7_fill_53178, by decide +kernel, by decide +kernel, by decide +kernel⟩
set_option maxRecDepth 20000 in
set_option maxHeartbeats 4000000 in
theorem m_J7_fill_53178 (l : Launch) (G : GG) (F : Nat) (a1 : Nat) (a2 : Int32) (σ : St) : ∀ r, f_J7_fill_53178 F a1 a2.toInt σ = some r → MC G l yJ7_fill_53178 cJ7_fill_53178 4 none { frames := 0, cells := 0, slots := 0, locals := 0 } [.ref (gad G a1), .int a2] σ vV r := by
  refine MC_of (own := RJ7) (fun _ => vV) (fun r => r) (by decide +kernel) rfl (Nat.le_of_ble_eq_true rfl) ?_
  intro p e s m args below meth c C hr hlo ls hl
  have hl : lv_has ls 4 [(0, .ref (gad G a1)), (1, .int a2)] := hl
  unfold f_J7_fill_53178
  refine q_ob (fun hk1 => ?_)
  have B5 : ∀ (n : Nat) (x3 : Int32) (x4 : Int32) (σ : St) (ls : Array Slot), lv_has ls 4 [(0, .ref (gad G a1)), (1, .int a2), (2, .int x3), (3, .int x4)] → Sim G (AG G) 0 0 p l e { frames := 0, cells := 0, slots := 0, locals := 0 } s m args below meth c (fun r : St => MQ below (QC G (vV) (r)) args s 0 0 (AG G)) σ (f_J7_fill_53178_L5 F a1 a2.toInt   n x3.toInt x4.toInt σ) (F0 m 5 ls []) := by
    intro n
    induction n with
    | zero =>
      intro x3 x4 σ ls hl
      exact sim_none
    | succ n ih =>
      intro x3 x4 σ ls hl
      rw [f_J7_fill_53178_L5]
      refine q_iload_n C dJ7_fill_53178_5 rfl (lv_at hl 2 rfl) ?_
      refine q_iload_n C dJ7_fill_53178_6 rfl (lv_at hl 3 rfl) ?_
      refine q_icmp_ge C 20 dJ7_fill_53178_7 (by decide) ?_ ?_
      · exact q_vretE C hr hlo dJ7_fill_53178_20
      · refine q_aload_n C dJ7_fill_53178_10 rfl (lv_at hl 0 rfl) ?_
        refine q_iload_n C dJ7_fill_53178_11 rfl (lv_at hl 2 rfl) ?_
        refine q_iload_n C dJ7_fill_53178_12 rfl (lv_at hl 1 rfl) ?_
        refine a_ist C hk1 rfl dJ7_fill_53178_13 (q_sg (fun σ1 => ?_))
        refine q_iinc (k := 2) C (fun v5 => [(2, .int v5), (0, .ref (gad G a1)), (1, .int a2), (3, .int x4)]) dJ7_fill_53178_14 hl rfl (by decide) (by decide) (fun _ => rfl) (fun v5 ls hl => ?_)
        refine q_goto C 5 dJ7_fill_53178_17 (by decide) ?_
        exact ih v5 x4 σ1 ls (lv_sub hl [1, 2, 0, 3] rfl)
  refine q_iconst C dJ7_fill_53178_0 rfl (by decide) (fun v1 => ?_)
  refine q_istore_n C [(2, .int v1), (0, .ref (gad G a1)), (1, .int a2)] dJ7_fill_53178_1 rfl hl (by decide) rfl (fun ls hl => ?_)
  refine q_aload_n C dJ7_fill_53178_2 rfl (lv_at hl 1 rfl) ?_
  refine a_len9 C hk1 dJ7_fill_53178_3 (fun v2 => ?_)
  refine q_istore_n C [(3, .int v2), (2, .int v1), (0, .ref (gad G a1)), (1, .int a2)] dJ7_fill_53178_4 rfl hl (by decide) rfl (fun ls hl => ?_)
  exact B5 F v1 v2 σ ls (lv_sub hl [2, 3, 1, 0] rfl)
def f_X0_clear (F : Nat) (k0 : Nat) (a1 : Int) (σ : St) : Option (St) :=
  z_ob 0 k0 <| 
  z_gt 0 fun v1 =>
  z_gt 32 fun v2 =>
  z_gt (z_min a1 v2) fun v3 =>
  z_gt (z_max v1 v3) fun v4 =>
  z_sg (z_up σ k0 0 v4) fun σ1 =>
  z_gt 0 fun v5 =>
  z_c1 (f_J7_fill_53178 F (k0 + 1) v5 σ1) fun σ2 =>
  some σ2
theorem cb_X0_clear : CB yX0_clear cX0_clear 2 none 1 := ⟨ki_X0_clear, kq_X0_clear, kn_X0, kc_X0_clear, by decide +kernel, by decide +kernel, by decide +kernel⟩
set_option maxRecDepth 20000 in
set_option maxHeartbeats 4000000 in
theorem m_X0_clear (l : Launch) (G : GG) (F : Nat) (k0 : Nat) (a1 : Int32) (σ : St) : ∀ r, f_X0_clear F k0 a1.toInt σ = some r → MC G l yX0_clear cX0_clear 2 none { frames := 1, cells := 0, slots := 0, locals := 45 } [.ref (gad G k0), .int a1] σ vV r := by
  refine MC_of (own := RX0) (fun _ => vV) (fun r => r) (by decide +kernel) rfl (Nat.le_of_ble_eq_true rfl) ?_
  intro p e s m args below meth c C hr hlo ls hl
  have hl : lv_has ls 2 [(0, .ref (gad G k0)), (1, .int a1)] := hl
  unfold f_X0_clear
  refine q_ob (fun hk0 => ?_)
  refine q_aload_n C dX0_clear_0 rfl (lv_at hl 0 rfl) ?_
  refine q_iconst C dX0_clear_1 rfl (by decide) (fun v1 => ?_)
  refine q_iload_n C dX0_clear_2 rfl (lv_at hl 1 rfl) ?_
  refine q_bipush C dX0_clear_3 rfl (by decide) (fun v2 => ?_)
  refine q_min C kl_X0_15 ⟨Nat.le_of_ble_eq_true rfl, Nat.le_of_ble_eq_true rfl⟩ ⟨Nat.zero_le _, Nat.zero_le _⟩ hl.1 dX0_clear_5 (fun v3 => ?_)
  refine q_max C kl_X0_21 ⟨Nat.le_of_ble_eq_true rfl, Nat.le_of_ble_eq_true rfl⟩ ⟨Nat.zero_le _, Nat.zero_le _⟩ hl.1 dX0_clear_8 (fun v4 => ?_)
  refine p_0_0 C hk0 kf_X0_24 dX0_clear_11 (q_sg (fun σ1 => ?_))
  refine q_aload_n C dX0_clear_14 rfl (lv_at hl 0 rfl) ?_
  refine g_0_1 C hk0 kf_X0_9 dX0_clear_15 ?_
  refine q_iconst C dX0_clear_18 rfl (by decide) (fun v5 => ?_)
  refine q_cv C (fun r h => cr_S (As := [.ref (gad G (k0 + 1)), .int v5]) (rest := []) C (m_J7_fill_53178 l G F (k0 + 1) v5 σ1 r h) sb_J7_fill_53178 kl_X0_28 ⟨Nat.le_of_ble_eq_true rfl, Nat.le_of_ble_eq_true rfl⟩ ⟨Nat.zero_le _, Nat.zero_le _⟩ hl.1 rfl (Nat.le_of_ble_eq_true rfl) dX0_clear_19 rfl) (fun σ2 => ?_)
  exact q_vretE C hr hlo dX0_clear_22
def f_X6_isOut (F : Nat) (a1 : Int) (a2 : Int) (σ : St) : Option (Int) :=
  
  z_gt (z_lshr a1 a2) fun v1 =>
  z_gt 1 fun v2 =>
  z_gt (z_land v1 v2) fun v3 =>
  z_gt 0 fun v4 =>
  z_gt (z_cmp v3 v4) fun v5 =>
  if v5 = 0 then (
    z_gt 0 fun v6 =>
    z_bo v6 <| some v6)
  else (
    z_gt 1 fun v7 =>
    z_bo v7 <| some v7)
theorem sb_X6_isOut : SB yX6_isOut cX6_isOut 3 (some .boolean) 2 := ⟨ks_X6_isOut, kn_X6, kc_X6_isOut, by decide +kernel, by decide +kernel, by decide +kernel⟩
set_option maxRecDepth 20000 in
set_option maxHeartbeats 4000000 in
theorem m_X6_isOut (l : Launch) (G : GG) (F : Nat) (a1 : Int64) (a2 : Int32) (σ : St) : ∀ r, f_X6_isOut F a1.toInt a2.toInt σ = some r → MC G l yX6_isOut cX6_isOut 3 (some .boolean) { frames := 0, cells := 0, slots := 0, locals := 0 } [.long a1, .int a2] σ (vI r) σ := by
  refine MC_of (own := RX6) (vI) (fun _ => σ) (by decide +kernel) rfl (Nat.le_of_ble_eq_true rfl) ?_
  intro p e s m args below meth c C hr hlo ls hl
  have hl : lv_has ls 3 [(0, .long a1), (2, .int a2)] := hl
  unfold f_X6_isOut
  refine q_lload_n C dX6_isOut_0 rfl (lv_at hl 0 rfl) ?_
  refine q_iload_n C dX6_isOut_1 rfl (lv_at hl 1 rfl) ?_
  refine q_lshr C dX6_isOut_2 (fun v1 => ?_)
  refine q_lconst C dX6_isOut_3 rfl (by decide) (fun v2 => ?_)
  refine q_land C dX6_isOut_4 (fun v3 => ?_)
  refine q_lconst C dX6_isOut_5 rfl (by decide) (fun v4 => ?_)
  refine q_lcmp C dX6_isOut_6 (fun v5 => ?_)
  refine q_if_eq C 14 dX6_isOut_7 (by decide) ?_ ?_
  · refine q_iconst C dX6_isOut_14 rfl (by decide) (fun v6 => ?_)
    exact q_zret C hr hlo dX6_isOut_15
  · refine q_iconst C dX6_isOut_10 rfl (by decide) (fun v7 => ?_)
    refine q_goto C 15 dX6_isOut_11 (by decide) ?_
    exact q_zret C hr hlo dX6_isOut_15
def f_X4_numberOf (F : Nat) (k0 : Nat) (a1 : Int) (a2 : Int) (σ : St) : Option (Int) :=
  z_ob 4 k0 <| 
  if a1 < 0 then (
    z_gt (-1) fun v1 =>
    some v1)
  else (
    z_gt 60 fun v2 =>
    if v2 ≤ a1 then (
      z_gt (-1) fun v3 =>
      some v3)
    else (
      if a2 < 0 then (
        z_gt (-1) fun v4 =>
        some v4)
      else (
        z_ix a1 60 <| z_gt (σ (k0 + 1) a1) fun v5 =>
        z_ix v5 9 <| z_gt (z_nk v5) fun v6 =>
        if a2 < v6 then (
          z_gt 3 fun v7 =>
          z_ck (a1 * v7) fun v8 =>
          z_ck (v8 + a2) fun v9 =>
          z_ix v9 180 <| z_gt (σ (k0 + 2) v9) fun v10 =>
          some v10)
        else (
          z_gt (-1) fun v11 =>
          some v11))))
theorem cb_X4_numberOf : CB yX4_numberOf cX4_numberOf 3 (some .int) 2 := ⟨ki_X4_numberOf, kq_X4_numberOf, kn_X4, kc_X4_numberOf, by decide +kernel, by decide +kernel, by decide +kernel⟩
set_option maxRecDepth 20000 in
set_option maxHeartbeats 4000000 in
theorem m_X4_numberOf (l : Launch) (G : GG) (F : Nat) (k0 : Nat) (a1 : Int32) (a2 : Int32) (σ : St) : ∀ r, f_X4_numberOf F k0 a1.toInt a2.toInt σ = some r → MC G l yX4_numberOf cX4_numberOf 3 (some .int) { frames := 0, cells := 0, slots := 0, locals := 0 } [.ref (gad G k0), .int a1, .int a2] σ (vI r) σ := by
  refine MC_of (own := RX4) (vI) (fun _ => σ) (by decide +kernel) rfl (Nat.le_of_ble_eq_true rfl) ?_
  intro p e s m args below meth c C hr hlo ls hl
  have hl : lv_has ls 3 [(0, .ref (gad G k0)), (1, .int a1), (2, .int a2)] := hl
  unfold f_X4_numberOf
  refine q_ob (fun hk0 => ?_)
  refine q_iload_n C dX4_numberOf_0 rfl (lv_at hl 1 rfl) ?_
  refine q_if_lt C 28 dX4_numberOf_1 (by decide) ?_ ?_
  · refine q_iconst C dX4_numberOf_28 rfl (by decide) (fun v1 => ?_)
    exact q_iret C hr hlo dX4_numberOf_29
  · refine q_iload_n C dX4_numberOf_4 rfl (lv_at hl 1 rfl) ?_
    refine q_bipush C dX4_numberOf_5 rfl (by decide) (fun v2 => ?_)
    refine q_icmp_ge C 28 dX4_numberOf_7 (by decide) ?_ ?_
    · refine q_iconst C dX4_numberOf_28 rfl (by decide) (fun v3 => ?_)
      exact q_iret C hr hlo dX4_numberOf_29
    · refine q_iload_n C dX4_numberOf_10 rfl (lv_at hl 2 rfl) ?_
      refine q_if_lt C 28 dX4_numberOf_11 (by decide) ?_ ?_
      · refine q_iconst C dX4_numberOf_28 rfl (by decide) (fun v4 => ?_)
        exact q_iret C hr hlo dX4_numberOf_29
      · refine q_iload_n C dX4_numberOf_14 rfl (lv_at hl 2 rfl) ?_
        refine q_gnkN C (host := "CopyWhileRun") (List.mem_of_getElem? (i := 9) rfl) rfl dX4_numberOf_15 ?_
        refine q_aload_n C dX4_numberOf_18 rfl (lv_at hl 0 rfl) ?_
        refine g_4_6 C hk0 kf_X4_9 dX4_numberOf_19 ?_
        refine q_iload_n C dX4_numberOf_22 rfl (lv_at hl 1 rfl) ?_
        refine a_ild C (yk_4_6 hk0) (yl_4_6 hk0) dX4_numberOf_23 (fun v5 => ?_)
        refine q_nkld C dX4_numberOf_24 (fun v6 => ?_)
        refine q_icmp_lt C 30 dX4_numberOf_25 (by decide) ?_ ?_
        · refine q_aload_n C dX4_numberOf_30 rfl (lv_at hl 0 rfl) ?_
          refine g_4_7 C hk0 kf_X4_15 dX4_numberOf_31 ?_
          refine q_iload_n C dX4_numberOf_34 rfl (lv_at hl 1 rfl) ?_
          refine q_iconst C dX4_numberOf_35 rfl (by decide) (fun v7 => ?_)
          refine q_imul C dX4_numberOf_36 (fun v8 => ?_)
          refine q_iload_n C dX4_numberOf_37 rfl (lv_at hl 2 rfl) ?_
          refine q_iadd C dX4_numberOf_38 (fun v9 => ?_)
          refine a_ild C (yk_4_7 hk0) (yl_4_7 hk0) dX4_numberOf_39 (fun v10 => ?_)
          exact q_iret C hr hlo dX4_numberOf_40
        · refine q_iconst C dX4_numberOf_28 rfl (by decide) (fun v11 => ?_)
          exact q_iret C hr hlo dX4_numberOf_29
def f_X4_kindOf (F : Nat) (k0 : Nat) (a1 : Int) (σ : St) : Option (Int) :=
  z_ob 4 k0 <| 
  if a1 < 0 then (
    z_gt 8 fun v1 =>
    some v1)
  else (
    z_gt 60 fun v2 =>
    if v2 ≤ a1 then (
      z_gt 8 fun v3 =>
      some v3)
    else (
      z_ix a1 60 <| z_gt (σ (k0 + 1) a1) fun v4 =>
      some v4))
theorem cb_X4_kindOf : CB yX4_kindOf cX4_kindOf 2 (some .int) 1 := ⟨ki_X4_kindOf, kq_X4_kindOf, kn_X4, kc_X4_kindOf, by decide +kernel, by decide +kernel, by decide +kernel⟩
set_option maxRecDepth 20000 in
set_option maxHeartbeats 4000000 in
theorem m_X4_kindOf (l : Launch) (G : GG) (F : Nat) (k0 : Nat) (a1 : Int32) (σ : St) : ∀ r, f_X4_kindOf F k0 a1.toInt σ = some r → MC G l yX4_kindOf cX4_kindOf 2 (some .int) { frames := 0, cells := 0, slots := 0, locals := 0 } [.ref (gad G k0), .int a1] σ (vI r) σ := by
  refine MC_of (own := RX4) (vI) (fun _ => σ) (by decide +kernel) rfl (Nat.le_of_ble_eq_true rfl) ?_
  intro p e s m args below meth c C hr hlo ls hl
  have hl : lv_has ls 2 [(0, .ref (gad G k0)), (1, .int a1)] := hl
  unfold f_X4_kindOf
  refine q_ob (fun hk0 => ?_)
  refine q_iload_n C dX4_kindOf_0 rfl (lv_at hl 1 rfl) ?_
  refine q_if_lt C 19 dX4_kindOf_1 (by decide) ?_ ?_
  · refine q_bipush C dX4_kindOf_19 rfl (by decide) (fun v1 => ?_)
    exact q_iret C hr hlo dX4_kindOf_21
  · refine q_iload_n C dX4_kindOf_4 rfl (lv_at hl 1 rfl) ?_
    refine q_bipush C dX4_kindOf_5 rfl (by decide) (fun v2 => ?_)
    refine q_icmp_ge C 19 dX4_kindOf_7 (by decide) ?_ ?_
    · refine q_bipush C dX4_kindOf_19 rfl (by decide) (fun v3 => ?_)
      exact q_iret C hr hlo dX4_kindOf_21
    · refine q_aload_n C dX4_kindOf_10 rfl (lv_at hl 0 rfl) ?_
      refine g_4_6 C hk0 kf_X4_9 dX4_kindOf_11 ?_
      refine q_iload_n C dX4_kindOf_14 rfl (lv_at hl 1 rfl) ?_
      refine a_ild C (yk_4_6 hk0) (yl_4_6 hk0) dX4_kindOf_15 (fun v4 => ?_)
      refine q_goto C 21 dX4_kindOf_16 (by decide) ?_
      exact q_iret C hr hlo dX4_kindOf_21
def f_X0_put (F : Nat) (k0 : Nat) (a1 : Int) (a2 : Int) (σ : St) : Option (Int × St) :=
  z_ob 0 k0 <| 
  if a1 < 0 then (
    z_gt 0 fun v1 =>
    some (v1, σ))
  else (
    z_gt (σ k0 0) fun v2 =>
    if v2 ≤ a1 then (
      z_gt 0 fun v3 =>
      some (v3, σ))
    else (
      z_ix a1 32 <| z_gt (σ (k0 + 1) a1) fun v4 =>
      if ¬ v4 = a2 then (
        z_ix a1 32 <| z_sg (z_up σ (k0 + 1) a1 a2) fun σ1 =>
        z_gt 1 fun v5 =>
        z_gt (z_shl v5 a1) fun v6 =>
        some (v6, σ1))
      else (
        z_gt 0 fun v7 =>
        some (v7, σ))))
theorem cb_X0_put : CB yX0_put cX0_put 3 (some .int) 2 := ⟨ki_X0_put, kq_X0_put, kn_X0, kc_X0_put, by decide +kernel, by decide +kernel, by decide +kernel⟩
set_option maxRecDepth 20000 in
set_option maxHeartbeats 4000000 in
theorem m_X0_put (l : Launch) (G : GG) (F : Nat) (k0 : Nat) (a1 : Int32) (a2 : Int32) (σ : St) : ∀ r, f_X0_put F k0 a1.toInt a2.toInt σ = some r → MC G l yX0_put cX0_put 3 (some .int) { frames := 0, cells := 0, slots := 0, locals := 0 } [.ref (gad G k0), .int a1, .int a2] σ (vI r.1) r.2 := by
  refine MC_of (own := RX0) (fun r : Int × St => vI r.1) (fun r : Int × St => r.2) (by decide +kernel) rfl (Nat.le_of_ble_eq_true rfl) ?_
  intro p e s m args below meth c C hr hlo ls hl
  have hl : lv_has ls 3 [(0, .ref (gad G k0)), (1, .int a1), (2, .int a2)] := hl
  unfold f_X0_put
  refine q_ob (fun hk0 => ?_)
  refine q_iload_n C dX0_put_0 rfl (lv_at hl 1 rfl) ?_
  refine q_if_lt C 22 dX0_put_1 (by decide) ?_ ?_
  · refine q_iconst C dX0_put_22 rfl (by decide) (fun v1 => ?_)
    exact q_iretE C hr hlo dX0_put_23
  · refine q_iload_n C dX0_put_4 rfl (lv_at hl 1 rfl) ?_
    refine q_aload_n C dX0_put_5 rfl (lv_at hl 0 rfl) ?_
    refine g_0_0 C hk0 kf_X0_24 dX0_put_6 (fun v2 => ?_)
    refine q_icmp_ge C 22 dX0_put_9 (by decide) ?_ ?_
    · refine q_iconst C dX0_put_22 rfl (by decide) (fun v3 => ?_)
      exact q_iretE C hr hlo dX0_put_23
    · refine q_aload_n C dX0_put_12 rfl (lv_at hl 0 rfl) ?_
      refine g_0_1 C hk0 kf_X0_9 dX0_put_13 ?_
      refine q_iload_n C dX0_put_16 rfl (lv_at hl 1 rfl) ?_
      refine a_ild C (yk_0_1 hk0) (yl_0_1 hk0) dX0_put_17 (fun v4 => ?_)
      refine q_iload_n C dX0_put_18 rfl (lv_at hl 2 rfl) ?_
      refine q_icmp_ne C 24 dX0_put_19 (by decide) ?_ ?_
      · refine q_aload_n C dX0_put_24 rfl (lv_at hl 0 rfl) ?_
        refine g_0_1 C hk0 kf_X0_9 dX0_put_25 ?_
        refine q_iload_n C dX0_put_28 rfl (lv_at hl 1 rfl) ?_
        refine q_iload_n C dX0_put_29 rfl (lv_at hl 2 rfl) ?_
        refine a_ist C (yk_0_1 hk0) (yl_0_1 hk0) dX0_put_30 (q_sg (fun σ1 => ?_))
        refine q_iconst C dX0_put_31 rfl (by decide) (fun v5 => ?_)
        refine q_iload_n C dX0_put_32 rfl (lv_at hl 1 rfl) ?_
        refine q_ishl C dX0_put_33 (fun v6 => ?_)
        exact q_iretE C hr hlo dX0_put_34
      · refine q_iconst C dX0_put_22 rfl (by decide) (fun v7 => ?_)
        exact q_iretE C hr hlo dX0_put_23
def f_X0_cellAt (F : Nat) (k0 : Nat) (a1 : Int) (σ : St) : Option (Int) :=
  z_ob 0 k0 <| 
  if a1 < 0 then (
    z_gt 0 fun v1 =>
    some v1)
  else (
    z_gt (σ k0 0) fun v2 =>
    if v2 ≤ a1 then (
      z_gt 0 fun v3 =>
      some v3)
    else (
      z_ix a1 32 <| z_gt (σ (k0 + 1) a1) fun v4 =>
      some v4))
theorem cb_X0_cellAt : CB yX0_cellAt cX0_cellAt 2 (some .int) 1 := ⟨ki_X0_cellAt, kq_X0_cellAt, kn_X0, kc_X0_cellAt, by decide +kernel, by decide +kernel, by decide +kernel⟩
set_option maxRecDepth 20000 in
set_option maxHeartbeats 4000000 in
theorem m_X0_cellAt (l : Launch) (G : GG) (F : Nat) (k0 : Nat) (a1 : Int32) (σ : St) : ∀ r, f_X0_cellAt F k0 a1.toInt σ = some r → MC G l yX0_cellAt cX0_cellAt 2 (some .int) { frames := 0, cells := 0, slots := 0, locals := 0 } [.ref (gad G k0), .int a1] σ (vI r) σ := by
  refine MC_of (own := RX0) (vI) (fun _ => σ) (by decide +kernel) rfl (Nat.le_of_ble_eq_true rfl) ?_
  intro p e s m args below meth c C hr hlo ls hl
  have hl : lv_has ls 2 [(0, .ref (gad G k0)), (1, .int a1)] := hl
  unfold f_X0_cellAt
  refine q_ob (fun hk0 => ?_)
  refine q_iload_n C dX0_cellAt_0 rfl (lv_at hl 1 rfl) ?_
  refine q_if_lt C 21 dX0_cellAt_1 (by decide) ?_ ?_
  · refine q_iconst C dX0_cellAt_21 rfl (by decide) (fun v1 => ?_)
    exact q_iret C hr hlo dX0_cellAt_22
  · refine q_iload_n C dX0_cellAt_4 rfl (lv_at hl 1 rfl) ?_
    refine q_aload_n C dX0_cellAt_5 rfl (lv_at hl 0 rfl) ?_
    refine g_0_0 C hk0 kf_X0_24 dX0_cellAt_6 (fun v2 => ?_)
    refine q_icmp_ge C 21 dX0_cellAt_9 (by decide) ?_ ?_
    · refine q_iconst C dX0_cellAt_21 rfl (by decide) (fun v3 => ?_)
      exact q_iret C hr hlo dX0_cellAt_22
    · refine q_aload_n C dX0_cellAt_12 rfl (lv_at hl 0 rfl) ?_
      refine g_0_1 C hk0 kf_X0_9 dX0_cellAt_13 ?_
      refine q_iload_n C dX0_cellAt_16 rfl (lv_at hl 1 rfl) ?_
      refine a_ild C (yk_0_1 hk0) (yl_0_1 hk0) dX0_cellAt_17 (fun v4 => ?_)
      refine q_goto C 22 dX0_cellAt_18 (by decide) ?_
      exact q_iret C hr hlo dX0_cellAt_22
def f_X0_apply_L120 (F : Nat) (k0 : Nat) (a1 : Nat) (a2 : Int)   : Nat → Int → Int → Int → Int → St → Option (Int × St)
  | 0, _, _, _, _, _ => none
  | n + 1, x20, x21, x22, x23, σ =>
    if x20 < x23 then (
      some (x22, σ))
    else (
      z_gt 32 fun v24 =>
      if v24 ≤ x23 then (
        some (x22, σ))
      else (
        z_c2 (f_X0_put F k0 x23 x21 σ) fun v25 σ5 =>
        z_gt (z_or x22 v25) fun v26 =>
        z_ck (x23 + 1) fun v27 =>
        f_X0_apply_L120 F k0 a1 a2 n x20 x21 v26 v27 σ5))

def f_X0_apply (F : Nat) (k0 : Nat) (a1 : Nat) (a2 : Int) (σ : St) : Option (Int × St) :=
  z_ob 0 k0 <| z_ob 4 a1 <| 
  z_gt 0 fun v1 =>
  z_c1 (f_X4_numberOf F a1 a2 v1 σ) fun v2 =>
  z_gt 1 fun v3 =>
  z_c1 (f_X4_numberOf F a1 a2 v3 σ) fun v4 =>
  z_c1 (f_X4_kindOf F a1 a2 σ) fun v5 =>
  if v5 = 0 then (
    z_c2 (f_X0_put F k0 v2 v4 σ) fun v6 σ1 =>
    some (v6, σ1))
  else
  if v5 = 1 then (
    z_c1 (f_X0_cellAt F k0 v2 σ) fun v7 =>
    z_ck (v7 + v4) fun v8 =>
    z_gt 256 fun v9 =>
    z_nz v9 <| z_gt (v8.tmod v9) fun v10 =>
    z_c2 (f_X0_put F k0 v2 v10 σ) fun v11 σ2 =>
    some (v11, σ2))
  else
  if v5 = 2 then (
    z_c1 (f_X0_cellAt F k0 v2 σ) fun v12 =>
    z_c1 (f_X0_cellAt F k0 v4 σ) fun v13 =>
    z_c2 (f_X0_put F k0 v2 v13 σ) fun v14 σ3 =>
    z_c2 (f_X0_put F k0 v4 v12 σ3) fun v15 σ4 =>
    z_gt (z_or v14 v15) fun v16 =>
    some (v16, σ4))
  else
  if v5 = 3 then (
    z_gt 2 fun v17 =>
    z_c1 (f_X4_numberOf F a1 a2 v17 σ) fun v18 =>
    z_gt 0 fun v19 =>
    f_X0_apply_L120 F k0 a1 a2 F v4 v18 v19 v2 σ)
  else
  (
    z_gt 0 fun v28 =>
    some (v28, σ))
theorem cb_X0_apply : CB yX0_apply cX0_apply 9 (some .int) 2 := ⟨ki_X0_apply, kq_X0_apply, kn_X0, kc_X0_apply, by decide +kernel, by decide +kernel, by decide +kernel⟩
set_option maxRecDepth 20000 in
set_option maxHeartbeats 4000000 in
theorem m_X0_apply (l : Launch) (G : GG) (F : Nat) (k0 : Nat) (a1 : Nat) (a2 : Int32) (σ : St) : ∀ r, f_X0_apply F k0 a1 a2.toInt σ = some r → MC G l yX0_apply cX0_apply 9 (some .int) { frames := 1, cells := 0, slots := 0, locals := 22 } [.ref (gad G k0), .ref (gad G a1), .int a2] σ (vI r.1) r.2 := by
  refine MC_of (own := RX0) (fun r : Int × St => vI r.1) (fun r : Int × St => r.2) (by decide +kernel) rfl (Nat.le_of_ble_eq_true rfl) ?_
  intro p e s m args below meth c C hr hlo ls hl
  have hl : lv_has ls 9 [(0, .ref (gad G k0)), (1, .ref (gad G a1)), (2, .int a2)] := hl
  unfold f_X0_apply
  refine q_ob (fun hk0 => ?_)
  refine q_ob (fun hk1 => ?_)
  have B120 : ∀ (n : Nat) (x20 : Int32) (x21 : Int32) (x22 : Int32) (x23 : Int32) (σ : St) (ls : Array Slot), lv_has ls 9 [(0, .ref (gad G k0)), (4, .int x20), (6, .int x21), (7, .int x22), (8, .int x23)] → Sim G (AG G) 0 0 p l e { frames := 1, cells := 0, slots := 0, locals := 22 } s m args below meth c (fun r : Int × St => MQ below (QC G (vI r.1) (r.2)) args s 0 0 (AG G)) σ (f_X0_apply_L120 F k0 a1 a2.toInt   n x20.toInt x21.toInt x22.toInt x23.toInt σ) (F0 m 120 ls []) := by
    intro n
    induction n with
    | zero =>
      intro x20 x21 x22 x23 σ ls hl
      exact sim_none
    | succ n ih =>
      intro x20 x21 x22 x23 σ ls hl
      rw [f_X0_apply_L120]
      refine q_iload C dX0_apply_120 (lv_at hl 4 rfl) ?_
      refine q_iload C dX0_apply_122 (lv_at hl 1 rfl) ?_
      refine q_icmp_gt C 153 dX0_apply_124 (by decide) ?_ ?_
      · refine q_iload C dX0_apply_153 (lv_at hl 3 rfl) ?_
        exact q_iretE C hr hlo dX0_apply_155
      · refine q_iload C dX0_apply_127 (lv_at hl 4 rfl) ?_
        refine q_bipush C dX0_apply_129 rfl (by decide) (fun v24 => ?_)
        refine q_icmp_ge C 153 dX0_apply_131 (by decide) ?_ ?_
        · refine q_iload C dX0_apply_153 (lv_at hl 3 rfl) ?_
          exact q_iretE C hr hlo dX0_apply_155
        · refine q_iload C dX0_apply_134 (lv_at hl 3 rfl) ?_
          refine q_aload_n C dX0_apply_136 rfl (lv_at hl 0 rfl) ?_
          refine q_iload C dX0_apply_137 (lv_at hl 4 rfl) ?_
          refine q_iload C dX0_apply_139 (lv_at hl 2 rfl) ?_
          refine q_c2i C (fun r h => cr_V (As := [.int x23, .int x21]) (rest := [.int x22]) C (m_X0_put l G F k0 x23 x21 σ r h) cb_X0_put hk0 (by decide) rfl (cf_0 hk0 _) rfl kl_X0_56 ⟨Nat.le_of_ble_eq_true rfl, Nat.le_of_ble_eq_true rfl⟩ ⟨Nat.zero_le _, Nat.zero_le _⟩ hl.1 rfl (Nat.le_of_ble_eq_true rfl) dX0_apply_141 rfl) (fun v25 σ5 => ?_)
          refine q_ior C dX0_apply_144 (fun v26 => ?_)
          refine q_istore C [(7, .int v26), (0, .ref (gad G k0)), (4, .int x20), (6, .int x21), (8, .int x23)] dX0_apply_145 hl (by decide) rfl (fun ls hl => ?_)
          refine q_iinc (k := 4) C (fun v27 => [(8, .int v27), (7, .int v26), (0, .ref (gad G k0)), (4, .int x20), (6, .int x21)]) dX0_apply_147 hl rfl (by decide) (by decide) (fun _ => rfl) (fun v27 ls hl => ?_)
          refine q_goto C 120 dX0_apply_150 (by decide) ?_
          exact ih x20 x21 v26 v27 σ5 ls (lv_sub hl [2, 3, 4, 1, 0] rfl)
  refine q_aload_n C dX0_apply_0 rfl (lv_at hl 1 rfl) ?_
  refine q_iload_n C dX0_apply_1 rfl (lv_at hl 2 rfl) ?_
  refine q_iconst C dX0_apply_2 rfl (by decide) (fun v1 => ?_)
  refine q_c1i C (fun r h => cr_V (As := [.int a2, .int v1]) (rest := []) C (m_X4_numberOf l G F a1 a2 v1 σ r h) cb_X4_numberOf hk1 (by decide) rfl (cf_4 hk1 _) rfl kl_X0_49 ⟨Nat.le_of_ble_eq_true rfl, Nat.le_of_ble_eq_true rfl⟩ ⟨Nat.zero_le _, Nat.zero_le _⟩ hl.1 rfl (Nat.le_of_ble_eq_true rfl) dX0_apply_3 rfl) (fun v2 => ?_)
  refine q_istore_n C [(3, .int v2), (0, .ref (gad G k0)), (1, .ref (gad G a1)), (2, .int a2)] dX0_apply_6 rfl hl (by decide) rfl (fun ls hl => ?_)
  refine q_aload_n C dX0_apply_7 rfl (lv_at hl 2 rfl) ?_
  refine q_iload_n C dX0_apply_8 rfl (lv_at hl 3 rfl) ?_
  refine q_iconst C dX0_apply_9 rfl (by decide) (fun v3 => ?_)
  refine q_c1i C (fun r h => cr_V (As := [.int a2, .int v3]) (rest := []) C (m_X4_numberOf l G F a1 a2 v3 σ r h) cb_X4_numberOf hk1 (by decide) rfl (cf_4 hk1 _) rfl kl_X0_49 ⟨Nat.le_of_ble_eq_true rfl, Nat.le_of_ble_eq_true rfl⟩ ⟨Nat.zero_le _, Nat.zero_le _⟩ hl.1 rfl (Nat.le_of_ble_eq_true rfl) dX0_apply_10 rfl) (fun v4 => ?_)
  refine q_istore C [(4, .int v4), (3, .int v2), (0, .ref (gad G k0)), (1, .ref (gad G a1)), (2, .int a2)] dX0_apply_13 hl (by decide) rfl (fun ls hl => ?_)
  refine q_aload_n C dX0_apply_15 rfl (lv_at hl 3 rfl) ?_
  refine q_iload_n C dX0_apply_16 rfl (lv_at hl 4 rfl) ?_
  refine q_c1i C (fun r h => cr_V (As := [.int a2]) (rest := []) C (m_X4_kindOf l G F a1 a2 σ r h) cb_X4_kindOf hk1 (by decide) rfl (cf_4 hk1 _) rfl kl_X0_52 ⟨Nat.le_of_ble_eq_true rfl, Nat.le_of_ble_eq_true rfl⟩ ⟨Nat.zero_le _, Nat.zero_le _⟩ hl.1 rfl (Nat.le_of_ble_eq_true rfl) dX0_apply_17 rfl) (fun v5 => ?_)
  refine q_ite (fun e0 => ?_) (fun e0 => ?_) _
  · refine q_tin C 52 e0 dX0_apply_20 (by decide) (by decide) rfl (by decide) ?_
    refine q_aload_n C dX0_apply_52 rfl (lv_at hl 2 rfl) ?_
    refine q_iload_n C dX0_apply_53 rfl (lv_at hl 1 rfl) ?_
    refine q_iload C dX0_apply_54 (lv_at hl 0 rfl) ?_
    refine q_c2i C (fun r h => cr_V (As := [.int v2, .int v4]) (rest := []) C (m_X0_put l G F k0 v2 v4 σ r h) cb_X0_put hk0 (by decide) rfl (cf_0 hk0 _) rfl kl_X0_56 ⟨Nat.le_of_ble_eq_true rfl, Nat.le_of_ble_eq_true rfl⟩ ⟨Nat.zero_le _, Nat.zero_le _⟩ hl.1 rfl (Nat.le_of_ble_eq_true rfl) dX0_apply_56 rfl) (fun v6 σ1 => ?_)
    exact q_iretE C hr hlo dX0_apply_59
  refine q_ite (fun e1 => ?_) (fun e1 => ?_) _
  · refine q_tin C 60 e1 dX0_apply_20 (by decide) (by decide) rfl (by decide) ?_
    refine q_aload_n C dX0_apply_60 rfl (lv_at hl 2 rfl) ?_
    refine q_iload_n C dX0_apply_61 rfl (lv_at hl 1 rfl) ?_
    refine q_aload_n C dX0_apply_62 rfl (lv_at hl 2 rfl) ?_
    refine q_iload_n C dX0_apply_63 rfl (lv_at hl 1 rfl) ?_
    refine q_c1i C (fun r h => cr_V (As := [.int v2]) (rest := [.int v2, .ref (gad G k0)]) C (m_X0_cellAt l G F k0 v2 σ r h) cb_X0_cellAt hk0 (by decide) rfl (cf_0 hk0 _) rfl kl_X0_59 ⟨Nat.le_of_ble_eq_true rfl, Nat.le_of_ble_eq_true rfl⟩ ⟨Nat.zero_le _, Nat.zero_le _⟩ hl.1 rfl (Nat.le_of_ble_eq_true rfl) dX0_apply_64 rfl) (fun v7 => ?_)
    refine q_iload C dX0_apply_67 (lv_at hl 0 rfl) ?_
    refine q_iadd C dX0_apply_69 (fun v8 => ?_)
    refine q_sipush C dX0_apply_70 rfl (by decide) (fun v9 => ?_)
    refine q_irem C dX0_apply_73 (fun v10 => ?_)
    refine q_c2i C (fun r h => cr_V (As := [.int v2, .int v10]) (rest := []) C (m_X0_put l G F k0 v2 v10 σ r h) cb_X0_put hk0 (by decide) rfl (cf_0 hk0 _) rfl kl_X0_56 ⟨Nat.le_of_ble_eq_true rfl, Nat.le_of_ble_eq_true rfl⟩ ⟨Nat.zero_le _, Nat.zero_le _⟩ hl.1 rfl (Nat.le_of_ble_eq_true rfl) dX0_apply_74 rfl) (fun v11 σ2 => ?_)
    exact q_iretE C hr hlo dX0_apply_77
  refine q_ite (fun e2 => ?_) (fun e2 => ?_) _
  · refine q_tin C 78 e2 dX0_apply_20 (by decide) (by decide) rfl (by decide) ?_
    refine q_aload_n C dX0_apply_78 rfl (lv_at hl 2 rfl) ?_
    refine q_iload_n C dX0_apply_79 rfl (lv_at hl 1 rfl) ?_
    refine q_c1i C (fun r h => cr_V (As := [.int v2]) (rest := []) C (m_X0_cellAt l G F k0 v2 σ r h) cb_X0_cellAt hk0 (by decide) rfl (cf_0 hk0 _) rfl kl_X0_59 ⟨Nat.le_of_ble_eq_true rfl, Nat.le_of_ble_eq_true rfl⟩ ⟨Nat.zero_le _, Nat.zero_le _⟩ hl.1 rfl (Nat.le_of_ble_eq_true rfl) dX0_apply_80 rfl) (fun v12 => ?_)
    refine q_istore C [(5, .int v12), (4, .int v4), (3, .int v2), (0, .ref (gad G k0)), (1, .ref (gad G a1)), (2, .int a2)] dX0_apply_83 hl (by decide) rfl (fun ls hl => ?_)
    refine q_aload_n C dX0_apply_85 rfl (lv_at hl 3 rfl) ?_
    refine q_iload_n C dX0_apply_86 rfl (lv_at hl 2 rfl) ?_
    refine q_aload_n C dX0_apply_87 rfl (lv_at hl 3 rfl) ?_
    refine q_iload C dX0_apply_88 (lv_at hl 1 rfl) ?_
    refine q_c1i C (fun r h => cr_V (As := [.int v4]) (rest := [.int v2, .ref (gad G k0)]) C (m_X0_cellAt l G F k0 v4 σ r h) cb_X0_cellAt hk0 (by decide) rfl (cf_0 hk0 _) rfl kl_X0_59 ⟨Nat.le_of_ble_eq_true rfl, Nat.le_of_ble_eq_true rfl⟩ ⟨Nat.zero_le _, Nat.zero_le _⟩ hl.1 rfl (Nat.le_of_ble_eq_true rfl) dX0_apply_90 rfl) (fun v13 => ?_)
    refine q_c2i C (fun r h => cr_V (As := [.int v2, .int v13]) (rest := []) C (m_X0_put l G F k0 v2 v13 σ r h) cb_X0_put hk0 (by decide) rfl (cf_0 hk0 _) rfl kl_X0_56 ⟨Nat.le_of_ble_eq_true rfl, Nat.le_of_ble_eq_true rfl⟩ ⟨Nat.zero_le _, Nat.zero_le _⟩ hl.1 rfl (Nat.le_of_ble_eq_true rfl) dX0_apply_93 rfl) (fun v14 σ3 => ?_)
    refine q_aload_n C dX0_apply_96 rfl (lv_at hl 3 rfl) ?_
    refine q_iload C dX0_apply_97 (lv_at hl 1 rfl) ?_
    refine q_iload C dX0_apply_99 (lv_at hl 0 rfl) ?_
    refine q_c2i C (fun r h => cr_V (As := [.int v4, .int v12]) (rest := [.int v14]) C (m_X0_put l G F k0 v4 v12 σ3 r h) cb_X0_put hk0 (by decide) rfl (cf_0 hk0 _) rfl kl_X0_56 ⟨Nat.le_of_ble_eq_true rfl, Nat.le_of_ble_eq_true rfl⟩ ⟨Nat.zero_le _, Nat.zero_le _⟩ hl.1 rfl (Nat.le_of_ble_eq_true rfl) dX0_apply_101 rfl) (fun v15 σ4 => ?_)
    refine q_ior C dX0_apply_104 (fun v16 => ?_)
    exact q_iretE C hr hlo dX0_apply_105
  refine q_ite (fun e3 => ?_) (fun e3 => ?_) _
  · refine q_tin C 106 e3 dX0_apply_20 (by decide) (by decide) rfl (by decide) ?_
    refine q_aload_n C dX0_apply_106 rfl (lv_at hl 3 rfl) ?_
    refine q_iload_n C dX0_apply_107 rfl (lv_at hl 4 rfl) ?_
    refine q_iconst C dX0_apply_108 rfl (by decide) (fun v17 => ?_)
    refine q_c1i C (fun r h => cr_V (As := [.int a2, .int v17]) (rest := []) C (m_X4_numberOf l G F a1 a2 v17 σ r h) cb_X4_numberOf hk1 (by decide) rfl (cf_4 hk1 _) rfl kl_X0_49 ⟨Nat.le_of_ble_eq_true rfl, Nat.le_of_ble_eq_true rfl⟩ ⟨Nat.zero_le _, Nat.zero_le _⟩ hl.1 rfl (Nat.le_of_ble_eq_true rfl) dX0_apply_109 rfl) (fun v18 => ?_)
    refine q_istore C [(6, .int v18), (4, .int v4), (3, .int v2), (0, .ref (gad G k0)), (1, .ref (gad G a1)), (2, .int a2)] dX0_apply_112 hl (by decide) rfl (fun ls hl => ?_)
    refine q_iconst C dX0_apply_114 rfl (by decide) (fun v19 => ?_)
    refine q_istore C [(7, .int v19), (6, .int v18), (4, .int v4), (3, .int v2), (0, .ref (gad G k0)), (1, .ref (gad G a1)), (2, .int a2)] dX0_apply_115 hl (by decide) rfl (fun ls hl => ?_)
    refine q_iload_n C dX0_apply_117 rfl (lv_at hl 3 rfl) ?_
    refine q_istore C [(8, .int v2), (7, .int v19), (6, .int v18), (4, .int v4), (3, .int v2), (0, .ref (gad G k0)), (1, .ref (gad G a1)), (2, .int a2)] dX0_apply_118 hl (by decide) rfl (fun ls hl => ?_)
    exact B120 F v4 v18 v19 v2 σ ls (lv_sub hl [5, 3, 2, 1, 0] rfl)
  refine q_tout C 156 dX0_apply_20 (by omega) (by decide) ?_
  refine q_iconst C dX0_apply_156 rfl (by decide) (fun v28 => ?_)
  exact q_iretE C hr hlo dX0_apply_157
def f_X0_play_L11 (F : Nat) (k0 : Nat) (a1 : Nat) (a2 : Int) (a3 : Int)   : Nat → Int → St → Option (St)
  | 0, _, _ => none
  | n + 1, x3, σ =>
    if a2 ≤ x3 then (
      some σ)
    else (
      z_gt 60 fun v4 =>
      if v4 ≤ x3 then (
        some σ)
      else (
        z_c1 (f_X6_isOut F a3 x3 σ) fun v5 =>
        if ¬ v5 = 0 then (
          z_ck (x3 + 1) fun v6 =>
          f_X0_play_L11 F k0 a1 a2 a3 n v6 σ)
        else (
          z_c2 (f_X0_apply F k0 a1 x3 σ) fun v7 σ2 =>
          z_ck (x3 + 1) fun v8 =>
          f_X0_play_L11 F k0 a1 a2 a3 n v8 σ2)))

def f_X0_play (F : Nat) (k0 : Nat) (a1 : Nat) (a2 : Int) (a3 : Int) (σ : St) : Option (St) :=
  z_ob 0 k0 <| z_ob 4 a1 <| 
  z_gt (σ a1 0) fun v1 =>
  z_c1 (f_X0_clear F k0 v1 σ) fun σ1 =>
  z_gt 0 fun v2 =>
  f_X0_play_L11 F k0 a1 a2 a3 F v2 σ1
theorem cb_X0_play : CB yX0_play cX0_play 6 none 3 := ⟨ki_X0_play, kq_X0_play, kn_X0, kc_X0_play, by decide +kernel, by decide +kernel, by decide +kernel⟩
set_option maxRecDepth 20000 in
set_option maxHeartbeats 4000000 in
theorem m_X0_play (l : Launch) (G : GG) (F : Nat) (k0 : Nat) (a1 : Nat) (a2 : Int32) (a3 : Int64) (σ : St) : ∀ r, f_X0_play F k0 a1 a2.toInt a3.toInt σ = some r → MC G l yX0_play cX0_play 6 none { frames := 2, cells := 0, slots := 0, locals := 66 } [.ref (gad G k0), .ref (gad G a1), .int a2, .long a3] σ vV r := by
  refine MC_of (own := RX0) (fun _ => vV) (fun r => r) (by decide +kernel) rfl (Nat.le_of_ble_eq_true rfl) ?_
  intro p e s m args below meth c C hr hlo ls hl
  have hl : lv_has ls 6 [(0, .ref (gad G k0)), (1, .ref (gad G a1)), (2, .int a2), (3, .long a3)] := hl
  unfold f_X0_play
  refine q_ob (fun hk0 => ?_)
  refine q_ob (fun hk1 => ?_)
  have B11 : ∀ (n : Nat) (x3 : Int32) (σ : St) (ls : Array Slot), lv_has ls 6 [(0, .ref (gad G k0)), (1, .ref (gad G a1)), (2, .int a2), (3, .long a3), (5, .int x3)] → Sim G (AG G) 0 0 p l e { frames := 2, cells := 0, slots := 0, locals := 66 } s m args below meth c (fun r : St => MQ below (QC G (vV) (r)) args s 0 0 (AG G)) σ (f_X0_play_L11 F k0 a1 a2.toInt a3.toInt   n x3.toInt σ) (F0 m 11 ls []) := by
    intro n
    induction n with
    | zero =>
      intro x3 σ ls hl
      exact sim_none
    | succ n ih =>
      intro x3 σ ls hl
      rw [f_X0_play_L11]
      refine q_iload C dX0_play_11 (lv_at hl 4 rfl) ?_
      refine q_iload_n C dX0_play_13 rfl (lv_at hl 2 rfl) ?_
      refine q_icmp_ge C 47 dX0_play_14 (by decide) ?_ ?_
      · exact q_vretE C hr hlo dX0_play_47
      · refine q_iload C dX0_play_17 (lv_at hl 4 rfl) ?_
        refine q_bipush C dX0_play_19 rfl (by decide) (fun v4 => ?_)
        refine q_icmp_ge C 47 dX0_play_21 (by decide) ?_ ?_
        · exact q_vretE C hr hlo dX0_play_47
        · refine q_lload_n C dX0_play_24 rfl (lv_at hl 3 rfl) ?_
          refine q_iload C dX0_play_25 (lv_at hl 4 rfl) ?_
          refine q_c1i C (fun r h => cr_SN (As := [.long a3, .int x3]) (rest := []) C (host := "CopyWhileRun") (m_X6_isOut l G F a3 x3 σ r h) sb_X6_isOut (List.mem_of_getElem? (i := 11) rfl) ⟨Nat.le_of_ble_eq_true rfl, Nat.le_of_ble_eq_true rfl⟩ ⟨Nat.zero_le _, Nat.zero_le _⟩ hl.1 rfl (Nat.le_of_ble_eq_true rfl) dX0_play_27 rfl) (fun v5 => ?_)
          refine q_if_ne C 41 dX0_play_30 (by decide) ?_ ?_
          · refine q_iinc (k := 4) C (fun v6 => [(5, .int v6), (0, .ref (gad G k0)), (1, .ref (gad G a1)), (2, .int a2), (3, .long a3)]) dX0_play_41 hl rfl (by decide) (by decide) (fun _ => rfl) (fun v6 ls hl => ?_)
            refine q_goto C 11 dX0_play_44 (by decide) ?_
            exact ih v6 σ ls (lv_sub hl [1, 2, 3, 4, 0] rfl)
          · refine q_aload_n C dX0_play_33 rfl (lv_at hl 0 rfl) ?_
            refine q_aload_n C dX0_play_34 rfl (lv_at hl 1 rfl) ?_
            refine q_iload C dX0_play_35 (lv_at hl 4 rfl) ?_
            refine q_c2i C (fun r h => cr_V (As := [.ref (gad G a1), .int x3]) (rest := []) C (m_X0_apply l G F k0 a1 x3 σ r h) cb_X0_apply hk0 (by decide) rfl (cf_0 hk0 _) rfl kl_X0_45 ⟨Nat.le_of_ble_eq_true rfl, Nat.le_of_ble_eq_true rfl⟩ ⟨Nat.zero_le _, Nat.zero_le _⟩ hl.1 rfl (Nat.le_of_ble_eq_true rfl) dX0_play_37 rfl) (fun v7 σ2 => ?_)
            refine q_pop C dX0_play_40 rfl ?_
            refine q_iinc (k := 4) C (fun v8 => [(5, .int v8), (0, .ref (gad G k0)), (1, .ref (gad G a1)), (2, .int a2), (3, .long a3)]) dX0_play_41 hl rfl (by decide) (by decide) (fun _ => rfl) (fun v8 ls hl => ?_)
            refine q_goto C 11 dX0_play_44 (by decide) ?_
            exact ih v8 σ2 ls (lv_sub hl [1, 2, 3, 4, 0] rfl)
  refine q_aload_n C dX0_play_0 rfl (lv_at hl 0 rfl) ?_
  refine q_aload_n C dX0_play_1 rfl (lv_at hl 1 rfl) ?_
  refine g_4_0 C hk1 kf_X0_34 dX0_play_2 (fun v1 => ?_)
  refine q_cv C (fun r h => cr_V (As := [.int v1]) (rest := []) C (m_X0_clear l G F k0 v1 σ r h) cb_X0_clear hk0 (by decide) rfl (cf_0 hk0 _) rfl kl_X0_37 ⟨Nat.le_of_ble_eq_true rfl, Nat.le_of_ble_eq_true rfl⟩ ⟨Nat.zero_le _, Nat.zero_le _⟩ hl.1 rfl (Nat.le_of_ble_eq_true rfl) dX0_play_5 rfl) (fun σ1 => ?_)
  refine q_iconst C dX0_play_8 rfl (by decide) (fun v2 => ?_)
  refine q_istore C [(5, .int v2), (0, .ref (gad G k0)), (1, .ref (gad G a1)), (2, .int a2), (3, .long a3)] dX0_play_9 hl (by decide) rfl (fun ls hl => ?_)
  exact B11 F v2 σ1 ls (lv_sub hl [1, 2, 3, 4, 0] rfl)
def f_X0_total_L4 (F : Nat) (k0 : Nat)  (σ : St) : Nat → Int → Int → Option (Int)
  | 0, _, _ => none
  | n + 1, x3, x4 =>
    z_gt (σ k0 0) fun v5 =>
    if v5 ≤ x4 then (
      some x3)
    else (
      z_ix x4 32 <| z_gt (σ (k0 + 1) x4) fun v6 =>
      z_ck (x3 + v6) fun v7 =>
      z_ck (x4 + 1) fun v8 =>
      f_X0_total_L4 F k0 σ n v7 v8)

def f_X0_total (F : Nat) (k0 : Nat) (σ : St) : Option (Int) :=
  z_ob 0 k0 <| 
  z_gt 0 fun v1 =>
  z_gt 0 fun v2 =>
  f_X0_total_L4 F k0 σ F v1 v2
theorem cb_X0_total : CB yX0_total cX0_total 3 (some .int) 0 := ⟨ki_X0_total, kq_X0_total, kn_X0, kc_X0_total, by decide +kernel, by decide +kernel, by decide +kernel⟩
set_option maxRecDepth 20000 in
set_option maxHeartbeats 4000000 in
theorem m_X0_total (l : Launch) (G : GG) (F : Nat) (k0 : Nat) (σ : St) : ∀ r, f_X0_total F k0 σ = some r → MC G l yX0_total cX0_total 3 (some .int) { frames := 0, cells := 0, slots := 0, locals := 0 } [.ref (gad G k0)] σ (vI r) σ := by
  refine MC_of (own := RX0) (vI) (fun _ => σ) (by decide +kernel) rfl (Nat.le_of_ble_eq_true rfl) ?_
  intro p e s m args below meth c C hr hlo ls hl
  have hl : lv_has ls 3 [(0, .ref (gad G k0))] := hl
  unfold f_X0_total
  refine q_ob (fun hk0 => ?_)
  have B4 : ∀ (n : Nat) (x3 : Int32) (x4 : Int32) (ls : Array Slot), lv_has ls 3 [(0, .ref (gad G k0)), (1, .int x3), (2, .int x4)] → Sim G (AG G) 0 0 p l e { frames := 0, cells := 0, slots := 0, locals := 0 } s m args below meth c (fun r : Int => MQ below (QC G (vI r) (σ)) args s 0 0 (AG G)) σ (f_X0_total_L4 F k0  σ n x3.toInt x4.toInt) (F0 m 4 ls []) := by
    intro n
    induction n with
    | zero =>
      intro x3 x4 ls hl
      exact sim_none
    | succ n ih =>
      intro x3 x4 ls hl
      rw [f_X0_total_L4]
      refine q_iload_n C dX0_total_4 rfl (lv_at hl 2 rfl) ?_
      refine q_aload_n C dX0_total_5 rfl (lv_at hl 0 rfl) ?_
      refine g_0_0 C hk0 kf_X0_24 dX0_total_6 (fun v5 => ?_)
      refine q_icmp_ge C 27 dX0_total_9 (by decide) ?_ ?_
      · refine q_iload_n C dX0_total_27 rfl (lv_at hl 1 rfl) ?_
        exact q_iret C hr hlo dX0_total_28
      · refine q_iload_n C dX0_total_12 rfl (lv_at hl 1 rfl) ?_
        refine q_aload_n C dX0_total_13 rfl (lv_at hl 0 rfl) ?_
        refine g_0_1 C hk0 kf_X0_9 dX0_total_14 ?_
        refine q_iload_n C dX0_total_17 rfl (lv_at hl 2 rfl) ?_
        refine a_ild C (yk_0_1 hk0) (yl_0_1 hk0) dX0_total_18 (fun v6 => ?_)
        refine q_iadd C dX0_total_19 (fun v7 => ?_)
        refine q_istore_n C [(1, .int v7), (0, .ref (gad G k0)), (2, .int x4)] dX0_total_20 rfl hl (by decide) rfl (fun ls hl => ?_)
        refine q_iinc (k := 2) C (fun v8 => [(2, .int v8), (1, .int v7), (0, .ref (gad G k0))]) dX0_total_21 hl rfl (by decide) (by decide) (fun _ => rfl) (fun v8 ls hl => ?_)
        refine q_goto C 4 dX0_total_24 (by decide) ?_
        exact ih v7 v8 ls (lv_sub hl [2, 1, 0] rfl)
  refine q_iconst C dX0_total_0 rfl (by decide) (fun v1 => ?_)
  refine q_istore_n C [(1, .int v1), (0, .ref (gad G k0))] dX0_total_1 rfl hl (by decide) rfl (fun ls hl => ?_)
  refine q_iconst C dX0_total_2 rfl (by decide) (fun v2 => ?_)
  refine q_istore_n C [(2, .int v2), (1, .int v1), (0, .ref (gad G k0))] dX0_total_3 rfl hl (by decide) rfl (fun ls hl => ?_)
  exact B4 F v1 v2 ls (lv_sub hl [2, 1, 0] rfl)
def f_X0_zeros_L4 (F : Nat) (k0 : Nat)  (σ : St) : Nat → Int → Int → Option (Int)
  | 0, _, _ => none
  | n + 1, x3, x4 =>
    z_gt (σ k0 0) fun v5 =>
    if v5 ≤ x4 then (
      some x3)
    else (
      z_ix x4 32 <| z_gt (σ (k0 + 1) x4) fun v6 =>
      if ¬ v6 = 0 then (
        z_ck (x4 + 1) fun v7 =>
        f_X0_zeros_L4 F k0 σ n x3 v7)
      else (
        z_ck (x3 + 1) fun v8 =>
        z_ck (x4 + 1) fun v9 =>
        f_X0_zeros_L4 F k0 σ n v8 v9))

def f_X0_zeros (F : Nat) (k0 : Nat) (σ : St) : Option (Int) :=
  z_ob 0 k0 <| 
  z_gt 0 fun v1 =>
  z_gt 0 fun v2 =>
  f_X0_zeros_L4 F k0 σ F v1 v2
theorem cb_X0_zeros : CB yX0_zeros cX0_zeros 3 (some .int) 0 := ⟨ki_X0_zeros, kq_X0_zeros, kn_X0, kc_X0_zeros, by decide +kernel, by decide +kernel, by decide +kernel⟩
set_option maxRecDepth 20000 in
set_option maxHeartbeats 4000000 in
theorem m_X0_zeros (l : Launch) (G : GG) (F : Nat) (k0 : Nat) (σ : St) : ∀ r, f_X0_zeros F k0 σ = some r → MC G l yX0_zeros cX0_zeros 3 (some .int) { frames := 0, cells := 0, slots := 0, locals := 0 } [.ref (gad G k0)] σ (vI r) σ := by
  refine MC_of (own := RX0) (vI) (fun _ => σ) (by decide +kernel) rfl (Nat.le_of_ble_eq_true rfl) ?_
  intro p e s m args below meth c C hr hlo ls hl
  have hl : lv_has ls 3 [(0, .ref (gad G k0))] := hl
  unfold f_X0_zeros
  refine q_ob (fun hk0 => ?_)
  have B4 : ∀ (n : Nat) (x3 : Int32) (x4 : Int32) (ls : Array Slot), lv_has ls 3 [(0, .ref (gad G k0)), (1, .int x3), (2, .int x4)] → Sim G (AG G) 0 0 p l e { frames := 0, cells := 0, slots := 0, locals := 0 } s m args below meth c (fun r : Int => MQ below (QC G (vI r) (σ)) args s 0 0 (AG G)) σ (f_X0_zeros_L4 F k0  σ n x3.toInt x4.toInt) (F0 m 4 ls []) := by
    intro n
    induction n with
    | zero =>
      intro x3 x4 ls hl
      exact sim_none
    | succ n ih =>
      intro x3 x4 ls hl
      rw [f_X0_zeros_L4]
      refine q_iload_n C dX0_zeros_4 rfl (lv_at hl 2 rfl) ?_
      refine q_aload_n C dX0_zeros_5 rfl (lv_at hl 0 rfl) ?_
      refine g_0_0 C hk0 kf_X0_24 dX0_zeros_6 (fun v5 => ?_)
      refine q_icmp_ge C 30 dX0_zeros_9 (by decide) ?_ ?_
      · refine q_iload_n C dX0_zeros_30 rfl (lv_at hl 1 rfl) ?_
        exact q_iret C hr hlo dX0_zeros_31
      · refine q_aload_n C dX0_zeros_12 rfl (lv_at hl 0 rfl) ?_
        refine g_0_1 C hk0 kf_X0_9 dX0_zeros_13 ?_
        refine q_iload_n C dX0_zeros_16 rfl (lv_at hl 2 rfl) ?_
        refine a_ild C (yk_0_1 hk0) (yl_0_1 hk0) dX0_zeros_17 (fun v6 => ?_)
        refine q_if_ne C 24 dX0_zeros_18 (by decide) ?_ ?_
        · refine q_iinc (k := 2) C (fun v7 => [(2, .int v7), (0, .ref (gad G k0)), (1, .int x3)]) dX0_zeros_24 hl rfl (by decide) (by decide) (fun _ => rfl) (fun v7 ls hl => ?_)
          refine q_goto C 4 dX0_zeros_27 (by decide) ?_
          exact ih x3 v7 ls (lv_sub hl [1, 2, 0] rfl)
        · refine q_iinc (k := 1) C (fun v8 => [(1, .int v8), (0, .ref (gad G k0)), (2, .int x4)]) dX0_zeros_21 hl rfl (by decide) (by decide) (fun _ => rfl) (fun v8 ls hl => ?_)
          refine q_iinc (k := 2) C (fun v9 => [(2, .int v9), (1, .int v8), (0, .ref (gad G k0))]) dX0_zeros_24 hl rfl (by decide) (by decide) (fun _ => rfl) (fun v9 ls hl => ?_)
          refine q_goto C 4 dX0_zeros_27 (by decide) ?_
          exact ih v8 v9 ls (lv_sub hl [2, 1, 0] rfl)
  refine q_iconst C dX0_zeros_0 rfl (by decide) (fun v1 => ?_)
  refine q_istore_n C [(1, .int v1), (0, .ref (gad G k0))] dX0_zeros_1 rfl hl (by decide) rfl (fun ls hl => ?_)
  refine q_iconst C dX0_zeros_2 rfl (by decide) (fun v2 => ?_)
  refine q_istore_n C [(2, .int v2), (1, .int v1), (0, .ref (gad G k0))] dX0_zeros_3 rfl hl (by decide) rfl (fun ls hl => ?_)
  exact B4 F v1 v2 ls (lv_sub hl [2, 1, 0] rfl)
def f_X0_unlike_L4 (F : Nat) (k0 : Nat) (a1 : Nat)  (σ : St) : Nat → Int → Int → Option (Int)
  | 0, _, _ => none
  | n + 1, x3, x4 =>
    z_gt (σ k0 0) fun v5 =>
    if v5 ≤ x4 then (
      some x3)
    else (
      z_ix x4 32 <| z_gt (σ (k0 + 1) x4) fun v6 =>
      z_ix x4 32 <| z_gt (σ (a1 + 1) x4) fun v7 =>
      if v6 = v7 then (
        z_ck (x4 + 1) fun v8 =>
        f_X0_unlike_L4 F k0 a1 σ n x3 v8)
      else (
        z_ck (x3 + 1) fun v9 =>
        z_ck (x4 + 1) fun v10 =>
        f_X0_unlike_L4 F k0 a1 σ n v9 v10))

def f_X0_unlike (F : Nat) (k0 : Nat) (a1 : Nat) (σ : St) : Option (Int) :=
  z_ob 0 k0 <| z_ob 0 a1 <| 
  z_gt 0 fun v1 =>
  z_gt 0 fun v2 =>
  f_X0_unlike_L4 F k0 a1 σ F v1 v2
theorem cb_X0_unlike : CB yX0_unlike cX0_unlike 4 (some .int) 1 := ⟨ki_X0_unlike, kq_X0_unlike, kn_X0, kc_X0_unlike, by decide +kernel, by decide +kernel, by decide +kernel⟩
set_option maxRecDepth 20000 in
set_option maxHeartbeats 4000000 in
theorem m_X0_unlike (l : Launch) (G : GG) (F : Nat) (k0 : Nat) (a1 : Nat) (σ : St) : ∀ r, f_X0_unlike F k0 a1 σ = some r → MC G l yX0_unlike cX0_unlike 4 (some .int) { frames := 0, cells := 0, slots := 0, locals := 0 } [.ref (gad G k0), .ref (gad G a1)] σ (vI r) σ := by
  refine MC_of (own := RX0) (vI) (fun _ => σ) (by decide +kernel) rfl (Nat.le_of_ble_eq_true rfl) ?_
  intro p e s m args below meth c C hr hlo ls hl
  have hl : lv_has ls 4 [(0, .ref (gad G k0)), (1, .ref (gad G a1))] := hl
  unfold f_X0_unlike
  refine q_ob (fun hk0 => ?_)
  refine q_ob (fun hk1 => ?_)
  have B4 : ∀ (n : Nat) (x3 : Int32) (x4 : Int32) (ls : Array Slot), lv_has ls 4 [(0, .ref (gad G k0)), (1, .ref (gad G a1)), (2, .int x3), (3, .int x4)] → Sim G (AG G) 0 0 p l e { frames := 0, cells := 0, slots := 0, locals := 0 } s m args below meth c (fun r : Int => MQ below (QC G (vI r) (σ)) args s 0 0 (AG G)) σ (f_X0_unlike_L4 F k0 a1  σ n x3.toInt x4.toInt) (F0 m 4 ls []) := by
    intro n
    induction n with
    | zero =>
      intro x3 x4 ls hl
      exact sim_none
    | succ n ih =>
      intro x3 x4 ls hl
      rw [f_X0_unlike_L4]
      refine q_iload_n C dX0_unlike_4 rfl (lv_at hl 3 rfl) ?_
      refine q_aload_n C dX0_unlike_5 rfl (lv_at hl 0 rfl) ?_
      refine g_0_0 C hk0 kf_X0_24 dX0_unlike_6 (fun v5 => ?_)
      refine q_icmp_ge C 36 dX0_unlike_9 (by decide) ?_ ?_
      · refine q_iload_n C dX0_unlike_36 rfl (lv_at hl 2 rfl) ?_
        exact q_iret C hr hlo dX0_unlike_37
      · refine q_aload_n C dX0_unlike_12 rfl (lv_at hl 0 rfl) ?_
        refine g_0_1 C hk0 kf_X0_9 dX0_unlike_13 ?_
        refine q_iload_n C dX0_unlike_16 rfl (lv_at hl 3 rfl) ?_
        refine a_ild C (yk_0_1 hk0) (yl_0_1 hk0) dX0_unlike_17 (fun v6 => ?_)
        refine q_aload_n C dX0_unlike_18 rfl (lv_at hl 1 rfl) ?_
        refine g_0_1 C hk1 kf_X0_9 dX0_unlike_19 ?_
        refine q_iload_n C dX0_unlike_22 rfl (lv_at hl 3 rfl) ?_
        refine a_ild C (yk_0_1 hk1) (yl_0_1 hk1) dX0_unlike_23 (fun v7 => ?_)
        refine q_icmp_eq C 30 dX0_unlike_24 (by decide) ?_ ?_
        · refine q_iinc (k := 3) C (fun v8 => [(3, .int v8), (0, .ref (gad G k0)), (1, .ref (gad G a1)), (2, .int x3)]) dX0_unlike_30 hl rfl (by decide) (by decide) (fun _ => rfl) (fun v8 ls hl => ?_)
          refine q_goto C 4 dX0_unlike_33 (by decide) ?_
          exact ih x3 v8 ls (lv_sub hl [1, 2, 3, 0] rfl)
        · refine q_iinc (k := 2) C (fun v9 => [(2, .int v9), (0, .ref (gad G k0)), (1, .ref (gad G a1)), (3, .int x4)]) dX0_unlike_27 hl rfl (by decide) (by decide) (fun _ => rfl) (fun v9 ls hl => ?_)
          refine q_iinc (k := 3) C (fun v10 => [(3, .int v10), (2, .int v9), (0, .ref (gad G k0)), (1, .ref (gad G a1))]) dX0_unlike_30 hl rfl (by decide) (by decide) (fun _ => rfl) (fun v10 ls hl => ?_)
          refine q_goto C 4 dX0_unlike_33 (by decide) ?_
          exact ih v9 v10 ls (lv_sub hl [2, 3, 1, 0] rfl)
  refine q_iconst C dX0_unlike_0 rfl (by decide) (fun v1 => ?_)
  refine q_istore_n C [(2, .int v1), (0, .ref (gad G k0)), (1, .ref (gad G a1))] dX0_unlike_1 rfl hl (by decide) rfl (fun ls hl => ?_)
  refine q_iconst C dX0_unlike_2 rfl (by decide) (fun v2 => ?_)
  refine q_istore_n C [(3, .int v2), (2, .int v1), (0, .ref (gad G k0)), (1, .ref (gad G a1))] dX0_unlike_3 rfl hl (by decide) rfl (fun ls hl => ?_)
  exact B4 F v1 v2 ls (lv_sub hl [2, 3, 1, 0] rfl)
def f_X0_becomeCells (F : Nat) (k0 : Nat) (a1 : Nat) (σ : St) : Option (St) :=
  z_ob 0 k0 <| z_ob 0 a1 <| 
  z_gt (σ a1 0) fun v1 =>
  z_sg (z_up σ k0 0 v1) fun σ1 =>
  z_gt 0 fun v2 =>
  z_gt 0 fun v3 =>
  z_gt 32 fun v4 =>
  z_cpk v2 v3 v4 32 32 <| z_sg (z_cp σ1 (a1 + 1) (k0 + 1) v2 v3 v4) fun σ2 =>
  some σ2
theorem cb_X0_becomeCells : CB yX0_becomeCells cX0_becomeCells 2 none 1 := ⟨ki_X0_becomeCells, kq_X0_becomeCells, kn_X0, kc_X0_becomeCells, by decide +kernel, by decide +kernel, by decide +kernel⟩
set_option maxRecDepth 20000 in
set_option maxHeartbeats 4000000 in
theorem m_X0_becomeCells (l : Launch) (G : GG) (F : Nat) (k0 : Nat) (a1 : Nat) (σ : St) : ∀ r, f_X0_becomeCells F k0 a1 σ = some r → MC G l yX0_becomeCells cX0_becomeCells 2 none { frames := 1, cells := 0, slots := 0, locals := 45 } [.ref (gad G k0), .ref (gad G a1)] σ vV r := by
  refine MC_of (own := RX0) (fun _ => vV) (fun r => r) (by decide +kernel) rfl (Nat.le_of_ble_eq_true rfl) ?_
  intro p e s m args below meth c C hr hlo ls hl
  have hl : lv_has ls 2 [(0, .ref (gad G k0)), (1, .ref (gad G a1))] := hl
  unfold f_X0_becomeCells
  refine q_ob (fun hk0 => ?_)
  refine q_ob (fun hk1 => ?_)
  refine q_aload_n C dX0_becomeCells_0 rfl (lv_at hl 0 rfl) ?_
  refine q_aload_n C dX0_becomeCells_1 rfl (lv_at hl 1 rfl) ?_
  refine g_0_0 C hk1 kf_X0_24 dX0_becomeCells_2 (fun v1 => ?_)
  refine p_0_0 C hk0 kf_X0_24 dX0_becomeCells_5 (q_sg (fun σ1 => ?_))
  refine q_aload_n C dX0_becomeCells_8 rfl (lv_at hl 1 rfl) ?_
  refine g_0_1 C hk1 kf_X0_9 dX0_becomeCells_9 ?_
  refine q_iconst C dX0_becomeCells_12 rfl (by decide) (fun v2 => ?_)
  refine q_aload_n C dX0_becomeCells_13 rfl (lv_at hl 0 rfl) ?_
  refine g_0_1 C hk0 kf_X0_9 dX0_becomeCells_14 ?_
  refine q_iconst C dX0_becomeCells_17 rfl (by decide) (fun v3 => ?_)
  refine q_bipush C dX0_becomeCells_18 rfl (by decide) (fun v4 => ?_)
  refine q_copyi C (yk_0_1 hk1) (yl_0_1 hk1) (yk_0_1 hk0) (yl_0_1 hk0) kl_X0_62 ⟨Nat.le_of_ble_eq_true rfl, by decide +kernel⟩ hl.1 dX0_becomeCells_20 (q_sg (fun σ2 => ?_))
  exact q_vretE C hr hlo dX0_becomeCells_23
def f_X1_begin (F : Nat) (k0 : Nat) (a1 : Int) (a2 : Int) (a3 : Int) (σ : St) : Option (St) :=
  z_ob 1 k0 <| 
  z_bo a1 <| z_sg (z_up σ k0 0 a1) fun σ1 =>
  z_sg (z_up σ1 k0 1 a2) fun σ2 =>
  z_gt 0 fun v1 =>
  z_sg (z_up σ2 k0 2 v1) fun σ3 =>
  z_gt (-1) fun v2 =>
  z_sg (z_up σ3 k0 3 v2) fun σ4 =>
  z_sg (z_up σ4 k0 4 a3) fun σ5 =>
  z_gt 0 fun v3 =>
  z_sg (z_up σ5 k0 5 v3) fun σ6 =>
  z_gt 0 fun v4 =>
  z_sg (z_up σ6 k0 6 v4) fun σ7 =>
  z_gt 0 fun v5 =>
  z_sg (z_up σ7 k0 7 v5) fun σ8 =>
  some σ8
theorem cb_X1_begin : CB yX1_begin cX1_begin 4 none 3 := ⟨ki_X1_begin, kq_X1_begin, kn_X1, kc_X1_begin, by decide +kernel, by decide +kernel, by decide +kernel⟩
set_option maxRecDepth 20000 in
set_option maxHeartbeats 4000000 in
theorem m_X1_begin (l : Launch) (G : GG) (F : Nat) (k0 : Nat) (a1 : Int32) (a2 : Int32) (a3 : Int32) (σ : St) : ∀ r, f_X1_begin F k0 a1.toInt a2.toInt a3.toInt σ = some r → MC G l yX1_begin cX1_begin 4 none { frames := 0, cells := 0, slots := 0, locals := 0 } [.ref (gad G k0), .int a1, .int a2, .int a3] σ vV r := by
  refine MC_of (own := RX1) (fun _ => vV) (fun r => r) (by decide +kernel) rfl (Nat.le_of_ble_eq_true rfl) ?_
  intro p e s m args below meth c C hr hlo ls hl
  have hl : lv_has ls 4 [(0, .ref (gad G k0)), (1, .int a1), (2, .int a2), (3, .int a3)] := hl
  unfold f_X1_begin
  refine q_ob (fun hk0 => ?_)
  refine q_aload_n C dX1_begin_0 rfl (lv_at hl 0 rfl) ?_
  refine q_iload_n C dX1_begin_1 rfl (lv_at hl 1 rfl) ?_
  refine p_1_0 C hk0 kf_X1_18 dX1_begin_2 (q_sg (fun σ1 => ?_))
  refine q_aload_n C dX1_begin_5 rfl (lv_at hl 0 rfl) ?_
  refine q_iload_n C dX1_begin_6 rfl (lv_at hl 2 rfl) ?_
  refine p_1_1 C hk0 kf_X1_22 dX1_begin_7 (q_sg (fun σ2 => ?_))
  refine q_aload_n C dX1_begin_10 rfl (lv_at hl 0 rfl) ?_
  refine q_iconst C dX1_begin_11 rfl (by decide) (fun v1 => ?_)
  refine p_1_2 C hk0 kf_X1_26 dX1_begin_12 (q_sg (fun σ3 => ?_))
  refine q_aload_n C dX1_begin_15 rfl (lv_at hl 0 rfl) ?_
  refine q_iconst C dX1_begin_16 rfl (by decide) (fun v2 => ?_)
  refine p_1_3 C hk0 kf_X1_29 dX1_begin_17 (q_sg (fun σ4 => ?_))
  refine q_aload_n C dX1_begin_20 rfl (lv_at hl 0 rfl) ?_
  refine q_iload_n C dX1_begin_21 rfl (lv_at hl 3 rfl) ?_
  refine p_1_4 C hk0 kf_X1_32 dX1_begin_22 (q_sg (fun σ5 => ?_))
  refine q_aload_n C dX1_begin_25 rfl (lv_at hl 0 rfl) ?_
  refine q_iconst C dX1_begin_26 rfl (by decide) (fun v3 => ?_)
  refine p_1_5 C hk0 kf_X1_35 dX1_begin_27 (q_sg (fun σ6 => ?_))
  refine q_aload_n C dX1_begin_30 rfl (lv_at hl 0 rfl) ?_
  refine q_iconst C dX1_begin_31 rfl (by decide) (fun v4 => ?_)
  refine p_1_6 C hk0 kf_X1_38 dX1_begin_32 (q_sg (fun σ7 => ?_))
  refine q_aload_n C dX1_begin_35 rfl (lv_at hl 0 rfl) ?_
  refine q_iconst C dX1_begin_36 rfl (by decide) (fun v5 => ?_)
  refine p_1_7 C hk0 kf_X1_41 dX1_begin_37 (q_sg (fun σ8 => ?_))
  exact q_vretE C hr hlo dX1_begin_40
def f_X1_finishAs (F : Nat) (k0 : Nat) (a1 : Int) (a2 : Int) (σ : St) : Option (St) :=
  z_ob 1 k0 <| 
  z_sg (z_up σ k0 2 a1) fun σ1 =>
  z_sg (z_up σ1 k0 3 a2) fun σ2 =>
  some σ2
theorem cb_X1_finishAs : CB yX1_finishAs cX1_finishAs 3 none 2 := ⟨ki_X1_finishAs, kq_X1_finishAs, kn_X1, kc_X1_finishAs, by decide +kernel, by decide +kernel, by decide +kernel⟩
set_option maxRecDepth 20000 in
set_option maxHeartbeats 4000000 in
theorem m_X1_finishAs (l : Launch) (G : GG) (F : Nat) (k0 : Nat) (a1 : Int32) (a2 : Int32) (σ : St) : ∀ r, f_X1_finishAs F k0 a1.toInt a2.toInt σ = some r → MC G l yX1_finishAs cX1_finishAs 3 none { frames := 0, cells := 0, slots := 0, locals := 0 } [.ref (gad G k0), .int a1, .int a2] σ vV r := by
  refine MC_of (own := RX1) (fun _ => vV) (fun r => r) (by decide +kernel) rfl (Nat.le_of_ble_eq_true rfl) ?_
  intro p e s m args below meth c C hr hlo ls hl
  have hl : lv_has ls 3 [(0, .ref (gad G k0)), (1, .int a1), (2, .int a2)] := hl
  unfold f_X1_finishAs
  refine q_ob (fun hk0 => ?_)
  refine q_aload_n C dX1_finishAs_0 rfl (lv_at hl 0 rfl) ?_
  refine q_iload_n C dX1_finishAs_1 rfl (lv_at hl 1 rfl) ?_
  refine p_1_2 C hk0 kf_X1_26 dX1_finishAs_2 (q_sg (fun σ1 => ?_))
  refine q_aload_n C dX1_finishAs_5 rfl (lv_at hl 0 rfl) ?_
  refine q_iload_n C dX1_finishAs_6 rfl (lv_at hl 2 rfl) ?_
  refine p_1_3 C hk0 kf_X1_29 dX1_finishAs_7 (q_sg (fun σ2 => ?_))
  exact q_vretE C hr hlo dX1_finishAs_10
def f_X1_missing (F : Nat) (k0 : Nat) (σ : St) : Option (Int) :=
  z_ob 1 k0 <| 
  z_gt (σ k0 4) fun v1 =>
  z_gt (σ k0 5) fun v2 =>
  z_gt (-1) fun v3 =>
  z_gt (z_xor v2 v3) fun v4 =>
  z_gt (z_and v1 v4) fun v5 =>
  some v5
theorem cb_X1_missing : CB yX1_missing cX1_missing 1 (some .int) 0 := ⟨ki_X1_missing, kq_X1_missing, kn_X1, kc_X1_missing, by decide +kernel, by decide +kernel, by decide +kernel⟩
set_option maxRecDepth 20000 in
set_option maxHeartbeats 4000000 in
theorem m_X1_missing (l : Launch) (G : GG) (F : Nat) (k0 : Nat) (σ : St) : ∀ r, f_X1_missing F k0 σ = some r → MC G l yX1_missing cX1_missing 1 (some .int) { frames := 0, cells := 0, slots := 0, locals := 0 } [.ref (gad G k0)] σ (vI r) σ := by
  refine MC_of (own := RX1) (vI) (fun _ => σ) (by decide +kernel) rfl (Nat.le_of_ble_eq_true rfl) ?_
  intro p e s m args below meth c C hr hlo ls hl
  have hl : lv_has ls 1 [(0, .ref (gad G k0))] := hl
  unfold f_X1_missing
  refine q_ob (fun hk0 => ?_)
  refine q_aload_n C dX1_missing_0 rfl (lv_at hl 0 rfl) ?_
  refine g_1_4 C hk0 kf_X1_32 dX1_missing_1 (fun v1 => ?_)
  refine q_aload_n C dX1_missing_4 rfl (lv_at hl 0 rfl) ?_
  refine g_1_5 C hk0 kf_X1_35 dX1_missing_5 (fun v2 => ?_)
  refine q_iconst C dX1_missing_8 rfl (by decide) (fun v3 => ?_)
  refine q_ixor C dX1_missing_9 (fun v4 => ?_)
  refine q_iand C dX1_missing_10 (fun v5 => ?_)
  exact q_iret C hr hlo dX1_missing_11
def f_X1_keep (F : Nat) (k0 : Nat) (a1 : Int) (a2 : Int) (σ : St) : Option (St) :=
  z_ob 1 k0 <| 
  if a1 < 0 then (
    some σ)
  else (
    z_gt 32 fun v1 =>
    if v1 ≤ a1 then (
      some σ)
    else (
      z_gt (σ k0 7) fun v2 =>
      z_gt 32 fun v3 =>
      if v3 ≤ v2 then (
        some σ)
      else (
        z_gt (σ k0 5) fun v4 =>
        z_gt 1 fun v5 =>
        z_gt (z_shl v5 a1) fun v6 =>
        z_gt (z_or v4 v6) fun v7 =>
        z_sg (z_up σ k0 5 v7) fun σ1 =>
        z_ix a1 32 <| z_sg (z_up σ1 (k0 + 1) a1 a2) fun σ2 =>
        z_gt (σ2 k0 7) fun v8 =>
        z_ix v8 32 <| z_sg (z_up σ2 (k0 + 2) v8 a1) fun σ3 =>
        z_gt (σ3 k0 7) fun v9 =>
        z_gt 1 fun v10 =>
        z_ck (v9 + v10) fun v11 =>
        z_sg (z_up σ3 k0 7 v11) fun σ4 =>
        some σ4)))
theorem cb_X1_keep : CB yX1_keep cX1_keep 3 none 2 := ⟨ki_X1_keep, kq_X1_keep, kn_X1, kc_X1_keep, by decide +kernel, by decide +kernel, by decide +kernel⟩
set_option maxRecDepth 20000 in
set_option maxHeartbeats 4000000 in
theorem m_X1_keep (l : Launch) (G : GG) (F : Nat) (k0 : Nat) (a1 : Int32) (a2 : Int32) (σ : St) : ∀ r, f_X1_keep F k0 a1.toInt a2.toInt σ = some r → MC G l yX1_keep cX1_keep 3 none { frames := 0, cells := 0, slots := 0, locals := 0 } [.ref (gad G k0), .int a1, .int a2] σ vV r := by
  refine MC_of (own := RX1) (fun _ => vV) (fun r => r) (by decide +kernel) rfl (Nat.le_of_ble_eq_true rfl) ?_
  intro p e s m args below meth c C hr hlo ls hl
  have hl : lv_has ls 3 [(0, .ref (gad G k0)), (1, .int a1), (2, .int a2)] := hl
  unfold f_X1_keep
  refine q_ob (fun hk0 => ?_)
  refine q_iload_n C dX1_keep_0 rfl (lv_at hl 1 rfl) ?_
  refine q_if_lt C 58 dX1_keep_1 (by decide) ?_ ?_
  · exact q_vretE C hr hlo dX1_keep_58
  · refine q_iload_n C dX1_keep_4 rfl (lv_at hl 1 rfl) ?_
    refine q_bipush C dX1_keep_5 rfl (by decide) (fun v1 => ?_)
    refine q_icmp_ge C 58 dX1_keep_7 (by decide) ?_ ?_
    · exact q_vretE C hr hlo dX1_keep_58
    · refine q_aload_n C dX1_keep_10 rfl (lv_at hl 0 rfl) ?_
      refine g_1_7 C hk0 kf_X1_41 dX1_keep_11 (fun v2 => ?_)
      refine q_bipush C dX1_keep_14 rfl (by decide) (fun v3 => ?_)
      refine q_icmp_ge C 58 dX1_keep_16 (by decide) ?_ ?_
      · exact q_vretE C hr hlo dX1_keep_58
      · refine q_aload_n C dX1_keep_19 rfl (lv_at hl 0 rfl) ?_
        refine q_dup C dX1_keep_20 rfl ?_
        refine g_1_5 C hk0 kf_X1_35 dX1_keep_21 (fun v4 => ?_)
        refine q_iconst C dX1_keep_24 rfl (by decide) (fun v5 => ?_)
        refine q_iload_n C dX1_keep_25 rfl (lv_at hl 1 rfl) ?_
        refine q_ishl C dX1_keep_26 (fun v6 => ?_)
        refine q_ior C dX1_keep_27 (fun v7 => ?_)
        refine p_1_5 C hk0 kf_X1_35 dX1_keep_28 (q_sg (fun σ1 => ?_))
        refine q_aload_n C dX1_keep_31 rfl (lv_at hl 0 rfl) ?_
        refine g_1_8 C hk0 kf_X1_9 dX1_keep_32 ?_
        refine q_iload_n C dX1_keep_35 rfl (lv_at hl 1 rfl) ?_
        refine q_iload_n C dX1_keep_36 rfl (lv_at hl 2 rfl) ?_
        refine a_ist C (yk_1_8 hk0) (yl_1_8 hk0) dX1_keep_37 (q_sg (fun σ2 => ?_))
        refine q_aload_n C dX1_keep_38 rfl (lv_at hl 0 rfl) ?_
        refine g_1_9 C hk0 kf_X1_15 dX1_keep_39 ?_
        refine q_aload_n C dX1_keep_42 rfl (lv_at hl 0 rfl) ?_
        refine g_1_7 C hk0 kf_X1_41 dX1_keep_43 (fun v8 => ?_)
        refine q_iload_n C dX1_keep_46 rfl (lv_at hl 1 rfl) ?_
        refine a_ist C (yk_1_9 hk0) (yl_1_9 hk0) dX1_keep_47 (q_sg (fun σ3 => ?_))
        refine q_aload_n C dX1_keep_48 rfl (lv_at hl 0 rfl) ?_
        refine q_dup C dX1_keep_49 rfl ?_
        refine g_1_7 C hk0 kf_X1_41 dX1_keep_50 (fun v9 => ?_)
        refine q_iconst C dX1_keep_53 rfl (by decide) (fun v10 => ?_)
        refine q_iadd C dX1_keep_54 (fun v11 => ?_)
        refine p_1_7 C hk0 kf_X1_41 dX1_keep_55 (q_sg (fun σ4 => ?_))
        exact q_vretE C hr hlo dX1_keep_58
def f_X1_contentOf (F : Nat) (k0 : Nat) (a1 : Int) (σ : St) : Option (Int) :=
  z_ob 1 k0 <| 
  if a1 < 0 then (
    z_gt (-1) fun v1 =>
    some v1)
  else (
    z_gt 32 fun v2 =>
    if v2 ≤ a1 then (
      z_gt (-1) fun v3 =>
      some v3)
    else (
      z_ix a1 32 <| z_gt (σ (k0 + 1) a1) fun v4 =>
      some v4))
theorem cb_X1_contentOf : CB yX1_contentOf cX1_contentOf 2 (some .int) 1 := ⟨ki_X1_contentOf, kq_X1_contentOf, kn_X1, kc_X1_contentOf, by decide +kernel, by decide +kernel, by decide +kernel⟩
set_option maxRecDepth 20000 in
set_option maxHeartbeats 4000000 in
theorem m_X1_contentOf (l : Launch) (G : GG) (F : Nat) (k0 : Nat) (a1 : Int32) (σ : St) : ∀ r, f_X1_contentOf F k0 a1.toInt σ = some r → MC G l yX1_contentOf cX1_contentOf 2 (some .int) { frames := 0, cells := 0, slots := 0, locals := 0 } [.ref (gad G k0), .int a1] σ (vI r) σ := by
  refine MC_of (own := RX1) (vI) (fun _ => σ) (by decide +kernel) rfl (Nat.le_of_ble_eq_true rfl) ?_
  intro p e s m args below meth c C hr hlo ls hl
  have hl : lv_has ls 2 [(0, .ref (gad G k0)), (1, .int a1)] := hl
  unfold f_X1_contentOf
  refine q_ob (fun hk0 => ?_)
  refine q_iload_n C dX1_contentOf_0 rfl (lv_at hl 1 rfl) ?_
  refine q_if_lt C 19 dX1_contentOf_1 (by decide) ?_ ?_
  · refine q_iconst C dX1_contentOf_19 rfl (by decide) (fun v1 => ?_)
    exact q_iret C hr hlo dX1_contentOf_20
  · refine q_iload_n C dX1_contentOf_4 rfl (lv_at hl 1 rfl) ?_
    refine q_bipush C dX1_contentOf_5 rfl (by decide) (fun v2 => ?_)
    refine q_icmp_ge C 19 dX1_contentOf_7 (by decide) ?_ ?_
    · refine q_iconst C dX1_contentOf_19 rfl (by decide) (fun v3 => ?_)
      exact q_iret C hr hlo dX1_contentOf_20
    · refine q_aload_n C dX1_contentOf_10 rfl (lv_at hl 0 rfl) ?_
      refine g_1_8 C hk0 kf_X1_9 dX1_contentOf_11 ?_
      refine q_iload_n C dX1_contentOf_14 rfl (lv_at hl 1 rfl) ?_
      refine a_ild C (yk_1_8 hk0) (yl_1_8 hk0) dX1_contentOf_15 (fun v4 => ?_)
      refine q_goto C 20 dX1_contentOf_16 (by decide) ?_
      exact q_iret C hr hlo dX1_contentOf_20
def f_X1_cellInTurn (F : Nat) (k0 : Nat) (a1 : Int) (σ : St) : Option (Int) :=
  z_ob 1 k0 <| 
  if a1 < 0 then (
    z_gt (-1) fun v1 =>
    some v1)
  else (
    z_gt (σ k0 7) fun v2 =>
    if v2 ≤ a1 then (
      z_gt (-1) fun v3 =>
      some v3)
    else (
      z_gt 32 fun v4 =>
      if v4 ≤ a1 then (
        z_gt (-1) fun v5 =>
        some v5)
      else (
        z_ix a1 32 <| z_gt (σ (k0 + 2) a1) fun v6 =>
        some v6)))
theorem cb_X1_cellInTurn : CB yX1_cellInTurn cX1_cellInTurn 2 (some .int) 1 := ⟨ki_X1_cellInTurn, kq_X1_cellInTurn, kn_X1, kc_X1_cellInTurn, by decide +kernel, by decide +kernel, by decide +kernel⟩
set_option maxRecDepth 20000 in
set_option maxHeartbeats 4000000 in
theorem m_X1_cellInTurn (l : Launch) (G : GG) (F : Nat) (k0 : Nat) (a1 : Int32) (σ : St) : ∀ r, f_X1_cellInTurn F k0 a1.toInt σ = some r → MC G l yX1_cellInTurn cX1_cellInTurn 2 (some .int) { frames := 0, cells := 0, slots := 0, locals := 0 } [.ref (gad G k0), .int a1] σ (vI r) σ := by
  refine MC_of (own := RX1) (vI) (fun _ => σ) (by decide +kernel) rfl (Nat.le_of_ble_eq_true rfl) ?_
  intro p e s m args below meth c C hr hlo ls hl
  have hl : lv_has ls 2 [(0, .ref (gad G k0)), (1, .int a1)] := hl
  unfold f_X1_cellInTurn
  refine q_ob (fun hk0 => ?_)
  refine q_iload_n C dX1_cellInTurn_0 rfl (lv_at hl 1 rfl) ?_
  refine q_if_lt C 27 dX1_cellInTurn_1 (by decide) ?_ ?_
  · refine q_iconst C dX1_cellInTurn_27 rfl (by decide) (fun v1 => ?_)
    exact q_iret C hr hlo dX1_cellInTurn_28
  · refine q_iload_n C dX1_cellInTurn_4 rfl (lv_at hl 1 rfl) ?_
    refine q_aload_n C dX1_cellInTurn_5 rfl (lv_at hl 0 rfl) ?_
    refine g_1_7 C hk0 kf_X1_41 dX1_cellInTurn_6 (fun v2 => ?_)
    refine q_icmp_ge C 27 dX1_cellInTurn_9 (by decide) ?_ ?_
    · refine q_iconst C dX1_cellInTurn_27 rfl (by decide) (fun v3 => ?_)
      exact q_iret C hr hlo dX1_cellInTurn_28
    · refine q_iload_n C dX1_cellInTurn_12 rfl (lv_at hl 1 rfl) ?_
      refine q_bipush C dX1_cellInTurn_13 rfl (by decide) (fun v4 => ?_)
      refine q_icmp_ge C 27 dX1_cellInTurn_15 (by decide) ?_ ?_
      · refine q_iconst C dX1_cellInTurn_27 rfl (by decide) (fun v5 => ?_)
        exact q_iret C hr hlo dX1_cellInTurn_28
      · refine q_aload_n C dX1_cellInTurn_18 rfl (lv_at hl 0 rfl) ?_
        refine g_1_9 C hk0 kf_X1_15 dX1_cellInTurn_19 ?_
        refine q_iload_n C dX1_cellInTurn_22 rfl (lv_at hl 1 rfl) ?_
        refine a_ild C (yk_1_9 hk0) (yl_1_9 hk0) dX1_cellInTurn_23 (fun v6 => ?_)
        refine q_goto C 28 dX1_cellInTurn_24 (by decide) ?_
        exact q_iret C hr hlo dX1_cellInTurn_28
def f_X2_hasRoom (F : Nat) (k0 : Nat) (a1 : Int) (σ : St) : Option (Int) :=
  z_ob 2 k0 <| 
  z_gt (σ k0 0) fun v1 =>
  z_ck (v1 + a1) fun v2 =>
  z_gt 700 fun v3 =>
  if v3 < v2 then (
    z_gt 0 fun v4 =>
    z_bo v4 <| some v4)
  else (
    z_gt 1 fun v5 =>
    z_bo v5 <| some v5)
theorem cb_X2_hasRoom : CB yX2_hasRoom cX2_hasRoom 2 (some .boolean) 1 := ⟨ki_X2_hasRoom, kq_X2_hasRoom, kn_X2, kc_X2_hasRoom, by decide +kernel, by decide +kernel, by decide +kernel⟩
set_option maxRecDepth 20000 in
set_option maxHeartbeats 4000000 in
theorem m_X2_hasRoom (l : Launch) (G : GG) (F : Nat) (k0 : Nat) (a1 : Int32) (σ : St) : ∀ r, f_X2_hasRoom F k0 a1.toInt σ = some r → MC G l yX2_hasRoom cX2_hasRoom 2 (some .boolean) { frames := 0, cells := 0, slots := 0, locals := 0 } [.ref (gad G k0), .int a1] σ (vI r) σ := by
  refine MC_of (own := RX2) (vI) (fun _ => σ) (by decide +kernel) rfl (Nat.le_of_ble_eq_true rfl) ?_
  intro p e s m args below meth c C hr hlo ls hl
  have hl : lv_has ls 2 [(0, .ref (gad G k0)), (1, .int a1)] := hl
  unfold f_X2_hasRoom
  refine q_ob (fun hk0 => ?_)
  refine q_aload_n C dX2_hasRoom_0 rfl (lv_at hl 0 rfl) ?_
  refine g_2_0 C hk0 kf_X2_23 dX2_hasRoom_1 (fun v1 => ?_)
  refine q_iload_n C dX2_hasRoom_4 rfl (lv_at hl 1 rfl) ?_
  refine q_iadd C dX2_hasRoom_5 (fun v2 => ?_)
  refine q_sipush C dX2_hasRoom_6 rfl (by decide) (fun v3 => ?_)
  refine q_icmp_gt C 16 dX2_hasRoom_9 (by decide) ?_ ?_
  · refine q_iconst C dX2_hasRoom_16 rfl (by decide) (fun v4 => ?_)
    exact q_zret C hr hlo dX2_hasRoom_17
  · refine q_iconst C dX2_hasRoom_12 rfl (by decide) (fun v5 => ?_)
    refine q_goto C 17 dX2_hasRoom_13 (by decide) ?_
    exact q_zret C hr hlo dX2_hasRoom_17
def f_X2_take_L3 (F : Nat) (k0 : Nat) (a1 : Int)   : Nat → Int → St → Option (St)
  | 0, _, _ => none
  | n + 1, x2, σ =>
    if x2 < 0 then (
      some σ)
    else (
      z_gt (σ k0 0) fun v3 =>
      z_gt 700 fun v4 =>
      if v4 ≤ v3 then (
        some σ)
      else (
        z_gt (σ k0 0) fun v5 =>
        z_gt (z_shr a1 x2) fun v6 =>
        z_gt (z_i2b v6) fun v7 =>
        z_ix v5 700 <| z_by v7 <| z_sg (z_up σ (k0 + 1) v5 v7) fun σ1 =>
        z_gt (σ1 k0 0) fun v8 =>
        z_gt 1 fun v9 =>
        z_ck (v8 + v9) fun v10 =>
        z_sg (z_up σ1 k0 0 v10) fun σ2 =>
        z_ck (x2 + (-8)) fun v11 =>
        f_X2_take_L3 F k0 a1 n v11 σ2))

def f_X2_take (F : Nat) (k0 : Nat) (a1 : Int) (σ : St) : Option (St) :=
  z_ob 2 k0 <| 
  z_gt 24 fun v1 =>
  f_X2_take_L3 F k0 a1 F v1 σ
theorem cb_X2_take : CB yX2_take cX2_take 3 none 1 := ⟨ki_X2_take, kq_X2_take, kn_X2, kc_X2_take, by decide +kernel, by decide +kernel, by decide +kernel⟩
set_option maxRecDepth 20000 in
set_option maxHeartbeats 4000000 in
theorem m_X2_take (l : Launch) (G : GG) (F : Nat) (k0 : Nat) (a1 : Int32) (σ : St) : ∀ r, f_X2_take F k0 a1.toInt σ = some r → MC G l yX2_take cX2_take 3 none { frames := 0, cells := 0, slots := 0, locals := 0 } [.ref (gad G k0), .int a1] σ vV r := by
  refine MC_of (own := RX2) (fun _ => vV) (fun r => r) (by decide +kernel) rfl (Nat.le_of_ble_eq_true rfl) ?_
  intro p e s m args below meth c C hr hlo ls hl
  have hl : lv_has ls 3 [(0, .ref (gad G k0)), (1, .int a1)] := hl
  unfold f_X2_take
  refine q_ob (fun hk0 => ?_)
  have B3 : ∀ (n : Nat) (x2 : Int32) (σ : St) (ls : Array Slot), lv_has ls 3 [(0, .ref (gad G k0)), (1, .int a1), (2, .int x2)] → Sim G (AG G) 0 0 p l e { frames := 0, cells := 0, slots := 0, locals := 0 } s m args below meth c (fun r : St => MQ below (QC G (vV) (r)) args s 0 0 (AG G)) σ (f_X2_take_L3 F k0 a1.toInt   n x2.toInt σ) (F0 m 3 ls []) := by
    intro n
    induction n with
    | zero =>
      intro x2 σ ls hl
      exact sim_none
    | succ n ih =>
      intro x2 σ ls hl
      rw [f_X2_take_L3]
      refine q_iload_n C dX2_take_3 rfl (lv_at hl 2 rfl) ?_
      refine q_if_lt C 46 dX2_take_4 (by decide) ?_ ?_
      · exact q_vretE C hr hlo dX2_take_46
      · refine q_aload_n C dX2_take_7 rfl (lv_at hl 0 rfl) ?_
        refine g_2_0 C hk0 kf_X2_23 dX2_take_8 (fun v3 => ?_)
        refine q_sipush C dX2_take_11 rfl (by decide) (fun v4 => ?_)
        refine q_icmp_ge C 46 dX2_take_14 (by decide) ?_ ?_
        · exact q_vretE C hr hlo dX2_take_46
        · refine q_aload_n C dX2_take_17 rfl (lv_at hl 0 rfl) ?_
          refine g_2_3 C hk0 kf_X2_15 dX2_take_18 ?_
          refine q_aload_n C dX2_take_21 rfl (lv_at hl 0 rfl) ?_
          refine g_2_0 C hk0 kf_X2_23 dX2_take_22 (fun v5 => ?_)
          refine q_iload_n C dX2_take_25 rfl (lv_at hl 1 rfl) ?_
          refine q_iload_n C dX2_take_26 rfl (lv_at hl 2 rfl) ?_
          refine q_ishr C dX2_take_27 (fun v6 => ?_)
          refine q_i2b C dX2_take_28 (fun v7 => ?_)
          refine a_bst C (yk_2_3 hk0) (yl_2_3 hk0) dX2_take_29 (q_sg (fun σ1 => ?_))
          refine q_aload_n C dX2_take_30 rfl (lv_at hl 0 rfl) ?_
          refine q_dup C dX2_take_31 rfl ?_
          refine g_2_0 C hk0 kf_X2_23 dX2_take_32 (fun v8 => ?_)
          refine q_iconst C dX2_take_35 rfl (by decide) (fun v9 => ?_)
          refine q_iadd C dX2_take_36 (fun v10 => ?_)
          refine p_2_0 C hk0 kf_X2_23 dX2_take_37 (q_sg (fun σ2 => ?_))
          refine q_iinc (k := 2) C (fun v11 => [(2, .int v11), (0, .ref (gad G k0)), (1, .int a1)]) dX2_take_40 hl rfl (by decide) (by decide) (fun _ => rfl) (fun v11 ls hl => ?_)
          refine q_goto C 3 dX2_take_43 (by decide) ?_
          exact ih v11 σ2 ls (lv_sub hl [1, 2, 0] rfl)
  refine q_bipush C dX2_take_0 rfl (by decide) (fun v1 => ?_)
  refine q_istore_n C [(2, .int v1), (0, .ref (gad G k0)), (1, .int a1)] dX2_take_2 rfl hl (by decide) rfl (fun ls hl => ?_)
  exact B3 F v1 σ ls (lv_sub hl [1, 2, 0] rfl)
def f_X4_clear (F : Nat) (k0 : Nat) (σ : St) : Option (St) :=
  z_ob 4 k0 <| 
  z_gt 0 fun v1 =>
  z_sg (z_up σ k0 0 v1) fun σ1 =>
  z_gt 0 fun v2 =>
  z_sg (z_up σ1 k0 1 v2) fun σ2 =>
  z_gt 0 fun v3 =>
  z_sg (z_up σ2 k0 2 v3) fun σ3 =>
  z_gt 0 fun v4 =>
  z_sg (z_up σ3 k0 3 v4) fun σ4 =>
  z_gt 0 fun v5 =>
  z_sg (z_up σ4 k0 4 v5) fun σ5 =>
  some σ5
theorem cb_X4_clear : CB yX4_clear cX4_clear 1 none 0 := ⟨ki_X4_clear, kq_X4_clear, kn_X4, kc_X4_clear, by decide +kernel, by decide +kernel, by decide +kernel⟩
set_option maxRecDepth 20000 in
set_option maxHeartbeats 4000000 in
theorem m_X4_clear (l : Launch) (G : GG) (F : Nat) (k0 : Nat) (σ : St) : ∀ r, f_X4_clear F k0 σ = some r → MC G l yX4_clear cX4_clear 1 none { frames := 0, cells := 0, slots := 0, locals := 0 } [.ref (gad G k0)] σ vV r := by
  refine MC_of (own := RX4) (fun _ => vV) (fun r => r) (by decide +kernel) rfl (Nat.le_of_ble_eq_true rfl) ?_
  intro p e s m args below meth c C hr hlo ls hl
  have hl : lv_has ls 1 [(0, .ref (gad G k0))] := hl
  unfold f_X4_clear
  refine q_ob (fun hk0 => ?_)
  refine q_aload_n C dX4_clear_0 rfl (lv_at hl 0 rfl) ?_
  refine q_iconst C dX4_clear_1 rfl (by decide) (fun v1 => ?_)
  refine p_4_0 C hk0 kf_X4_18 dX4_clear_2 (q_sg (fun σ1 => ?_))
  refine q_aload_n C dX4_clear_5 rfl (lv_at hl 0 rfl) ?_
  refine q_iconst C dX4_clear_6 rfl (by decide) (fun v2 => ?_)
  refine p_4_1 C hk0 kf_X4_22 dX4_clear_7 (q_sg (fun σ2 => ?_))
  refine q_aload_n C dX4_clear_10 rfl (lv_at hl 0 rfl) ?_
  refine q_iconst C dX4_clear_11 rfl (by decide) (fun v3 => ?_)
  refine p_4_2 C hk0 kf_X4_25 dX4_clear_12 (q_sg (fun σ3 => ?_))
  refine q_aload_n C dX4_clear_15 rfl (lv_at hl 0 rfl) ?_
  refine q_iconst C dX4_clear_16 rfl (by decide) (fun v4 => ?_)
  refine p_4_3 C hk0 kf_X4_28 dX4_clear_17 (q_sg (fun σ4 => ?_))
  refine q_aload_n C dX4_clear_20 rfl (lv_at hl 0 rfl) ?_
  refine q_iconst C dX4_clear_21 rfl (by decide) (fun v5 => ?_)
  refine p_4_4 C hk0 kf_X4_31 dX4_clear_22 (q_sg (fun σ5 => ?_))
  exact q_vretE C hr hlo dX4_clear_25
def f_X2_byteAt (F : Nat) (k0 : Nat) (a1 : Int) (σ : St) : Option (Int) :=
  z_ob 2 k0 <| 
  if a1 < 0 then (
    z_gt 32 fun v1 =>
    some v1)
  else (
    z_gt (σ k0 0) fun v2 =>
    if v2 ≤ a1 then (
      z_gt 32 fun v3 =>
      some v3)
    else (
      z_gt 700 fun v4 =>
      if v4 ≤ a1 then (
        z_gt 32 fun v5 =>
        some v5)
      else (
        z_ix a1 700 <| z_gt (σ (k0 + 1) a1) fun v6 =>
        some v6)))
theorem cb_X2_byteAt : CB yX2_byteAt cX2_byteAt 2 (some .int) 1 := ⟨ki_X2_byteAt, kq_X2_byteAt, kn_X2, kc_X2_byteAt, by decide +kernel, by decide +kernel, by decide +kernel⟩
set_option maxRecDepth 20000 in
set_option maxHeartbeats 4000000 in
theorem m_X2_byteAt (l : Launch) (G : GG) (F : Nat) (k0 : Nat) (a1 : Int32) (σ : St) : ∀ r, f_X2_byteAt F k0 a1.toInt σ = some r → MC G l yX2_byteAt cX2_byteAt 2 (some .int) { frames := 0, cells := 0, slots := 0, locals := 0 } [.ref (gad G k0), .int a1] σ (vI r) σ := by
  refine MC_of (own := RX2) (vI) (fun _ => σ) (by decide +kernel) rfl (Nat.le_of_ble_eq_true rfl) ?_
  intro p e s m args below meth c C hr hlo ls hl
  have hl : lv_has ls 2 [(0, .ref (gad G k0)), (1, .int a1)] := hl
  unfold f_X2_byteAt
  refine q_ob (fun hk0 => ?_)
  refine q_iload_n C dX2_byteAt_0 rfl (lv_at hl 1 rfl) ?_
  refine q_if_lt C 28 dX2_byteAt_1 (by decide) ?_ ?_
  · refine q_bipush C dX2_byteAt_28 rfl (by decide) (fun v1 => ?_)
    exact q_iret C hr hlo dX2_byteAt_30
  · refine q_iload_n C dX2_byteAt_4 rfl (lv_at hl 1 rfl) ?_
    refine q_aload_n C dX2_byteAt_5 rfl (lv_at hl 0 rfl) ?_
    refine g_2_0 C hk0 kf_X2_23 dX2_byteAt_6 (fun v2 => ?_)
    refine q_icmp_ge C 28 dX2_byteAt_9 (by decide) ?_ ?_
    · refine q_bipush C dX2_byteAt_28 rfl (by decide) (fun v3 => ?_)
      exact q_iret C hr hlo dX2_byteAt_30
    · refine q_iload_n C dX2_byteAt_12 rfl (lv_at hl 1 rfl) ?_
      refine q_sipush C dX2_byteAt_13 rfl (by decide) (fun v4 => ?_)
      refine q_icmp_ge C 28 dX2_byteAt_16 (by decide) ?_ ?_
      · refine q_bipush C dX2_byteAt_28 rfl (by decide) (fun v5 => ?_)
        exact q_iret C hr hlo dX2_byteAt_30
      · refine q_aload_n C dX2_byteAt_19 rfl (lv_at hl 0 rfl) ?_
        refine g_2_3 C hk0 kf_X2_15 dX2_byteAt_20 ?_
        refine q_iload_n C dX2_byteAt_23 rfl (lv_at hl 1 rfl) ?_
        refine a_bld C (yk_2_3 hk0) (yl_2_3 hk0) dX2_byteAt_24 (fun v6 => ?_)
        refine q_goto C 30 dX2_byteAt_25 (by decide) ?_
        exact q_iret C hr hlo dX2_byteAt_30
def f_X2_isBlank (F : Nat) (a1 : Int) (σ : St) : Option (Int) :=
  
  z_gt 32 fun v1 =>
  if a1 = v1 then (
    z_gt 1 fun v2 =>
    z_bo v2 <| some v2)
  else (
    z_gt 10 fun v3 =>
    if ¬ a1 = v3 then (
      z_gt 0 fun v4 =>
      z_bo v4 <| some v4)
    else (
      z_gt 1 fun v5 =>
      z_bo v5 <| some v5))
theorem sb_X2_isBlank : SB yX2_isBlank cX2_isBlank 1 (some .boolean) 1 := ⟨ks_X2_isBlank, kn_X2, kc_X2_isBlank, by decide +kernel, by decide +kernel, by decide +kernel⟩
set_option maxRecDepth 20000 in
set_option maxHeartbeats 4000000 in
theorem m_X2_isBlank (l : Launch) (G : GG) (F : Nat) (a1 : Int32) (σ : St) : ∀ r, f_X2_isBlank F a1.toInt σ = some r → MC G l yX2_isBlank cX2_isBlank 1 (some .boolean) { frames := 0, cells := 0, slots := 0, locals := 0 } [.int a1] σ (vI r) σ := by
  refine MC_of (own := RX2) (vI) (fun _ => σ) (by decide +kernel) rfl (Nat.le_of_ble_eq_true rfl) ?_
  intro p e s m args below meth c C hr hlo ls hl
  have hl : lv_has ls 1 [(0, .int a1)] := hl
  unfold f_X2_isBlank
  refine q_iload_n C dX2_isBlank_0 rfl (lv_at hl 0 rfl) ?_
  refine q_bipush C dX2_isBlank_1 rfl (by decide) (fun v1 => ?_)
  refine q_icmp_eq C 12 dX2_isBlank_3 (by decide) ?_ ?_
  · refine q_iconst C dX2_isBlank_12 rfl (by decide) (fun v2 => ?_)
    refine q_goto C 17 dX2_isBlank_13 (by decide) ?_
    exact q_zret C hr hlo dX2_isBlank_17
  · refine q_iload_n C dX2_isBlank_6 rfl (lv_at hl 0 rfl) ?_
    refine q_bipush C dX2_isBlank_7 rfl (by decide) (fun v3 => ?_)
    refine q_icmp_ne C 16 dX2_isBlank_9 (by decide) ?_ ?_
    · refine q_iconst C dX2_isBlank_16 rfl (by decide) (fun v4 => ?_)
      exact q_zret C hr hlo dX2_isBlank_17
    · refine q_iconst C dX2_isBlank_12 rfl (by decide) (fun v5 => ?_)
      refine q_goto C 17 dX2_isBlank_13 (by decide) ?_
      exact q_zret C hr hlo dX2_isBlank_17
def f_X2_isLetter (F : Nat) (a1 : Int) (σ : St) : Option (Int) :=
  
  z_gt 97 fun v1 =>
  if a1 < v1 then (
    z_gt 0 fun v2 =>
    z_bo v2 <| some v2)
  else (
    z_gt 122 fun v3 =>
    if v3 < a1 then (
      z_gt 0 fun v4 =>
      z_bo v4 <| some v4)
    else (
      z_gt 1 fun v5 =>
      z_bo v5 <| some v5))
theorem sb_X2_isLetter : SB yX2_isLetter cX2_isLetter 1 (some .boolean) 1 := ⟨ks_X2_isLetter, kn_X2, kc_X2_isLetter, by decide +kernel, by decide +kernel, by decide +kernel⟩
set_option maxRecDepth 20000 in
set_option maxHeartbeats 4000000 in
theorem m_X2_isLetter (l : Launch) (G : GG) (F : Nat) (a1 : Int32) (σ : St) : ∀ r, f_X2_isLetter F a1.toInt σ = some r → MC G l yX2_isLetter cX2_isLetter 1 (some .boolean) { frames := 0, cells := 0, slots := 0, locals := 0 } [.int a1] σ (vI r) σ := by
  refine MC_of (own := RX2) (vI) (fun _ => σ) (by decide +kernel) rfl (Nat.le_of_ble_eq_true rfl) ?_
  intro p e s m args below meth c C hr hlo ls hl
  have hl : lv_has ls 1 [(0, .int a1)] := hl
  unfold f_X2_isLetter
  refine q_iload_n C dX2_isLetter_0 rfl (lv_at hl 0 rfl) ?_
  refine q_bipush C dX2_isLetter_1 rfl (by decide) (fun v1 => ?_)
  refine q_icmp_lt C 16 dX2_isLetter_3 (by decide) ?_ ?_
  · refine q_iconst C dX2_isLetter_16 rfl (by decide) (fun v2 => ?_)
    exact q_zret C hr hlo dX2_isLetter_17
  · refine q_iload_n C dX2_isLetter_6 rfl (lv_at hl 0 rfl) ?_
    refine q_bipush C dX2_isLetter_7 rfl (by decide) (fun v3 => ?_)
    refine q_icmp_gt C 16 dX2_isLetter_9 (by decide) ?_ ?_
    · refine q_iconst C dX2_isLetter_16 rfl (by decide) (fun v4 => ?_)
      exact q_zret C hr hlo dX2_isLetter_17
    · refine q_iconst C dX2_isLetter_12 rfl (by decide) (fun v5 => ?_)
      refine q_goto C 17 dX2_isLetter_13 (by decide) ?_
      exact q_zret C hr hlo dX2_isLetter_17
def f_X2_isDigit (F : Nat) (a1 : Int) (σ : St) : Option (Int) :=
  
  z_gt 48 fun v1 =>
  if a1 < v1 then (
    z_gt 0 fun v2 =>
    z_bo v2 <| some v2)
  else (
    z_gt 57 fun v3 =>
    if v3 < a1 then (
      z_gt 0 fun v4 =>
      z_bo v4 <| some v4)
    else (
      z_gt 1 fun v5 =>
      z_bo v5 <| some v5))
theorem sb_X2_isDigit : SB yX2_isDigit cX2_isDigit 1 (some .boolean) 1 := ⟨ks_X2_isDigit, kn_X2, kc_X2_isDigit, by decide +kernel, by decide +kernel, by decide +kernel⟩
set_option maxRecDepth 20000 in
set_option maxHeartbeats 4000000 in
theorem m_X2_isDigit (l : Launch) (G : GG) (F : Nat) (a1 : Int32) (σ : St) : ∀ r, f_X2_isDigit F a1.toInt σ = some r → MC G l yX2_isDigit cX2_isDigit 1 (some .boolean) { frames := 0, cells := 0, slots := 0, locals := 0 } [.int a1] σ (vI r) σ := by
  refine MC_of (own := RX2) (vI) (fun _ => σ) (by decide +kernel) rfl (Nat.le_of_ble_eq_true rfl) ?_
  intro p e s m args below meth c C hr hlo ls hl
  have hl : lv_has ls 1 [(0, .int a1)] := hl
  unfold f_X2_isDigit
  refine q_iload_n C dX2_isDigit_0 rfl (lv_at hl 0 rfl) ?_
  refine q_bipush C dX2_isDigit_1 rfl (by decide) (fun v1 => ?_)
  refine q_icmp_lt C 16 dX2_isDigit_3 (by decide) ?_ ?_
  · refine q_iconst C dX2_isDigit_16 rfl (by decide) (fun v2 => ?_)
    exact q_zret C hr hlo dX2_isDigit_17
  · refine q_iload_n C dX2_isDigit_6 rfl (lv_at hl 0 rfl) ?_
    refine q_bipush C dX2_isDigit_7 rfl (by decide) (fun v3 => ?_)
    refine q_icmp_gt C 16 dX2_isDigit_9 (by decide) ?_ ?_
    · refine q_iconst C dX2_isDigit_16 rfl (by decide) (fun v4 => ?_)
      exact q_zret C hr hlo dX2_isDigit_17
    · refine q_iconst C dX2_isDigit_12 rfl (by decide) (fun v5 => ?_)
      refine q_goto C 17 dX2_isDigit_13 (by decide) ?_
      exact q_zret C hr hlo dX2_isDigit_17
def f_X2_advanceNumber_L7 (F : Nat) (k0 : Nat) (a1 : Int)   : Nat → Int → St → Option (Int × St)
  | 0, _, _ => none
  | n + 1, x2, σ =>
    z_gt (σ k0 0) fun v3 =>
    if v3 ≤ x2 then (
      some (x2, σ))
    else (
      z_c1 (f_X2_byteAt F k0 x2 σ) fun v4 =>
      z_c1 (f_X2_isDigit F v4 σ) fun v5 =>
      if v5 = 0 then (
        some (x2, σ))
      else (
        z_gt (σ k0 8) fun v6 =>
        z_gt 10 fun v7 =>
        z_ck (v6 * v7) fun v8 =>
        z_c1 (f_X2_byteAt F k0 x2 σ) fun v9 =>
        z_gt 48 fun v10 =>
        z_ck (v9 - v10) fun v11 =>
        z_ck (v8 + v11) fun v12 =>
        z_gt 100000 fun v13 =>
        z_gt (z_min v12 v13) fun v14 =>
        z_sg (z_up σ k0 8 v14) fun σ2 =>
        z_ck (x2 + 1) fun v15 =>
        f_X2_advanceNumber_L7 F k0 a1 n v15 σ2))

def f_X2_advanceNumber (F : Nat) (k0 : Nat) (a1 : Int) (σ : St) : Option (Int × St) :=
  z_ob 2 k0 <| 
  z_gt 0 fun v1 =>
  z_sg (z_up σ k0 8 v1) fun σ1 =>
  f_X2_advanceNumber_L7 F k0 a1 F a1 σ1
theorem cb_X2_advanceNumber : CB yX2_advanceNumber cX2_advanceNumber 3 (some .int) 1 := ⟨ki_X2_advanceNumber, kq_X2_advanceNumber, kn_X2, kc_X2_advanceNumber, by decide +kernel, by decide +kernel, by decide +kernel⟩
set_option maxRecDepth 20000 in
set_option maxHeartbeats 4000000 in
theorem m_X2_advanceNumber (l : Launch) (G : GG) (F : Nat) (k0 : Nat) (a1 : Int32) (σ : St) : ∀ r, f_X2_advanceNumber F k0 a1.toInt σ = some r → MC G l yX2_advanceNumber cX2_advanceNumber 3 (some .int) { frames := 1, cells := 0, slots := 0, locals := 45 } [.ref (gad G k0), .int a1] σ (vI r.1) r.2 := by
  refine MC_of (own := RX2) (fun r : Int × St => vI r.1) (fun r : Int × St => r.2) (by decide +kernel) rfl (Nat.le_of_ble_eq_true rfl) ?_
  intro p e s m args below meth c C hr hlo ls hl
  have hl : lv_has ls 3 [(0, .ref (gad G k0)), (1, .int a1)] := hl
  unfold f_X2_advanceNumber
  refine q_ob (fun hk0 => ?_)
  have B7 : ∀ (n : Nat) (x2 : Int32) (σ : St) (ls : Array Slot), lv_has ls 3 [(0, .ref (gad G k0)), (2, .int x2)] → Sim G (AG G) 0 0 p l e { frames := 1, cells := 0, slots := 0, locals := 45 } s m args below meth c (fun r : Int × St => MQ below (QC G (vI r.1) (r.2)) args s 0 0 (AG G)) σ (f_X2_advanceNumber_L7 F k0 a1.toInt   n x2.toInt σ) (F0 m 7 ls []) := by
    intro n
    induction n with
    | zero =>
      intro x2 σ ls hl
      exact sim_none
    | succ n ih =>
      intro x2 σ ls hl
      rw [f_X2_advanceNumber_L7]
      refine q_iload_n C dX2_advanceNumber_7 rfl (lv_at hl 1 rfl) ?_
      refine q_aload_n C dX2_advanceNumber_8 rfl (lv_at hl 0 rfl) ?_
      refine g_2_0 C hk0 kf_X2_23 dX2_advanceNumber_9 (fun v3 => ?_)
      refine q_icmp_ge C 57 dX2_advanceNumber_12 (by decide) ?_ ?_
      · refine q_iload_n C dX2_advanceNumber_57 rfl (lv_at hl 1 rfl) ?_
        exact q_iretE C hr hlo dX2_advanceNumber_58
      · refine q_aload_n C dX2_advanceNumber_15 rfl (lv_at hl 0 rfl) ?_
        refine q_iload_n C dX2_advanceNumber_16 rfl (lv_at hl 1 rfl) ?_
        refine q_c1i C (fun r h => cr_V (As := [.int x2]) (rest := []) C (m_X2_byteAt l G F k0 x2 σ r h) cb_X2_byteAt hk0 (by decide) rfl (cf_2 hk0 _) rfl kl_X2_142 ⟨Nat.le_of_ble_eq_true rfl, Nat.le_of_ble_eq_true rfl⟩ ⟨Nat.zero_le _, Nat.zero_le _⟩ hl.1 rfl (Nat.le_of_ble_eq_true rfl) dX2_advanceNumber_17 rfl) (fun v4 => ?_)
        refine q_c1i C (fun r h => cr_S (As := [.int v4]) (rest := []) C (m_X2_isDigit l G F v4 σ r h) sb_X2_isDigit kl_X2_156 ⟨Nat.le_of_ble_eq_true rfl, Nat.le_of_ble_eq_true rfl⟩ ⟨Nat.zero_le _, Nat.zero_le _⟩ hl.1 rfl (Nat.le_of_ble_eq_true rfl) dX2_advanceNumber_20 rfl) (fun v5 => ?_)
        refine q_if_eq C 57 dX2_advanceNumber_23 (by decide) ?_ ?_
        · refine q_iload_n C dX2_advanceNumber_57 rfl (lv_at hl 1 rfl) ?_
          exact q_iretE C hr hlo dX2_advanceNumber_58
        · refine q_aload_n C dX2_advanceNumber_26 rfl (lv_at hl 0 rfl) ?_
          refine q_aload_n C dX2_advanceNumber_27 rfl (lv_at hl 0 rfl) ?_
          refine g_2_8 C hk0 kf_X2_100 dX2_advanceNumber_28 (fun v6 => ?_)
          refine q_bipush C dX2_advanceNumber_31 rfl (by decide) (fun v7 => ?_)
          refine q_imul C dX2_advanceNumber_33 (fun v8 => ?_)
          refine q_aload_n C dX2_advanceNumber_34 rfl (lv_at hl 0 rfl) ?_
          refine q_iload_n C dX2_advanceNumber_35 rfl (lv_at hl 1 rfl) ?_
          refine q_c1i C (fun r h => cr_V (As := [.int x2]) (rest := [.int v8, .ref (gad G k0)]) C (m_X2_byteAt l G F k0 x2 σ r h) cb_X2_byteAt hk0 (by decide) rfl (cf_2 hk0 _) rfl kl_X2_142 ⟨Nat.le_of_ble_eq_true rfl, Nat.le_of_ble_eq_true rfl⟩ ⟨Nat.zero_le _, Nat.zero_le _⟩ hl.1 rfl (Nat.le_of_ble_eq_true rfl) dX2_advanceNumber_36 rfl) (fun v9 => ?_)
          refine q_bipush C dX2_advanceNumber_39 rfl (by decide) (fun v10 => ?_)
          refine q_isub C dX2_advanceNumber_41 (fun v11 => ?_)
          refine q_iadd C dX2_advanceNumber_42 (fun v12 => ?_)
          refine q_ldc C kk_X2_162 dX2_advanceNumber_43 (by decide) (fun v13 => ?_)
          refine q_min C kl_X2_163 ⟨Nat.le_of_ble_eq_true rfl, Nat.le_of_ble_eq_true rfl⟩ ⟨Nat.zero_le _, Nat.zero_le _⟩ hl.1 dX2_advanceNumber_45 (fun v14 => ?_)
          refine p_2_8 C hk0 kf_X2_100 dX2_advanceNumber_48 (q_sg (fun σ2 => ?_))
          refine q_iinc (k := 1) C (fun v15 => [(2, .int v15), (0, .ref (gad G k0))]) dX2_advanceNumber_51 hl rfl (by decide) (by decide) (fun _ => rfl) (fun v15 ls hl => ?_)
          refine q_goto C 7 dX2_advanceNumber_54 (by decide) ?_
          exact ih v15 σ2 ls (lv_sub hl [1, 0] rfl)
  refine q_iload_n C dX2_advanceNumber_0 rfl (lv_at hl 1 rfl) ?_
  refine q_istore_n C [(2, .int a1), (0, .ref (gad G k0)), (1, .int a1)] dX2_advanceNumber_1 rfl hl (by decide) rfl (fun ls hl => ?_)
  refine q_aload_n C dX2_advanceNumber_2 rfl (lv_at hl 1 rfl) ?_
  refine q_iconst C dX2_advanceNumber_3 rfl (by decide) (fun v1 => ?_)
  refine p_2_8 C hk0 kf_X2_100 dX2_advanceNumber_4 (q_sg (fun σ1 => ?_))
  exact B7 F a1 σ1 ls (lv_sub hl [1, 0] rfl)
def f_X2_advance_J133 (F : Nat) (k0 : Nat)   (x12 : Int) (σ : St) : Option (St) :=
  z_sg (z_up σ k0 7 x12) fun σ3 =>
  some σ3

def f_X2_advance_L69 (F : Nat) (k0 : Nat)   : Nat → Int → St → Option (St)
  | 0, _, _ => none
  | n + 1, x18, σ =>
    z_gt (σ k0 0) fun v19 =>
    if v19 ≤ x18 then (
      f_X2_advance_J133 F k0 x18 σ)
    else (
      z_c1 (f_X2_byteAt F k0 x18 σ) fun v20 =>
      z_c1 (f_X2_isLetter F v20 σ) fun v21 =>
      if v21 = 0 then (
        f_X2_advance_J133 F k0 x18 σ)
      else (
        z_ck (x18 + 1) fun v22 =>
        f_X2_advance_L69 F k0 n v22 σ))

def f_X2_advance_J30 (F : Nat) (k0 : Nat)   (x4 : Int) (σ : St) : Option (St) :=
  z_sg (z_up σ k0 6 x4) fun σ1 =>
  z_c1 (f_X2_byteAt F k0 x4 σ1) fun v5 =>
  z_gt (σ1 k0 0) fun v6 =>
  if x4 < v6 then (
    z_c1 (f_X2_isLetter F v5 σ1) fun v7 =>
    if v7 = 0 then (
      z_c1 (f_X2_isDigit F v5 σ1) fun v8 =>
      if v8 = 0 then (
        z_gt 59 fun v9 =>
        if ¬ v5 = v9 then (
          z_gt 4 fun v10 =>
          z_sg (z_up σ1 k0 5 v10) fun σ2 =>
          z_ck (x4 + 1) fun v11 =>
          f_X2_advance_J133 F k0 v11 σ2)
        else (
          z_gt 3 fun v13 =>
          z_sg (z_up σ1 k0 5 v13) fun σ4 =>
          z_ck (x4 + 1) fun v14 =>
          f_X2_advance_J133 F k0 v14 σ4))
      else (
        z_gt 2 fun v15 =>
        z_sg (z_up σ1 k0 5 v15) fun σ5 =>
        z_c2 (f_X2_advanceNumber F k0 x4 σ5) fun v16 σ6 =>
        f_X2_advance_J133 F k0 v16 σ6))
    else (
      z_gt 1 fun v17 =>
      z_sg (z_up σ1 k0 5 v17) fun σ7 =>
      f_X2_advance_L69 F k0 F x4 σ7))
  else (
    z_gt 0 fun v23 =>
    z_sg (z_up σ1 k0 5 v23) fun σ8 =>
    f_X2_advance_J133 F k0 x4 σ8)

def f_X2_advance_L5 (F : Nat) (k0 : Nat)   : Nat → Int → St → Option (St)
  | 0, _, _ => none
  | n + 1, x2, σ =>
    z_gt (σ k0 0) fun v3 =>
    if v3 ≤ x2 then (
      f_X2_advance_J30 F k0 x2 σ)
    else (
      z_c1 (f_X2_byteAt F k0 x2 σ) fun v24 =>
      z_c1 (f_X2_isBlank F v24 σ) fun v25 =>
      if v25 = 0 then (
        f_X2_advance_J30 F k0 x2 σ)
      else (
        z_ck (x2 + 1) fun v26 =>
        f_X2_advance_L5 F k0 n v26 σ))

def f_X2_advance (F : Nat) (k0 : Nat) (σ : St) : Option (St) :=
  z_ob 2 k0 <| 
  z_gt (σ k0 7) fun v1 =>
  f_X2_advance_L5 F k0 F v1 σ
theorem cb_X2_advance : CB yX2_advance cX2_advance 3 none 0 := ⟨ki_X2_advance, kq_X2_advance, kn_X2, kc_X2_advance, by decide +kernel, by decide +kernel, by decide +kernel⟩
set_option maxRecDepth 20000 in
set_option maxHeartbeats 4000000 in
theorem m_X2_advance (l : Launch) (G : GG) (F : Nat) (k0 : Nat) (σ : St) : ∀ r, f_X2_advance F k0 σ = some r → MC G l yX2_advance cX2_advance 3 none { frames := 2, cells := 0, slots := 0, locals := 67 } [.ref (gad G k0)] σ vV r := by
  refine MC_of (own := RX2) (fun _ => vV) (fun r => r) (by decide +kernel) rfl (Nat.le_of_ble_eq_true rfl) ?_
  intro p e s m args below meth c C hr hlo ls hl
  have hl : lv_has ls 3 [(0, .ref (gad G k0))] := hl
  unfold f_X2_advance
  refine q_ob (fun hk0 => ?_)
  have B133 : ∀  (x12 : Int32) (σ : St) (ls : Array Slot), lv_has ls 3 [(0, .ref (gad G k0)), (1, .int x12)] → Sim G (AG G) 0 0 p l e { frames := 2, cells := 0, slots := 0, locals := 67 } s m args below meth c (fun r : St => MQ below (QC G (vV) (r)) args s 0 0 (AG G)) σ (f_X2_advance_J133 F k0    x12.toInt σ) (F0 m 133 ls []) := by
    intro x12 σ ls hl
    unfold f_X2_advance_J133
    refine q_aload_n C dX2_advance_133 rfl (lv_at hl 0 rfl) ?_
    refine q_iload_n C dX2_advance_134 rfl (lv_at hl 1 rfl) ?_
    refine p_2_7 C hk0 kf_X2_29 dX2_advance_135 (q_sg (fun σ3 => ?_))
    exact q_vretE C hr hlo dX2_advance_138
  have B69 : ∀ (n : Nat) (x18 : Int32) (σ : St) (ls : Array Slot), lv_has ls 3 [(0, .ref (gad G k0)), (1, .int x18)] → Sim G (AG G) 0 0 p l e { frames := 2, cells := 0, slots := 0, locals := 67 } s m args below meth c (fun r : St => MQ below (QC G (vV) (r)) args s 0 0 (AG G)) σ (f_X2_advance_L69 F k0   n x18.toInt σ) (F0 m 69 ls []) := by
    intro n
    induction n with
    | zero =>
      intro x18 σ ls hl
      exact sim_none
    | succ n ih =>
      intro x18 σ ls hl
      rw [f_X2_advance_L69]
      refine q_iload_n C dX2_advance_69 rfl (lv_at hl 1 rfl) ?_
      refine q_aload_n C dX2_advance_70 rfl (lv_at hl 0 rfl) ?_
      refine g_2_0 C hk0 kf_X2_23 dX2_advance_71 (fun v19 => ?_)
      refine q_icmp_ge C 133 dX2_advance_74 (by decide) ?_ ?_
      · exact B133 x18 σ ls (lv_sub hl [0, 1] rfl)
      · refine q_aload_n C dX2_advance_77 rfl (lv_at hl 0 rfl) ?_
        refine q_iload_n C dX2_advance_78 rfl (lv_at hl 1 rfl) ?_
        refine q_c1i C (fun r h => cr_V (As := [.int x18]) (rest := []) C (m_X2_byteAt l G F k0 x18 σ r h) cb_X2_byteAt hk0 (by decide) rfl (cf_2 hk0 _) rfl kl_X2_142 ⟨Nat.le_of_ble_eq_true rfl, Nat.le_of_ble_eq_true rfl⟩ ⟨Nat.zero_le _, Nat.zero_le _⟩ hl.1 rfl (Nat.le_of_ble_eq_true rfl) dX2_advance_79 rfl) (fun v20 => ?_)
        refine q_c1i C (fun r h => cr_S (As := [.int v20]) (rest := []) C (m_X2_isLetter l G F v20 σ r h) sb_X2_isLetter kl_X2_153 ⟨Nat.le_of_ble_eq_true rfl, Nat.le_of_ble_eq_true rfl⟩ ⟨Nat.zero_le _, Nat.zero_le _⟩ hl.1 rfl (Nat.le_of_ble_eq_true rfl) dX2_advance_82 rfl) (fun v21 => ?_)
        refine q_if_eq C 133 dX2_advance_85 (by decide) ?_ ?_
        · exact B133 x18 σ ls (lv_sub hl [0, 1] rfl)
        · refine q_iinc (k := 1) C (fun v22 => [(1, .int v22), (0, .ref (gad G k0))]) dX2_advance_88 hl rfl (by decide) (by decide) (fun _ => rfl) (fun v22 ls hl => ?_)
          refine q_goto C 69 dX2_advance_91 (by decide) ?_
          exact ih v22 σ ls (lv_sub hl [1, 0] rfl)
  have B30 : ∀  (x4 : Int32) (σ : St) (ls : Array Slot), lv_has ls 3 [(0, .ref (gad G k0)), (1, .int x4)] → Sim G (AG G) 0 0 p l e { frames := 2, cells := 0, slots := 0, locals := 67 } s m args below meth c (fun r : St => MQ below (QC G (vV) (r)) args s 0 0 (AG G)) σ (f_X2_advance_J30 F k0    x4.toInt σ) (F0 m 30 ls []) := by
    intro x4 σ ls hl
    unfold f_X2_advance_J30
    refine q_aload_n C dX2_advance_30 rfl (lv_at hl 0 rfl) ?_
    refine q_iload_n C dX2_advance_31 rfl (lv_at hl 1 rfl) ?_
    refine p_2_6 C hk0 kf_X2_111 dX2_advance_32 (q_sg (fun σ1 => ?_))
    refine q_aload_n C dX2_advance_35 rfl (lv_at hl 0 rfl) ?_
    refine q_iload_n C dX2_advance_36 rfl (lv_at hl 1 rfl) ?_
    refine q_c1i C (fun r h => cr_V (As := [.int x4]) (rest := []) C (m_X2_byteAt l G F k0 x4 σ1 r h) cb_X2_byteAt hk0 (by decide) rfl (cf_2 hk0 _) rfl kl_X2_142 ⟨Nat.le_of_ble_eq_true rfl, Nat.le_of_ble_eq_true rfl⟩ ⟨Nat.zero_le _, Nat.zero_le _⟩ hl.1 rfl (Nat.le_of_ble_eq_true rfl) dX2_advance_37 rfl) (fun v5 => ?_)
    refine q_istore_n C [(2, .int v5), (0, .ref (gad G k0)), (1, .int x4)] dX2_advance_40 rfl hl (by decide) rfl (fun ls hl => ?_)
    refine q_iload_n C dX2_advance_41 rfl (lv_at hl 2 rfl) ?_
    refine q_aload_n C dX2_advance_42 rfl (lv_at hl 1 rfl) ?_
    refine g_2_0 C hk0 kf_X2_23 dX2_advance_43 (fun v6 => ?_)
    refine q_icmp_lt C 57 dX2_advance_46 (by decide) ?_ ?_
    · refine q_iload_n C dX2_advance_57 rfl (lv_at hl 0 rfl) ?_
      refine q_c1i C (fun r h => cr_S (As := [.int v5]) (rest := []) C (m_X2_isLetter l G F v5 σ1 r h) sb_X2_isLetter kl_X2_153 ⟨Nat.le_of_ble_eq_true rfl, Nat.le_of_ble_eq_true rfl⟩ ⟨Nat.zero_le _, Nat.zero_le _⟩ hl.1 rfl (Nat.le_of_ble_eq_true rfl) dX2_advance_58 rfl) (fun v7 => ?_)
      refine q_if_eq C 94 dX2_advance_61 (by decide) ?_ ?_
      · refine q_iload_n C dX2_advance_94 rfl (lv_at hl 0 rfl) ?_
        refine q_c1i C (fun r h => cr_S (As := [.int v5]) (rest := []) C (m_X2_isDigit l G F v5 σ1 r h) sb_X2_isDigit kl_X2_156 ⟨Nat.le_of_ble_eq_true rfl, Nat.le_of_ble_eq_true rfl⟩ ⟨Nat.zero_le _, Nat.zero_le _⟩ hl.1 rfl (Nat.le_of_ble_eq_true rfl) dX2_advance_95 rfl) (fun v8 => ?_)
        refine q_if_eq C 115 dX2_advance_98 (by decide) ?_ ?_
        · refine q_aload_n C dX2_advance_115 rfl (lv_at hl 1 rfl) ?_
          refine q_iload_n C dX2_advance_116 rfl (lv_at hl 0 rfl) ?_
          refine q_bipush C dX2_advance_117 rfl (by decide) (fun v9 => ?_)
          refine q_icmp_ne C 126 dX2_advance_119 (by decide) ?_ ?_
          · refine q_iconst C dX2_advance_126 rfl (by decide) (fun v10 => ?_)
            refine p_2_5 C hk0 kf_X2_40 dX2_advance_127 (q_sg (fun σ2 => ?_))
            refine q_iinc (k := 2) C (fun v11 => [(1, .int v11), (2, .int v5), (0, .ref (gad G k0))]) dX2_advance_130 hl rfl (by decide) (by decide) (fun _ => rfl) (fun v11 ls hl => ?_)
            exact B133 v11 σ2 ls (lv_sub hl [2, 0] rfl)
          · refine q_iconst C dX2_advance_122 rfl (by decide) (fun v13 => ?_)
            refine q_goto C 127 dX2_advance_123 (by decide) ?_
            refine p_2_5 C hk0 kf_X2_40 dX2_advance_127 (q_sg (fun σ4 => ?_))
            refine q_iinc (k := 2) C (fun v14 => [(1, .int v14), (2, .int v5), (0, .ref (gad G k0))]) dX2_advance_130 hl rfl (by decide) (by decide) (fun _ => rfl) (fun v14 ls hl => ?_)
            exact B133 v14 σ4 ls (lv_sub hl [2, 0] rfl)
        · refine q_aload_n C dX2_advance_101 rfl (lv_at hl 1 rfl) ?_
          refine q_iconst C dX2_advance_102 rfl (by decide) (fun v15 => ?_)
          refine p_2_5 C hk0 kf_X2_40 dX2_advance_103 (q_sg (fun σ5 => ?_))
          refine q_aload_n C dX2_advance_106 rfl (lv_at hl 1 rfl) ?_
          refine q_iload_n C dX2_advance_107 rfl (lv_at hl 2 rfl) ?_
          refine q_c2i C (fun r h => cr_V (As := [.int x4]) (rest := []) C (m_X2_advanceNumber l G F k0 x4 σ5 r h) cb_X2_advanceNumber hk0 (by decide) rfl (cf_2 hk0 _) rfl kl_X2_159 ⟨Nat.le_of_ble_eq_true rfl, Nat.le_of_ble_eq_true rfl⟩ ⟨Nat.zero_le _, Nat.zero_le _⟩ hl.1 rfl (Nat.le_of_ble_eq_true rfl) dX2_advance_108 rfl) (fun v16 σ6 => ?_)
          refine q_istore_n C [(1, .int v16), (2, .int v5), (0, .ref (gad G k0))] dX2_advance_111 rfl hl (by decide) rfl (fun ls hl => ?_)
          refine q_goto C 133 dX2_advance_112 (by decide) ?_
          exact B133 v16 σ6 ls (lv_sub hl [2, 0] rfl)
      · refine q_aload_n C dX2_advance_64 rfl (lv_at hl 1 rfl) ?_
        refine q_iconst C dX2_advance_65 rfl (by decide) (fun v17 => ?_)
        refine p_2_5 C hk0 kf_X2_40 dX2_advance_66 (q_sg (fun σ7 => ?_))
        exact B69 F x4 σ7 ls (lv_sub hl [1, 2] rfl)
    · refine q_aload_n C dX2_advance_49 rfl (lv_at hl 1 rfl) ?_
      refine q_iconst C dX2_advance_50 rfl (by decide) (fun v23 => ?_)
      refine p_2_5 C hk0 kf_X2_40 dX2_advance_51 (q_sg (fun σ8 => ?_))
      refine q_goto C 133 dX2_advance_54 (by decide) ?_
      exact B133 x4 σ8 ls (lv_sub hl [1, 2] rfl)
  have B5 : ∀ (n : Nat) (x2 : Int32) (σ : St) (ls : Array Slot), lv_has ls 3 [(0, .ref (gad G k0)), (1, .int x2)] → Sim G (AG G) 0 0 p l e { frames := 2, cells := 0, slots := 0, locals := 67 } s m args below meth c (fun r : St => MQ below (QC G (vV) (r)) args s 0 0 (AG G)) σ (f_X2_advance_L5 F k0   n x2.toInt σ) (F0 m 5 ls []) := by
    intro n
    induction n with
    | zero =>
      intro x2 σ ls hl
      exact sim_none
    | succ n ih =>
      intro x2 σ ls hl
      rw [f_X2_advance_L5]
      refine q_iload_n C dX2_advance_5 rfl (lv_at hl 1 rfl) ?_
      refine q_aload_n C dX2_advance_6 rfl (lv_at hl 0 rfl) ?_
      refine g_2_0 C hk0 kf_X2_23 dX2_advance_7 (fun v3 => ?_)
      refine q_icmp_ge C 30 dX2_advance_10 (by decide) ?_ ?_
      · exact B30 x2 σ ls (lv_sub hl [0, 1] rfl)
      · refine q_aload_n C dX2_advance_13 rfl (lv_at hl 0 rfl) ?_
        refine q_iload_n C dX2_advance_14 rfl (lv_at hl 1 rfl) ?_
        refine q_c1i C (fun r h => cr_V (As := [.int x2]) (rest := []) C (m_X2_byteAt l G F k0 x2 σ r h) cb_X2_byteAt hk0 (by decide) rfl (cf_2 hk0 _) rfl kl_X2_142 ⟨Nat.le_of_ble_eq_true rfl, Nat.le_of_ble_eq_true rfl⟩ ⟨Nat.zero_le _, Nat.zero_le _⟩ hl.1 rfl (Nat.le_of_ble_eq_true rfl) dX2_advance_15 rfl) (fun v24 => ?_)
        refine q_c1i C (fun r h => cr_S (As := [.int v24]) (rest := []) C (m_X2_isBlank l G F v24 σ r h) sb_X2_isBlank kl_X2_150 ⟨Nat.le_of_ble_eq_true rfl, Nat.le_of_ble_eq_true rfl⟩ ⟨Nat.zero_le _, Nat.zero_le _⟩ hl.1 rfl (Nat.le_of_ble_eq_true rfl) dX2_advance_18 rfl) (fun v25 => ?_)
        refine q_if_eq C 30 dX2_advance_21 (by decide) ?_ ?_
        · exact B30 x2 σ ls (lv_sub hl [0, 1] rfl)
        · refine q_iinc (k := 1) C (fun v26 => [(1, .int v26), (0, .ref (gad G k0))]) dX2_advance_24 hl rfl (by decide) (by decide) (fun _ => rfl) (fun v26 ls hl => ?_)
          refine q_goto C 5 dX2_advance_27 (by decide) ?_
          exact ih v26 σ ls (lv_sub hl [1, 0] rfl)
  refine q_aload_n C dX2_advance_0 rfl (lv_at hl 0 rfl) ?_
  refine g_2_7 C hk0 kf_X2_29 dX2_advance_1 (fun v1 => ?_)
  refine q_istore_n C [(1, .int v1), (0, .ref (gad G k0))] dX2_advance_4 rfl hl (by decide) rfl (fun ls hl => ?_)
  exact B5 F v1 σ ls (lv_sub hl [1, 0] rfl)
def f_J0_coder_7d493 (F : Nat) (k0 : Nat) (σ : St) : Option (Int) :=
  z_st k0 <| 
  z_gt 1 fun v1 =>
  if v1 = 0 then (
    z_gt 1 fun v2 =>
    z_by v2 <| some v2)
  else (
    z_gt 0 fun v3 =>
    z_by v3 <| some v3)
theorem cb_J0_coder_7d493 : CB yJ0_coder_7d493 cJ0_coder_7d493 1 (some .byte) 0 := ⟨ki_J0_coder_7d493, kq_J0_coder_7d493, kn_J0, kc_J0_coder_7d493, by decide +kernel, by decide +kernel, by decide +kernel⟩
set_option maxRecDepth 20000 in
set_option maxHeartbeats 4000000 in
theorem m_J0_coder_7d493 (l : Launch) (G : GG) (F : Nat) (k0 : Nat) (σ : St) : ∀ r, f_J0_coder_7d493 F k0 σ = some r → MC G l yJ0_coder_7d493 cJ0_coder_7d493 1 (some .byte) { frames := 0, cells := 0, slots := 0, locals := 0 } [.ref (gak G k0)] σ (vI r) σ := by
  refine MC_of (own := RJ0) (vI) (fun _ => σ) (by decide +kernel) rfl (Nat.le_of_ble_eq_true rfl) ?_
  intro p e s m args below meth c C hr hlo ls hl
  have hl : lv_has ls 1 [(0, .ref (gak G k0))] := hl
  unfold f_J0_coder_7d493
  refine q_st (fun ht0 => ?_)
  refine q_gcs C kf_J0_38 dJ0_coder_7d493_0 (fun v1 => ?_)
  refine q_if_eq C 13 dJ0_coder_7d493_3 (by decide) ?_ ?_
  · refine q_iconst C dJ0_coder_7d493_13 rfl (by decide) (fun v2 => ?_)
    exact q_bret C hr hlo dJ0_coder_7d493_14
  · refine q_aload_n C dJ0_coder_7d493_6 rfl (lv_at hl 0 rfl) ?_
    refine q_scoder C ht0 kf_J0_15 dJ0_coder_7d493_7 (fun v3 => ?_)
    refine q_goto C 14 dJ0_coder_7d493_10 (by decide) ?_
    exact q_bret C hr hlo dJ0_coder_7d493_14
def f_J0_length_8abf5 (F : Nat) (k0 : Nat) (σ : St) : Option (Int) :=
  z_st k0 <| 
  z_gt (slX.getD k0 0) fun v1 =>
  z_c1 (f_J0_coder_7d493 F k0 σ) fun v2 =>
  z_gt (z_shr v1 v2) fun v3 =>
  some v3
theorem cb_J0_length_8abf5 : CB yJ0_length_8abf5 cJ0_length_8abf5 1 (some .int) 0 := ⟨ki_J0_length_8abf5, kq_J0_length_8abf5, kn_J0, kc_J0_length_8abf5, by decide +kernel, by decide +kernel, by decide +kernel⟩
set_option maxRecDepth 20000 in
set_option maxHeartbeats 4000000 in
theorem m_J0_length_8abf5 (l : Launch) (G : GG) (F : Nat) (k0 : Nat) (σ : St) : ∀ r, f_J0_length_8abf5 F k0 σ = some r → MC G l yJ0_length_8abf5 cJ0_length_8abf5 1 (some .int) { frames := 1, cells := 0, slots := 0, locals := 20 } [.ref (gak G k0)] σ (vI r) σ := by
  refine MC_of (own := RJ0) (vI) (fun _ => σ) (by decide +kernel) rfl (Nat.le_of_ble_eq_true rfl) ?_
  intro p e s m args below meth c C hr hlo ls hl
  have hl : lv_has ls 1 [(0, .ref (gak G k0))] := hl
  unfold f_J0_length_8abf5
  refine q_st (fun ht0 => ?_)
  refine q_aload_n C dJ0_length_8abf5_0 rfl (lv_at hl 0 rfl) ?_
  refine q_svalue C ht0 kf_J0_9 dJ0_length_8abf5_1 ?_
  refine q_slen C ht0 dJ0_length_8abf5_4 (fun v1 => ?_)
  refine q_aload_n C dJ0_length_8abf5_5 rfl (lv_at hl 0 rfl) ?_
  refine q_c1i C (fun r h => cr_VS (As := []) (rest := [.int v1]) C (m_J0_coder_7d493 l G F k0 σ r h) ht0 cb_J0_coder_7d493 rfl kl_J0_335 ⟨Nat.le_of_ble_eq_true rfl, Nat.le_of_ble_eq_true rfl⟩ ⟨Nat.zero_le _, Nat.zero_le _⟩ hl.1 rfl (Nat.le_of_ble_eq_true rfl) dJ0_length_8abf5_6 rfl) (fun v2 => ?_)
  refine q_ishr C dJ0_length_8abf5_9 (fun v3 => ?_)
  exact q_iret C hr hlo dJ0_length_8abf5_10
def f_J0_isLatin1_aae02 (F : Nat) (k0 : Nat) (σ : St) : Option (Int) :=
  z_st k0 <| 
  z_gt 1 fun v1 =>
  if v1 = 0 then (
    z_gt 0 fun v2 =>
    z_bo v2 <| some v2)
  else (
    z_gt 0 fun v3 =>
    if ¬ v3 = 0 then (
      z_gt 0 fun v4 =>
      z_bo v4 <| some v4)
    else (
      z_gt 1 fun v5 =>
      z_bo v5 <| some v5))
theorem cb_J0_isLatin1_aae02 : CB yJ0_isLatin1_aae02 cJ0_isLatin1_aae02 1 (some .boolean) 0 := ⟨ki_J0_isLatin1_aae02, kq_J0_isLatin1_aae02, kn_J0, kc_J0_isLatin1_aae02, by decide +kernel, by decide +kernel, by decide +kernel⟩
set_option maxRecDepth 20000 in
set_option maxHeartbeats 4000000 in
theorem m_J0_isLatin1_aae02 (l : Launch) (G : GG) (F : Nat) (k0 : Nat) (σ : St) : ∀ r, f_J0_isLatin1_aae02 F k0 σ = some r → MC G l yJ0_isLatin1_aae02 cJ0_isLatin1_aae02 1 (some .boolean) { frames := 0, cells := 0, slots := 0, locals := 0 } [.ref (gak G k0)] σ (vI r) σ := by
  refine MC_of (own := RJ0) (vI) (fun _ => σ) (by decide +kernel) rfl (Nat.le_of_ble_eq_true rfl) ?_
  intro p e s m args below meth c C hr hlo ls hl
  have hl : lv_has ls 1 [(0, .ref (gak G k0))] := hl
  unfold f_J0_isLatin1_aae02
  refine q_st (fun ht0 => ?_)
  refine q_gcs C kf_J0_38 dJ0_isLatin1_aae02_0 (fun v1 => ?_)
  refine q_if_eq C 17 dJ0_isLatin1_aae02_3 (by decide) ?_ ?_
  · refine q_iconst C dJ0_isLatin1_aae02_17 rfl (by decide) (fun v2 => ?_)
    exact q_zret C hr hlo dJ0_isLatin1_aae02_18
  · refine q_aload_n C dJ0_isLatin1_aae02_6 rfl (lv_at hl 0 rfl) ?_
    refine q_scoder C ht0 kf_J0_15 dJ0_isLatin1_aae02_7 (fun v3 => ?_)
    refine q_if_ne C 17 dJ0_isLatin1_aae02_10 (by decide) ?_ ?_
    · refine q_iconst C dJ0_isLatin1_aae02_17 rfl (by decide) (fun v4 => ?_)
      exact q_zret C hr hlo dJ0_isLatin1_aae02_18
    · refine q_iconst C dJ0_isLatin1_aae02_13 rfl (by decide) (fun v5 => ?_)
      refine q_goto C 18 dJ0_isLatin1_aae02_14 (by decide) ?_
      exact q_zret C hr hlo dJ0_isLatin1_aae02_18
def f_J3_checkIndex_8e157 (F : Nat) (a1 : Int) (a2 : Int) (σ : St) : Option (Int) :=
  
  if a1 < 0 then (
    none)
  else (
    if a1 < a2 then (
      some a1)
    else (
      none))
theorem sb_J3_checkIndex_8e157 : SB yJ3_checkIndex_8e157 cJ3_checkIndex_8e157 3 (some .int) 3 := ⟨ks_J3_checkIndex_8e157, kn_J3, kc_J3_checkIndex_8e157, by decide +kernel, by decide +kernel, by decide +kernel⟩
set_option maxRecDepth 20000 in
set_option maxHeartbeats 4000000 in
theorem m_J3_checkIndex_8e157 (l : Launch) (G : GG) (F : Nat) (a1 : Int32) (a2 : Int32) (a3 : Value) (hv_a3 : a3.category = 1) (σ : St) : ∀ r, f_J3_checkIndex_8e157 F a1.toInt a2.toInt σ = some r → MC G l yJ3_checkIndex_8e157 cJ3_checkIndex_8e157 3 (some .int) { frames := 0, cells := 0, slots := 0, locals := 0 } [.int a1, .int a2, a3] σ (vI r) σ := by
  refine MC_of (own := RJ3) (vI) (fun _ => σ) (by decide +kernel) rfl (by cases a3 <;> first | exact Nat.le_of_ble_eq_true rfl | simp [Value.category] at hv_a3) ?_
  intro p e s m args below meth c C hr hlo ls hl
  have hl : lv_has ls 3 [(0, .int a1), (1, .int a2), (2, a3)] := hl
  unfold f_J3_checkIndex_8e157
  refine q_iload_n C dJ3_checkIndex_8e157_0 rfl (lv_at hl 0 rfl) ?_
  refine q_if_lt C 9 dJ3_checkIndex_8e157_1 (by decide) ?_ ?_
  · exact sim_none
  · refine q_iload_n C dJ3_checkIndex_8e157_4 rfl (lv_at hl 0 rfl) ?_
    refine q_iload_n C dJ3_checkIndex_8e157_5 rfl (lv_at hl 1 rfl) ?_
    refine q_icmp_lt C 16 dJ3_checkIndex_8e157_6 (by decide) ?_ ?_
    · refine q_iload_n C dJ3_checkIndex_8e157_16 rfl (lv_at hl 0 rfl) ?_
      exact q_iret C hr hlo dJ3_checkIndex_8e157_17
    · exact sim_none
def f_J0_checkIndex_df160 (F : Nat) (a1 : Int) (a2 : Int) (σ : St) : Option (Unit) :=
  
  z_c1 (f_J3_checkIndex_8e157 F a1 a2 σ) fun v2 =>
  some ()
theorem sb_J0_checkIndex_df160 : SB yJ0_checkIndex_df160 cJ0_checkIndex_df160 2 none 2 := ⟨ks_J0_checkIndex_df160, kn_J0, kc_J0_checkIndex_df160, by decide +kernel, by decide +kernel, by decide +kernel⟩
set_option maxRecDepth 20000 in
set_option maxHeartbeats 4000000 in
theorem m_J0_checkIndex_df160 (l : Launch) (G : GG) (F : Nat) (a1 : Int32) (a2 : Int32) (σ : St) : ∀ r, f_J0_checkIndex_df160 F a1.toInt a2.toInt σ = some r → MC G l yJ0_checkIndex_df160 cJ0_checkIndex_df160 2 none { frames := 1, cells := 0, slots := 0, locals := 22 } [.int a1, .int a2] σ vV σ := by
  refine MC_of (own := RJ0) (fun _ => vV) (fun _ => σ) (by decide +kernel) rfl (Nat.le_of_ble_eq_true rfl) ?_
  intro p e s m args below meth c C hr hlo ls hl
  have hl : lv_has ls 2 [(0, .int a1), (1, .int a2)] := hl
  unfold f_J0_checkIndex_df160
  refine q_iload_n C dJ0_checkIndex_df160_0 rfl (lv_at hl 0 rfl) ?_
  refine q_iload_n C dJ0_checkIndex_df160_1 rfl (lv_at hl 1 rfl) ?_
  refine q_gfm C kf_J0_1053 dJ0_checkIndex_df160_2 (fun o1 hv_o1 => ?_)
  refine q_c1i C (fun r h => cr_S (As := [.int a1, .int a2, o1]) (rest := []) C (m_J3_checkIndex_8e157 l G F a1 a2 o1 hv_o1 σ r h) sb_J3_checkIndex_8e157 kl_J0_1059 ⟨Nat.le_of_ble_eq_true rfl, Nat.le_of_ble_eq_true rfl⟩ ⟨Nat.zero_le _, Nat.zero_le _⟩ hl.1 rfl (Nat.le_of_ble_eq_true rfl) dJ0_checkIndex_df160_5 rfl) (fun v2 => ?_)
  refine q_pop C dJ0_checkIndex_df160_8 rfl ?_
  exact q_vret C hr hlo dJ0_checkIndex_df160_9
def f_J1_charAt_3b067 (F : Nat) (a1 : Nat) (a2 : Int) (σ : St) : Option (Int) :=
  z_st a1 <| 
  z_gt (slX.getD a1 0) fun v1 =>
  z_c1 (f_J0_checkIndex_df160 F a2 v1 σ) fun _ =>
  z_ix a2 (slX.getD a1 0) <| z_gt (z_sb a1 a2) fun v2 =>
  z_gt 255 fun v3 =>
  z_gt (z_and v2 v3) fun v4 =>
  z_gt (z_i2c v4) fun v5 =>
  z_ix v5 65536 <| some v5
theorem sb_J1_charAt_3b067 : SB yJ1_charAt_3b067 cJ1_charAt_3b067 2 (some .char) 2 := ⟨ks_J1_charAt_3b067, kn_J1, kc_J1_charAt_3b067, by decide +kernel, by decide +kernel, by decide +kernel⟩
set_option maxRecDepth 20000 in
set_option maxHeartbeats 4000000 in
theorem m_J1_charAt_3b067 (l : Launch) (G : GG) (F : Nat) (a1 : Nat) (a2 : Int32) (σ : St) : ∀ r, f_J1_charAt_3b067 F a1 a2.toInt σ = some r → MC G l yJ1_charAt_3b067 cJ1_charAt_3b067 2 (some .char) { frames := 2, cells := 0, slots := 0, locals := 43 } [.ref (gav G a1), .int a2] σ (vI r) σ := by
  refine MC_of (own := RJ1) (vI) (fun _ => σ) (by decide +kernel) rfl (Nat.le_of_ble_eq_true rfl) ?_
  intro p e s m args below meth c C hr hlo ls hl
  have hl : lv_has ls 2 [(0, .ref (gav G a1)), (1, .int a2)] := hl
  unfold f_J1_charAt_3b067
  refine q_st (fun ht1 => ?_)
  refine q_iload_n C dJ1_charAt_3b067_0 rfl (lv_at hl 1 rfl) ?_
  refine q_aload_n C dJ1_charAt_3b067_1 rfl (lv_at hl 0 rfl) ?_
  refine q_slen C ht1 dJ1_charAt_3b067_2 (fun v1 => ?_)
  refine q_cu C (fun r h => cr_S (As := [.int a2, .int v1]) (rest := []) C (m_J0_checkIndex_df160 l G F a2 v1 σ r h) sb_J0_checkIndex_df160 kl_J1_9 ⟨Nat.le_of_ble_eq_true rfl, Nat.le_of_ble_eq_true rfl⟩ ⟨Nat.zero_le _, Nat.zero_le _⟩ hl.1 rfl (Nat.le_of_ble_eq_true rfl) dJ1_charAt_3b067_3 rfl) ?_
  refine q_aload_n C dJ1_charAt_3b067_6 rfl (lv_at hl 0 rfl) ?_
  refine q_iload_n C dJ1_charAt_3b067_7 rfl (lv_at hl 1 rfl) ?_
  refine q_sbald C ht1 dJ1_charAt_3b067_8 (fun v2 => ?_)
  refine q_sipush C dJ1_charAt_3b067_9 rfl (by decide) (fun v3 => ?_)
  refine q_iand C dJ1_charAt_3b067_12 (fun v4 => ?_)
  refine q_i2c C dJ1_charAt_3b067_13 (fun v5 => ?_)
  exact q_cret C hr hlo dJ1_charAt_3b067_14
def f_J0_charAt_5068e (F : Nat) (k0 : Nat) (a1 : Int) (σ : St) : Option (Int) :=
  z_st k0 <| 
  z_c1 (f_J0_isLatin1_aae02 F k0 σ) fun v1 =>
  if v1 = 0 then (
    none)
  else (
    z_c1 (f_J1_charAt_3b067 F k0 a1 σ) fun v2 =>
    z_ix v2 65536 <| some v2)
theorem cb_J0_charAt_5068e : CB yJ0_charAt_5068e cJ0_charAt_5068e 2 (some .char) 1 := ⟨ki_J0_charAt_5068e, kq_J0_charAt_5068e, kn_J0, kc_J0_charAt_5068e, by decide +kernel, by decide +kernel, by decide +kernel⟩
set_option maxRecDepth 20000 in
set_option maxHeartbeats 4000000 in
theorem m_J0_charAt_5068e (l : Launch) (G : GG) (F : Nat) (k0 : Nat) (a1 : Int32) (σ : St) : ∀ r, f_J0_charAt_5068e F k0 a1.toInt σ = some r → MC G l yJ0_charAt_5068e cJ0_charAt_5068e 2 (some .char) { frames := 3, cells := 0, slots := 0, locals := 64 } [.ref (gak G k0), .int a1] σ (vI r) σ := by
  refine MC_of (own := RJ0) (vI) (fun _ => σ) (by decide +kernel) rfl (Nat.le_of_ble_eq_true rfl) ?_
  intro p e s m args below meth c C hr hlo ls hl
  have hl : lv_has ls 2 [(0, .ref (gak G k0)), (1, .int a1)] := hl
  unfold f_J0_charAt_5068e
  refine q_st (fun ht0 => ?_)
  refine q_aload_n C dJ0_charAt_5068e_0 rfl (lv_at hl 0 rfl) ?_
  refine q_c1i C (fun r h => cr_VS (As := []) (rest := []) C (m_J0_isLatin1_aae02 l G F k0 σ r h) ht0 cb_J0_isLatin1_aae02 rfl kl_J0_492 ⟨Nat.le_of_ble_eq_true rfl, Nat.le_of_ble_eq_true rfl⟩ ⟨Nat.zero_le _, Nat.zero_le _⟩ hl.1 rfl (Nat.le_of_ble_eq_true rfl) dJ0_charAt_5068e_1 rfl) (fun v1 => ?_)
  refine q_if_eq C 16 dJ0_charAt_5068e_4 (by decide) ?_ ?_
  · refine q_aload_n C dJ0_charAt_5068e_16 rfl (lv_at hl 0 rfl) ?_
    refine q_svalue C ht0 kf_J0_9 dJ0_charAt_5068e_17 ?_
    refine q_iload_n C dJ0_charAt_5068e_20 rfl (lv_at hl 1 rfl) ?_
    exact sim_none
  · refine q_aload_n C dJ0_charAt_5068e_7 rfl (lv_at hl 0 rfl) ?_
    refine q_svalue C ht0 kf_J0_9 dJ0_charAt_5068e_8 ?_
    refine q_iload_n C dJ0_charAt_5068e_11 rfl (lv_at hl 1 rfl) ?_
    refine q_c1i C (fun r h => cr_S (As := [.ref (gav G k0), .int a1]) (rest := []) C (m_J1_charAt_3b067 l G F k0 a1 σ r h) sb_J1_charAt_3b067 kl_J0_495 ⟨Nat.le_of_ble_eq_true rfl, Nat.le_of_ble_eq_true rfl⟩ ⟨Nat.zero_le _, Nat.zero_le _⟩ hl.1 rfl (Nat.le_of_ble_eq_true rfl) dJ0_charAt_5068e_12 rfl) (fun v2 => ?_)
    exact q_cret C hr hlo dJ0_charAt_5068e_15
def f_X2_isWord_L28 (F : Nat) (k0 : Nat) (a1 : Nat)  (σ : St) : Nat → Int → Option (Int)
  | 0, _ => none
  | n + 1, x9 =>
    z_c1 (f_J0_length_8abf5 F a1 σ) fun v10 =>
    if v10 ≤ x9 then (
      z_gt 1 fun v11 =>
      z_bo v11 <| some v11)
    else (
      z_gt (σ k0 6) fun v12 =>
      z_ck (v12 + x9) fun v13 =>
      z_c1 (f_X2_byteAt F k0 v13 σ) fun v14 =>
      z_c1 (f_J0_charAt_5068e F a1 x9 σ) fun v15 =>
      if v14 = v15 then (
        z_ck (x9 + 1) fun v16 =>
        f_X2_isWord_L28 F k0 a1 σ n v16)
      else (
        z_gt 0 fun v17 =>
        z_bo v17 <| some v17))

def f_X2_isWord (F : Nat) (k0 : Nat) (a1 : Nat) (σ : St) : Option (Int) :=
  z_ob 2 k0 <| z_st a1 <| 
  z_gt (σ k0 5) fun v1 =>
  z_gt 1 fun v2 =>
  if ¬ v1 = v2 then (
    z_gt 0 fun v3 =>
    z_bo v3 <| some v3)
  else (
    z_gt (σ k0 7) fun v4 =>
    z_gt (σ k0 6) fun v5 =>
    z_ck (v4 - v5) fun v6 =>
    z_c1 (f_J0_length_8abf5 F a1 σ) fun v7 =>
    if v6 = v7 then (
      z_gt 0 fun v8 =>
      f_X2_isWord_L28 F k0 a1 σ F v8)
    else (
      z_gt 0 fun v18 =>
      z_bo v18 <| some v18))
theorem cb_X2_isWord : CB yX2_isWord cX2_isWord 3 (some .boolean) 1 := ⟨ki_X2_isWord, kq_X2_isWord, kn_X2, kc_X2_isWord, by decide +kernel, by decide +kernel, by decide +kernel⟩
set_option maxRecDepth 20000 in
set_option maxHeartbeats 4000000 in
theorem m_X2_isWord (l : Launch) (G : GG) (F : Nat) (k0 : Nat) (a1 : Nat) (σ : St) : ∀ r, f_X2_isWord F k0 a1 σ = some r → MC G l yX2_isWord cX2_isWord 3 (some .boolean) { frames := 4, cells := 0, slots := 0, locals := 85 } [.ref (gad G k0), .ref (gak G a1)] σ (vI r) σ := by
  refine MC_of (own := RX2) (vI) (fun _ => σ) (by decide +kernel) rfl (Nat.le_of_ble_eq_true rfl) ?_
  intro p e s m args below meth c C hr hlo ls hl
  have hl : lv_has ls 3 [(0, .ref (gad G k0)), (1, .ref (gak G a1))] := hl
  unfold f_X2_isWord
  refine q_ob (fun hk0 => ?_)
  refine q_st (fun ht1 => ?_)
  have B28 : ∀ (n : Nat) (x9 : Int32) (ls : Array Slot), lv_has ls 3 [(0, .ref (gad G k0)), (1, .ref (gak G a1)), (2, .int x9)] → Sim G (AG G) 0 0 p l e { frames := 4, cells := 0, slots := 0, locals := 85 } s m args below meth c (fun r : Int => MQ below (QC G (vI r) (σ)) args s 0 0 (AG G)) σ (f_X2_isWord_L28 F k0 a1  σ n x9.toInt) (F0 m 28 ls []) := by
    intro n
    induction n with
    | zero =>
      intro x9 ls hl
      exact sim_none
    | succ n ih =>
      intro x9 ls hl
      rw [f_X2_isWord_L28]
      refine q_iload_n C dX2_isWord_28 rfl (lv_at hl 2 rfl) ?_
      refine q_aload_n C dX2_isWord_29 rfl (lv_at hl 1 rfl) ?_
      refine q_c1i C (fun r h => cr_VS (As := []) (rest := [.int x9]) C (m_J0_length_8abf5 l G F a1 σ r h) ht1 cb_J0_length_8abf5 rfl kl_X2_138 ⟨Nat.le_of_ble_eq_true rfl, Nat.le_of_ble_eq_true rfl⟩ ⟨Nat.zero_le _, Nat.zero_le _⟩ hl.1 rfl (Nat.le_of_ble_eq_true rfl) dX2_isWord_30 rfl) (fun v10 => ?_)
      refine q_icmp_ge C 62 dX2_isWord_33 (by decide) ?_ ?_
      · refine q_iconst C dX2_isWord_62 rfl (by decide) (fun v11 => ?_)
        exact q_zret C hr hlo dX2_isWord_63
      · refine q_aload_n C dX2_isWord_36 rfl (lv_at hl 0 rfl) ?_
        refine q_aload_n C dX2_isWord_37 rfl (lv_at hl 0 rfl) ?_
        refine g_2_6 C hk0 kf_X2_111 dX2_isWord_38 (fun v12 => ?_)
        refine q_iload_n C dX2_isWord_41 rfl (lv_at hl 2 rfl) ?_
        refine q_iadd C dX2_isWord_42 (fun v13 => ?_)
        refine q_c1i C (fun r h => cr_V (As := [.int v13]) (rest := []) C (m_X2_byteAt l G F k0 v13 σ r h) cb_X2_byteAt hk0 (by decide) rfl (cf_2 hk0 _) rfl kl_X2_142 ⟨Nat.le_of_ble_eq_true rfl, Nat.le_of_ble_eq_true rfl⟩ ⟨Nat.zero_le _, Nat.zero_le _⟩ hl.1 rfl (Nat.le_of_ble_eq_true rfl) dX2_isWord_43 rfl) (fun v14 => ?_)
        refine q_aload_n C dX2_isWord_46 rfl (lv_at hl 1 rfl) ?_
        refine q_iload_n C dX2_isWord_47 rfl (lv_at hl 2 rfl) ?_
        refine q_c1i C (fun r h => cr_VS (As := [.int x9]) (rest := [.int v14]) C (m_J0_charAt_5068e l G F a1 x9 σ r h) ht1 cb_J0_charAt_5068e rfl kl_X2_146 ⟨Nat.le_of_ble_eq_true rfl, Nat.le_of_ble_eq_true rfl⟩ ⟨Nat.zero_le _, Nat.zero_le _⟩ hl.1 rfl (Nat.le_of_ble_eq_true rfl) dX2_isWord_48 rfl) (fun v15 => ?_)
        refine q_icmp_eq C 56 dX2_isWord_51 (by decide) ?_ ?_
        · refine q_iinc (k := 2) C (fun v16 => [(2, .int v16), (0, .ref (gad G k0)), (1, .ref (gak G a1))]) dX2_isWord_56 hl rfl (by decide) (by decide) (fun _ => rfl) (fun v16 ls hl => ?_)
          refine q_goto C 28 dX2_isWord_59 (by decide) ?_
          exact ih v16 ls (lv_sub hl [1, 2, 0] rfl)
        · refine q_iconst C dX2_isWord_54 rfl (by decide) (fun v17 => ?_)
          exact q_zret C hr hlo dX2_isWord_55
  refine q_aload_n C dX2_isWord_0 rfl (lv_at hl 0 rfl) ?_
  refine g_2_5 C hk0 kf_X2_40 dX2_isWord_1 (fun v1 => ?_)
  refine q_iconst C dX2_isWord_4 rfl (by decide) (fun v2 => ?_)
  refine q_icmp_ne C 24 dX2_isWord_5 (by decide) ?_ ?_
  · refine q_iconst C dX2_isWord_24 rfl (by decide) (fun v3 => ?_)
    exact q_zret C hr hlo dX2_isWord_25
  · refine q_aload_n C dX2_isWord_8 rfl (lv_at hl 0 rfl) ?_
    refine g_2_7 C hk0 kf_X2_29 dX2_isWord_9 (fun v4 => ?_)
    refine q_aload_n C dX2_isWord_12 rfl (lv_at hl 0 rfl) ?_
    refine g_2_6 C hk0 kf_X2_111 dX2_isWord_13 (fun v5 => ?_)
    refine q_isub C dX2_isWord_16 (fun v6 => ?_)
    refine q_aload_n C dX2_isWord_17 rfl (lv_at hl 1 rfl) ?_
    refine q_c1i C (fun r h => cr_VS (As := []) (rest := [.int v6]) C (m_J0_length_8abf5 l G F a1 σ r h) ht1 cb_J0_length_8abf5 rfl kl_X2_138 ⟨Nat.le_of_ble_eq_true rfl, Nat.le_of_ble_eq_true rfl⟩ ⟨Nat.zero_le _, Nat.zero_le _⟩ hl.1 rfl (Nat.le_of_ble_eq_true rfl) dX2_isWord_18 rfl) (fun v7 => ?_)
    refine q_icmp_eq C 26 dX2_isWord_21 (by decide) ?_ ?_
    · refine q_iconst C dX2_isWord_26 rfl (by decide) (fun v8 => ?_)
      refine q_istore_n C [(2, .int v8), (0, .ref (gad G k0)), (1, .ref (gak G a1))] dX2_isWord_27 rfl hl (by decide) rfl (fun ls hl => ?_)
      exact B28 F v8 ls (lv_sub hl [1, 2, 0] rfl)
    · refine q_iconst C dX2_isWord_24 rfl (by decide) (fun v18 => ?_)
      exact q_zret C hr hlo dX2_isWord_25
