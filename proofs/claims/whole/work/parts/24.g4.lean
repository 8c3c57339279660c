def f_X7_sum_L15 (F : Nat) (k0 : Nat) (a1 : Int)   : Nat → Int → Int → St → Option (Int × St)
  | 0, _, _, _ => none
  | n + 1, x4, x5, σ =>
    z_c1 (f_X7_cells F k0 σ) fun v6 =>
    if v6 ≤ x5 then (
      some (x4, σ))
    else (
      z_c1 (f_X7_valueAt F k0 x5 a1 σ) fun v7 =>
      z_ck (x4 + v7) fun v8 =>
      z_ck (x5 + 1) fun v9 =>
      f_X7_sum_L15 F k0 a1 n v8 v9 σ)

def f_X7_sum (F : Nat) (k0 : Nat) (a1 : Int) (σ : St) : Option (Int × St) :=
  z_ob 7 k0 <| 
  z_c2 (f_X7_asksAt F k0 a1 σ) fun v1 σ1 =>
  if ¬ v1 = 0 then (
    z_gt 0 fun v2 =>
    z_gt 0 fun v3 =>
    f_X7_sum_L15 F k0 a1 F v2 v3 σ1)
  else (
    z_gt (-2) fun v10 =>
    some (v10, σ1))
theorem cb_X7_sum : CB yX7_sum cX7_sum 4 (some .int) 1 := ⟨ki_X7_sum, kq_X7_sum, kn_X7, kc_X7_sum, by decide +kernel, by decide +kernel, by decide +kernel⟩
set_option maxRecDepth 20000 in
set_option maxHeartbeats 4000000 in
theorem m_X7_sum (l : Launch) (G : GG) (F : Nat) (k0 : Nat) (a1 : Int32) (σ : St) : ∀ r, f_X7_sum F k0 a1.toInt σ = some r → MC G l yX7_sum cX7_sum 4 (some .int) { frames := 8, cells := 0, slots := 0, locals := 178 } [.ref (gad G k0), .int a1] σ (vI r.1) r.2 := by
  refine MC_of (own := RX7) (fun r : Int × St => vI r.1) (fun r : Int × St => r.2) (by decide +kernel) rfl (Nat.le_of_ble_eq_true rfl) ?_
  intro p e s m args below meth c C hr hlo ls hl
  have hl : lv_has ls 4 [(0, .ref (gad G k0)), (1, .int a1)] := hl
  unfold f_X7_sum
  refine q_ob (fun hk0 => ?_)
  have B15 : ∀ (n : Nat) (x4 : Int32) (x5 : Int32) (σ : St) (ls : Array Slot), lv_has ls 4 [(0, .ref (gad G k0)), (1, .int a1), (2, .int x4), (3, .int x5)] → Sim G (AG G) 0 0 p l e { frames := 8, cells := 0, slots := 0, locals := 178 } s m args below meth c (fun r : Int × St => MQ below (QC G (vI r.1) (r.2)) args s 0 0 (AG G)) σ (f_X7_sum_L15 F k0 a1.toInt   n x4.toInt x5.toInt σ) (F0 m 15 ls []) := by
    intro n
    induction n with
    | zero =>
      intro x4 x5 σ ls hl
      exact sim_none
    | succ n ih =>
      intro x4 x5 σ ls hl
      rw [f_X7_sum_L15]
      refine q_iload_n C dX7_sum_15 rfl (lv_at hl 3 rfl) ?_
      refine q_aload_n C dX7_sum_16 rfl (lv_at hl 0 rfl) ?_
      refine q_c1i C (fun r h => cr_V (As := []) (rest := [.int x5]) C (m_X7_cells l G F k0 σ r h) cb_X7_cells hk0 (by decide) rfl (cf_7 hk0 _) rfl kl_X7_107 ⟨Nat.le_of_ble_eq_true rfl, Nat.le_of_ble_eq_true rfl⟩ ⟨Nat.zero_le _, Nat.zero_le _⟩ hl.1 rfl (Nat.le_of_ble_eq_true rfl) dX7_sum_17 rfl) (fun v6 => ?_)
      refine q_icmp_ge C 38 dX7_sum_20 (by decide) ?_ ?_
      · refine q_iload_n C dX7_sum_38 rfl (lv_at hl 2 rfl) ?_
        exact q_iretE C hr hlo dX7_sum_39
      · refine q_iload_n C dX7_sum_23 rfl (lv_at hl 2 rfl) ?_
        refine q_aload_n C dX7_sum_24 rfl (lv_at hl 0 rfl) ?_
        refine q_iload_n C dX7_sum_25 rfl (lv_at hl 3 rfl) ?_
        refine q_iload_n C dX7_sum_26 rfl (lv_at hl 1 rfl) ?_
        refine q_c1i C (fun r h => cr_V (As := [.int x5, .int a1]) (rest := [.int x4]) C (m_X7_valueAt l G F k0 x5 a1 σ r h) cb_X7_valueAt hk0 (by decide) rfl (cf_7 hk0 _) rfl kl_X7_337 ⟨Nat.le_of_ble_eq_true rfl, Nat.le_of_ble_eq_true rfl⟩ ⟨Nat.zero_le _, Nat.zero_le _⟩ hl.1 rfl (Nat.le_of_ble_eq_true rfl) dX7_sum_27 rfl) (fun v7 => ?_)
        refine q_iadd C dX7_sum_30 (fun v8 => ?_)
        refine q_istore_n C [(2, .int v8), (0, .ref (gad G k0)), (1, .int a1), (3, .int x5)] dX7_sum_31 rfl hl (by decide) rfl (fun ls hl => ?_)
        refine q_iinc (k := 3) C (fun v9 => [(3, .int v9), (2, .int v8), (0, .ref (gad G k0)), (1, .int a1)]) dX7_sum_32 hl rfl (by decide) (by decide) (fun _ => rfl) (fun v9 ls hl => ?_)
        refine q_goto C 15 dX7_sum_35 (by decide) ?_
        exact ih v8 v9 σ ls (lv_sub hl [2, 3, 1, 0] rfl)
  refine q_aload_n C dX7_sum_0 rfl (lv_at hl 0 rfl) ?_
  refine q_iload_n C dX7_sum_1 rfl (lv_at hl 1 rfl) ?_
  refine q_c2i C (fun r h => cr_V (As := [.int a1]) (rest := []) C (m_X7_asksAt l G F k0 a1 σ r h) cb_X7_asksAt hk0 (by decide) rfl (cf_7 hk0 _) rfl kl_X7_323 ⟨Nat.le_of_ble_eq_true rfl, Nat.le_of_ble_eq_true rfl⟩ ⟨Nat.zero_le _, Nat.zero_le _⟩ hl.1 rfl (Nat.le_of_ble_eq_true rfl) dX7_sum_2 rfl) (fun v1 σ1 => ?_)
  refine q_if_ne C 11 dX7_sum_5 (by decide) ?_ ?_
  · refine q_iconst C dX7_sum_11 rfl (by decide) (fun v2 => ?_)
    refine q_istore_n C [(2, .int v2), (0, .ref (gad G k0)), (1, .int a1)] dX7_sum_12 rfl hl (by decide) rfl (fun ls hl => ?_)
    refine q_iconst C dX7_sum_13 rfl (by decide) (fun v3 => ?_)
    refine q_istore_n C [(3, .int v3), (2, .int v2), (0, .ref (gad G k0)), (1, .int a1)] dX7_sum_14 rfl hl (by decide) rfl (fun ls hl => ?_)
    exact B15 F v2 v3 σ1 ls (lv_sub hl [2, 3, 1, 0] rfl)
  · refine q_bipush C dX7_sum_8 rfl (by decide) (fun v10 => ?_)
    exact q_iretE C hr hlo dX7_sum_10
def f_X7_changes_L23 (F : Nat) (k0 : Nat) (a1 : Int)   : Nat → Int → Int → St → Option (Int × St)
  | 0, _, _, _ => none
  | n + 1, x7, x8, σ =>
    z_c1 (f_X7_cells F k0 σ) fun v9 =>
    if v9 ≤ x8 then (
      some (x7, σ))
    else (
      z_gt 32 fun v10 =>
      z_ck (v10 * a1) fun v11 =>
      z_ck (v11 + x8) fun v12 =>
      z_ix v12 1920 <| z_gt (σ (k0 + 9) v12) fun v13 =>
      if v13 = 0 then (
        z_gt 0 fun v14 =>
        z_ck (x7 + v14) fun v15 =>
        z_ck (x8 + 1) fun v16 =>
        f_X7_changes_L23 F k0 a1 n v15 v16 σ)
      else (
        z_gt 1 fun v17 =>
        z_ck (x7 + v17) fun v18 =>
        z_ck (x8 + 1) fun v19 =>
        f_X7_changes_L23 F k0 a1 n v18 v19 σ))

def f_X7_changes (F : Nat) (k0 : Nat) (a1 : Int) (σ : St) : Option (Int × St) :=
  z_ob 7 k0 <| 
  z_c2 (f_X7_asks F k0 σ) fun v1 σ1 =>
  if v1 = 0 then (
    z_gt (-2) fun v2 =>
    some (v2, σ1))
  else (
    z_gt a1 fun v3 =>
    z_c1 (f_X7_isEvent F k0 v3 σ1) fun v4 =>
    if ¬ v4 = 0 then (
      z_gt 0 fun v5 =>
      z_gt 0 fun v6 =>
      f_X7_changes_L23 F k0 a1 F v5 v6 σ1)
    else (
      z_gt (-2) fun v20 =>
      some (v20, σ1)))
theorem cb_X7_changes : CB yX7_changes cX7_changes 4 (some .int) 1 := ⟨ki_X7_changes, kq_X7_changes, kn_X7, kc_X7_changes, by decide +kernel, by decide +kernel, by decide +kernel⟩
set_option maxRecDepth 20000 in
set_option maxHeartbeats 4000000 in
theorem m_X7_changes (l : Launch) (G : GG) (F : Nat) (k0 : Nat) (a1 : Int32) (σ : St) : ∀ r, f_X7_changes F k0 a1.toInt σ = some r → MC G l yX7_changes cX7_changes 4 (some .int) { frames := 7, cells := 0, slots := 0, locals := 157 } [.ref (gad G k0), .int a1] σ (vI r.1) r.2 := by
  refine MC_of (own := RX7) (fun r : Int × St => vI r.1) (fun r : Int × St => r.2) (by decide +kernel) rfl (Nat.le_of_ble_eq_true rfl) ?_
  intro p e s m args below meth c C hr hlo ls hl
  have hl : lv_has ls 4 [(0, .ref (gad G k0)), (1, .int a1)] := hl
  unfold f_X7_changes
  refine q_ob (fun hk0 => ?_)
  have B23 : ∀ (n : Nat) (x7 : Int32) (x8 : Int32) (σ : St) (ls : Array Slot), lv_has ls 4 [(0, .ref (gad G k0)), (1, .int a1), (2, .int x7), (3, .int x8)] → Sim G (AG G) 0 0 p l e { frames := 7, cells := 0, slots := 0, locals := 157 } s m args below meth c (fun r : Int × St => MQ below (QC G (vI r.1) (r.2)) args s 0 0 (AG G)) σ (f_X7_changes_L23 F k0 a1.toInt   n x7.toInt x8.toInt σ) (F0 m 23 ls []) := by
    intro n
    induction n with
    | zero =>
      intro x7 x8 σ ls hl
      exact sim_none
    | succ n ih =>
      intro x7 x8 σ ls hl
      rw [f_X7_changes_L23]
      refine q_iload_n C dX7_changes_23 rfl (lv_at hl 3 rfl) ?_
      refine q_aload_n C dX7_changes_24 rfl (lv_at hl 0 rfl) ?_
      refine q_c1i C (fun r h => cr_V (As := []) (rest := [.int x8]) C (m_X7_cells l G F k0 σ r h) cb_X7_cells hk0 (by decide) rfl (cf_7 hk0 _) rfl kl_X7_107 ⟨Nat.le_of_ble_eq_true rfl, Nat.le_of_ble_eq_true rfl⟩ ⟨Nat.zero_le _, Nat.zero_le _⟩ hl.1 rfl (Nat.le_of_ble_eq_true rfl) dX7_changes_25 rfl) (fun v9 => ?_)
      refine q_icmp_ge C 59 dX7_changes_28 (by decide) ?_ ?_
      · refine q_iload_n C dX7_changes_59 rfl (lv_at hl 2 rfl) ?_
        exact q_iretE C hr hlo dX7_changes_60
      · refine q_iload_n C dX7_changes_31 rfl (lv_at hl 2 rfl) ?_
        refine q_aload_n C dX7_changes_32 rfl (lv_at hl 0 rfl) ?_
        refine g_7_17 C hk0 kf_X7_40 dX7_changes_33 ?_
        refine q_bipush C dX7_changes_36 rfl (by decide) (fun v10 => ?_)
        refine q_iload_n C dX7_changes_38 rfl (lv_at hl 1 rfl) ?_
        refine q_imul C dX7_changes_39 (fun v11 => ?_)
        refine q_iload_n C dX7_changes_40 rfl (lv_at hl 3 rfl) ?_
        refine q_iadd C dX7_changes_41 (fun v12 => ?_)
        refine a_zld C (yk_7_17 hk0) (yl_7_17 hk0) dX7_changes_42 (fun v13 => ?_)
        refine q_if_eq C 50 dX7_changes_43 (by decide) ?_ ?_
        · refine q_iconst C dX7_changes_50 rfl (by decide) (fun v14 => ?_)
          refine q_iadd C dX7_changes_51 (fun v15 => ?_)
          refine q_istore_n C [(2, .int v15), (0, .ref (gad G k0)), (1, .int a1), (3, .int x8)] dX7_changes_52 rfl hl (by decide) rfl (fun ls hl => ?_)
          refine q_iinc (k := 3) C (fun v16 => [(3, .int v16), (2, .int v15), (0, .ref (gad G k0)), (1, .int a1)]) dX7_changes_53 hl rfl (by decide) (by decide) (fun _ => rfl) (fun v16 ls hl => ?_)
          refine q_goto C 23 dX7_changes_56 (by decide) ?_
          exact ih v15 v16 σ ls (lv_sub hl [2, 3, 1, 0] rfl)
        · refine q_iconst C dX7_changes_46 rfl (by decide) (fun v17 => ?_)
          refine q_goto C 51 dX7_changes_47 (by decide) ?_
          refine q_iadd C dX7_changes_51 (fun v18 => ?_)
          refine q_istore_n C [(2, .int v18), (0, .ref (gad G k0)), (1, .int a1), (3, .int x8)] dX7_changes_52 rfl hl (by decide) rfl (fun ls hl => ?_)
          refine q_iinc (k := 3) C (fun v19 => [(3, .int v19), (2, .int v18), (0, .ref (gad G k0)), (1, .int a1)]) dX7_changes_53 hl rfl (by decide) (by decide) (fun _ => rfl) (fun v19 ls hl => ?_)
          refine q_goto C 23 dX7_changes_56 (by decide) ?_
          exact ih v18 v19 σ ls (lv_sub hl [2, 3, 1, 0] rfl)
  refine q_aload_n C dX7_changes_0 rfl (lv_at hl 0 rfl) ?_
  refine q_c2i C (fun r h => cr_V (As := []) (rest := []) C (m_X7_asks l G F k0 σ r h) cb_X7_asks hk0 (by decide) rfl (cf_7 hk0 _) rfl kl_X7_316 ⟨Nat.le_of_ble_eq_true rfl, Nat.le_of_ble_eq_true rfl⟩ ⟨Nat.zero_le _, Nat.zero_le _⟩ hl.1 rfl (Nat.le_of_ble_eq_true rfl) dX7_changes_1 rfl) (fun v1 σ1 => ?_)
  refine q_if_eq C 16 dX7_changes_4 (by decide) ?_ ?_
  · refine q_bipush C dX7_changes_16 rfl (by decide) (fun v2 => ?_)
    exact q_iretE C hr hlo dX7_changes_18
  · refine q_aload_n C dX7_changes_7 rfl (lv_at hl 0 rfl) ?_
    refine q_iload_n C dX7_changes_8 rfl (lv_at hl 1 rfl) ?_
    refine q_i2l C dX7_changes_9 (fun v3 => ?_)
    refine q_c1i C (fun r h => cr_V (As := [.long v3]) (rest := []) C (m_X7_isEvent l G F k0 v3 σ1 r h) cb_X7_isEvent hk0 (by decide) rfl (cf_7 hk0 _) rfl kl_X7_329 ⟨Nat.le_of_ble_eq_true rfl, Nat.le_of_ble_eq_true rfl⟩ ⟨Nat.zero_le _, Nat.zero_le _⟩ hl.1 rfl (Nat.le_of_ble_eq_true rfl) dX7_changes_10 rfl) (fun v4 => ?_)
    refine q_if_ne C 19 dX7_changes_13 (by decide) ?_ ?_
    · refine q_iconst C dX7_changes_19 rfl (by decide) (fun v5 => ?_)
      refine q_istore_n C [(2, .int v5), (0, .ref (gad G k0)), (1, .int a1)] dX7_changes_20 rfl hl (by decide) rfl (fun ls hl => ?_)
      refine q_iconst C dX7_changes_21 rfl (by decide) (fun v6 => ?_)
      refine q_istore_n C [(3, .int v6), (2, .int v5), (0, .ref (gad G k0)), (1, .int a1)] dX7_changes_22 rfl hl (by decide) rfl (fun ls hl => ?_)
      exact B23 F v5 v6 σ1 ls (lv_sub hl [2, 3, 1, 0] rfl)
    · refine q_bipush C dX7_changes_16 rfl (by decide) (fun v20 => ?_)
      exact q_iretE C hr hlo dX7_changes_18
def f_X7_latest (F : Nat) (k0 : Nat) (a1 : Int) (a2 : Int) (σ : St) : Option (Int × St) :=
  z_ob 7 k0 <| 
  z_c2 (f_X7_asksCell F k0 a1 a2 σ) fun v1 σ1 =>
  if v1 = 0 then (
    z_gt (-2) fun v2 =>
    some (v2, σ1))
  else (
    z_c1 (f_X7_latestAt F k0 a1 a2 σ1) fun v3 =>
    some (v3, σ1))
theorem cb_X7_latest : CB yX7_latest cX7_latest 3 (some .int) 2 := ⟨ki_X7_latest, kq_X7_latest, kn_X7, kc_X7_latest, by decide +kernel, by decide +kernel, by decide +kernel⟩
set_option maxRecDepth 20000 in
set_option maxHeartbeats 4000000 in
theorem m_X7_latest (l : Launch) (G : GG) (F : Nat) (k0 : Nat) (a1 : Int32) (a2 : Int32) (σ : St) : ∀ r, f_X7_latest F k0 a1.toInt a2.toInt σ = some r → MC G l yX7_latest cX7_latest 3 (some .int) { frames := 9, cells := 0, slots := 0, locals := 200 } [.ref (gad G k0), .int a1, .int a2] σ (vI r.1) r.2 := by
  refine MC_of (own := RX7) (fun r : Int × St => vI r.1) (fun r : Int × St => r.2) (by decide +kernel) rfl (Nat.le_of_ble_eq_true rfl) ?_
  intro p e s m args below meth c C hr hlo ls hl
  have hl : lv_has ls 3 [(0, .ref (gad G k0)), (1, .int a1), (2, .int a2)] := hl
  unfold f_X7_latest
  refine q_ob (fun hk0 => ?_)
  refine q_aload_n C dX7_latest_0 rfl (lv_at hl 0 rfl) ?_
  refine q_iload_n C dX7_latest_1 rfl (lv_at hl 1 rfl) ?_
  refine q_iload_n C dX7_latest_2 rfl (lv_at hl 2 rfl) ?_
  refine q_c2i C (fun r h => cr_V (As := [.int a1, .int a2]) (rest := []) C (m_X7_asksCell l G F k0 a1 a2 σ r h) cb_X7_asksCell hk0 (by decide) rfl (cf_7 hk0 _) rfl kl_X7_334 ⟨Nat.le_of_ble_eq_true rfl, Nat.le_of_ble_eq_true rfl⟩ ⟨Nat.zero_le _, Nat.zero_le _⟩ hl.1 rfl (Nat.le_of_ble_eq_true rfl) dX7_latest_3 rfl) (fun v1 σ1 => ?_)
  refine q_if_eq C 18 dX7_latest_6 (by decide) ?_ ?_
  · refine q_bipush C dX7_latest_18 rfl (by decide) (fun v2 => ?_)
    exact q_iretE C hr hlo dX7_latest_20
  · refine q_aload_n C dX7_latest_9 rfl (lv_at hl 0 rfl) ?_
    refine q_iload_n C dX7_latest_10 rfl (lv_at hl 1 rfl) ?_
    refine q_iload_n C dX7_latest_11 rfl (lv_at hl 2 rfl) ?_
    refine q_c1i C (fun r h => cr_V (As := [.int a1, .int a2]) (rest := []) C (m_X7_latestAt l G F k0 a1 a2 σ1 r h) cb_X7_latestAt hk0 (by decide) rfl (cf_7 hk0 _) rfl kl_X7_264 ⟨Nat.le_of_ble_eq_true rfl, Nat.le_of_ble_eq_true rfl⟩ ⟨Nat.zero_le _, Nat.zero_le _⟩ hl.1 rfl (Nat.le_of_ble_eq_true rfl) dX7_latest_12 rfl) (fun v3 => ?_)
    refine q_goto C 20 dX7_latest_15 (by decide) ?_
    exact q_iretE C hr hlo dX7_latest_20
def f_X7_dirty (F : Nat) (k0 : Nat) (a1 : Int) (a2 : Int) (σ : St) : Option (Int × St) :=
  z_ob 7 k0 <| 
  z_c2 (f_X7_asksCell F k0 a1 a2 σ) fun v1 σ1 =>
  if ¬ v1 = 0 then (
    z_c1 (f_X7_isDirtyAt F k0 a1 a2 σ1) fun v2 =>
    if v2 = 0 then (
      z_gt 0 fun v3 =>
      some (v3, σ1))
    else (
      z_gt 1 fun v4 =>
      some (v4, σ1)))
  else (
    z_gt (-2) fun v5 =>
    some (v5, σ1))
theorem cb_X7_dirty : CB yX7_dirty cX7_dirty 3 (some .int) 2 := ⟨ki_X7_dirty, kq_X7_dirty, kn_X7, kc_X7_dirty, by decide +kernel, by decide +kernel, by decide +kernel⟩
set_option maxRecDepth 20000 in
set_option maxHeartbeats 4000000 in
theorem m_X7_dirty (l : Launch) (G : GG) (F : Nat) (k0 : Nat) (a1 : Int32) (a2 : Int32) (σ : St) : ∀ r, f_X7_dirty F k0 a1.toInt a2.toInt σ = some r → MC G l yX7_dirty cX7_dirty 3 (some .int) { frames := 9, cells := 0, slots := 0, locals := 200 } [.ref (gad G k0), .int a1, .int a2] σ (vI r.1) r.2 := by
  refine MC_of (own := RX7) (fun r : Int × St => vI r.1) (fun r : Int × St => r.2) (by decide +kernel) rfl (Nat.le_of_ble_eq_true rfl) ?_
  intro p e s m args below meth c C hr hlo ls hl
  have hl : lv_has ls 3 [(0, .ref (gad G k0)), (1, .int a1), (2, .int a2)] := hl
  unfold f_X7_dirty
  refine q_ob (fun hk0 => ?_)
  refine q_aload_n C dX7_dirty_0 rfl (lv_at hl 0 rfl) ?_
  refine q_iload_n C dX7_dirty_1 rfl (lv_at hl 1 rfl) ?_
  refine q_iload_n C dX7_dirty_2 rfl (lv_at hl 2 rfl) ?_
  refine q_c2i C (fun r h => cr_V (As := [.int a1, .int a2]) (rest := []) C (m_X7_asksCell l G F k0 a1 a2 σ r h) cb_X7_asksCell hk0 (by decide) rfl (cf_7 hk0 _) rfl kl_X7_334 ⟨Nat.le_of_ble_eq_true rfl, Nat.le_of_ble_eq_true rfl⟩ ⟨Nat.zero_le _, Nat.zero_le _⟩ hl.1 rfl (Nat.le_of_ble_eq_true rfl) dX7_dirty_3 rfl) (fun v1 σ1 => ?_)
  refine q_if_ne C 12 dX7_dirty_6 (by decide) ?_ ?_
  · refine q_aload_n C dX7_dirty_12 rfl (lv_at hl 0 rfl) ?_
    refine q_iload_n C dX7_dirty_13 rfl (lv_at hl 1 rfl) ?_
    refine q_iload_n C dX7_dirty_14 rfl (lv_at hl 2 rfl) ?_
    refine q_c1i C (fun r h => cr_V (As := [.int a1, .int a2]) (rest := []) C (m_X7_isDirtyAt l G F k0 a1 a2 σ1 r h) cb_X7_isDirtyAt hk0 (by decide) rfl (cf_7 hk0 _) rfl kl_X7_283 ⟨Nat.le_of_ble_eq_true rfl, Nat.le_of_ble_eq_true rfl⟩ ⟨Nat.zero_le _, Nat.zero_le _⟩ hl.1 rfl (Nat.le_of_ble_eq_true rfl) dX7_dirty_15 rfl) (fun v2 => ?_)
    refine q_if_eq C 25 dX7_dirty_18 (by decide) ?_ ?_
    · refine q_iconst C dX7_dirty_25 rfl (by decide) (fun v3 => ?_)
      exact q_iretE C hr hlo dX7_dirty_26
    · refine q_iconst C dX7_dirty_21 rfl (by decide) (fun v4 => ?_)
      refine q_goto C 26 dX7_dirty_22 (by decide) ?_
      exact q_iretE C hr hlo dX7_dirty_26
  · refine q_bipush C dX7_dirty_9 rfl (by decide) (fun v5 => ?_)
    exact q_iretE C hr hlo dX7_dirty_11
def f_X7_dirtyFrom_L6 (F : Nat) (k0 : Nat) (a1 : Int) (a2 : Int) (a3 : Int)  (σ : St) : Nat → Int → Int → Option (Int)
  | 0, _, _ => none
  | n + 1, x2, x3 =>
    if a2 ≤ x3 then (
      some x2)
    else (
      z_c1 (f_X7_cells F k0 σ) fun v4 =>
      if v4 ≤ x3 then (
        some x2)
      else (
        z_c1 (f_X7_isDirtyAt F k0 x3 a3 σ) fun v5 =>
        if v5 = 0 then (
          z_gt 0 fun v6 =>
          z_ck (x2 + v6) fun v7 =>
          z_ck (x3 + 1) fun v8 =>
          f_X7_dirtyFrom_L6 F k0 a1 a2 a3 σ n v7 v8)
        else (
          z_gt 1 fun v9 =>
          z_ck (x2 + v9) fun v10 =>
          z_ck (x3 + 1) fun v11 =>
          f_X7_dirtyFrom_L6 F k0 a1 a2 a3 σ n v10 v11)))

def f_X7_dirtyFrom (F : Nat) (k0 : Nat) (a1 : Int) (a2 : Int) (a3 : Int) (σ : St) : Option (Int) :=
  z_ob 7 k0 <| 
  z_gt 0 fun v1 =>
  f_X7_dirtyFrom_L6 F k0 a1 a2 a3 σ F v1 a1
theorem cb_X7_dirtyFrom : CB yX7_dirtyFrom cX7_dirtyFrom 6 (some .int) 3 := ⟨ki_X7_dirtyFrom, kq_X7_dirtyFrom, kn_X7, kc_X7_dirtyFrom, by decide +kernel, by decide +kernel, by decide +kernel⟩
set_option maxRecDepth 20000 in
set_option maxHeartbeats 4000000 in
theorem m_X7_dirtyFrom (l : Launch) (G : GG) (F : Nat) (k0 : Nat) (a1 : Int32) (a2 : Int32) (a3 : Int32) (σ : St) : ∀ r, f_X7_dirtyFrom F k0 a1.toInt a2.toInt a3.toInt σ = some r → MC G l yX7_dirtyFrom cX7_dirtyFrom 6 (some .int) { frames := 3, cells := 0, slots := 0, locals := 67 } [.ref (gad G k0), .int a1, .int a2, .int a3] σ (vI r) σ := by
  refine MC_of (own := RX7) (vI) (fun _ => σ) (by decide +kernel) rfl (Nat.le_of_ble_eq_true rfl) ?_
  intro p e s m args below meth c C hr hlo ls hl
  have hl : lv_has ls 6 [(0, .ref (gad G k0)), (1, .int a1), (2, .int a2), (3, .int a3)] := hl
  unfold f_X7_dirtyFrom
  refine q_ob (fun hk0 => ?_)
  have B6 : ∀ (n : Nat) (x2 : Int32) (x3 : Int32) (ls : Array Slot), lv_has ls 6 [(0, .ref (gad G k0)), (2, .int a2), (3, .int a3), (4, .int x2), (5, .int x3)] → Sim G (AG G) 0 0 p l e { frames := 3, cells := 0, slots := 0, locals := 67 } s m args below meth c (fun r : Int => MQ below (QC G (vI r) (σ)) args s 0 0 (AG G)) σ (f_X7_dirtyFrom_L6 F k0 a1.toInt a2.toInt a3.toInt  σ n x2.toInt x3.toInt) (F0 m 6 ls []) := by
    intro n
    induction n with
    | zero =>
      intro x2 x3 ls hl
      exact sim_none
    | succ n ih =>
      intro x2 x3 ls hl
      rw [f_X7_dirtyFrom_L6]
      refine q_iload C dX7_dirtyFrom_6 (lv_at hl 4 rfl) ?_
      refine q_iload_n C dX7_dirtyFrom_8 rfl (lv_at hl 1 rfl) ?_
      refine q_icmp_ge C 47 dX7_dirtyFrom_9 (by decide) ?_ ?_
      · refine q_iload C dX7_dirtyFrom_47 (lv_at hl 3 rfl) ?_
        exact q_iret C hr hlo dX7_dirtyFrom_49
      · refine q_iload C dX7_dirtyFrom_12 (lv_at hl 4 rfl) ?_
        refine q_aload_n C dX7_dirtyFrom_14 rfl (lv_at hl 0 rfl) ?_
        refine q_c1i C (fun r h => cr_V (As := []) (rest := [.int x3]) C (m_X7_cells l G F k0 σ r h) cb_X7_cells hk0 (by decide) rfl (cf_7 hk0 _) rfl kl_X7_107 ⟨Nat.le_of_ble_eq_true rfl, Nat.le_of_ble_eq_true rfl⟩ ⟨Nat.zero_le _, Nat.zero_le _⟩ hl.1 rfl (Nat.le_of_ble_eq_true rfl) dX7_dirtyFrom_15 rfl) (fun v4 => ?_)
        refine q_icmp_ge C 47 dX7_dirtyFrom_18 (by decide) ?_ ?_
        · refine q_iload C dX7_dirtyFrom_47 (lv_at hl 3 rfl) ?_
          exact q_iret C hr hlo dX7_dirtyFrom_49
        · refine q_iload C dX7_dirtyFrom_21 (lv_at hl 3 rfl) ?_
          refine q_aload_n C dX7_dirtyFrom_23 rfl (lv_at hl 0 rfl) ?_
          refine q_iload C dX7_dirtyFrom_24 (lv_at hl 4 rfl) ?_
          refine q_iload_n C dX7_dirtyFrom_26 rfl (lv_at hl 2 rfl) ?_
          refine q_c1i C (fun r h => cr_V (As := [.int x3, .int a3]) (rest := [.int x2]) C (m_X7_isDirtyAt l G F k0 x3 a3 σ r h) cb_X7_isDirtyAt hk0 (by decide) rfl (cf_7 hk0 _) rfl kl_X7_283 ⟨Nat.le_of_ble_eq_true rfl, Nat.le_of_ble_eq_true rfl⟩ ⟨Nat.zero_le _, Nat.zero_le _⟩ hl.1 rfl (Nat.le_of_ble_eq_true rfl) dX7_dirtyFrom_27 rfl) (fun v5 => ?_)
          refine q_if_eq C 37 dX7_dirtyFrom_30 (by decide) ?_ ?_
          · refine q_iconst C dX7_dirtyFrom_37 rfl (by decide) (fun v6 => ?_)
            refine q_iadd C dX7_dirtyFrom_38 (fun v7 => ?_)
            refine q_istore C [(4, .int v7), (0, .ref (gad G k0)), (2, .int a2), (3, .int a3), (5, .int x3)] dX7_dirtyFrom_39 hl (by decide) rfl (fun ls hl => ?_)
            refine q_iinc (k := 4) C (fun v8 => [(5, .int v8), (4, .int v7), (0, .ref (gad G k0)), (2, .int a2), (3, .int a3)]) dX7_dirtyFrom_41 hl rfl (by decide) (by decide) (fun _ => rfl) (fun v8 ls hl => ?_)
            refine q_goto C 6 dX7_dirtyFrom_44 (by decide) ?_
            exact ih v7 v8 ls (lv_sub hl [2, 3, 4, 1, 0] rfl)
          · refine q_iconst C dX7_dirtyFrom_33 rfl (by decide) (fun v9 => ?_)
            refine q_goto C 38 dX7_dirtyFrom_34 (by decide) ?_
            refine q_iadd C dX7_dirtyFrom_38 (fun v10 => ?_)
            refine q_istore C [(4, .int v10), (0, .ref (gad G k0)), (2, .int a2), (3, .int a3), (5, .int x3)] dX7_dirtyFrom_39 hl (by decide) rfl (fun ls hl => ?_)
            refine q_iinc (k := 4) C (fun v11 => [(5, .int v11), (4, .int v10), (0, .ref (gad G k0)), (2, .int a2), (3, .int a3)]) dX7_dirtyFrom_41 hl rfl (by decide) (by decide) (fun _ => rfl) (fun v11 ls hl => ?_)
            refine q_goto C 6 dX7_dirtyFrom_44 (by decide) ?_
            exact ih v10 v11 ls (lv_sub hl [2, 3, 4, 1, 0] rfl)
  refine q_iconst C dX7_dirtyFrom_0 rfl (by decide) (fun v1 => ?_)
  refine q_istore C [(4, .int v1), (0, .ref (gad G k0)), (1, .int a1), (2, .int a2), (3, .int a3)] dX7_dirtyFrom_1 hl (by decide) rfl (fun ls hl => ?_)
  refine q_iload_n C dX7_dirtyFrom_3 rfl (lv_at hl 2 rfl) ?_
  refine q_istore C [(5, .int a1), (4, .int v1), (0, .ref (gad G k0)), (1, .int a1), (2, .int a2), (3, .int a3)] dX7_dirtyFrom_4 hl (by decide) rfl (fun ls hl => ?_)
  exact B6 F v1 a1 ls (lv_sub hl [2, 4, 5, 1, 0] rfl)
def f_X7_dirties (F : Nat) (k0 : Nat) (a1 : Int) (σ : St) : Option (Int × St) :=
  z_ob 7 k0 <| 
  z_c2 (f_X7_asksAt F k0 a1 σ) fun v1 σ1 =>
  if v1 = 0 then (
    z_gt (-2) fun v2 =>
    some (v2, σ1))
  else (
    z_gt 0 fun v3 =>
    z_gt 32 fun v4 =>
    z_c1 (f_X7_dirtyFrom F k0 v3 v4 a1 σ1) fun v5 =>
    some (v5, σ1))
theorem cb_X7_dirties : CB yX7_dirties cX7_dirties 2 (some .int) 1 := ⟨ki_X7_dirties, kq_X7_dirties, kn_X7, kc_X7_dirties, by decide +kernel, by decide +kernel, by decide +kernel⟩
set_option maxRecDepth 20000 in
set_option maxHeartbeats 4000000 in
theorem m_X7_dirties (l : Launch) (G : GG) (F : Nat) (k0 : Nat) (a1 : Int32) (σ : St) : ∀ r, f_X7_dirties F k0 a1.toInt σ = some r → MC G l yX7_dirties cX7_dirties 2 (some .int) { frames := 8, cells := 0, slots := 0, locals := 178 } [.ref (gad G k0), .int a1] σ (vI r.1) r.2 := by
  refine MC_of (own := RX7) (fun r : Int × St => vI r.1) (fun r : Int × St => r.2) (by decide +kernel) rfl (Nat.le_of_ble_eq_true rfl) ?_
  intro p e s m args below meth c C hr hlo ls hl
  have hl : lv_has ls 2 [(0, .ref (gad G k0)), (1, .int a1)] := hl
  unfold f_X7_dirties
  refine q_ob (fun hk0 => ?_)
  refine q_aload_n C dX7_dirties_0 rfl (lv_at hl 0 rfl) ?_
  refine q_iload_n C dX7_dirties_1 rfl (lv_at hl 1 rfl) ?_
  refine q_c2i C (fun r h => cr_V (As := [.int a1]) (rest := []) C (m_X7_asksAt l G F k0 a1 σ r h) cb_X7_asksAt hk0 (by decide) rfl (cf_7 hk0 _) rfl kl_X7_323 ⟨Nat.le_of_ble_eq_true rfl, Nat.le_of_ble_eq_true rfl⟩ ⟨Nat.zero_le _, Nat.zero_le _⟩ hl.1 rfl (Nat.le_of_ble_eq_true rfl) dX7_dirties_2 rfl) (fun v1 σ1 => ?_)
  refine q_if_eq C 19 dX7_dirties_5 (by decide) ?_ ?_
  · refine q_bipush C dX7_dirties_19 rfl (by decide) (fun v2 => ?_)
    exact q_iretE C hr hlo dX7_dirties_21
  · refine q_aload_n C dX7_dirties_8 rfl (lv_at hl 0 rfl) ?_
    refine q_iconst C dX7_dirties_9 rfl (by decide) (fun v3 => ?_)
    refine q_bipush C dX7_dirties_10 rfl (by decide) (fun v4 => ?_)
    refine q_iload_n C dX7_dirties_12 rfl (lv_at hl 1 rfl) ?_
    refine q_c1i C (fun r h => cr_V (As := [.int v3, .int v4, .int a1]) (rest := []) C (m_X7_dirtyFrom l G F k0 v3 v4 a1 σ1 r h) cb_X7_dirtyFrom hk0 (by decide) rfl (cf_7 hk0 _) rfl kl_X7_340 ⟨Nat.le_of_ble_eq_true rfl, Nat.le_of_ble_eq_true rfl⟩ ⟨Nat.zero_le _, Nat.zero_le _⟩ hl.1 rfl (Nat.le_of_ble_eq_true rfl) dX7_dirties_13 rfl) (fun v5 => ?_)
    refine q_goto C 21 dX7_dirties_16 (by decide) ?_
    exact q_iretE C hr hlo dX7_dirties_21
def f_X7_isDirtyRegion (F : Nat) (k0 : Nat) (a1 : Int) (a2 : Int) (a3 : Int) (σ : St) : Option (Int) :=
  z_ob 7 k0 <| 
  z_gt (z_shl a2 a1) fun v1 =>
  z_gt 1 fun v2 =>
  z_ck (a2 + v2) fun v3 =>
  z_gt (z_shl v3 a1) fun v4 =>
  z_c1 (f_X7_dirtyFrom F k0 v1 v4 a3 σ) fun v5 =>
  if v5 ≤ 0 then (
    z_gt 0 fun v6 =>
    z_bo v6 <| some v6)
  else (
    z_gt 1 fun v7 =>
    z_bo v7 <| some v7)
theorem cb_X7_isDirtyRegion : CB yX7_isDirtyRegion cX7_isDirtyRegion 4 (some .boolean) 3 := ⟨ki_X7_isDirtyRegion, kq_X7_isDirtyRegion, kn_X7, kc_X7_isDirtyRegion, by decide +kernel, by decide +kernel, by decide +kernel⟩
set_option maxRecDepth 20000 in
set_option maxHeartbeats 4000000 in
theorem m_X7_isDirtyRegion (l : Launch) (G : GG) (F : Nat) (k0 : Nat) (a1 : Int32) (a2 : Int32) (a3 : Int32) (σ : St) : ∀ r, f_X7_isDirtyRegion F k0 a1.toInt a2.toInt a3.toInt σ = some r → MC G l yX7_isDirtyRegion cX7_isDirtyRegion 4 (some .boolean) { frames := 4, cells := 0, slots := 0, locals := 92 } [.ref (gad G k0), .int a1, .int a2, .int a3] σ (vI r) σ := by
  refine MC_of (own := RX7) (vI) (fun _ => σ) (by decide +kernel) rfl (Nat.le_of_ble_eq_true rfl) ?_
  intro p e s m args below meth c C hr hlo ls hl
  have hl : lv_has ls 4 [(0, .ref (gad G k0)), (1, .int a1), (2, .int a2), (3, .int a3)] := hl
  unfold f_X7_isDirtyRegion
  refine q_ob (fun hk0 => ?_)
  refine q_aload_n C dX7_isDirtyRegion_0 rfl (lv_at hl 0 rfl) ?_
  refine q_iload_n C dX7_isDirtyRegion_1 rfl (lv_at hl 2 rfl) ?_
  refine q_iload_n C dX7_isDirtyRegion_2 rfl (lv_at hl 1 rfl) ?_
  refine q_ishl C dX7_isDirtyRegion_3 (fun v1 => ?_)
  refine q_iload_n C dX7_isDirtyRegion_4 rfl (lv_at hl 2 rfl) ?_
  refine q_iconst C dX7_isDirtyRegion_5 rfl (by decide) (fun v2 => ?_)
  refine q_iadd C dX7_isDirtyRegion_6 (fun v3 => ?_)
  refine q_iload_n C dX7_isDirtyRegion_7 rfl (lv_at hl 1 rfl) ?_
  refine q_ishl C dX7_isDirtyRegion_8 (fun v4 => ?_)
  refine q_iload_n C dX7_isDirtyRegion_9 rfl (lv_at hl 3 rfl) ?_
  refine q_c1i C (fun r h => cr_V (As := [.int v1, .int v4, .int a3]) (rest := []) C (m_X7_dirtyFrom l G F k0 v1 v4 a3 σ r h) cb_X7_dirtyFrom hk0 (by decide) rfl (cf_7 hk0 _) rfl kl_X7_340 ⟨Nat.le_of_ble_eq_true rfl, Nat.le_of_ble_eq_true rfl⟩ ⟨Nat.zero_le _, Nat.zero_le _⟩ hl.1 rfl (Nat.le_of_ble_eq_true rfl) dX7_isDirtyRegion_10 rfl) (fun v5 => ?_)
  refine q_if_le C 20 dX7_isDirtyRegion_13 (by decide) ?_ ?_
  · refine q_iconst C dX7_isDirtyRegion_20 rfl (by decide) (fun v6 => ?_)
    exact q_zret C hr hlo dX7_isDirtyRegion_21
  · refine q_iconst C dX7_isDirtyRegion_16 rfl (by decide) (fun v7 => ?_)
    refine q_goto C 21 dX7_isDirtyRegion_17 (by decide) ?_
    exact q_zret C hr hlo dX7_isDirtyRegion_21
def f_X7_region (F : Nat) (k0 : Nat) (a1 : Int) (a2 : Int) (a3 : Int) (σ : St) : Option (Int × St) :=
  z_ob 7 k0 <| 
  z_c2 (f_X7_asksAt F k0 a3 σ) fun v1 σ1 =>
  if v1 = 0 then (
    z_gt (-2) fun v2 =>
    some (v2, σ1))
  else (
    z_gt a1 fun v3 =>
    z_gt 0 fun v4 =>
    z_gt 5 fun v5 =>
    z_c1 (f_X7_in F v3 v4 v5 σ1) fun v6 =>
    if v6 = 0 then (
      z_gt (-2) fun v7 =>
      some (v7, σ1))
    else (
      z_gt a2 fun v8 =>
      z_gt 0 fun v9 =>
      z_gt 32 fun v10 =>
      z_gt (z_shr v10 a1) fun v11 =>
      z_gt 1 fun v12 =>
      z_ck (v11 - v12) fun v13 =>
      z_gt v13 fun v14 =>
      z_c1 (f_X7_in F v8 v9 v14 σ1) fun v15 =>
      if ¬ v15 = 0 then (
        z_c1 (f_X7_isDirtyRegion F k0 a1 a2 a3 σ1) fun v16 =>
        if v16 = 0 then (
          z_gt 0 fun v17 =>
          some (v17, σ1))
        else (
          z_gt 1 fun v18 =>
          some (v18, σ1)))
      else (
        z_gt (-2) fun v19 =>
        some (v19, σ1))))
theorem cb_X7_region : CB yX7_region cX7_region 4 (some .int) 3 := ⟨ki_X7_region, kq_X7_region, kn_X7, kc_X7_region, by decide +kernel, by decide +kernel, by decide +kernel⟩
set_option maxRecDepth 20000 in
set_option maxHeartbeats 4000000 in
theorem m_X7_region (l : Launch) (G : GG) (F : Nat) (k0 : Nat) (a1 : Int32) (a2 : Int32) (a3 : Int32) (σ : St) : ∀ r, f_X7_region F k0 a1.toInt a2.toInt a3.toInt σ = some r → MC G l yX7_region cX7_region 4 (some .int) { frames := 8, cells := 0, slots := 0, locals := 178 } [.ref (gad G k0), .int a1, .int a2, .int a3] σ (vI r.1) r.2 := by
  refine MC_of (own := RX7) (fun r : Int × St => vI r.1) (fun r : Int × St => r.2) (by decide +kernel) rfl (Nat.le_of_ble_eq_true rfl) ?_
  intro p e s m args below meth c C hr hlo ls hl
  have hl : lv_has ls 4 [(0, .ref (gad G k0)), (1, .int a1), (2, .int a2), (3, .int a3)] := hl
  unfold f_X7_region
  refine q_ob (fun hk0 => ?_)
  refine q_aload_n C dX7_region_0 rfl (lv_at hl 0 rfl) ?_
  refine q_iload_n C dX7_region_1 rfl (lv_at hl 3 rfl) ?_
  refine q_c2i C (fun r h => cr_V (As := [.int a3]) (rest := []) C (m_X7_asksAt l G F k0 a3 σ r h) cb_X7_asksAt hk0 (by decide) rfl (cf_7 hk0 _) rfl kl_X7_323 ⟨Nat.le_of_ble_eq_true rfl, Nat.le_of_ble_eq_true rfl⟩ ⟨Nat.zero_le _, Nat.zero_le _⟩ hl.1 rfl (Nat.le_of_ble_eq_true rfl) dX7_region_2 rfl) (fun v1 σ1 => ?_)
  refine q_if_eq C 36 dX7_region_5 (by decide) ?_ ?_
  · refine q_bipush C dX7_region_36 rfl (by decide) (fun v2 => ?_)
    exact q_iretE C hr hlo dX7_region_38
  · refine q_iload_n C dX7_region_8 rfl (lv_at hl 1 rfl) ?_
    refine q_i2l C dX7_region_9 (fun v3 => ?_)
    refine q_lconst C dX7_region_10 rfl (by decide) (fun v4 => ?_)
    refine q_ldc2 C kk_X7_343 dX7_region_11 (by decide) (fun v5 => ?_)
    refine q_c1i C (fun r h => cr_S (As := [.long v3, .long v4, .long v5]) (rest := []) C (m_X7_in l G F v3 v4 v5 σ1 r h) sb_X7_in kl_X7_103 ⟨Nat.le_of_ble_eq_true rfl, Nat.le_of_ble_eq_true rfl⟩ ⟨Nat.zero_le _, Nat.zero_le _⟩ hl.1 rfl (Nat.le_of_ble_eq_true rfl) dX7_region_14 rfl) (fun v6 => ?_)
    refine q_if_eq C 36 dX7_region_17 (by decide) ?_ ?_
    · refine q_bipush C dX7_region_36 rfl (by decide) (fun v7 => ?_)
      exact q_iretE C hr hlo dX7_region_38
    · refine q_iload_n C dX7_region_20 rfl (lv_at hl 2 rfl) ?_
      refine q_i2l C dX7_region_21 (fun v8 => ?_)
      refine q_lconst C dX7_region_22 rfl (by decide) (fun v9 => ?_)
      refine q_bipush C dX7_region_23 rfl (by decide) (fun v10 => ?_)
      refine q_iload_n C dX7_region_25 rfl (lv_at hl 1 rfl) ?_
      refine q_ishr C dX7_region_26 (fun v11 => ?_)
      refine q_iconst C dX7_region_27 rfl (by decide) (fun v12 => ?_)
      refine q_isub C dX7_region_28 (fun v13 => ?_)
      refine q_i2l C dX7_region_29 (fun v14 => ?_)
      refine q_c1i C (fun r h => cr_S (As := [.long v8, .long v9, .long v14]) (rest := []) C (m_X7_in l G F v8 v9 v14 σ1 r h) sb_X7_in kl_X7_103 ⟨Nat.le_of_ble_eq_true rfl, Nat.le_of_ble_eq_true rfl⟩ ⟨Nat.zero_le _, Nat.zero_le _⟩ hl.1 rfl (Nat.le_of_ble_eq_true rfl) dX7_region_30 rfl) (fun v15 => ?_)
      refine q_if_ne C 39 dX7_region_33 (by decide) ?_ ?_
      · refine q_aload_n C dX7_region_39 rfl (lv_at hl 0 rfl) ?_
        refine q_iload_n C dX7_region_40 rfl (lv_at hl 1 rfl) ?_
        refine q_iload_n C dX7_region_41 rfl (lv_at hl 2 rfl) ?_
        refine q_iload_n C dX7_region_42 rfl (lv_at hl 3 rfl) ?_
        refine q_c1i C (fun r h => cr_V (As := [.int a1, .int a2, .int a3]) (rest := []) C (m_X7_isDirtyRegion l G F k0 a1 a2 a3 σ1 r h) cb_X7_isDirtyRegion hk0 (by decide) rfl (cf_7 hk0 _) rfl kl_X7_345 ⟨Nat.le_of_ble_eq_true rfl, Nat.le_of_ble_eq_true rfl⟩ ⟨Nat.zero_le _, Nat.zero_le _⟩ hl.1 rfl (Nat.le_of_ble_eq_true rfl) dX7_region_43 rfl) (fun v16 => ?_)
        refine q_if_eq C 53 dX7_region_46 (by decide) ?_ ?_
        · refine q_iconst C dX7_region_53 rfl (by decide) (fun v17 => ?_)
          exact q_iretE C hr hlo dX7_region_54
        · refine q_iconst C dX7_region_49 rfl (by decide) (fun v18 => ?_)
          refine q_goto C 54 dX7_region_50 (by decide) ?_
          exact q_iretE C hr hlo dX7_region_54
      · refine q_bipush C dX7_region_36 rfl (by decide) (fun v19 => ?_)
        exact q_iretE C hr hlo dX7_region_38
def f_X7_regionsAt_L5 (F : Nat) (k0 : Nat) (a1 : Int) (a2 : Int)  (σ : St) : Nat → Int → Int → Option (Int)
  | 0, _, _ => none
  | n + 1, x3, x4 =>
    z_gt 32 fun v5 =>
    z_gt (z_shr v5 a1) fun v6 =>
    if v6 ≤ x4 then (
      some x3)
    else (
      z_c1 (f_X7_isDirtyRegion F k0 a1 x4 a2 σ) fun v7 =>
      if v7 = 0 then (
        z_gt 0 fun v8 =>
        z_ck (x3 + v8) fun v9 =>
        z_ck (x4 + 1) fun v10 =>
        f_X7_regionsAt_L5 F k0 a1 a2 σ n v9 v10)
      else (
        z_gt 1 fun v11 =>
        z_ck (x3 + v11) fun v12 =>
        z_ck (x4 + 1) fun v13 =>
        f_X7_regionsAt_L5 F k0 a1 a2 σ n v12 v13))

def f_X7_regionsAt (F : Nat) (k0 : Nat) (a1 : Int) (a2 : Int) (σ : St) : Option (Int) :=
  z_ob 7 k0 <| 
  z_gt 0 fun v1 =>
  z_gt 0 fun v2 =>
  f_X7_regionsAt_L5 F k0 a1 a2 σ F v1 v2
theorem cb_X7_regionsAt : CB yX7_regionsAt cX7_regionsAt 5 (some .int) 2 := ⟨ki_X7_regionsAt, kq_X7_regionsAt, kn_X7, kc_X7_regionsAt, by decide +kernel, by decide +kernel, by decide +kernel⟩
set_option maxRecDepth 20000 in
set_option maxHeartbeats 4000000 in
theorem m_X7_regionsAt (l : Launch) (G : GG) (F : Nat) (k0 : Nat) (a1 : Int32) (a2 : Int32) (σ : St) : ∀ r, f_X7_regionsAt F k0 a1.toInt a2.toInt σ = some r → MC G l yX7_regionsAt cX7_regionsAt 5 (some .int) { frames := 5, cells := 0, slots := 0, locals := 115 } [.ref (gad G k0), .int a1, .int a2] σ (vI r) σ := by
  refine MC_of (own := RX7) (vI) (fun _ => σ) (by decide +kernel) rfl (Nat.le_of_ble_eq_true rfl) ?_
  intro p e s m args below meth c C hr hlo ls hl
  have hl : lv_has ls 5 [(0, .ref (gad G k0)), (1, .int a1), (2, .int a2)] := hl
  unfold f_X7_regionsAt
  refine q_ob (fun hk0 => ?_)
  have B5 : ∀ (n : Nat) (x3 : Int32) (x4 : Int32) (ls : Array Slot), lv_has ls 5 [(0, .ref (gad G k0)), (1, .int a1), (2, .int a2), (3, .int x3), (4, .int x4)] → Sim G (AG G) 0 0 p l e { frames := 5, cells := 0, slots := 0, locals := 115 } s m args below meth c (fun r : Int => MQ below (QC G (vI r) (σ)) args s 0 0 (AG G)) σ (f_X7_regionsAt_L5 F k0 a1.toInt a2.toInt  σ n x3.toInt x4.toInt) (F0 m 5 ls []) := by
    intro n
    induction n with
    | zero =>
      intro x3 x4 ls hl
      exact sim_none
    | succ n ih =>
      intro x3 x4 ls hl
      rw [f_X7_regionsAt_L5]
      refine q_iload C dX7_regionsAt_5 (lv_at hl 4 rfl) ?_
      refine q_bipush C dX7_regionsAt_7 rfl (by decide) (fun v5 => ?_)
      refine q_iload_n C dX7_regionsAt_9 rfl (lv_at hl 1 rfl) ?_
      refine q_ishr C dX7_regionsAt_10 (fun v6 => ?_)
      refine q_icmp_ge C 39 dX7_regionsAt_11 (by decide) ?_ ?_
      · refine q_iload_n C dX7_regionsAt_39 rfl (lv_at hl 3 rfl) ?_
        exact q_iret C hr hlo dX7_regionsAt_40
      · refine q_iload_n C dX7_regionsAt_14 rfl (lv_at hl 3 rfl) ?_
        refine q_aload_n C dX7_regionsAt_15 rfl (lv_at hl 0 rfl) ?_
        refine q_iload_n C dX7_regionsAt_16 rfl (lv_at hl 1 rfl) ?_
        refine q_iload C dX7_regionsAt_17 (lv_at hl 4 rfl) ?_
        refine q_iload_n C dX7_regionsAt_19 rfl (lv_at hl 2 rfl) ?_
        refine q_c1i C (fun r h => cr_V (As := [.int a1, .int x4, .int a2]) (rest := [.int x3]) C (m_X7_isDirtyRegion l G F k0 a1 x4 a2 σ r h) cb_X7_isDirtyRegion hk0 (by decide) rfl (cf_7 hk0 _) rfl kl_X7_345 ⟨Nat.le_of_ble_eq_true rfl, Nat.le_of_ble_eq_true rfl⟩ ⟨Nat.zero_le _, Nat.zero_le _⟩ hl.1 rfl (Nat.le_of_ble_eq_true rfl) dX7_regionsAt_20 rfl) (fun v7 => ?_)
        refine q_if_eq C 30 dX7_regionsAt_23 (by decide) ?_ ?_
        · refine q_iconst C dX7_regionsAt_30 rfl (by decide) (fun v8 => ?_)
          refine q_iadd C dX7_regionsAt_31 (fun v9 => ?_)
          refine q_istore_n C [(3, .int v9), (0, .ref (gad G k0)), (1, .int a1), (2, .int a2), (4, .int x4)] dX7_regionsAt_32 rfl hl (by decide) rfl (fun ls hl => ?_)
          refine q_iinc (k := 4) C (fun v10 => [(4, .int v10), (3, .int v9), (0, .ref (gad G k0)), (1, .int a1), (2, .int a2)]) dX7_regionsAt_33 hl rfl (by decide) (by decide) (fun _ => rfl) (fun v10 ls hl => ?_)
          refine q_goto C 5 dX7_regionsAt_36 (by decide) ?_
          exact ih v9 v10 ls (lv_sub hl [2, 3, 4, 1, 0] rfl)
        · refine q_iconst C dX7_regionsAt_26 rfl (by decide) (fun v11 => ?_)
          refine q_goto C 31 dX7_regionsAt_27 (by decide) ?_
          refine q_iadd C dX7_regionsAt_31 (fun v12 => ?_)
          refine q_istore_n C [(3, .int v12), (0, .ref (gad G k0)), (1, .int a1), (2, .int a2), (4, .int x4)] dX7_regionsAt_32 rfl hl (by decide) rfl (fun ls hl => ?_)
          refine q_iinc (k := 4) C (fun v13 => [(4, .int v13), (3, .int v12), (0, .ref (gad G k0)), (1, .int a1), (2, .int a2)]) dX7_regionsAt_33 hl rfl (by decide) (by decide) (fun _ => rfl) (fun v13 ls hl => ?_)
          refine q_goto C 5 dX7_regionsAt_36 (by decide) ?_
          exact ih v12 v13 ls (lv_sub hl [2, 3, 4, 1, 0] rfl)
  refine q_iconst C dX7_regionsAt_0 rfl (by decide) (fun v1 => ?_)
  refine q_istore_n C [(3, .int v1), (0, .ref (gad G k0)), (1, .int a1), (2, .int a2)] dX7_regionsAt_1 rfl hl (by decide) rfl (fun ls hl => ?_)
  refine q_iconst C dX7_regionsAt_2 rfl (by decide) (fun v2 => ?_)
  refine q_istore C [(4, .int v2), (3, .int v1), (0, .ref (gad G k0)), (1, .int a1), (2, .int a2)] dX7_regionsAt_3 hl (by decide) rfl (fun ls hl => ?_)
  exact B5 F v1 v2 ls (lv_sub hl [2, 3, 4, 1, 0] rfl)
def f_X7_regions (F : Nat) (k0 : Nat) (a1 : Int) (a2 : Int) (σ : St) : Option (Int × St) :=
  z_ob 7 k0 <| 
  z_c2 (f_X7_asksAt F k0 a2 σ) fun v1 σ1 =>
  if v1 = 0 then (
    z_gt (-2) fun v2 =>
    some (v2, σ1))
  else (
    z_gt a1 fun v3 =>
    z_gt 0 fun v4 =>
    z_gt 5 fun v5 =>
    z_c1 (f_X7_in F v3 v4 v5 σ1) fun v6 =>
    if v6 = 0 then (
      z_gt (-2) fun v7 =>
      some (v7, σ1))
    else (
      z_c1 (f_X7_regionsAt F k0 a1 a2 σ1) fun v8 =>
      some (v8, σ1)))
theorem cb_X7_regions : CB yX7_regions cX7_regions 3 (some .int) 2 := ⟨ki_X7_regions, kq_X7_regions, kn_X7, kc_X7_regions, by decide +kernel, by decide +kernel, by decide +kernel⟩
set_option maxRecDepth 20000 in
set_option maxHeartbeats 4000000 in
theorem m_X7_regions (l : Launch) (G : GG) (F : Nat) (k0 : Nat) (a1 : Int32) (a2 : Int32) (σ : St) : ∀ r, f_X7_regions F k0 a1.toInt a2.toInt σ = some r → MC G l yX7_regions cX7_regions 3 (some .int) { frames := 8, cells := 0, slots := 0, locals := 178 } [.ref (gad G k0), .int a1, .int a2] σ (vI r.1) r.2 := by
  refine MC_of (own := RX7) (fun r : Int × St => vI r.1) (fun r : Int × St => r.2) (by decide +kernel) rfl (Nat.le_of_ble_eq_true rfl) ?_
  intro p e s m args below meth c C hr hlo ls hl
  have hl : lv_has ls 3 [(0, .ref (gad G k0)), (1, .int a1), (2, .int a2)] := hl
  unfold f_X7_regions
  refine q_ob (fun hk0 => ?_)
  refine q_aload_n C dX7_regions_0 rfl (lv_at hl 0 rfl) ?_
  refine q_iload_n C dX7_regions_1 rfl (lv_at hl 2 rfl) ?_
  refine q_c2i C (fun r h => cr_V (As := [.int a2]) (rest := []) C (m_X7_asksAt l G F k0 a2 σ r h) cb_X7_asksAt hk0 (by decide) rfl (cf_7 hk0 _) rfl kl_X7_323 ⟨Nat.le_of_ble_eq_true rfl, Nat.le_of_ble_eq_true rfl⟩ ⟨Nat.zero_le _, Nat.zero_le _⟩ hl.1 rfl (Nat.le_of_ble_eq_true rfl) dX7_regions_2 rfl) (fun v1 σ1 => ?_)
  refine q_if_eq C 29 dX7_regions_5 (by decide) ?_ ?_
  · refine q_bipush C dX7_regions_29 rfl (by decide) (fun v2 => ?_)
    exact q_iretE C hr hlo dX7_regions_31
  · refine q_iload_n C dX7_regions_8 rfl (lv_at hl 1 rfl) ?_
    refine q_i2l C dX7_regions_9 (fun v3 => ?_)
    refine q_lconst C dX7_regions_10 rfl (by decide) (fun v4 => ?_)
    refine q_ldc2 C kk_X7_343 dX7_regions_11 (by decide) (fun v5 => ?_)
    refine q_c1i C (fun r h => cr_S (As := [.long v3, .long v4, .long v5]) (rest := []) C (m_X7_in l G F v3 v4 v5 σ1 r h) sb_X7_in kl_X7_103 ⟨Nat.le_of_ble_eq_true rfl, Nat.le_of_ble_eq_true rfl⟩ ⟨Nat.zero_le _, Nat.zero_le _⟩ hl.1 rfl (Nat.le_of_ble_eq_true rfl) dX7_regions_14 rfl) (fun v6 => ?_)
    refine q_if_eq C 29 dX7_regions_17 (by decide) ?_ ?_
    · refine q_bipush C dX7_regions_29 rfl (by decide) (fun v7 => ?_)
      exact q_iretE C hr hlo dX7_regions_31
    · refine q_aload_n C dX7_regions_20 rfl (lv_at hl 0 rfl) ?_
      refine q_iload_n C dX7_regions_21 rfl (lv_at hl 1 rfl) ?_
      refine q_iload_n C dX7_regions_22 rfl (lv_at hl 2 rfl) ?_
      refine q_c1i C (fun r h => cr_V (As := [.int a1, .int a2]) (rest := []) C (m_X7_regionsAt l G F k0 a1 a2 σ1 r h) cb_X7_regionsAt hk0 (by decide) rfl (cf_7 hk0 _) rfl kl_X7_349 ⟨Nat.le_of_ble_eq_true rfl, Nat.le_of_ble_eq_true rfl⟩ ⟨Nat.zero_le _, Nat.zero_le _⟩ hl.1 rfl (Nat.le_of_ble_eq_true rfl) dX7_regions_23 rfl) (fun v8 => ?_)
      refine q_goto C 31 dX7_regions_26 (by decide) ?_
      exact q_iretE C hr hlo dX7_regions_31
def f_X7_looks_L15 (F : Nat) (k0 : Nat) (a1 : Int)   : Nat → Int → Int → St → Option (Int × St)
  | 0, _, _, _ => none
  | n + 1, x4, x5, σ =>
    z_gt 5 fun v6 =>
    if v6 < x5 then (
      some (x4, σ))
    else (
      z_gt 2 fun v7 =>
      z_c1 (f_X7_regionsAt F k0 x5 a1 σ) fun v8 =>
      z_ck (v7 * v8) fun v9 =>
      z_ck (x4 + v9) fun v10 =>
      z_ck (x5 + 1) fun v11 =>
      f_X7_looks_L15 F k0 a1 n v10 v11 σ)

def f_X7_looks (F : Nat) (k0 : Nat) (a1 : Int) (σ : St) : Option (Int × St) :=
  z_ob 7 k0 <| 
  z_c2 (f_X7_asksAt F k0 a1 σ) fun v1 σ1 =>
  if ¬ v1 = 0 then (
    z_gt 1 fun v2 =>
    z_gt 1 fun v3 =>
    f_X7_looks_L15 F k0 a1 F v2 v3 σ1)
  else (
    z_gt (-2) fun v12 =>
    some (v12, σ1))
theorem cb_X7_looks : CB yX7_looks cX7_looks 4 (some .int) 1 := ⟨ki_X7_looks, kq_X7_looks, kn_X7, kc_X7_looks, by decide +kernel, by decide +kernel, by decide +kernel⟩
set_option maxRecDepth 20000 in
set_option maxHeartbeats 4000000 in
theorem m_X7_looks (l : Launch) (G : GG) (F : Nat) (k0 : Nat) (a1 : Int32) (σ : St) : ∀ r, f_X7_looks F k0 a1.toInt σ = some r → MC G l yX7_looks cX7_looks 4 (some .int) { frames := 8, cells := 0, slots := 0, locals := 178 } [.ref (gad G k0), .int a1] σ (vI r.1) r.2 := by
  refine MC_of (own := RX7) (fun r : Int × St => vI r.1) (fun r : Int × St => r.2) (by decide +kernel) rfl (Nat.le_of_ble_eq_true rfl) ?_
  intro p e s m args below meth c C hr hlo ls hl
  have hl : lv_has ls 4 [(0, .ref (gad G k0)), (1, .int a1)] := hl
  unfold f_X7_looks
  refine q_ob (fun hk0 => ?_)
  have B15 : ∀ (n : Nat) (x4 : Int32) (x5 : Int32) (σ : St) (ls : Array Slot), lv_has ls 4 [(0, .ref (gad G k0)), (1, .int a1), (2, .int x4), (3, .int x5)] → Sim G (AG G) 0 0 p l e { frames := 8, cells := 0, slots := 0, locals := 178 } s m args below meth c (fun r : Int × St => MQ below (QC G (vI r.1) (r.2)) args s 0 0 (AG G)) σ (f_X7_looks_L15 F k0 a1.toInt   n x4.toInt x5.toInt σ) (F0 m 15 ls []) := by
    intro n
    induction n with
    | zero =>
      intro x4 x5 σ ls hl
      exact sim_none
    | succ n ih =>
      intro x4 x5 σ ls hl
      rw [f_X7_looks_L15]
      refine q_iload_n C dX7_looks_15 rfl (lv_at hl 3 rfl) ?_
      refine q_iconst C dX7_looks_16 rfl (by decide) (fun v6 => ?_)
      refine q_icmp_gt C 37 dX7_looks_17 (by decide) ?_ ?_
      · refine q_iload_n C dX7_looks_37 rfl (lv_at hl 2 rfl) ?_
        exact q_iretE C hr hlo dX7_looks_38
      · refine q_iload_n C dX7_looks_20 rfl (lv_at hl 2 rfl) ?_
        refine q_iconst C dX7_looks_21 rfl (by decide) (fun v7 => ?_)
        refine q_aload_n C dX7_looks_22 rfl (lv_at hl 0 rfl) ?_
        refine q_iload_n C dX7_looks_23 rfl (lv_at hl 3 rfl) ?_
        refine q_iload_n C dX7_looks_24 rfl (lv_at hl 1 rfl) ?_
        refine q_c1i C (fun r h => cr_V (As := [.int x5, .int a1]) (rest := [.int v7, .int x4]) C (m_X7_regionsAt l G F k0 x5 a1 σ r h) cb_X7_regionsAt hk0 (by decide) rfl (cf_7 hk0 _) rfl kl_X7_349 ⟨Nat.le_of_ble_eq_true rfl, Nat.le_of_ble_eq_true rfl⟩ ⟨Nat.zero_le _, Nat.zero_le _⟩ hl.1 rfl (Nat.le_of_ble_eq_true rfl) dX7_looks_25 rfl) (fun v8 => ?_)
        refine q_imul C dX7_looks_28 (fun v9 => ?_)
        refine q_iadd C dX7_looks_29 (fun v10 => ?_)
        refine q_istore_n C [(2, .int v10), (0, .ref (gad G k0)), (1, .int a1), (3, .int x5)] dX7_looks_30 rfl hl (by decide) rfl (fun ls hl => ?_)
        refine q_iinc (k := 3) C (fun v11 => [(3, .int v11), (2, .int v10), (0, .ref (gad G k0)), (1, .int a1)]) dX7_looks_31 hl rfl (by decide) (by decide) (fun _ => rfl) (fun v11 ls hl => ?_)
        refine q_goto C 15 dX7_looks_34 (by decide) ?_
        exact ih v10 v11 σ ls (lv_sub hl [2, 3, 1, 0] rfl)
  refine q_aload_n C dX7_looks_0 rfl (lv_at hl 0 rfl) ?_
  refine q_iload_n C dX7_looks_1 rfl (lv_at hl 1 rfl) ?_
  refine q_c2i C (fun r h => cr_V (As := [.int a1]) (rest := []) C (m_X7_asksAt l G F k0 a1 σ r h) cb_X7_asksAt hk0 (by decide) rfl (cf_7 hk0 _) rfl kl_X7_323 ⟨Nat.le_of_ble_eq_true rfl, Nat.le_of_ble_eq_true rfl⟩ ⟨Nat.zero_le _, Nat.zero_le _⟩ hl.1 rfl (Nat.le_of_ble_eq_true rfl) dX7_looks_2 rfl) (fun v1 σ1 => ?_)
  refine q_if_ne C 11 dX7_looks_5 (by decide) ?_ ?_
  · refine q_iconst C dX7_looks_11 rfl (by decide) (fun v2 => ?_)
    refine q_istore_n C [(2, .int v2), (0, .ref (gad G k0)), (1, .int a1)] dX7_looks_12 rfl hl (by decide) rfl (fun ls hl => ?_)
    refine q_iconst C dX7_looks_13 rfl (by decide) (fun v3 => ?_)
    refine q_istore_n C [(3, .int v3), (2, .int v2), (0, .ref (gad G k0)), (1, .int a1)] dX7_looks_14 rfl hl (by decide) rfl (fun ls hl => ?_)
    exact B15 F v2 v3 σ1 ls (lv_sub hl [2, 3, 1, 0] rfl)
  · refine q_bipush C dX7_looks_8 rfl (by decide) (fun v12 => ?_)
    exact q_iretE C hr hlo dX7_looks_10
def f_X7_copies_L15 (F : Nat) (k0 : Nat) (a1 : Int)   : Nat → Int → Int → St → Option (Int × St)
  | 0, _, _, _ => none
  | n + 1, x4, x5, σ =>
    z_gt (σ k0 28) fun v6 =>
    if v6 ≤ x5 then (
      some (x4, σ))
    else (
      z_ix x5 60 <| z_gt (σ (k0 + 11) x5) fun v7 =>
      if a1 ≤ v7 then (
        z_gt 0 fun v8 =>
        z_ck (x4 + v8) fun v9 =>
        z_ck (x5 + 1) fun v10 =>
        f_X7_copies_L15 F k0 a1 n v9 v10 σ)
      else (
        z_gt 1 fun v11 =>
        z_ck (x4 + v11) fun v12 =>
        z_ck (x5 + 1) fun v13 =>
        f_X7_copies_L15 F k0 a1 n v12 v13 σ))

def f_X7_copies (F : Nat) (k0 : Nat) (a1 : Int) (σ : St) : Option (Int × St) :=
  z_ob 7 k0 <| 
  z_c2 (f_X7_asksAt F k0 a1 σ) fun v1 σ1 =>
  if ¬ v1 = 0 then (
    z_gt 0 fun v2 =>
    z_gt 0 fun v3 =>
    f_X7_copies_L15 F k0 a1 F v2 v3 σ1)
  else (
    z_gt (-2) fun v14 =>
    some (v14, σ1))
theorem cb_X7_copies : CB yX7_copies cX7_copies 4 (some .int) 1 := ⟨ki_X7_copies, kq_X7_copies, kn_X7, kc_X7_copies, by decide +kernel, by decide +kernel, by decide +kernel⟩
set_option maxRecDepth 20000 in
set_option maxHeartbeats 4000000 in
theorem m_X7_copies (l : Launch) (G : GG) (F : Nat) (k0 : Nat) (a1 : Int32) (σ : St) : ∀ r, f_X7_copies F k0 a1.toInt σ = some r → MC G l yX7_copies cX7_copies 4 (some .int) { frames := 8, cells := 0, slots := 0, locals := 178 } [.ref (gad G k0), .int a1] σ (vI r.1) r.2 := by
  refine MC_of (own := RX7) (fun r : Int × St => vI r.1) (fun r : Int × St => r.2) (by decide +kernel) rfl (Nat.le_of_ble_eq_true rfl) ?_
  intro p e s m args below meth c C hr hlo ls hl
  have hl : lv_has ls 4 [(0, .ref (gad G k0)), (1, .int a1)] := hl
  unfold f_X7_copies
  refine q_ob (fun hk0 => ?_)
  have B15 : ∀ (n : Nat) (x4 : Int32) (x5 : Int32) (σ : St) (ls : Array Slot), lv_has ls 4 [(0, .ref (gad G k0)), (1, .int a1), (2, .int x4), (3, .int x5)] → Sim G (AG G) 0 0 p l e { frames := 8, cells := 0, slots := 0, locals := 178 } s m args below meth c (fun r : Int × St => MQ below (QC G (vI r.1) (r.2)) args s 0 0 (AG G)) σ (f_X7_copies_L15 F k0 a1.toInt   n x4.toInt x5.toInt σ) (F0 m 15 ls []) := by
    intro n
    induction n with
    | zero =>
      intro x4 x5 σ ls hl
      exact sim_none
    | succ n ih =>
      intro x4 x5 σ ls hl
      rw [f_X7_copies_L15]
      refine q_iload_n C dX7_copies_15 rfl (lv_at hl 3 rfl) ?_
      refine q_aload_n C dX7_copies_16 rfl (lv_at hl 0 rfl) ?_
      refine g_7_28 C hk0 kf_X7_257 dX7_copies_17 (fun v6 => ?_)
      refine q_icmp_ge C 47 dX7_copies_20 (by decide) ?_ ?_
      · refine q_iload_n C dX7_copies_47 rfl (lv_at hl 2 rfl) ?_
        exact q_iretE C hr hlo dX7_copies_48
      · refine q_iload_n C dX7_copies_23 rfl (lv_at hl 2 rfl) ?_
        refine q_aload_n C dX7_copies_24 rfl (lv_at hl 0 rfl) ?_
        refine g_7_19 C hk0 kf_X7_46 dX7_copies_25 ?_
        refine q_iload_n C dX7_copies_28 rfl (lv_at hl 3 rfl) ?_
        refine a_ild C (yk_7_19 hk0) (yl_7_19 hk0) dX7_copies_29 (fun v7 => ?_)
        refine q_iload_n C dX7_copies_30 rfl (lv_at hl 1 rfl) ?_
        refine q_icmp_ge C 38 dX7_copies_31 (by decide) ?_ ?_
        · refine q_iconst C dX7_copies_38 rfl (by decide) (fun v8 => ?_)
          refine q_iadd C dX7_copies_39 (fun v9 => ?_)
          refine q_istore_n C [(2, .int v9), (0, .ref (gad G k0)), (1, .int a1), (3, .int x5)] dX7_copies_40 rfl hl (by decide) rfl (fun ls hl => ?_)
          refine q_iinc (k := 3) C (fun v10 => [(3, .int v10), (2, .int v9), (0, .ref (gad G k0)), (1, .int a1)]) dX7_copies_41 hl rfl (by decide) (by decide) (fun _ => rfl) (fun v10 ls hl => ?_)
          refine q_goto C 15 dX7_copies_44 (by decide) ?_
          exact ih v9 v10 σ ls (lv_sub hl [2, 3, 1, 0] rfl)
        · refine q_iconst C dX7_copies_34 rfl (by decide) (fun v11 => ?_)
          refine q_goto C 39 dX7_copies_35 (by decide) ?_
          refine q_iadd C dX7_copies_39 (fun v12 => ?_)
          refine q_istore_n C [(2, .int v12), (0, .ref (gad G k0)), (1, .int a1), (3, .int x5)] dX7_copies_40 rfl hl (by decide) rfl (fun ls hl => ?_)
          refine q_iinc (k := 3) C (fun v13 => [(3, .int v13), (2, .int v12), (0, .ref (gad G k0)), (1, .int a1)]) dX7_copies_41 hl rfl (by decide) (by decide) (fun _ => rfl) (fun v13 ls hl => ?_)
          refine q_goto C 15 dX7_copies_44 (by decide) ?_
          exact ih v12 v13 σ ls (lv_sub hl [2, 3, 1, 0] rfl)
  refine q_aload_n C dX7_copies_0 rfl (lv_at hl 0 rfl) ?_
  refine q_iload_n C dX7_copies_1 rfl (lv_at hl 1 rfl) ?_
  refine q_c2i C (fun r h => cr_V (As := [.int a1]) (rest := []) C (m_X7_asksAt l G F k0 a1 σ r h) cb_X7_asksAt hk0 (by decide) rfl (cf_7 hk0 _) rfl kl_X7_323 ⟨Nat.le_of_ble_eq_true rfl, Nat.le_of_ble_eq_true rfl⟩ ⟨Nat.zero_le _, Nat.zero_le _⟩ hl.1 rfl (Nat.le_of_ble_eq_true rfl) dX7_copies_2 rfl) (fun v1 σ1 => ?_)
  refine q_if_ne C 11 dX7_copies_5 (by decide) ?_ ?_
  · refine q_iconst C dX7_copies_11 rfl (by decide) (fun v2 => ?_)
    refine q_istore_n C [(2, .int v2), (0, .ref (gad G k0)), (1, .int a1)] dX7_copies_12 rfl hl (by decide) rfl (fun ls hl => ?_)
    refine q_iconst C dX7_copies_13 rfl (by decide) (fun v3 => ?_)
    refine q_istore_n C [(3, .int v3), (2, .int v2), (0, .ref (gad G k0)), (1, .int a1)] dX7_copies_14 rfl hl (by decide) rfl (fun ls hl => ?_)
    exact B15 F v2 v3 σ1 ls (lv_sub hl [2, 3, 1, 0] rfl)
  · refine q_bipush C dX7_copies_8 rfl (by decide) (fun v14 => ?_)
    exact q_iretE C hr hlo dX7_copies_10
def f_X7_openAt_L2 (F : Nat) (k0 : Nat) (a1 : Int)  (σ : St) : Nat → Int → Option (Int)
  | 0, _ => none
  | n + 1, x2 =>
    z_gt (σ k0 28) fun v3 =>
    if v3 ≤ x2 then (
      z_gt (-1) fun v4 =>
      some v4)
    else (
      z_ix x2 60 <| z_gt (σ (k0 + 11) x2) fun v5 =>
      if a1 ≤ v5 then (
        z_ck (x2 + 1) fun v6 =>
        f_X7_openAt_L2 F k0 a1 σ n v6)
      else (
        z_ix x2 60 <| z_gt (σ (k0 + 13) x2) fun v7 =>
        z_gt (-1) fun v8 =>
        if v7 = v8 then (
          some x2)
        else (
          z_ix x2 60 <| z_gt (σ (k0 + 13) x2) fun v9 =>
          if v9 ≤ a1 then (
            z_ck (x2 + 1) fun v10 =>
            f_X7_openAt_L2 F k0 a1 σ n v10)
          else (
            some x2))))

def f_X7_openAt (F : Nat) (k0 : Nat) (a1 : Int) (σ : St) : Option (Int) :=
  z_ob 7 k0 <| 
  z_gt 0 fun v1 =>
  f_X7_openAt_L2 F k0 a1 σ F v1
theorem cb_X7_openAt : CB yX7_openAt cX7_openAt 3 (some .int) 1 := ⟨ki_X7_openAt, kq_X7_openAt, kn_X7, kc_X7_openAt, by decide +kernel, by decide +kernel, by decide +kernel⟩
set_option maxRecDepth 20000 in
set_option maxHeartbeats 4000000 in
theorem m_X7_openAt (l : Launch) (G : GG) (F : Nat) (k0 : Nat) (a1 : Int32) (σ : St) : ∀ r, f_X7_openAt F k0 a1.toInt σ = some r → MC G l yX7_openAt cX7_openAt 3 (some .int) { frames := 0, cells := 0, slots := 0, locals := 0 } [.ref (gad G k0), .int a1] σ (vI r) σ := by
  refine MC_of (own := RX7) (vI) (fun _ => σ) (by decide +kernel) rfl (Nat.le_of_ble_eq_true rfl) ?_
  intro p e s m args below meth c C hr hlo ls hl
  have hl : lv_has ls 3 [(0, .ref (gad G k0)), (1, .int a1)] := hl
  unfold f_X7_openAt
  refine q_ob (fun hk0 => ?_)
  have B2 : ∀ (n : Nat) (x2 : Int32) (ls : Array Slot), lv_has ls 3 [(0, .ref (gad G k0)), (1, .int a1), (2, .int x2)] → Sim G (AG G) 0 0 p l e { frames := 0, cells := 0, slots := 0, locals := 0 } s m args below meth c (fun r : Int => MQ below (QC G (vI r) (σ)) args s 0 0 (AG G)) σ (f_X7_openAt_L2 F k0 a1.toInt  σ n x2.toInt) (F0 m 2 ls []) := by
    intro n
    induction n with
    | zero =>
      intro x2 ls hl
      exact sim_none
    | succ n ih =>
      intro x2 ls hl
      rw [f_X7_openAt_L2]
      refine q_iload_n C dX7_openAt_2 rfl (lv_at hl 2 rfl) ?_
      refine q_aload_n C dX7_openAt_3 rfl (lv_at hl 0 rfl) ?_
      refine g_7_28 C hk0 kf_X7_257 dX7_openAt_4 (fun v3 => ?_)
      refine q_icmp_ge C 48 dX7_openAt_7 (by decide) ?_ ?_
      · refine q_iconst C dX7_openAt_48 rfl (by decide) (fun v4 => ?_)
        exact q_iret C hr hlo dX7_openAt_49
      · refine q_aload_n C dX7_openAt_10 rfl (lv_at hl 0 rfl) ?_
        refine g_7_19 C hk0 kf_X7_46 dX7_openAt_11 ?_
        refine q_iload_n C dX7_openAt_14 rfl (lv_at hl 2 rfl) ?_
        refine a_ild C (yk_7_19 hk0) (yl_7_19 hk0) dX7_openAt_15 (fun v5 => ?_)
        refine q_iload_n C dX7_openAt_16 rfl (lv_at hl 1 rfl) ?_
        refine q_icmp_ge C 42 dX7_openAt_17 (by decide) ?_ ?_
        · refine q_iinc (k := 2) C (fun v6 => [(2, .int v6), (0, .ref (gad G k0)), (1, .int a1)]) dX7_openAt_42 hl rfl (by decide) (by decide) (fun _ => rfl) (fun v6 ls hl => ?_)
          refine q_goto C 2 dX7_openAt_45 (by decide) ?_
          exact ih v6 ls (lv_sub hl [1, 2, 0] rfl)
        · refine q_aload_n C dX7_openAt_20 rfl (lv_at hl 0 rfl) ?_
          refine g_7_21 C hk0 kf_X7_52 dX7_openAt_21 ?_
          refine q_iload_n C dX7_openAt_24 rfl (lv_at hl 2 rfl) ?_
          refine a_ild C (yk_7_21 hk0) (yl_7_21 hk0) dX7_openAt_25 (fun v7 => ?_)
          refine q_iconst C dX7_openAt_26 rfl (by decide) (fun v8 => ?_)
          refine q_icmp_eq C 40 dX7_openAt_27 (by decide) ?_ ?_
          · refine q_iload_n C dX7_openAt_40 rfl (lv_at hl 2 rfl) ?_
            exact q_iret C hr hlo dX7_openAt_41
          · refine q_aload_n C dX7_openAt_30 rfl (lv_at hl 0 rfl) ?_
            refine g_7_21 C hk0 kf_X7_52 dX7_openAt_31 ?_
            refine q_iload_n C dX7_openAt_34 rfl (lv_at hl 2 rfl) ?_
            refine a_ild C (yk_7_21 hk0) (yl_7_21 hk0) dX7_openAt_35 (fun v9 => ?_)
            refine q_iload_n C dX7_openAt_36 rfl (lv_at hl 1 rfl) ?_
            refine q_icmp_le C 42 dX7_openAt_37 (by decide) ?_ ?_
            · refine q_iinc (k := 2) C (fun v10 => [(2, .int v10), (0, .ref (gad G k0)), (1, .int a1)]) dX7_openAt_42 hl rfl (by decide) (by decide) (fun _ => rfl) (fun v10 ls hl => ?_)
              refine q_goto C 2 dX7_openAt_45 (by decide) ?_
              exact ih v10 ls (lv_sub hl [1, 2, 0] rfl)
            · refine q_iload_n C dX7_openAt_40 rfl (lv_at hl 2 rfl) ?_
              exact q_iret C hr hlo dX7_openAt_41
  refine q_iconst C dX7_openAt_0 rfl (by decide) (fun v1 => ?_)
  refine q_istore_n C [(2, .int v1), (0, .ref (gad G k0)), (1, .int a1)] dX7_openAt_1 rfl hl (by decide) rfl (fun ls hl => ?_)
  exact B2 F v1 ls (lv_sub hl [1, 2, 0] rfl)
def f_X7_open (F : Nat) (k0 : Nat) (a1 : Int) (σ : St) : Option (Int × St) :=
  z_ob 7 k0 <| 
  z_c2 (f_X7_asksAt F k0 a1 σ) fun v1 σ1 =>
  if v1 = 0 then (
    z_gt (-2) fun v2 =>
    some (v2, σ1))
  else (
    z_c1 (f_X7_openAt F k0 a1 σ1) fun v3 =>
    some (v3, σ1))
theorem cb_X7_open : CB yX7_open cX7_open 2 (some .int) 1 := ⟨ki_X7_open, kq_X7_open, kn_X7, kc_X7_open, by decide +kernel, by decide +kernel, by decide +kernel⟩
set_option maxRecDepth 20000 in
set_option maxHeartbeats 4000000 in
theorem m_X7_open (l : Launch) (G : GG) (F : Nat) (k0 : Nat) (a1 : Int32) (σ : St) : ∀ r, f_X7_open F k0 a1.toInt σ = some r → MC G l yX7_open cX7_open 2 (some .int) { frames := 8, cells := 0, slots := 0, locals := 178 } [.ref (gad G k0), .int a1] σ (vI r.1) r.2 := by
  refine MC_of (own := RX7) (fun r : Int × St => vI r.1) (fun r : Int × St => r.2) (by decide +kernel) rfl (Nat.le_of_ble_eq_true rfl) ?_
  intro p e s m args below meth c C hr hlo ls hl
  have hl : lv_has ls 2 [(0, .ref (gad G k0)), (1, .int a1)] := hl
  unfold f_X7_open
  refine q_ob (fun hk0 => ?_)
  refine q_aload_n C dX7_open_0 rfl (lv_at hl 0 rfl) ?_
  refine q_iload_n C dX7_open_1 rfl (lv_at hl 1 rfl) ?_
  refine q_c2i C (fun r h => cr_V (As := [.int a1]) (rest := []) C (m_X7_asksAt l G F k0 a1 σ r h) cb_X7_asksAt hk0 (by decide) rfl (cf_7 hk0 _) rfl kl_X7_323 ⟨Nat.le_of_ble_eq_true rfl, Nat.le_of_ble_eq_true rfl⟩ ⟨Nat.zero_le _, Nat.zero_le _⟩ hl.1 rfl (Nat.le_of_ble_eq_true rfl) dX7_open_2 rfl) (fun v1 σ1 => ?_)
  refine q_if_eq C 16 dX7_open_5 (by decide) ?_ ?_
  · refine q_bipush C dX7_open_16 rfl (by decide) (fun v2 => ?_)
    exact q_iretE C hr hlo dX7_open_18
  · refine q_aload_n C dX7_open_8 rfl (lv_at hl 0 rfl) ?_
    refine q_iload_n C dX7_open_9 rfl (lv_at hl 1 rfl) ?_
    refine q_c1i C (fun r h => cr_V (As := [.int a1]) (rest := []) C (m_X7_openAt l G F k0 a1 σ1 r h) cb_X7_openAt hk0 (by decide) rfl (cf_7 hk0 _) rfl kl_X7_352 ⟨Nat.le_of_ble_eq_true rfl, Nat.le_of_ble_eq_true rfl⟩ ⟨Nat.zero_le _, Nat.zero_le _⟩ hl.1 rfl (Nat.le_of_ble_eq_true rfl) dX7_open_10 rfl) (fun v3 => ?_)
    refine q_goto C 18 dX7_open_13 (by decide) ?_
    exact q_iretE C hr hlo dX7_open_18
def f_X7_asksCopy (F : Nat) (k0 : Nat) (a1 : Int) (σ : St) : Option (Int × St) :=
  z_ob 7 k0 <| 
  z_c2 (f_X7_asks F k0 σ) fun v1 σ1 =>
  if v1 = 0 then (
    z_gt 0 fun v2 =>
    z_bo v2 <| some (v2, σ1))
  else (
    z_gt a1 fun v3 =>
    z_gt 0 fun v4 =>
    z_gt (σ1 k0 28) fun v5 =>
    z_gt 1 fun v6 =>
    z_ck (v5 - v6) fun v7 =>
    z_gt v7 fun v8 =>
    z_c1 (f_X7_in F v3 v4 v8 σ1) fun v9 =>
    if v9 = 0 then (
      z_gt 0 fun v10 =>
      z_bo v10 <| some (v10, σ1))
    else (
      z_gt 1 fun v11 =>
      z_bo v11 <| some (v11, σ1)))
theorem cb_X7_asksCopy : CB yX7_asksCopy cX7_asksCopy 2 (some .boolean) 1 := ⟨ki_X7_asksCopy, kq_X7_asksCopy, kn_X7, kc_X7_asksCopy, by decide +kernel, by decide +kernel, by decide +kernel⟩
set_option maxRecDepth 20000 in
set_option maxHeartbeats 4000000 in
theorem m_X7_asksCopy (l : Launch) (G : GG) (F : Nat) (k0 : Nat) (a1 : Int32) (σ : St) : ∀ r, f_X7_asksCopy F k0 a1.toInt σ = some r → MC G l yX7_asksCopy cX7_asksCopy 2 (some .boolean) { frames := 7, cells := 0, slots := 0, locals := 157 } [.ref (gad G k0), .int a1] σ (vI r.1) r.2 := by
  refine MC_of (own := RX7) (fun r : Int × St => vI r.1) (fun r : Int × St => r.2) (by decide +kernel) rfl (Nat.le_of_ble_eq_true rfl) ?_
  intro p e s m args below meth c C hr hlo ls hl
  have hl : lv_has ls 2 [(0, .ref (gad G k0)), (1, .int a1)] := hl
  unfold f_X7_asksCopy
  refine q_ob (fun hk0 => ?_)
  refine q_aload_n C dX7_asksCopy_0 rfl (lv_at hl 0 rfl) ?_
  refine q_c2i C (fun r h => cr_V (As := []) (rest := []) C (m_X7_asks l G F k0 σ r h) cb_X7_asks hk0 (by decide) rfl (cf_7 hk0 _) rfl kl_X7_316 ⟨Nat.le_of_ble_eq_true rfl, Nat.le_of_ble_eq_true rfl⟩ ⟨Nat.zero_le _, Nat.zero_le _⟩ hl.1 rfl (Nat.le_of_ble_eq_true rfl) dX7_asksCopy_1 rfl) (fun v1 σ1 => ?_)
  refine q_if_eq C 27 dX7_asksCopy_4 (by decide) ?_ ?_
  · refine q_iconst C dX7_asksCopy_27 rfl (by decide) (fun v2 => ?_)
    exact q_zretE C hr hlo dX7_asksCopy_28
  · refine q_iload_n C dX7_asksCopy_7 rfl (lv_at hl 1 rfl) ?_
    refine q_i2l C dX7_asksCopy_8 (fun v3 => ?_)
    refine q_lconst C dX7_asksCopy_9 rfl (by decide) (fun v4 => ?_)
    refine q_aload_n C dX7_asksCopy_10 rfl (lv_at hl 0 rfl) ?_
    refine g_7_28 C hk0 kf_X7_257 dX7_asksCopy_11 (fun v5 => ?_)
    refine q_iconst C dX7_asksCopy_14 rfl (by decide) (fun v6 => ?_)
    refine q_isub C dX7_asksCopy_15 (fun v7 => ?_)
    refine q_i2l C dX7_asksCopy_16 (fun v8 => ?_)
    refine q_c1i C (fun r h => cr_S (As := [.long v3, .long v4, .long v8]) (rest := []) C (m_X7_in l G F v3 v4 v8 σ1 r h) sb_X7_in kl_X7_103 ⟨Nat.le_of_ble_eq_true rfl, Nat.le_of_ble_eq_true rfl⟩ ⟨Nat.zero_le _, Nat.zero_le _⟩ hl.1 rfl (Nat.le_of_ble_eq_true rfl) dX7_asksCopy_17 rfl) (fun v9 => ?_)
    refine q_if_eq C 27 dX7_asksCopy_20 (by decide) ?_ ?_
    · refine q_iconst C dX7_asksCopy_27 rfl (by decide) (fun v10 => ?_)
      exact q_zretE C hr hlo dX7_asksCopy_28
    · refine q_iconst C dX7_asksCopy_23 rfl (by decide) (fun v11 => ?_)
      refine q_goto C 28 dX7_asksCopy_24 (by decide) ?_
      exact q_zretE C hr hlo dX7_asksCopy_28
def f_X7_wantsMany_L4 (F : Nat) (k0 : Nat) (a1 : Int)  (σ : St) : Nat → Int → Int → Option (Int)
  | 0, _, _ => none
  | n + 1, x3, x4 =>
    z_c1 (f_X7_cells F k0 σ) fun v5 =>
    if v5 ≤ x4 then (
      some x3)
    else (
      z_gt 32 fun v6 =>
      z_ck (v6 * a1) fun v7 =>
      z_ck (v7 + x4) fun v8 =>
      z_ix v8 1920 <| z_gt (σ (k0 + 15) v8) fun v9 =>
      if v9 = 0 then (
        z_gt 0 fun v10 =>
        z_ck (x3 + v10) fun v11 =>
        z_ck (x4 + 1) fun v12 =>
        f_X7_wantsMany_L4 F k0 a1 σ n v11 v12)
      else (
        z_gt 1 fun v13 =>
        z_ck (x3 + v13) fun v14 =>
        z_ck (x4 + 1) fun v15 =>
        f_X7_wantsMany_L4 F k0 a1 σ n v14 v15))

def f_X7_wantsMany (F : Nat) (k0 : Nat) (a1 : Int) (σ : St) : Option (Int) :=
  z_ob 7 k0 <| 
  z_gt 0 fun v1 =>
  z_gt 0 fun v2 =>
  f_X7_wantsMany_L4 F k0 a1 σ F v1 v2
theorem cb_X7_wantsMany : CB yX7_wantsMany cX7_wantsMany 4 (some .int) 1 := ⟨ki_X7_wantsMany, kq_X7_wantsMany, kn_X7, kc_X7_wantsMany, by decide +kernel, by decide +kernel, by decide +kernel⟩
set_option maxRecDepth 20000 in
set_option maxHeartbeats 4000000 in
theorem m_X7_wantsMany (l : Launch) (G : GG) (F : Nat) (k0 : Nat) (a1 : Int32) (σ : St) : ∀ r, f_X7_wantsMany F k0 a1.toInt σ = some r → MC G l yX7_wantsMany cX7_wantsMany 4 (some .int) { frames := 1, cells := 0, slots := 0, locals := 20 } [.ref (gad G k0), .int a1] σ (vI r) σ := by
  refine MC_of (own := RX7) (vI) (fun _ => σ) (by decide +kernel) rfl (Nat.le_of_ble_eq_true rfl) ?_
  intro p e s m args below meth c C hr hlo ls hl
  have hl : lv_has ls 4 [(0, .ref (gad G k0)), (1, .int a1)] := hl
  unfold f_X7_wantsMany
  refine q_ob (fun hk0 => ?_)
  have B4 : ∀ (n : Nat) (x3 : Int32) (x4 : Int32) (ls : Array Slot), lv_has ls 4 [(0, .ref (gad G k0)), (1, .int a1), (2, .int x3), (3, .int x4)] → Sim G (AG G) 0 0 p l e { frames := 1, cells := 0, slots := 0, locals := 20 } s m args below meth c (fun r : Int => MQ below (QC G (vI r) (σ)) args s 0 0 (AG G)) σ (f_X7_wantsMany_L4 F k0 a1.toInt  σ n x3.toInt x4.toInt) (F0 m 4 ls []) := by
    intro n
    induction n with
    | zero =>
      intro x3 x4 ls hl
      exact sim_none
    | succ n ih =>
      intro x3 x4 ls hl
      rw [f_X7_wantsMany_L4]
      refine q_iload_n C dX7_wantsMany_4 rfl (lv_at hl 3 rfl) ?_
      refine q_aload_n C dX7_wantsMany_5 rfl (lv_at hl 0 rfl) ?_
      refine q_c1i C (fun r h => cr_V (As := []) (rest := [.int x4]) C (m_X7_cells l G F k0 σ r h) cb_X7_cells hk0 (by decide) rfl (cf_7 hk0 _) rfl kl_X7_107 ⟨Nat.le_of_ble_eq_true rfl, Nat.le_of_ble_eq_true rfl⟩ ⟨Nat.zero_le _, Nat.zero_le _⟩ hl.1 rfl (Nat.le_of_ble_eq_true rfl) dX7_wantsMany_6 rfl) (fun v5 => ?_)
      refine q_icmp_ge C 40 dX7_wantsMany_9 (by decide) ?_ ?_
      · refine q_iload_n C dX7_wantsMany_40 rfl (lv_at hl 2 rfl) ?_
        exact q_iret C hr hlo dX7_wantsMany_41
      · refine q_iload_n C dX7_wantsMany_12 rfl (lv_at hl 2 rfl) ?_
        refine q_aload_n C dX7_wantsMany_13 rfl (lv_at hl 0 rfl) ?_
        refine g_7_23 C hk0 kf_X7_58 dX7_wantsMany_14 ?_
        refine q_bipush C dX7_wantsMany_17 rfl (by decide) (fun v6 => ?_)
        refine q_iload_n C dX7_wantsMany_19 rfl (lv_at hl 1 rfl) ?_
        refine q_imul C dX7_wantsMany_20 (fun v7 => ?_)
        refine q_iload_n C dX7_wantsMany_21 rfl (lv_at hl 3 rfl) ?_
        refine q_iadd C dX7_wantsMany_22 (fun v8 => ?_)
        refine a_zld C (yk_7_23 hk0) (yl_7_23 hk0) dX7_wantsMany_23 (fun v9 => ?_)
        refine q_if_eq C 31 dX7_wantsMany_24 (by decide) ?_ ?_
        · refine q_iconst C dX7_wantsMany_31 rfl (by decide) (fun v10 => ?_)
          refine q_iadd C dX7_wantsMany_32 (fun v11 => ?_)
          refine q_istore_n C [(2, .int v11), (0, .ref (gad G k0)), (1, .int a1), (3, .int x4)] dX7_wantsMany_33 rfl hl (by decide) rfl (fun ls hl => ?_)
          refine q_iinc (k := 3) C (fun v12 => [(3, .int v12), (2, .int v11), (0, .ref (gad G k0)), (1, .int a1)]) dX7_wantsMany_34 hl rfl (by decide) (by decide) (fun _ => rfl) (fun v12 ls hl => ?_)
          refine q_goto C 4 dX7_wantsMany_37 (by decide) ?_
          exact ih v11 v12 ls (lv_sub hl [2, 3, 1, 0] rfl)
        · refine q_iconst C dX7_wantsMany_27 rfl (by decide) (fun v13 => ?_)
          refine q_goto C 32 dX7_wantsMany_28 (by decide) ?_
          refine q_iadd C dX7_wantsMany_32 (fun v14 => ?_)
          refine q_istore_n C [(2, .int v14), (0, .ref (gad G k0)), (1, .int a1), (3, .int x4)] dX7_wantsMany_33 rfl hl (by decide) rfl (fun ls hl => ?_)
          refine q_iinc (k := 3) C (fun v15 => [(3, .int v15), (2, .int v14), (0, .ref (gad G k0)), (1, .int a1)]) dX7_wantsMany_34 hl rfl (by decide) (by decide) (fun _ => rfl) (fun v15 ls hl => ?_)
          refine q_goto C 4 dX7_wantsMany_37 (by decide) ?_
          exact ih v14 v15 ls (lv_sub hl [2, 3, 1, 0] rfl)
  refine q_iconst C dX7_wantsMany_0 rfl (by decide) (fun v1 => ?_)
  refine q_istore_n C [(2, .int v1), (0, .ref (gad G k0)), (1, .int a1)] dX7_wantsMany_1 rfl hl (by decide) rfl (fun ls hl => ?_)
  refine q_iconst C dX7_wantsMany_2 rfl (by decide) (fun v2 => ?_)
  refine q_istore_n C [(3, .int v2), (2, .int v1), (0, .ref (gad G k0)), (1, .int a1)] dX7_wantsMany_3 rfl hl (by decide) rfl (fun ls hl => ?_)
  exact B4 F v1 v2 ls (lv_sub hl [2, 3, 1, 0] rfl)
def f_X7_savedMany_L4 (F : Nat) (k0 : Nat) (a1 : Int)  (σ : St) : Nat → Int → Int → Option (Int)
  | 0, _, _ => none
  | n + 1, x3, x4 =>
    z_c1 (f_X7_cells F k0 σ) fun v5 =>
    if v5 ≤ x4 then (
      some x3)
    else (
      z_gt 32 fun v6 =>
      z_ck (v6 * a1) fun v7 =>
      z_ck (v7 + x4) fun v8 =>
      z_ix v8 1920 <| z_gt (σ (k0 + 16) v8) fun v9 =>
      if v9 = 0 then (
        z_gt 0 fun v10 =>
        z_ck (x3 + v10) fun v11 =>
        z_ck (x4 + 1) fun v12 =>
        f_X7_savedMany_L4 F k0 a1 σ n v11 v12)
      else (
        z_gt 1 fun v13 =>
        z_ck (x3 + v13) fun v14 =>
        z_ck (x4 + 1) fun v15 =>
        f_X7_savedMany_L4 F k0 a1 σ n v14 v15))

def f_X7_savedMany (F : Nat) (k0 : Nat) (a1 : Int) (σ : St) : Option (Int) :=
  z_ob 7 k0 <| 
  z_gt 0 fun v1 =>
  z_gt 0 fun v2 =>
  f_X7_savedMany_L4 F k0 a1 σ F v1 v2
theorem cb_X7_savedMany : CB yX7_savedMany cX7_savedMany 4 (some .int) 1 := ⟨ki_X7_savedMany, kq_X7_savedMany, kn_X7, kc_X7_savedMany, by decide +kernel, by decide +kernel, by decide +kernel⟩
set_option maxRecDepth 20000 in
set_option maxHeartbeats 4000000 in
theorem m_X7_savedMany (l : Launch) (G : GG) (F : Nat) (k0 : Nat) (a1 : Int32) (σ : St) : ∀ r, f_X7_savedMany F k0 a1.toInt σ = some r → MC G l yX7_savedMany cX7_savedMany 4 (some .int) { frames := 1, cells := 0, slots := 0, locals := 20 } [.ref (gad G k0), .int a1] σ (vI r) σ := by
  refine MC_of (own := RX7) (vI) (fun _ => σ) (by decide +kernel) rfl (Nat.le_of_ble_eq_true rfl) ?_
  intro p e s m args below meth c C hr hlo ls hl
  have hl : lv_has ls 4 [(0, .ref (gad G k0)), (1, .int a1)] := hl
  unfold f_X7_savedMany
  refine q_ob (fun hk0 => ?_)
  have B4 : ∀ (n : Nat) (x3 : Int32) (x4 : Int32) (ls : Array Slot), lv_has ls 4 [(0, .ref (gad G k0)), (1, .int a1), (2, .int x3), (3, .int x4)] → Sim G (AG G) 0 0 p l e { frames := 1, cells := 0, slots := 0, locals := 20 } s m args below meth c (fun r : Int => MQ below (QC G (vI r) (σ)) args s 0 0 (AG G)) σ (f_X7_savedMany_L4 F k0 a1.toInt  σ n x3.toInt x4.toInt) (F0 m 4 ls []) := by
    intro n
    induction n with
    | zero =>
      intro x3 x4 ls hl
      exact sim_none
    | succ n ih =>
      intro x3 x4 ls hl
      rw [f_X7_savedMany_L4]
      refine q_iload_n C dX7_savedMany_4 rfl (lv_at hl 3 rfl) ?_
      refine q_aload_n C dX7_savedMany_5 rfl (lv_at hl 0 rfl) ?_
      refine q_c1i C (fun r h => cr_V (As := []) (rest := [.int x4]) C (m_X7_cells l G F k0 σ r h) cb_X7_cells hk0 (by decide) rfl (cf_7 hk0 _) rfl kl_X7_107 ⟨Nat.le_of_ble_eq_true rfl, Nat.le_of_ble_eq_true rfl⟩ ⟨Nat.zero_le _, Nat.zero_le _⟩ hl.1 rfl (Nat.le_of_ble_eq_true rfl) dX7_savedMany_6 rfl) (fun v5 => ?_)
      refine q_icmp_ge C 40 dX7_savedMany_9 (by decide) ?_ ?_
      · refine q_iload_n C dX7_savedMany_40 rfl (lv_at hl 2 rfl) ?_
        exact q_iret C hr hlo dX7_savedMany_41
      · refine q_iload_n C dX7_savedMany_12 rfl (lv_at hl 2 rfl) ?_
        refine q_aload_n C dX7_savedMany_13 rfl (lv_at hl 0 rfl) ?_
        refine g_7_24 C hk0 kf_X7_61 dX7_savedMany_14 ?_
        refine q_bipush C dX7_savedMany_17 rfl (by decide) (fun v6 => ?_)
        refine q_iload_n C dX7_savedMany_19 rfl (lv_at hl 1 rfl) ?_
        refine q_imul C dX7_savedMany_20 (fun v7 => ?_)
        refine q_iload_n C dX7_savedMany_21 rfl (lv_at hl 3 rfl) ?_
        refine q_iadd C dX7_savedMany_22 (fun v8 => ?_)
        refine a_zld C (yk_7_24 hk0) (yl_7_24 hk0) dX7_savedMany_23 (fun v9 => ?_)
        refine q_if_eq C 31 dX7_savedMany_24 (by decide) ?_ ?_
        · refine q_iconst C dX7_savedMany_31 rfl (by decide) (fun v10 => ?_)
          refine q_iadd C dX7_savedMany_32 (fun v11 => ?_)
          refine q_istore_n C [(2, .int v11), (0, .ref (gad G k0)), (1, .int a1), (3, .int x4)] dX7_savedMany_33 rfl hl (by decide) rfl (fun ls hl => ?_)
          refine q_iinc (k := 3) C (fun v12 => [(3, .int v12), (2, .int v11), (0, .ref (gad G k0)), (1, .int a1)]) dX7_savedMany_34 hl rfl (by decide) (by decide) (fun _ => rfl) (fun v12 ls hl => ?_)
          refine q_goto C 4 dX7_savedMany_37 (by decide) ?_
          exact ih v11 v12 ls (lv_sub hl [2, 3, 1, 0] rfl)
        · refine q_iconst C dX7_savedMany_27 rfl (by decide) (fun v13 => ?_)
          refine q_goto C 32 dX7_savedMany_28 (by decide) ?_
          refine q_iadd C dX7_savedMany_32 (fun v14 => ?_)
          refine q_istore_n C [(2, .int v14), (0, .ref (gad G k0)), (1, .int a1), (3, .int x4)] dX7_savedMany_33 rfl hl (by decide) rfl (fun ls hl => ?_)
          refine q_iinc (k := 3) C (fun v15 => [(3, .int v15), (2, .int v14), (0, .ref (gad G k0)), (1, .int a1)]) dX7_savedMany_34 hl rfl (by decide) (by decide) (fun _ => rfl) (fun v15 ls hl => ?_)
          refine q_goto C 4 dX7_savedMany_37 (by decide) ?_
          exact ih v14 v15 ls (lv_sub hl [2, 3, 1, 0] rfl)
  refine q_iconst C dX7_savedMany_0 rfl (by decide) (fun v1 => ?_)
  refine q_istore_n C [(2, .int v1), (0, .ref (gad G k0)), (1, .int a1)] dX7_savedMany_1 rfl hl (by decide) rfl (fun ls hl => ?_)
  refine q_iconst C dX7_savedMany_2 rfl (by decide) (fun v2 => ?_)
  refine q_istore_n C [(3, .int v2), (2, .int v1), (0, .ref (gad G k0)), (1, .int a1)] dX7_savedMany_3 rfl hl (by decide) rfl (fun ls hl => ?_)
  exact B4 F v1 v2 ls (lv_sub hl [2, 3, 1, 0] rfl)
def f_X7_copy (F : Nat) (k0 : Nat) (a1 : Int) (a2 : Int) (σ : St) : Option (Int × St) :=
  z_ob 7 k0 <| 
  z_c2 (f_X7_asksCopy F k0 a1 σ) fun v1 σ1 =>
  if ¬ v1 = 0 then (
    if a2 = 0 then (
      z_ix a1 60 <| z_gt (σ1 (k0 + 10) a1) fun v2 =>
      some (v2, σ1))
    else
    if a2 = 1 then (
      z_ix a1 60 <| z_gt (σ1 (k0 + 11) a1) fun v3 =>
      some (v3, σ1))
    else
    if a2 = 2 then (
      z_ix a1 60 <| z_gt (σ1 (k0 + 12) a1) fun v4 =>
      some (v4, σ1))
    else
    if a2 = 3 then (
      z_c1 (f_X7_wantsMany F k0 a1 σ1) fun v5 =>
      some (v5, σ1))
    else
    if a2 = 4 then (
      z_ix a1 60 <| z_gt (σ1 (k0 + 14) a1) fun v6 =>
      some (v6, σ1))
    else
    if a2 = 5 then (
      z_c1 (f_X7_savedMany F k0 a1 σ1) fun v7 =>
      some (v7, σ1))
    else
    if a2 = 6 then (
      z_ix a1 60 <| z_gt (σ1 (k0 + 13) a1) fun v8 =>
      some (v8, σ1))
    else
    (
      z_gt (-2) fun v9 =>
      some (v9, σ1)))
  else (
    z_gt (-2) fun v10 =>
    some (v10, σ1))
theorem cb_X7_copy : CB yX7_copy cX7_copy 3 (some .int) 2 := ⟨ki_X7_copy, kq_X7_copy, kn_X7, kc_X7_copy, by decide +kernel, by decide +kernel, by decide +kernel⟩
set_option maxRecDepth 20000 in
set_option maxHeartbeats 4000000 in
theorem m_X7_copy (l : Launch) (G : GG) (F : Nat) (k0 : Nat) (a1 : Int32) (a2 : Int32) (σ : St) : ∀ r, f_X7_copy F k0 a1.toInt a2.toInt σ = some r → MC G l yX7_copy cX7_copy 3 (some .int) { frames := 8, cells := 0, slots := 0, locals := 178 } [.ref (gad G k0), .int a1, .int a2] σ (vI r.1) r.2 := by
  refine MC_of (own := RX7) (fun r : Int × St => vI r.1) (fun r : Int × St => r.2) (by decide +kernel) rfl (Nat.le_of_ble_eq_true rfl) ?_
  intro p e s m args below meth c C hr hlo ls hl
  have hl : lv_has ls 3 [(0, .ref (gad G k0)), (1, .int a1), (2, .int a2)] := hl
  unfold f_X7_copy
  refine q_ob (fun hk0 => ?_)
  refine q_aload_n C dX7_copy_0 rfl (lv_at hl 0 rfl) ?_
  refine q_iload_n C dX7_copy_1 rfl (lv_at hl 1 rfl) ?_
  refine q_c2i C (fun r h => cr_V (As := [.int a1]) (rest := []) C (m_X7_asksCopy l G F k0 a1 σ r h) cb_X7_asksCopy hk0 (by decide) rfl (cf_7 hk0 _) rfl kl_X7_355 ⟨Nat.le_of_ble_eq_true rfl, Nat.le_of_ble_eq_true rfl⟩ ⟨Nat.zero_le _, Nat.zero_le _⟩ hl.1 rfl (Nat.le_of_ble_eq_true rfl) dX7_copy_2 rfl) (fun v1 σ1 => ?_)
  refine q_if_ne C 11 dX7_copy_5 (by decide) ?_ ?_
  · refine q_iload_n C dX7_copy_11 rfl (lv_at hl 2 rfl) ?_
    refine q_ite (fun e0 => ?_) (fun e0 => ?_) _
    · refine q_tin C 56 e0 dX7_copy_12 (by decide) (by decide) rfl (by decide) ?_
      refine q_aload_n C dX7_copy_56 rfl (lv_at hl 0 rfl) ?_
      refine g_7_18 C hk0 kf_X7_43 dX7_copy_57 ?_
      refine q_iload_n C dX7_copy_60 rfl (lv_at hl 1 rfl) ?_
      refine a_ild C (yk_7_18 hk0) (yl_7_18 hk0) dX7_copy_61 (fun v2 => ?_)
      exact q_iretE C hr hlo dX7_copy_62
    refine q_ite (fun e1 => ?_) (fun e1 => ?_) _
    · refine q_tin C 63 e1 dX7_copy_12 (by decide) (by decide) rfl (by decide) ?_
      refine q_aload_n C dX7_copy_63 rfl (lv_at hl 0 rfl) ?_
      refine g_7_19 C hk0 kf_X7_46 dX7_copy_64 ?_
      refine q_iload_n C dX7_copy_67 rfl (lv_at hl 1 rfl) ?_
      refine a_ild C (yk_7_19 hk0) (yl_7_19 hk0) dX7_copy_68 (fun v3 => ?_)
      exact q_iretE C hr hlo dX7_copy_69
    refine q_ite (fun e2 => ?_) (fun e2 => ?_) _
    · refine q_tin C 70 e2 dX7_copy_12 (by decide) (by decide) rfl (by decide) ?_
      refine q_aload_n C dX7_copy_70 rfl (lv_at hl 0 rfl) ?_
      refine g_7_20 C hk0 kf_X7_49 dX7_copy_71 ?_
      refine q_iload_n C dX7_copy_74 rfl (lv_at hl 1 rfl) ?_
      refine a_ild C (yk_7_20 hk0) (yl_7_20 hk0) dX7_copy_75 (fun v4 => ?_)
      exact q_iretE C hr hlo dX7_copy_76
    refine q_ite (fun e3 => ?_) (fun e3 => ?_) _
    · refine q_tin C 77 e3 dX7_copy_12 (by decide) (by decide) rfl (by decide) ?_
      refine q_aload_n C dX7_copy_77 rfl (lv_at hl 0 rfl) ?_
      refine q_iload_n C dX7_copy_78 rfl (lv_at hl 1 rfl) ?_
      refine q_c1i C (fun r h => cr_V (As := [.int a1]) (rest := []) C (m_X7_wantsMany l G F k0 a1 σ1 r h) cb_X7_wantsMany hk0 (by decide) rfl (cf_7 hk0 _) rfl kl_X7_358 ⟨Nat.le_of_ble_eq_true rfl, Nat.le_of_ble_eq_true rfl⟩ ⟨Nat.zero_le _, Nat.zero_le _⟩ hl.1 rfl (Nat.le_of_ble_eq_true rfl) dX7_copy_79 rfl) (fun v5 => ?_)
      exact q_iretE C hr hlo dX7_copy_82
    refine q_ite (fun e4 => ?_) (fun e4 => ?_) _
    · refine q_tin C 83 e4 dX7_copy_12 (by decide) (by decide) rfl (by decide) ?_
      refine q_aload_n C dX7_copy_83 rfl (lv_at hl 0 rfl) ?_
      refine g_7_22 C hk0 kf_X7_55 dX7_copy_84 ?_
      refine q_iload_n C dX7_copy_87 rfl (lv_at hl 1 rfl) ?_
      refine a_ild C (yk_7_22 hk0) (yl_7_22 hk0) dX7_copy_88 (fun v6 => ?_)
      exact q_iretE C hr hlo dX7_copy_89
    refine q_ite (fun e5 => ?_) (fun e5 => ?_) _
    · refine q_tin C 90 e5 dX7_copy_12 (by decide) (by decide) rfl (by decide) ?_
      refine q_aload_n C dX7_copy_90 rfl (lv_at hl 0 rfl) ?_
      refine q_iload_n C dX7_copy_91 rfl (lv_at hl 1 rfl) ?_
      refine q_c1i C (fun r h => cr_V (As := [.int a1]) (rest := []) C (m_X7_savedMany l G F k0 a1 σ1 r h) cb_X7_savedMany hk0 (by decide) rfl (cf_7 hk0 _) rfl kl_X7_361 ⟨Nat.le_of_ble_eq_true rfl, Nat.le_of_ble_eq_true rfl⟩ ⟨Nat.zero_le _, Nat.zero_le _⟩ hl.1 rfl (Nat.le_of_ble_eq_true rfl) dX7_copy_92 rfl) (fun v7 => ?_)
      exact q_iretE C hr hlo dX7_copy_95
    refine q_ite (fun e6 => ?_) (fun e6 => ?_) _
    · refine q_tin C 96 e6 dX7_copy_12 (by decide) (by decide) rfl (by decide) ?_
      refine q_aload_n C dX7_copy_96 rfl (lv_at hl 0 rfl) ?_
      refine g_7_21 C hk0 kf_X7_52 dX7_copy_97 ?_
      refine q_iload_n C dX7_copy_100 rfl (lv_at hl 1 rfl) ?_
      refine a_ild C (yk_7_21 hk0) (yl_7_21 hk0) dX7_copy_101 (fun v8 => ?_)
      exact q_iretE C hr hlo dX7_copy_102
    refine q_tout C 103 dX7_copy_12 (by omega) (by decide) ?_
    refine q_bipush C dX7_copy_103 rfl (by decide) (fun v9 => ?_)
    exact q_iretE C hr hlo dX7_copy_105
  · refine q_bipush C dX7_copy_8 rfl (by decide) (fun v10 => ?_)
    exact q_iretE C hr hlo dX7_copy_10
def f_X7_kept (F : Nat) (k0 : Nat) (a1 : Int) (a2 : Int) (σ : St) : Option (Int × St) :=
  z_ob 7 k0 <| 
  z_c2 (f_X7_asksCopy F k0 a1 σ) fun v1 σ1 =>
  if v1 = 0 then (
    z_gt (-2) fun v2 =>
    some (v2, σ1))
  else (
    z_gt a2 fun v3 =>
    z_c1 (f_X7_isCell F k0 v3 σ1) fun v4 =>
    if ¬ v4 = 0 then (
      z_ix a1 60 <| z_gt (σ1 (k0 + 12) a1) fun v5 =>
      z_gt 2 fun v6 =>
      if v5 = v6 then (
        z_gt (-1) fun v7 =>
        some (v7, σ1))
      else (
        z_gt 32 fun v8 =>
        z_ck (v8 * a1) fun v9 =>
        z_ck (v9 + a2) fun v10 =>
        z_ix v10 1920 <| z_gt (σ1 (k0 + 17) v10) fun v11 =>
        z_gt (-1) fun v12 =>
        if ¬ v11 = v12 then (
          z_ix a1 60 <| z_gt (σ1 (k0 + 11) a1) fun v13 =>
          z_c1 (f_X7_valueAt F k0 a2 v13 σ1) fun v14 =>
          some (v14, σ1))
        else (
          z_gt (-1) fun v15 =>
          some (v15, σ1))))
    else (
      z_gt (-2) fun v16 =>
      some (v16, σ1)))
theorem cb_X7_kept : CB yX7_kept cX7_kept 3 (some .int) 2 := ⟨ki_X7_kept, kq_X7_kept, kn_X7, kc_X7_kept, by decide +kernel, by decide +kernel, by decide +kernel⟩
set_option maxRecDepth 20000 in
set_option maxHeartbeats 4000000 in
theorem m_X7_kept (l : Launch) (G : GG) (F : Nat) (k0 : Nat) (a1 : Int32) (a2 : Int32) (σ : St) : ∀ r, f_X7_kept F k0 a1.toInt a2.toInt σ = some r → MC G l yX7_kept cX7_kept 3 (some .int) { frames := 8, cells := 0, slots := 0, locals := 178 } [.ref (gad G k0), .int a1, .int a2] σ (vI r.1) r.2 := by
  refine MC_of (own := RX7) (fun r : Int × St => vI r.1) (fun r : Int × St => r.2) (by decide +kernel) rfl (Nat.le_of_ble_eq_true rfl) ?_
  intro p e s m args below meth c C hr hlo ls hl
  have hl : lv_has ls 3 [(0, .ref (gad G k0)), (1, .int a1), (2, .int a2)] := hl
  unfold f_X7_kept
  refine q_ob (fun hk0 => ?_)
  refine q_aload_n C dX7_kept_0 rfl (lv_at hl 0 rfl) ?_
  refine q_iload_n C dX7_kept_1 rfl (lv_at hl 1 rfl) ?_
  refine q_c2i C (fun r h => cr_V (As := [.int a1]) (rest := []) C (m_X7_asksCopy l G F k0 a1 σ r h) cb_X7_asksCopy hk0 (by decide) rfl (cf_7 hk0 _) rfl kl_X7_355 ⟨Nat.le_of_ble_eq_true rfl, Nat.le_of_ble_eq_true rfl⟩ ⟨Nat.zero_le _, Nat.zero_le _⟩ hl.1 rfl (Nat.le_of_ble_eq_true rfl) dX7_kept_2 rfl) (fun v1 σ1 => ?_)
  refine q_if_eq C 17 dX7_kept_5 (by decide) ?_ ?_
  · refine q_bipush C dX7_kept_17 rfl (by decide) (fun v2 => ?_)
    exact q_iretE C hr hlo dX7_kept_19
  · refine q_aload_n C dX7_kept_8 rfl (lv_at hl 0 rfl) ?_
    refine q_iload_n C dX7_kept_9 rfl (lv_at hl 2 rfl) ?_
    refine q_i2l C dX7_kept_10 (fun v3 => ?_)
    refine q_c1i C (fun r h => cr_V (As := [.long v3]) (rest := []) C (m_X7_isCell l G F k0 v3 σ1 r h) cb_X7_isCell hk0 (by decide) rfl (cf_7 hk0 _) rfl kl_X7_326 ⟨Nat.le_of_ble_eq_true rfl, Nat.le_of_ble_eq_true rfl⟩ ⟨Nat.zero_le _, Nat.zero_le _⟩ hl.1 rfl (Nat.le_of_ble_eq_true rfl) dX7_kept_11 rfl) (fun v4 => ?_)
    refine q_if_ne C 20 dX7_kept_14 (by decide) ?_ ?_
    · refine q_aload_n C dX7_kept_20 rfl (lv_at hl 0 rfl) ?_
      refine g_7_20 C hk0 kf_X7_49 dX7_kept_21 ?_
      refine q_iload_n C dX7_kept_24 rfl (lv_at hl 1 rfl) ?_
      refine a_ild C (yk_7_20 hk0) (yl_7_20 hk0) dX7_kept_25 (fun v5 => ?_)
      refine q_iconst C dX7_kept_26 rfl (by decide) (fun v6 => ?_)
      refine q_icmp_eq C 45 dX7_kept_27 (by decide) ?_ ?_
      · refine q_iconst C dX7_kept_45 rfl (by decide) (fun v7 => ?_)
        refine q_goto C 60 dX7_kept_46 (by decide) ?_
        exact q_iretE C hr hlo dX7_kept_60
      · refine q_aload_n C dX7_kept_30 rfl (lv_at hl 0 rfl) ?_
        refine g_7_25 C hk0 kf_X7_64 dX7_kept_31 ?_
        refine q_bipush C dX7_kept_34 rfl (by decide) (fun v8 => ?_)
        refine q_iload_n C dX7_kept_36 rfl (lv_at hl 1 rfl) ?_
        refine q_imul C dX7_kept_37 (fun v9 => ?_)
        refine q_iload_n C dX7_kept_38 rfl (lv_at hl 2 rfl) ?_
        refine q_iadd C dX7_kept_39 (fun v10 => ?_)
        refine a_ild C (yk_7_25 hk0) (yl_7_25 hk0) dX7_kept_40 (fun v11 => ?_)
        refine q_iconst C dX7_kept_41 rfl (by decide) (fun v12 => ?_)
        refine q_icmp_ne C 49 dX7_kept_42 (by decide) ?_ ?_
        · refine q_aload_n C dX7_kept_49 rfl (lv_at hl 0 rfl) ?_
          refine q_iload_n C dX7_kept_50 rfl (lv_at hl 2 rfl) ?_
          refine q_aload_n C dX7_kept_51 rfl (lv_at hl 0 rfl) ?_
          refine g_7_19 C hk0 kf_X7_46 dX7_kept_52 ?_
          refine q_iload_n C dX7_kept_55 rfl (lv_at hl 1 rfl) ?_
          refine a_ild C (yk_7_19 hk0) (yl_7_19 hk0) dX7_kept_56 (fun v13 => ?_)
          refine q_c1i C (fun r h => cr_V (As := [.int a2, .int v13]) (rest := []) C (m_X7_valueAt l G F k0 a2 v13 σ1 r h) cb_X7_valueAt hk0 (by decide) rfl (cf_7 hk0 _) rfl kl_X7_337 ⟨Nat.le_of_ble_eq_true rfl, Nat.le_of_ble_eq_true rfl⟩ ⟨Nat.zero_le _, Nat.zero_le _⟩ hl.1 rfl (Nat.le_of_ble_eq_true rfl) dX7_kept_57 rfl) (fun v14 => ?_)
          exact q_iretE C hr hlo dX7_kept_60
        · refine q_iconst C dX7_kept_45 rfl (by decide) (fun v15 => ?_)
          refine q_goto C 60 dX7_kept_46 (by decide) ?_
          exact q_iretE C hr hlo dX7_kept_60
    · refine q_bipush C dX7_kept_17 rfl (by decide) (fun v16 => ?_)
      exact q_iretE C hr hlo dX7_kept_19
def f_X7_saved (F : Nat) (k0 : Nat) (a1 : Int) (a2 : Int) (σ : St) : Option (Int × St) :=
  z_ob 7 k0 <| 
  z_c2 (f_X7_asksCopy F k0 a1 σ) fun v1 σ1 =>
  if v1 = 0 then (
    z_gt (-2) fun v2 =>
    some (v2, σ1))
  else (
    z_gt a2 fun v3 =>
    z_c1 (f_X7_isCell F k0 v3 σ1) fun v4 =>
    if ¬ v4 = 0 then (
      z_gt 32 fun v5 =>
      z_ck (v5 * a1) fun v6 =>
      z_ck (v6 + a2) fun v7 =>
      z_ix v7 1920 <| z_gt (σ1 (k0 + 16) v7) fun v8 =>
      if v8 = 0 then (
        z_gt 0 fun v9 =>
        some (v9, σ1))
      else (
        z_gt 1 fun v10 =>
        some (v10, σ1)))
    else (
      z_gt (-2) fun v11 =>
      some (v11, σ1)))
theorem cb_X7_saved : CB yX7_saved cX7_saved 3 (some .int) 2 := ⟨ki_X7_saved, kq_X7_saved, kn_X7, kc_X7_saved, by decide +kernel, by decide +kernel, by decide +kernel⟩
set_option maxRecDepth 20000 in
set_option maxHeartbeats 4000000 in
theorem m_X7_saved (l : Launch) (G : GG) (F : Nat) (k0 : Nat) (a1 : Int32) (a2 : Int32) (σ : St) : ∀ r, f_X7_saved F k0 a1.toInt a2.toInt σ = some r → MC G l yX7_saved cX7_saved 3 (some .int) { frames := 8, cells := 0, slots := 0, locals := 178 } [.ref (gad G k0), .int a1, .int a2] σ (vI r.1) r.2 := by
  refine MC_of (own := RX7) (fun r : Int × St => vI r.1) (fun r : Int × St => r.2) (by decide +kernel) rfl (Nat.le_of_ble_eq_true rfl) ?_
  intro p e s m args below meth c C hr hlo ls hl
  have hl : lv_has ls 3 [(0, .ref (gad G k0)), (1, .int a1), (2, .int a2)] := hl
  unfold f_X7_saved
  refine q_ob (fun hk0 => ?_)
  refine q_aload_n C dX7_saved_0 rfl (lv_at hl 0 rfl) ?_
  refine q_iload_n C dX7_saved_1 rfl (lv_at hl 1 rfl) ?_
  refine q_c2i C (fun r h => cr_V (As := [.int a1]) (rest := []) C (m_X7_asksCopy l G F k0 a1 σ r h) cb_X7_asksCopy hk0 (by decide) rfl (cf_7 hk0 _) rfl kl_X7_355 ⟨Nat.le_of_ble_eq_true rfl, Nat.le_of_ble_eq_true rfl⟩ ⟨Nat.zero_le _, Nat.zero_le _⟩ hl.1 rfl (Nat.le_of_ble_eq_true rfl) dX7_saved_2 rfl) (fun v1 σ1 => ?_)
  refine q_if_eq C 17 dX7_saved_5 (by decide) ?_ ?_
  · refine q_bipush C dX7_saved_17 rfl (by decide) (fun v2 => ?_)
    exact q_iretE C hr hlo dX7_saved_19
  · refine q_aload_n C dX7_saved_8 rfl (lv_at hl 0 rfl) ?_
    refine q_iload_n C dX7_saved_9 rfl (lv_at hl 2 rfl) ?_
    refine q_i2l C dX7_saved_10 (fun v3 => ?_)
    refine q_c1i C (fun r h => cr_V (As := [.long v3]) (rest := []) C (m_X7_isCell l G F k0 v3 σ1 r h) cb_X7_isCell hk0 (by decide) rfl (cf_7 hk0 _) rfl kl_X7_326 ⟨Nat.le_of_ble_eq_true rfl, Nat.le_of_ble_eq_true rfl⟩ ⟨Nat.zero_le _, Nat.zero_le _⟩ hl.1 rfl (Nat.le_of_ble_eq_true rfl) dX7_saved_11 rfl) (fun v4 => ?_)
    refine q_if_ne C 20 dX7_saved_14 (by decide) ?_ ?_
    · refine q_aload_n C dX7_saved_20 rfl (lv_at hl 0 rfl) ?_
      refine g_7_24 C hk0 kf_X7_61 dX7_saved_21 ?_
      refine q_bipush C dX7_saved_24 rfl (by decide) (fun v5 => ?_)
      refine q_iload_n C dX7_saved_26 rfl (lv_at hl 1 rfl) ?_
      refine q_imul C dX7_saved_27 (fun v6 => ?_)
      refine q_iload_n C dX7_saved_28 rfl (lv_at hl 2 rfl) ?_
      refine q_iadd C dX7_saved_29 (fun v7 => ?_)
      refine a_zld C (yk_7_24 hk0) (yl_7_24 hk0) dX7_saved_30 (fun v8 => ?_)
      refine q_if_eq C 38 dX7_saved_31 (by decide) ?_ ?_
      · refine q_iconst C dX7_saved_38 rfl (by decide) (fun v9 => ?_)
        exact q_iretE C hr hlo dX7_saved_39
      · refine q_iconst C dX7_saved_34 rfl (by decide) (fun v10 => ?_)
        refine q_goto C 39 dX7_saved_35 (by decide) ?_
        exact q_iretE C hr hlo dX7_saved_39
    · refine q_bipush C dX7_saved_17 rfl (by decide) (fun v11 => ?_)
      exact q_iretE C hr hlo dX7_saved_19
def f_X7_order (F : Nat) (k0 : Nat) (a1 : Int) (a2 : Int) (σ : St) : Option (Int × St) :=
  z_ob 7 k0 <| 
  z_c2 (f_X7_asksCopy F k0 a1 σ) fun v1 σ1 =>
  if v1 = 0 then (
    z_gt (-2) fun v2 =>
    some (v2, σ1))
  else (
    if 0 ≤ a2 then (
      z_ix a1 60 <| z_gt (σ1 (k0 + 14) a1) fun v3 =>
      if v3 ≤ a2 then (
        z_gt (-1) fun v4 =>
        some (v4, σ1))
      else (
        z_gt 32 fun v5 =>
        z_ck (v5 * a1) fun v6 =>
        z_ck (v6 + a2) fun v7 =>
        z_ix v7 1920 <| z_gt (σ1 (k0 + 18) v7) fun v8 =>
        some (v8, σ1)))
    else (
      z_gt (-2) fun v9 =>
      some (v9, σ1)))
theorem cb_X7_order : CB yX7_order cX7_order 3 (some .int) 2 := ⟨ki_X7_order, kq_X7_order, kn_X7, kc_X7_order, by decide +kernel, by decide +kernel, by decide +kernel⟩
set_option maxRecDepth 20000 in
set_option maxHeartbeats 4000000 in
theorem m_X7_order (l : Launch) (G : GG) (F : Nat) (k0 : Nat) (a1 : Int32) (a2 : Int32) (σ : St) : ∀ r, f_X7_order F k0 a1.toInt a2.toInt σ = some r → MC G l yX7_order cX7_order 3 (some .int) { frames := 8, cells := 0, slots := 0, locals := 178 } [.ref (gad G k0), .int a1, .int a2] σ (vI r.1) r.2 := by
  refine MC_of (own := RX7) (fun r : Int × St => vI r.1) (fun r : Int × St => r.2) (by decide +kernel) rfl (Nat.le_of_ble_eq_true rfl) ?_
  intro p e s m args below meth c C hr hlo ls hl
  have hl : lv_has ls 3 [(0, .ref (gad G k0)), (1, .int a1), (2, .int a2)] := hl
  unfold f_X7_order
  refine q_ob (fun hk0 => ?_)
  refine q_aload_n C dX7_order_0 rfl (lv_at hl 0 rfl) ?_
  refine q_iload_n C dX7_order_1 rfl (lv_at hl 1 rfl) ?_
  refine q_c2i C (fun r h => cr_V (As := [.int a1]) (rest := []) C (m_X7_asksCopy l G F k0 a1 σ r h) cb_X7_asksCopy hk0 (by decide) rfl (cf_7 hk0 _) rfl kl_X7_355 ⟨Nat.le_of_ble_eq_true rfl, Nat.le_of_ble_eq_true rfl⟩ ⟨Nat.zero_le _, Nat.zero_le _⟩ hl.1 rfl (Nat.le_of_ble_eq_true rfl) dX7_order_2 rfl) (fun v1 σ1 => ?_)
  refine q_if_eq C 12 dX7_order_5 (by decide) ?_ ?_
  · refine q_bipush C dX7_order_12 rfl (by decide) (fun v2 => ?_)
    exact q_iretE C hr hlo dX7_order_14
  · refine q_iload_n C dX7_order_8 rfl (lv_at hl 2 rfl) ?_
    refine q_if_ge C 15 dX7_order_9 (by decide) ?_ ?_
    · refine q_iload_n C dX7_order_15 rfl (lv_at hl 2 rfl) ?_
      refine q_aload_n C dX7_order_16 rfl (lv_at hl 0 rfl) ?_
      refine g_7_22 C hk0 kf_X7_55 dX7_order_17 ?_
      refine q_iload_n C dX7_order_20 rfl (lv_at hl 1 rfl) ?_
      refine a_ild C (yk_7_22 hk0) (yl_7_22 hk0) dX7_order_21 (fun v3 => ?_)
      refine q_icmp_ge C 39 dX7_order_22 (by decide) ?_ ?_
      · refine q_iconst C dX7_order_39 rfl (by decide) (fun v4 => ?_)
        exact q_iretE C hr hlo dX7_order_40
      · refine q_aload_n C dX7_order_25 rfl (lv_at hl 0 rfl) ?_
        refine g_7_26 C hk0 kf_X7_67 dX7_order_26 ?_
        refine q_bipush C dX7_order_29 rfl (by decide) (fun v5 => ?_)
        refine q_iload_n C dX7_order_31 rfl (lv_at hl 1 rfl) ?_
        refine q_imul C dX7_order_32 (fun v6 => ?_)
        refine q_iload_n C dX7_order_33 rfl (lv_at hl 2 rfl) ?_
        refine q_iadd C dX7_order_34 (fun v7 => ?_)
        refine a_ild C (yk_7_26 hk0) (yl_7_26 hk0) dX7_order_35 (fun v8 => ?_)
        refine q_goto C 40 dX7_order_36 (by decide) ?_
        exact q_iretE C hr hlo dX7_order_40
    · refine q_bipush C dX7_order_12 rfl (by decide) (fun v9 => ?_)
      exact q_iretE C hr hlo dX7_order_14
def f_X7_keptTill_L5 (F : Nat) (k0 : Nat) (a1 : Int) (a2 : Int)  (σ : St) : Nat → Int → Int → Option (Int)
  | 0, _, _ => none
  | n + 1, x3, x4 =>
    z_c1 (f_X7_cells F k0 σ) fun v5 =>
    if v5 ≤ x4 then (
      some x3)
    else (
      z_gt 32 fun v6 =>
      z_ck (v6 * a1) fun v7 =>
      z_ck (v7 + x4) fun v8 =>
      z_ix v8 1920 <| z_gt (σ (k0 + 17) v8) fun v9 =>
      z_gt (-1) fun v10 =>
      if v9 = v10 then (
        z_gt 0 fun v11 =>
        z_ck (x3 + v11) fun v12 =>
        z_ck (x4 + 1) fun v13 =>
        f_X7_keptTill_L5 F k0 a1 a2 σ n v12 v13)
      else (
        z_gt 32 fun v14 =>
        z_ck (v14 * a1) fun v15 =>
        z_ck (v15 + x4) fun v16 =>
        z_ix v16 1920 <| z_gt (σ (k0 + 17) v16) fun v17 =>
        if a2 ≤ v17 then (
          z_gt 0 fun v18 =>
          z_ck (x3 + v18) fun v19 =>
          z_ck (x4 + 1) fun v20 =>
          f_X7_keptTill_L5 F k0 a1 a2 σ n v19 v20)
        else (
          z_gt 1 fun v21 =>
          z_ck (x3 + v21) fun v22 =>
          z_ck (x4 + 1) fun v23 =>
          f_X7_keptTill_L5 F k0 a1 a2 σ n v22 v23)))

def f_X7_keptTill (F : Nat) (k0 : Nat) (a1 : Int) (a2 : Int) (σ : St) : Option (Int) :=
  z_ob 7 k0 <| 
  z_gt 0 fun v1 =>
  z_gt 0 fun v2 =>
  f_X7_keptTill_L5 F k0 a1 a2 σ F v1 v2
theorem cb_X7_keptTill : CB yX7_keptTill cX7_keptTill 5 (some .int) 2 := ⟨ki_X7_keptTill, kq_X7_keptTill, kn_X7, kc_X7_keptTill, by decide +kernel, by decide +kernel, by decide +kernel⟩
set_option maxRecDepth 20000 in
set_option maxHeartbeats 4000000 in
theorem m_X7_keptTill (l : Launch) (G : GG) (F : Nat) (k0 : Nat) (a1 : Int32) (a2 : Int32) (σ : St) : ∀ r, f_X7_keptTill F k0 a1.toInt a2.toInt σ = some r → MC G l yX7_keptTill cX7_keptTill 5 (some .int) { frames := 1, cells := 0, slots := 0, locals := 20 } [.ref (gad G k0), .int a1, .int a2] σ (vI r) σ := by
  refine MC_of (own := RX7) (vI) (fun _ => σ) (by decide +kernel) rfl (Nat.le_of_ble_eq_true rfl) ?_
  intro p e s m args below meth c C hr hlo ls hl
  have hl : lv_has ls 5 [(0, .ref (gad G k0)), (1, .int a1), (2, .int a2)] := hl
  unfold f_X7_keptTill
  refine q_ob (fun hk0 => ?_)
  have B5 : ∀ (n : Nat) (x3 : Int32) (x4 : Int32) (ls : Array Slot), lv_has ls 5 [(0, .ref (gad G k0)), (1, .int a1), (2, .int a2), (3, .int x3), (4, .int x4)] → Sim G (AG G) 0 0 p l e { frames := 1, cells := 0, slots := 0, locals := 20 } s m args below meth c (fun r : Int => MQ below (QC G (vI r) (σ)) args s 0 0 (AG G)) σ (f_X7_keptTill_L5 F k0 a1.toInt a2.toInt  σ n x3.toInt x4.toInt) (F0 m 5 ls []) := by
    intro n
    induction n with
    | zero =>
      intro x3 x4 ls hl
      exact sim_none
    | succ n ih =>
      intro x3 x4 ls hl
      rw [f_X7_keptTill_L5]
      refine q_iload C dX7_keptTill_5 (lv_at hl 4 rfl) ?_
      refine q_aload_n C dX7_keptTill_7 rfl (lv_at hl 0 rfl) ?_
      refine q_c1i C (fun r h => cr_V (As := []) (rest := [.int x4]) C (m_X7_cells l G F k0 σ r h) cb_X7_cells hk0 (by decide) rfl (cf_7 hk0 _) rfl kl_X7_107 ⟨Nat.le_of_ble_eq_true rfl, Nat.le_of_ble_eq_true rfl⟩ ⟨Nat.zero_le _, Nat.zero_le _⟩ hl.1 rfl (Nat.le_of_ble_eq_true rfl) dX7_keptTill_8 rfl) (fun v5 => ?_)
      refine q_icmp_ge C 60 dX7_keptTill_11 (by decide) ?_ ?_
      · refine q_iload_n C dX7_keptTill_60 rfl (lv_at hl 3 rfl) ?_
        exact q_iret C hr hlo dX7_keptTill_61
      · refine q_iload_n C dX7_keptTill_14 rfl (lv_at hl 3 rfl) ?_
        refine q_aload_n C dX7_keptTill_15 rfl (lv_at hl 0 rfl) ?_
        refine g_7_25 C hk0 kf_X7_64 dX7_keptTill_16 ?_
        refine q_bipush C dX7_keptTill_19 rfl (by decide) (fun v6 => ?_)
        refine q_iload_n C dX7_keptTill_21 rfl (lv_at hl 1 rfl) ?_
        refine q_imul C dX7_keptTill_22 (fun v7 => ?_)
        refine q_iload C dX7_keptTill_23 (lv_at hl 4 rfl) ?_
        refine q_iadd C dX7_keptTill_25 (fun v8 => ?_)
        refine a_ild C (yk_7_25 hk0) (yl_7_25 hk0) dX7_keptTill_26 (fun v9 => ?_)
        refine q_iconst C dX7_keptTill_27 rfl (by decide) (fun v10 => ?_)
        refine q_icmp_eq C 51 dX7_keptTill_28 (by decide) ?_ ?_
        · refine q_iconst C dX7_keptTill_51 rfl (by decide) (fun v11 => ?_)
          refine q_iadd C dX7_keptTill_52 (fun v12 => ?_)
          refine q_istore_n C [(3, .int v12), (0, .ref (gad G k0)), (1, .int a1), (2, .int a2), (4, .int x4)] dX7_keptTill_53 rfl hl (by decide) rfl (fun ls hl => ?_)
          refine q_iinc (k := 4) C (fun v13 => [(4, .int v13), (3, .int v12), (0, .ref (gad G k0)), (1, .int a1), (2, .int a2)]) dX7_keptTill_54 hl rfl (by decide) (by decide) (fun _ => rfl) (fun v13 ls hl => ?_)
          refine q_goto C 5 dX7_keptTill_57 (by decide) ?_
          exact ih v12 v13 ls (lv_sub hl [2, 3, 4, 1, 0] rfl)
        · refine q_aload_n C dX7_keptTill_31 rfl (lv_at hl 0 rfl) ?_
          refine g_7_25 C hk0 kf_X7_64 dX7_keptTill_32 ?_
          refine q_bipush C dX7_keptTill_35 rfl (by decide) (fun v14 => ?_)
          refine q_iload_n C dX7_keptTill_37 rfl (lv_at hl 1 rfl) ?_
          refine q_imul C dX7_keptTill_38 (fun v15 => ?_)
          refine q_iload C dX7_keptTill_39 (lv_at hl 4 rfl) ?_
          refine q_iadd C dX7_keptTill_41 (fun v16 => ?_)
          refine a_ild C (yk_7_25 hk0) (yl_7_25 hk0) dX7_keptTill_42 (fun v17 => ?_)
          refine q_iload_n C dX7_keptTill_43 rfl (lv_at hl 2 rfl) ?_
          refine q_icmp_ge C 51 dX7_keptTill_44 (by decide) ?_ ?_
          · refine q_iconst C dX7_keptTill_51 rfl (by decide) (fun v18 => ?_)
            refine q_iadd C dX7_keptTill_52 (fun v19 => ?_)
            refine q_istore_n C [(3, .int v19), (0, .ref (gad G k0)), (1, .int a1), (2, .int a2), (4, .int x4)] dX7_keptTill_53 rfl hl (by decide) rfl (fun ls hl => ?_)
            refine q_iinc (k := 4) C (fun v20 => [(4, .int v20), (3, .int v19), (0, .ref (gad G k0)), (1, .int a1), (2, .int a2)]) dX7_keptTill_54 hl rfl (by decide) (by decide) (fun _ => rfl) (fun v20 ls hl => ?_)
            refine q_goto C 5 dX7_keptTill_57 (by decide) ?_
            exact ih v19 v20 ls (lv_sub hl [2, 3, 4, 1, 0] rfl)
          · refine q_iconst C dX7_keptTill_47 rfl (by decide) (fun v21 => ?_)
            refine q_goto C 52 dX7_keptTill_48 (by decide) ?_
            refine q_iadd C dX7_keptTill_52 (fun v22 => ?_)
            refine q_istore_n C [(3, .int v22), (0, .ref (gad G k0)), (1, .int a1), (2, .int a2), (4, .int x4)] dX7_keptTill_53 rfl hl (by decide) rfl (fun ls hl => ?_)
            refine q_iinc (k := 4) C (fun v23 => [(4, .int v23), (3, .int v22), (0, .ref (gad G k0)), (1, .int a1), (2, .int a2)]) dX7_keptTill_54 hl rfl (by decide) (by decide) (fun _ => rfl) (fun v23 ls hl => ?_)
            refine q_goto C 5 dX7_keptTill_57 (by decide) ?_
            exact ih v22 v23 ls (lv_sub hl [2, 3, 4, 1, 0] rfl)
  refine q_iconst C dX7_keptTill_0 rfl (by decide) (fun v1 => ?_)
  refine q_istore_n C [(3, .int v1), (0, .ref (gad G k0)), (1, .int a1), (2, .int a2)] dX7_keptTill_1 rfl hl (by decide) rfl (fun ls hl => ?_)
  refine q_iconst C dX7_keptTill_2 rfl (by decide) (fun v2 => ?_)
  refine q_istore C [(4, .int v2), (3, .int v1), (0, .ref (gad G k0)), (1, .int a1), (2, .int a2)] dX7_keptTill_3 hl (by decide) rfl (fun ls hl => ?_)
  exact B5 F v1 v2 ls (lv_sub hl [2, 3, 4, 1, 0] rfl)
def f_X7_waiting (F : Nat) (k0 : Nat) (a1 : Int) (σ : St) : Option (Int × St) :=
  z_ob 7 k0 <| 
  z_c2 (f_X7_asksAt F k0 a1 σ) fun v1 σ1 =>
  if ¬ v1 = 0 then (
    z_c1 (f_X7_openAt F k0 a1 σ1) fun v2 =>
    z_gt (-1) fun v3 =>
    if ¬ v2 = v3 then (
      z_c1 (f_X7_wantsMany F k0 v2 σ1) fun v4 =>
      z_c1 (f_X7_keptTill F k0 v2 a1 σ1) fun v5 =>
      z_ck (v4 - v5) fun v6 =>
      some (v6, σ1))
    else (
      z_gt (-1) fun v7 =>
      some (v7, σ1)))
  else (
    z_gt (-2) fun v8 =>
    some (v8, σ1))
theorem cb_X7_waiting : CB yX7_waiting cX7_waiting 3 (some .int) 1 := ⟨ki_X7_waiting, kq_X7_waiting, kn_X7, kc_X7_waiting, by decide +kernel, by decide +kernel, by decide +kernel⟩
set_option maxRecDepth 20000 in
set_option maxHeartbeats 4000000 in
theorem m_X7_waiting (l : Launch) (G : GG) (F : Nat) (k0 : Nat) (a1 : Int32) (σ : St) : ∀ r, f_X7_waiting F k0 a1.toInt σ = some r → MC G l yX7_waiting cX7_waiting 3 (some .int) { frames := 8, cells := 0, slots := 0, locals := 178 } [.ref (gad G k0), .int a1] σ (vI r.1) r.2 := by
  refine MC_of (own := RX7) (fun r : Int × St => vI r.1) (fun r : Int × St => r.2) (by decide +kernel) rfl (Nat.le_of_ble_eq_true rfl) ?_
  intro p e s m args below meth c C hr hlo ls hl
  have hl : lv_has ls 3 [(0, .ref (gad G k0)), (1, .int a1)] := hl
  unfold f_X7_waiting
  refine q_ob (fun hk0 => ?_)
  refine q_aload_n C dX7_waiting_0 rfl (lv_at hl 0 rfl) ?_
  refine q_iload_n C dX7_waiting_1 rfl (lv_at hl 1 rfl) ?_
  refine q_c2i C (fun r h => cr_V (As := [.int a1]) (rest := []) C (m_X7_asksAt l G F k0 a1 σ r h) cb_X7_asksAt hk0 (by decide) rfl (cf_7 hk0 _) rfl kl_X7_323 ⟨Nat.le_of_ble_eq_true rfl, Nat.le_of_ble_eq_true rfl⟩ ⟨Nat.zero_le _, Nat.zero_le _⟩ hl.1 rfl (Nat.le_of_ble_eq_true rfl) dX7_waiting_2 rfl) (fun v1 σ1 => ?_)
  refine q_if_ne C 11 dX7_waiting_5 (by decide) ?_ ?_
  · refine q_aload_n C dX7_waiting_11 rfl (lv_at hl 0 rfl) ?_
    refine q_iload_n C dX7_waiting_12 rfl (lv_at hl 1 rfl) ?_
    refine q_c1i C (fun r h => cr_V (As := [.int a1]) (rest := []) C (m_X7_openAt l G F k0 a1 σ1 r h) cb_X7_openAt hk0 (by decide) rfl (cf_7 hk0 _) rfl kl_X7_352 ⟨Nat.le_of_ble_eq_true rfl, Nat.le_of_ble_eq_true rfl⟩ ⟨Nat.zero_le _, Nat.zero_le _⟩ hl.1 rfl (Nat.le_of_ble_eq_true rfl) dX7_waiting_13 rfl) (fun v2 => ?_)
    refine q_istore_n C [(2, .int v2), (0, .ref (gad G k0)), (1, .int a1)] dX7_waiting_16 rfl hl (by decide) rfl (fun ls hl => ?_)
    refine q_iload_n C dX7_waiting_17 rfl (lv_at hl 0 rfl) ?_
    refine q_iconst C dX7_waiting_18 rfl (by decide) (fun v3 => ?_)
    refine q_icmp_ne C 26 dX7_waiting_19 (by decide) ?_ ?_
    · refine q_aload_n C dX7_waiting_26 rfl (lv_at hl 1 rfl) ?_
      refine q_iload_n C dX7_waiting_27 rfl (lv_at hl 0 rfl) ?_
      refine q_c1i C (fun r h => cr_V (As := [.int v2]) (rest := []) C (m_X7_wantsMany l G F k0 v2 σ1 r h) cb_X7_wantsMany hk0 (by decide) rfl (cf_7 hk0 _) rfl kl_X7_358 ⟨Nat.le_of_ble_eq_true rfl, Nat.le_of_ble_eq_true rfl⟩ ⟨Nat.zero_le _, Nat.zero_le _⟩ hl.1 rfl (Nat.le_of_ble_eq_true rfl) dX7_waiting_28 rfl) (fun v4 => ?_)
      refine q_aload_n C dX7_waiting_31 rfl (lv_at hl 1 rfl) ?_
      refine q_iload_n C dX7_waiting_32 rfl (lv_at hl 0 rfl) ?_
      refine q_iload_n C dX7_waiting_33 rfl (lv_at hl 2 rfl) ?_
      refine q_c1i C (fun r h => cr_V (As := [.int v2, .int a1]) (rest := [.int v4]) C (m_X7_keptTill l G F k0 v2 a1 σ1 r h) cb_X7_keptTill hk0 (by decide) rfl (cf_7 hk0 _) rfl kl_X7_364 ⟨Nat.le_of_ble_eq_true rfl, Nat.le_of_ble_eq_true rfl⟩ ⟨Nat.zero_le _, Nat.zero_le _⟩ hl.1 rfl (Nat.le_of_ble_eq_true rfl) dX7_waiting_34 rfl) (fun v5 => ?_)
      refine q_isub C dX7_waiting_37 (fun v6 => ?_)
      exact q_iretE C hr hlo dX7_waiting_38
    · refine q_iconst C dX7_waiting_22 rfl (by decide) (fun v7 => ?_)
      refine q_goto C 38 dX7_waiting_23 (by decide) ?_
      exact q_iretE C hr hlo dX7_waiting_38
  · refine q_bipush C dX7_waiting_8 rfl (by decide) (fun v8 => ?_)
    exact q_iretE C hr hlo dX7_waiting_10
def f_X7_saves_L34 (F : Nat) (k0 : Nat) (a1 : Int) (K23 : Int → Int → St → Option (Int × St))  : Nat → Int → Int → Int → St → Option (Int × St)
  | 0, _, _, _, _ => none
  | n + 1, x11, x12, x13, σ =>
    z_c1 (f_X7_cells F k0 σ) fun v14 =>
    if v14 ≤ x13 then (
      z_ck (x12 + 1) fun v15 =>
      K23 x11 v15 σ)
    else (
      z_gt 32 fun v16 =>
      z_ck (v16 * x12) fun v17 =>
      z_ck (v17 + x13) fun v18 =>
      z_ix v18 1920 <| z_gt (σ (k0 + 16) v18) fun v19 =>
      if v19 = 0 then (
        z_gt 0 fun v20 =>
        z_ck (x11 + v20) fun v21 =>
        z_ck (x13 + 1) fun v22 =>
        f_X7_saves_L34 F k0 a1 K23 n v21 x12 v22 σ)
      else (
        z_gt 32 fun v23 =>
        z_ck (v23 * x12) fun v24 =>
        z_ck (v24 + x13) fun v25 =>
        z_ix v25 1920 <| z_gt (σ (k0 + 17) v25) fun v26 =>
        if ¬ v26 = a1 then (
          z_gt 0 fun v27 =>
          z_ck (x11 + v27) fun v28 =>
          z_ck (x13 + 1) fun v29 =>
          f_X7_saves_L34 F k0 a1 K23 n v28 x12 v29 σ)
        else (
          z_gt 1 fun v30 =>
          z_ck (x11 + v30) fun v31 =>
          z_ck (x13 + 1) fun v32 =>
          f_X7_saves_L34 F k0 a1 K23 n v31 x12 v32 σ)))

def f_X7_saves_L23 (F : Nat) (k0 : Nat) (a1 : Int)   : Nat → Int → Int → St → Option (Int × St)
  | 0, _, _, _ => none
  | n + 1, x7, x8, σ =>
    z_gt (σ k0 28) fun v9 =>
    if v9 ≤ x8 then (
      some (x7, σ))
    else (
      z_gt 0 fun v10 =>
      f_X7_saves_L34 F k0 a1 (f_X7_saves_L23 F k0 a1 n) F x7 x8 v10 σ)

def f_X7_saves (F : Nat) (k0 : Nat) (a1 : Int) (σ : St) : Option (Int × St) :=
  z_ob 7 k0 <| 
  z_c2 (f_X7_asks F k0 σ) fun v1 σ1 =>
  if v1 = 0 then (
    z_gt (-2) fun v2 =>
    some (v2, σ1))
  else (
    z_gt a1 fun v3 =>
    z_c1 (f_X7_isEvent F k0 v3 σ1) fun v4 =>
    if ¬ v4 = 0 then (
      z_gt 0 fun v5 =>
      z_gt 0 fun v6 =>
      f_X7_saves_L23 F k0 a1 F v5 v6 σ1)
    else (
      z_gt (-2) fun v33 =>
      some (v33, σ1)))
theorem cb_X7_saves : CB yX7_saves cX7_saves 5 (some .int) 1 := ⟨ki_X7_saves, kq_X7_saves, kn_X7, kc_X7_saves, by decide +kernel, by decide +kernel, by decide +kernel⟩
set_option maxRecDepth 20000 in
set_option maxHeartbeats 4000000 in
theorem m_X7_saves (l : Launch) (G : GG) (F : Nat) (k0 : Nat) (a1 : Int32) (σ : St) : ∀ r, f_X7_saves F k0 a1.toInt σ = some r → MC G l yX7_saves cX7_saves 5 (some .int) { frames := 7, cells := 0, slots := 0, locals := 157 } [.ref (gad G k0), .int a1] σ (vI r.1) r.2 := by
  refine MC_of (own := RX7) (fun r : Int × St => vI r.1) (fun r : Int × St => r.2) (by decide +kernel) rfl (Nat.le_of_ble_eq_true rfl) ?_
  intro p e s m args below meth c C hr hlo ls hl
  have hl : lv_has ls 5 [(0, .ref (gad G k0)), (1, .int a1)] := hl
  unfold f_X7_saves
  refine q_ob (fun hk0 => ?_)
  have B34 : ∀ (K23 : Int → Int → St → Option (Int × St)) (hK23 : ∀ (y0 : Int32) (y1 : Int32) (σ : St) (ls : Array Slot), lv_has ls 5 [(0, .ref (gad G k0)), (1, .int a1), (2, .int y0), (3, .int y1)] → Sim G (AG G) 0 0 p l e { frames := 7, cells := 0, slots := 0, locals := 157 } s m args below meth c (fun r : Int × St => MQ below (QC G (vI r.1) (r.2)) args s 0 0 (AG G)) σ (K23 y0.toInt y1.toInt σ) (F0 m 23 ls [])), ∀ (n : Nat) (x11 : Int32) (x12 : Int32) (x13 : Int32) (σ : St) (ls : Array Slot), lv_has ls 5 [(0, .ref (gad G k0)), (1, .int a1), (2, .int x11), (3, .int x12), (4, .int x13)] → Sim G (AG G) 0 0 p l e { frames := 7, cells := 0, slots := 0, locals := 157 } s m args below meth c (fun r : Int × St => MQ below (QC G (vI r.1) (r.2)) args s 0 0 (AG G)) σ (f_X7_saves_L34 F k0 a1.toInt K23  n x11.toInt x12.toInt x13.toInt σ) (F0 m 34 ls []) := by
    intro K23 hK23
    intro n
    induction n with
    | zero =>
      intro x11 x12 x13 σ ls hl
      exact sim_none
    | succ n ih =>
      intro x11 x12 x13 σ ls hl
      rw [f_X7_saves_L34]
      refine q_iload C dX7_saves_34 (lv_at hl 4 rfl) ?_
      refine q_aload_n C dX7_saves_36 rfl (lv_at hl 0 rfl) ?_
      refine q_c1i C (fun r h => cr_V (As := []) (rest := [.int x13]) C (m_X7_cells l G F k0 σ r h) cb_X7_cells hk0 (by decide) rfl (cf_7 hk0 _) rfl kl_X7_107 ⟨Nat.le_of_ble_eq_true rfl, Nat.le_of_ble_eq_true rfl⟩ ⟨Nat.zero_le _, Nat.zero_le _⟩ hl.1 rfl (Nat.le_of_ble_eq_true rfl) dX7_saves_37 rfl) (fun v14 => ?_)
      refine q_icmp_ge C 88 dX7_saves_40 (by decide) ?_ ?_
      · refine q_iinc (k := 3) C (fun v15 => [(3, .int v15), (0, .ref (gad G k0)), (1, .int a1), (2, .int x11), (4, .int x13)]) dX7_saves_88 hl rfl (by decide) (by decide) (fun _ => rfl) (fun v15 ls hl => ?_)
        refine q_goto C 23 dX7_saves_91 (by decide) ?_
        exact hK23 x11 v15 σ ls (lv_sub hl [1, 2, 3, 0] rfl)
      · refine q_iload_n C dX7_saves_43 rfl (lv_at hl 2 rfl) ?_
        refine q_aload_n C dX7_saves_44 rfl (lv_at hl 0 rfl) ?_
        refine g_7_24 C hk0 kf_X7_61 dX7_saves_45 ?_
        refine q_bipush C dX7_saves_48 rfl (by decide) (fun v16 => ?_)
        refine q_iload_n C dX7_saves_50 rfl (lv_at hl 3 rfl) ?_
        refine q_imul C dX7_saves_51 (fun v17 => ?_)
        refine q_iload C dX7_saves_52 (lv_at hl 4 rfl) ?_
        refine q_iadd C dX7_saves_54 (fun v18 => ?_)
        refine a_zld C (yk_7_24 hk0) (yl_7_24 hk0) dX7_saves_55 (fun v19 => ?_)
        refine q_if_eq C 79 dX7_saves_56 (by decide) ?_ ?_
        · refine q_iconst C dX7_saves_79 rfl (by decide) (fun v20 => ?_)
          refine q_iadd C dX7_saves_80 (fun v21 => ?_)
          refine q_istore_n C [(2, .int v21), (0, .ref (gad G k0)), (1, .int a1), (3, .int x12), (4, .int x13)] dX7_saves_81 rfl hl (by decide) rfl (fun ls hl => ?_)
          refine q_iinc (k := 4) C (fun v22 => [(4, .int v22), (2, .int v21), (0, .ref (gad G k0)), (1, .int a1), (3, .int x12)]) dX7_saves_82 hl rfl (by decide) (by decide) (fun _ => rfl) (fun v22 ls hl => ?_)
          refine q_goto C 34 dX7_saves_85 (by decide) ?_
          exact ih v21 x12 v22 σ ls (lv_sub hl [2, 3, 1, 4, 0] rfl)
        · refine q_aload_n C dX7_saves_59 rfl (lv_at hl 0 rfl) ?_
          refine g_7_25 C hk0 kf_X7_64 dX7_saves_60 ?_
          refine q_bipush C dX7_saves_63 rfl (by decide) (fun v23 => ?_)
          refine q_iload_n C dX7_saves_65 rfl (lv_at hl 3 rfl) ?_
          refine q_imul C dX7_saves_66 (fun v24 => ?_)
          refine q_iload C dX7_saves_67 (lv_at hl 4 rfl) ?_
          refine q_iadd C dX7_saves_69 (fun v25 => ?_)
          refine a_ild C (yk_7_25 hk0) (yl_7_25 hk0) dX7_saves_70 (fun v26 => ?_)
          refine q_iload_n C dX7_saves_71 rfl (lv_at hl 1 rfl) ?_
          refine q_icmp_ne C 79 dX7_saves_72 (by decide) ?_ ?_
          · refine q_iconst C dX7_saves_79 rfl (by decide) (fun v27 => ?_)
            refine q_iadd C dX7_saves_80 (fun v28 => ?_)
            refine q_istore_n C [(2, .int v28), (0, .ref (gad G k0)), (1, .int a1), (3, .int x12), (4, .int x13)] dX7_saves_81 rfl hl (by decide) rfl (fun ls hl => ?_)
            refine q_iinc (k := 4) C (fun v29 => [(4, .int v29), (2, .int v28), (0, .ref (gad G k0)), (1, .int a1), (3, .int x12)]) dX7_saves_82 hl rfl (by decide) (by decide) (fun _ => rfl) (fun v29 ls hl => ?_)
            refine q_goto C 34 dX7_saves_85 (by decide) ?_
            exact ih v28 x12 v29 σ ls (lv_sub hl [2, 3, 1, 4, 0] rfl)
          · refine q_iconst C dX7_saves_75 rfl (by decide) (fun v30 => ?_)
            refine q_goto C 80 dX7_saves_76 (by decide) ?_
            refine q_iadd C dX7_saves_80 (fun v31 => ?_)
            refine q_istore_n C [(2, .int v31), (0, .ref (gad G k0)), (1, .int a1), (3, .int x12), (4, .int x13)] dX7_saves_81 rfl hl (by decide) rfl (fun ls hl => ?_)
            refine q_iinc (k := 4) C (fun v32 => [(4, .int v32), (2, .int v31), (0, .ref (gad G k0)), (1, .int a1), (3, .int x12)]) dX7_saves_82 hl rfl (by decide) (by decide) (fun _ => rfl) (fun v32 ls hl => ?_)
            refine q_goto C 34 dX7_saves_85 (by decide) ?_
            exact ih v31 x12 v32 σ ls (lv_sub hl [2, 3, 1, 4, 0] rfl)
  have B23 : ∀ (n : Nat) (x7 : Int32) (x8 : Int32) (σ : St) (ls : Array Slot), lv_has ls 5 [(0, .ref (gad G k0)), (1, .int a1), (2, .int x7), (3, .int x8)] → Sim G (AG G) 0 0 p l e { frames := 7, cells := 0, slots := 0, locals := 157 } s m args below meth c (fun r : Int × St => MQ below (QC G (vI r.1) (r.2)) args s 0 0 (AG G)) σ (f_X7_saves_L23 F k0 a1.toInt   n x7.toInt x8.toInt σ) (F0 m 23 ls []) := by
    intro n
    induction n with
    | zero =>
      intro x7 x8 σ ls hl
      exact sim_none
    | succ n ih =>
      intro x7 x8 σ ls hl
      rw [f_X7_saves_L23]
      refine q_iload_n C dX7_saves_23 rfl (lv_at hl 3 rfl) ?_
      refine q_aload_n C dX7_saves_24 rfl (lv_at hl 0 rfl) ?_
      refine g_7_28 C hk0 kf_X7_257 dX7_saves_25 (fun v9 => ?_)
      refine q_icmp_ge C 94 dX7_saves_28 (by decide) ?_ ?_
      · refine q_iload_n C dX7_saves_94 rfl (lv_at hl 2 rfl) ?_
        exact q_iretE C hr hlo dX7_saves_95
      · refine q_iconst C dX7_saves_31 rfl (by decide) (fun v10 => ?_)
        refine q_istore C [(4, .int v10), (0, .ref (gad G k0)), (1, .int a1), (2, .int x7), (3, .int x8)] dX7_saves_32 hl (by decide) rfl (fun ls hl => ?_)
        exact B34 (f_X7_saves_L23 F k0 a1.toInt n) ih F x7 x8 v10 σ ls (lv_sub hl [1, 2, 3, 4, 0] rfl)
  refine q_aload_n C dX7_saves_0 rfl (lv_at hl 0 rfl) ?_
  refine q_c2i C (fun r h => cr_V (As := []) (rest := []) C (m_X7_asks l G F k0 σ r h) cb_X7_asks hk0 (by decide) rfl (cf_7 hk0 _) rfl kl_X7_316 ⟨Nat.le_of_ble_eq_true rfl, Nat.le_of_ble_eq_true rfl⟩ ⟨Nat.zero_le _, Nat.zero_le _⟩ hl.1 rfl (Nat.le_of_ble_eq_true rfl) dX7_saves_1 rfl) (fun v1 σ1 => ?_)
  refine q_if_eq C 16 dX7_saves_4 (by decide) ?_ ?_
  · refine q_bipush C dX7_saves_16 rfl (by decide) (fun v2 => ?_)
    exact q_iretE C hr hlo dX7_saves_18
  · refine q_aload_n C dX7_saves_7 rfl (lv_at hl 0 rfl) ?_
    refine q_iload_n C dX7_saves_8 rfl (lv_at hl 1 rfl) ?_
    refine q_i2l C dX7_saves_9 (fun v3 => ?_)
    refine q_c1i C (fun r h => cr_V (As := [.long v3]) (rest := []) C (m_X7_isEvent l G F k0 v3 σ1 r h) cb_X7_isEvent hk0 (by decide) rfl (cf_7 hk0 _) rfl kl_X7_329 ⟨Nat.le_of_ble_eq_true rfl, Nat.le_of_ble_eq_true rfl⟩ ⟨Nat.zero_le _, Nat.zero_le _⟩ hl.1 rfl (Nat.le_of_ble_eq_true rfl) dX7_saves_10 rfl) (fun v4 => ?_)
    refine q_if_ne C 19 dX7_saves_13 (by decide) ?_ ?_
    · refine q_iconst C dX7_saves_19 rfl (by decide) (fun v5 => ?_)
      refine q_istore_n C [(2, .int v5), (0, .ref (gad G k0)), (1, .int a1)] dX7_saves_20 rfl hl (by decide) rfl (fun ls hl => ?_)
      refine q_iconst C dX7_saves_21 rfl (by decide) (fun v6 => ?_)
      refine q_istore_n C [(3, .int v6), (2, .int v5), (0, .ref (gad G k0)), (1, .int a1)] dX7_saves_22 rfl hl (by decide) rfl (fun ls hl => ?_)
      exact B23 F v5 v6 σ1 ls (lv_sub hl [2, 3, 1, 0] rfl)
    · refine q_bipush C dX7_saves_16 rfl (by decide) (fun v33 => ?_)
      exact q_iretE C hr hlo dX7_saves_18
def f_X7_work_L15 (F : Nat) (k0 : Nat) (a1 : Int)   : Nat → Int → Int → St → Option (Int × St)
  | 0, _, _, _ => none
  | n + 1, x4, x5, σ =>
    z_gt (σ k0 28) fun v6 =>
    if v6 ≤ x5 then (
      some (x4, σ))
    else (
      z_c1 (f_X7_keptTill F k0 x5 a1 σ) fun v7 =>
      z_ck (x4 + v7) fun v8 =>
      z_ck (x5 + 1) fun v9 =>
      f_X7_work_L15 F k0 a1 n v8 v9 σ)

def f_X7_work (F : Nat) (k0 : Nat) (a1 : Int) (σ : St) : Option (Int × St) :=
  z_ob 7 k0 <| 
  z_c2 (f_X7_asksAt F k0 a1 σ) fun v1 σ1 =>
  if ¬ v1 = 0 then (
    z_gt 0 fun v2 =>
    z_gt 0 fun v3 =>
    f_X7_work_L15 F k0 a1 F v2 v3 σ1)
  else (
    z_gt (-2) fun v10 =>
    some (v10, σ1))
theorem cb_X7_work : CB yX7_work cX7_work 4 (some .int) 1 := ⟨ki_X7_work, kq_X7_work, kn_X7, kc_X7_work, by decide +kernel, by decide +kernel, by decide +kernel⟩
set_option maxRecDepth 20000 in
set_option maxHeartbeats 4000000 in
theorem m_X7_work (l : Launch) (G : GG) (F : Nat) (k0 : Nat) (a1 : Int32) (σ : St) : ∀ r, f_X7_work F k0 a1.toInt σ = some r → MC G l yX7_work cX7_work 4 (some .int) { frames := 8, cells := 0, slots := 0, locals := 178 } [.ref (gad G k0), .int a1] σ (vI r.1) r.2 := by
  refine MC_of (own := RX7) (fun r : Int × St => vI r.1) (fun r : Int × St => r.2) (by decide +kernel) rfl (Nat.le_of_ble_eq_true rfl) ?_
  intro p e s m args below meth c C hr hlo ls hl
  have hl : lv_has ls 4 [(0, .ref (gad G k0)), (1, .int a1)] := hl
  unfold f_X7_work
  refine q_ob (fun hk0 => ?_)
  have B15 : ∀ (n : Nat) (x4 : Int32) (x5 : Int32) (σ : St) (ls : Array Slot), lv_has ls 4 [(0, .ref (gad G k0)), (1, .int a1), (2, .int x4), (3, .int x5)] → Sim G (AG G) 0 0 p l e { frames := 8, cells := 0, slots := 0, locals := 178 } s m args below meth c (fun r : Int × St => MQ below (QC G (vI r.1) (r.2)) args s 0 0 (AG G)) σ (f_X7_work_L15 F k0 a1.toInt   n x4.toInt x5.toInt σ) (F0 m 15 ls []) := by
    intro n
    induction n with
    | zero =>
      intro x4 x5 σ ls hl
      exact sim_none
    | succ n ih =>
      intro x4 x5 σ ls hl
      rw [f_X7_work_L15]
      refine q_iload_n C dX7_work_15 rfl (lv_at hl 3 rfl) ?_
      refine q_aload_n C dX7_work_16 rfl (lv_at hl 0 rfl) ?_
      refine g_7_28 C hk0 kf_X7_257 dX7_work_17 (fun v6 => ?_)
      refine q_icmp_ge C 38 dX7_work_20 (by decide) ?_ ?_
      · refine q_iload_n C dX7_work_38 rfl (lv_at hl 2 rfl) ?_
        exact q_iretE C hr hlo dX7_work_39
      · refine q_iload_n C dX7_work_23 rfl (lv_at hl 2 rfl) ?_
        refine q_aload_n C dX7_work_24 rfl (lv_at hl 0 rfl) ?_
        refine q_iload_n C dX7_work_25 rfl (lv_at hl 3 rfl) ?_
        refine q_iload_n C dX7_work_26 rfl (lv_at hl 1 rfl) ?_
        refine q_c1i C (fun r h => cr_V (As := [.int x5, .int a1]) (rest := [.int x4]) C (m_X7_keptTill l G F k0 x5 a1 σ r h) cb_X7_keptTill hk0 (by decide) rfl (cf_7 hk0 _) rfl kl_X7_364 ⟨Nat.le_of_ble_eq_true rfl, Nat.le_of_ble_eq_true rfl⟩ ⟨Nat.zero_le _, Nat.zero_le _⟩ hl.1 rfl (Nat.le_of_ble_eq_true rfl) dX7_work_27 rfl) (fun v7 => ?_)
        refine q_iadd C dX7_work_30 (fun v8 => ?_)
        refine q_istore_n C [(2, .int v8), (0, .ref (gad G k0)), (1, .int a1), (3, .int x5)] dX7_work_31 rfl hl (by decide) rfl (fun ls hl => ?_)
        refine q_iinc (k := 3) C (fun v9 => [(3, .int v9), (2, .int v8), (0, .ref (gad G k0)), (1, .int a1)]) dX7_work_32 hl rfl (by decide) (by decide) (fun _ => rfl) (fun v9 ls hl => ?_)
        refine q_goto C 15 dX7_work_35 (by decide) ?_
        exact ih v8 v9 σ ls (lv_sub hl [2, 3, 1, 0] rfl)
  refine q_aload_n C dX7_work_0 rfl (lv_at hl 0 rfl) ?_
  refine q_iload_n C dX7_work_1 rfl (lv_at hl 1 rfl) ?_
  refine q_c2i C (fun r h => cr_V (As := [.int a1]) (rest := []) C (m_X7_asksAt l G F k0 a1 σ r h) cb_X7_asksAt hk0 (by decide) rfl (cf_7 hk0 _) rfl kl_X7_323 ⟨Nat.le_of_ble_eq_true rfl, Nat.le_of_ble_eq_true rfl⟩ ⟨Nat.zero_le _, Nat.zero_le _⟩ hl.1 rfl (Nat.le_of_ble_eq_true rfl) dX7_work_2 rfl) (fun v1 σ1 => ?_)
  refine q_if_ne C 11 dX7_work_5 (by decide) ?_ ?_
  · refine q_iconst C dX7_work_11 rfl (by decide) (fun v2 => ?_)
    refine q_istore_n C [(2, .int v2), (0, .ref (gad G k0)), (1, .int a1)] dX7_work_12 rfl hl (by decide) rfl (fun ls hl => ?_)
    refine q_iconst C dX7_work_13 rfl (by decide) (fun v3 => ?_)
    refine q_istore_n C [(3, .int v3), (2, .int v2), (0, .ref (gad G k0)), (1, .int a1)] dX7_work_14 rfl hl (by decide) rfl (fun ls hl => ?_)
    exact B15 F v2 v3 σ1 ls (lv_sub hl [2, 3, 1, 0] rfl)
  · refine q_bipush C dX7_work_8 rfl (by decide) (fun v10 => ?_)
    exact q_iretE C hr hlo dX7_work_10
def f_X7_wasted_L15 (F : Nat) (k0 : Nat) (a1 : Int)   : Nat → Int → Int → St → Option (Int × St)
  | 0, _, _, _ => none
  | n + 1, x4, x5, σ =>
    z_gt (σ k0 28) fun v6 =>
    if v6 ≤ x5 then (
      some (x4, σ))
    else (
      z_ix x5 60 <| z_gt (σ (k0 + 12) x5) fun v7 =>
      z_gt 2 fun v8 =>
      if ¬ v7 = v8 then (
        z_gt 0 fun v9 =>
        z_ck (x4 + v9) fun v10 =>
        z_ck (x5 + 1) fun v11 =>
        f_X7_wasted_L15 F k0 a1 n v10 v11 σ)
      else (
        z_ix x5 60 <| z_gt (σ (k0 + 13) x5) fun v12 =>
        if a1 < v12 then (
          z_gt 0 fun v13 =>
          z_ck (x4 + v13) fun v14 =>
          z_ck (x5 + 1) fun v15 =>
          f_X7_wasted_L15 F k0 a1 n v14 v15 σ)
        else (
          z_ix x5 60 <| z_gt (σ (k0 + 14) x5) fun v16 =>
          z_ck (x4 + v16) fun v17 =>
          z_ck (x5 + 1) fun v18 =>
          f_X7_wasted_L15 F k0 a1 n v17 v18 σ)))

def f_X7_wasted (F : Nat) (k0 : Nat) (a1 : Int) (σ : St) : Option (Int × St) :=
  z_ob 7 k0 <| 
  z_c2 (f_X7_asksAt F k0 a1 σ) fun v1 σ1 =>
  if ¬ v1 = 0 then (
    z_gt 0 fun v2 =>
    z_gt 0 fun v3 =>
    f_X7_wasted_L15 F k0 a1 F v2 v3 σ1)
  else (
    z_gt (-2) fun v19 =>
    some (v19, σ1))
theorem cb_X7_wasted : CB yX7_wasted cX7_wasted 4 (some .int) 1 := ⟨ki_X7_wasted, kq_X7_wasted, kn_X7, kc_X7_wasted, by decide +kernel, by decide +kernel, by decide +kernel⟩
set_option maxRecDepth 20000 in
set_option maxHeartbeats 4000000 in
theorem m_X7_wasted (l : Launch) (G : GG) (F : Nat) (k0 : Nat) (a1 : Int32) (σ : St) : ∀ r, f_X7_wasted F k0 a1.toInt σ = some r → MC G l yX7_wasted cX7_wasted 4 (some .int) { frames := 8, cells := 0, slots := 0, locals := 178 } [.ref (gad G k0), .int a1] σ (vI r.1) r.2 := by
  refine MC_of (own := RX7) (fun r : Int × St => vI r.1) (fun r : Int × St => r.2) (by decide +kernel) rfl (Nat.le_of_ble_eq_true rfl) ?_
  intro p e s m args below meth c C hr hlo ls hl
  have hl : lv_has ls 4 [(0, .ref (gad G k0)), (1, .int a1)] := hl
  unfold f_X7_wasted
  refine q_ob (fun hk0 => ?_)
  have B15 : ∀ (n : Nat) (x4 : Int32) (x5 : Int32) (σ : St) (ls : Array Slot), lv_has ls 4 [(0, .ref (gad G k0)), (1, .int a1), (2, .int x4), (3, .int x5)] → Sim G (AG G) 0 0 p l e { frames := 8, cells := 0, slots := 0, locals := 178 } s m args below meth c (fun r : Int × St => MQ below (QC G (vI r.1) (r.2)) args s 0 0 (AG G)) σ (f_X7_wasted_L15 F k0 a1.toInt   n x4.toInt x5.toInt σ) (F0 m 15 ls []) := by
    intro n
    induction n with
    | zero =>
      intro x4 x5 σ ls hl
      exact sim_none
    | succ n ih =>
      intro x4 x5 σ ls hl
      rw [f_X7_wasted_L15]
      refine q_iload_n C dX7_wasted_15 rfl (lv_at hl 3 rfl) ?_
      refine q_aload_n C dX7_wasted_16 rfl (lv_at hl 0 rfl) ?_
      refine g_7_28 C hk0 kf_X7_257 dX7_wasted_17 (fun v6 => ?_)
      refine q_icmp_ge C 62 dX7_wasted_20 (by decide) ?_ ?_
      · refine q_iload_n C dX7_wasted_62 rfl (lv_at hl 2 rfl) ?_
        exact q_iretE C hr hlo dX7_wasted_63
      · refine q_iload_n C dX7_wasted_23 rfl (lv_at hl 2 rfl) ?_
        refine q_aload_n C dX7_wasted_24 rfl (lv_at hl 0 rfl) ?_
        refine g_7_20 C hk0 kf_X7_49 dX7_wasted_25 ?_
        refine q_iload_n C dX7_wasted_28 rfl (lv_at hl 3 rfl) ?_
        refine a_ild C (yk_7_20 hk0) (yl_7_20 hk0) dX7_wasted_29 (fun v7 => ?_)
        refine q_iconst C dX7_wasted_30 rfl (by decide) (fun v8 => ?_)
        refine q_icmp_ne C 53 dX7_wasted_31 (by decide) ?_ ?_
        · refine q_iconst C dX7_wasted_53 rfl (by decide) (fun v9 => ?_)
          refine q_iadd C dX7_wasted_54 (fun v10 => ?_)
          refine q_istore_n C [(2, .int v10), (0, .ref (gad G k0)), (1, .int a1), (3, .int x5)] dX7_wasted_55 rfl hl (by decide) rfl (fun ls hl => ?_)
          refine q_iinc (k := 3) C (fun v11 => [(3, .int v11), (2, .int v10), (0, .ref (gad G k0)), (1, .int a1)]) dX7_wasted_56 hl rfl (by decide) (by decide) (fun _ => rfl) (fun v11 ls hl => ?_)
          refine q_goto C 15 dX7_wasted_59 (by decide) ?_
          exact ih v10 v11 σ ls (lv_sub hl [2, 3, 1, 0] rfl)
        · refine q_aload_n C dX7_wasted_34 rfl (lv_at hl 0 rfl) ?_
          refine g_7_21 C hk0 kf_X7_52 dX7_wasted_35 ?_
          refine q_iload_n C dX7_wasted_38 rfl (lv_at hl 3 rfl) ?_
          refine a_ild C (yk_7_21 hk0) (yl_7_21 hk0) dX7_wasted_39 (fun v12 => ?_)
          refine q_iload_n C dX7_wasted_40 rfl (lv_at hl 1 rfl) ?_
          refine q_icmp_gt C 53 dX7_wasted_41 (by decide) ?_ ?_
          · refine q_iconst C dX7_wasted_53 rfl (by decide) (fun v13 => ?_)
            refine q_iadd C dX7_wasted_54 (fun v14 => ?_)
            refine q_istore_n C [(2, .int v14), (0, .ref (gad G k0)), (1, .int a1), (3, .int x5)] dX7_wasted_55 rfl hl (by decide) rfl (fun ls hl => ?_)
            refine q_iinc (k := 3) C (fun v15 => [(3, .int v15), (2, .int v14), (0, .ref (gad G k0)), (1, .int a1)]) dX7_wasted_56 hl rfl (by decide) (by decide) (fun _ => rfl) (fun v15 ls hl => ?_)
            refine q_goto C 15 dX7_wasted_59 (by decide) ?_
            exact ih v14 v15 σ ls (lv_sub hl [2, 3, 1, 0] rfl)
          · refine q_aload_n C dX7_wasted_44 rfl (lv_at hl 0 rfl) ?_
            refine g_7_22 C hk0 kf_X7_55 dX7_wasted_45 ?_
            refine q_iload_n C dX7_wasted_48 rfl (lv_at hl 3 rfl) ?_
            refine a_ild C (yk_7_22 hk0) (yl_7_22 hk0) dX7_wasted_49 (fun v16 => ?_)
            refine q_goto C 54 dX7_wasted_50 (by decide) ?_
            refine q_iadd C dX7_wasted_54 (fun v17 => ?_)
            refine q_istore_n C [(2, .int v17), (0, .ref (gad G k0)), (1, .int a1), (3, .int x5)] dX7_wasted_55 rfl hl (by decide) rfl (fun ls hl => ?_)
            refine q_iinc (k := 3) C (fun v18 => [(3, .int v18), (2, .int v17), (0, .ref (gad G k0)), (1, .int a1)]) dX7_wasted_56 hl rfl (by decide) (by decide) (fun _ => rfl) (fun v18 ls hl => ?_)
            refine q_goto C 15 dX7_wasted_59 (by decide) ?_
            exact ih v17 v18 σ ls (lv_sub hl [2, 3, 1, 0] rfl)
  refine q_aload_n C dX7_wasted_0 rfl (lv_at hl 0 rfl) ?_
  refine q_iload_n C dX7_wasted_1 rfl (lv_at hl 1 rfl) ?_
  refine q_c2i C (fun r h => cr_V (As := [.int a1]) (rest := []) C (m_X7_asksAt l G F k0 a1 σ r h) cb_X7_asksAt hk0 (by decide) rfl (cf_7 hk0 _) rfl kl_X7_323 ⟨Nat.le_of_ble_eq_true rfl, Nat.le_of_ble_eq_true rfl⟩ ⟨Nat.zero_le _, Nat.zero_le _⟩ hl.1 rfl (Nat.le_of_ble_eq_true rfl) dX7_wasted_2 rfl) (fun v1 σ1 => ?_)
  refine q_if_ne C 11 dX7_wasted_5 (by decide) ?_ ?_
  · refine q_iconst C dX7_wasted_11 rfl (by decide) (fun v2 => ?_)
    refine q_istore_n C [(2, .int v2), (0, .ref (gad G k0)), (1, .int a1)] dX7_wasted_12 rfl hl (by decide) rfl (fun ls hl => ?_)
    refine q_iconst C dX7_wasted_13 rfl (by decide) (fun v3 => ?_)
    refine q_istore_n C [(3, .int v3), (2, .int v2), (0, .ref (gad G k0)), (1, .int a1)] dX7_wasted_14 rfl hl (by decide) rfl (fun ls hl => ?_)
    exact B15 F v2 v3 σ1 ls (lv_sub hl [2, 3, 1, 0] rfl)
  · refine q_bipush C dX7_wasted_8 rfl (by decide) (fun v19 => ?_)
    exact q_iretE C hr hlo dX7_wasted_10
def f_X7_isLinked_L30 (F : Nat) (k0 : Nat) (a1 : Int) (a2 : Int)  (σ : St) : Nat → Int → Int → Option (Int)
  | 0, _, _ => none
  | n + 1, x6, x7 =>
    z_gt (σ k0 28) fun v8 =>
    if v8 ≤ x7 then (
      z_bo x6 <| some x6)
    else (
      z_c1 (f_X7_isWholeBy F k0 x7 a2 σ) fun v9 =>
      if v9 = 0 then (
        z_ck (x7 + 1) fun v10 =>
        f_X7_isLinked_L30 F k0 a1 a2 σ n x6 v10)
      else (
        z_ix x7 60 <| z_gt (σ (k0 + 10) x7) fun v11 =>
        if ¬ v11 = 0 then (
          if x7 ≤ a1 then (
            z_gt 1 fun v12 =>
            z_ck (x7 + 1) fun v13 =>
            f_X7_isLinked_L30 F k0 a1 a2 σ n v12 v13)
          else (
            z_gt 0 fun v14 =>
            z_bo v14 <| some v14))
        else (
          z_ck (x7 + 1) fun v15 =>
          f_X7_isLinked_L30 F k0 a1 a2 σ n x6 v15)))

def f_X7_isLinked (F : Nat) (k0 : Nat) (a1 : Int) (a2 : Int) (σ : St) : Option (Int) :=
  z_ob 7 k0 <| 
  z_c1 (f_X7_isWholeBy F k0 a1 a2 σ) fun v1 =>
  if ¬ v1 = 0 then (
    z_ix a1 60 <| z_gt (σ (k0 + 10) a1) fun v2 =>
    z_gt 1 fun v3 =>
    if ¬ v2 = v3 then (
      z_gt 0 fun v4 =>
      z_gt 0 fun v5 =>
      f_X7_isLinked_L30 F k0 a1 a2 σ F v4 v5)
    else (
      z_gt 1 fun v16 =>
      z_gt 0 fun v17 =>
      f_X7_isLinked_L30 F k0 a1 a2 σ F v16 v17))
  else (
    z_gt 0 fun v18 =>
    z_bo v18 <| some v18)
theorem cb_X7_isLinked : CB yX7_isLinked cX7_isLinked 5 (some .boolean) 2 := ⟨ki_X7_isLinked, kq_X7_isLinked, kn_X7, kc_X7_isLinked, by decide +kernel, by decide +kernel, by decide +kernel⟩
set_option maxRecDepth 20000 in
set_option maxHeartbeats 4000000 in
theorem m_X7_isLinked (l : Launch) (G : GG) (F : Nat) (k0 : Nat) (a1 : Int32) (a2 : Int32) (σ : St) : ∀ r, f_X7_isLinked F k0 a1.toInt a2.toInt σ = some r → MC G l yX7_isLinked cX7_isLinked 5 (some .boolean) { frames := 1, cells := 0, slots := 0, locals := 22 } [.ref (gad G k0), .int a1, .int a2] σ (vI r) σ := by
  refine MC_of (own := RX7) (vI) (fun _ => σ) (by decide +kernel) rfl (Nat.le_of_ble_eq_true rfl) ?_
  intro p e s m args below meth c C hr hlo ls hl
  have hl : lv_has ls 5 [(0, .ref (gad G k0)), (1, .int a1), (2, .int a2)] := hl
  unfold f_X7_isLinked
  refine q_ob (fun hk0 => ?_)
  have B30 : ∀ (n : Nat) (x6 : Int32) (x7 : Int32) (ls : Array Slot), lv_has ls 5 [(0, .ref (gad G k0)), (1, .int a1), (2, .int a2), (3, .int x6), (4, .int x7)] → Sim G (AG G) 0 0 p l e { frames := 1, cells := 0, slots := 0, locals := 22 } s m args below meth c (fun r : Int => MQ below (QC G (vI r) (σ)) args s 0 0 (AG G)) σ (f_X7_isLinked_L30 F k0 a1.toInt a2.toInt  σ n x6.toInt x7.toInt) (F0 m 30 ls []) := by
    intro n
    induction n with
    | zero =>
      intro x6 x7 ls hl
      exact sim_none
    | succ n ih =>
      intro x6 x7 ls hl
      rw [f_X7_isLinked_L30]
      refine q_iload C dX7_isLinked_30 (lv_at hl 4 rfl) ?_
      refine q_aload_n C dX7_isLinked_32 rfl (lv_at hl 0 rfl) ?_
      refine g_7_28 C hk0 kf_X7_257 dX7_isLinked_33 (fun v8 => ?_)
      refine q_icmp_ge C 78 dX7_isLinked_36 (by decide) ?_ ?_
      · refine q_iload_n C dX7_isLinked_78 rfl (lv_at hl 3 rfl) ?_
        exact q_zret C hr hlo dX7_isLinked_79
      · refine q_aload_n C dX7_isLinked_39 rfl (lv_at hl 0 rfl) ?_
        refine q_iload C dX7_isLinked_40 (lv_at hl 4 rfl) ?_
        refine q_iload_n C dX7_isLinked_42 rfl (lv_at hl 2 rfl) ?_
        refine q_c1i C (fun r h => cr_V (As := [.int x7, .int a2]) (rest := []) C (m_X7_isWholeBy l G F k0 x7 a2 σ r h) cb_X7_isWholeBy hk0 (by decide) rfl (cf_7 hk0 _) rfl kl_X7_260 ⟨Nat.le_of_ble_eq_true rfl, Nat.le_of_ble_eq_true rfl⟩ ⟨Nat.zero_le _, Nat.zero_le _⟩ hl.1 rfl (Nat.le_of_ble_eq_true rfl) dX7_isLinked_43 rfl) (fun v9 => ?_)
        refine q_if_eq C 72 dX7_isLinked_46 (by decide) ?_ ?_
        · refine q_iinc (k := 4) C (fun v10 => [(4, .int v10), (0, .ref (gad G k0)), (1, .int a1), (2, .int a2), (3, .int x6)]) dX7_isLinked_72 hl rfl (by decide) (by decide) (fun _ => rfl) (fun v10 ls hl => ?_)
          refine q_goto C 30 dX7_isLinked_75 (by decide) ?_
          exact ih x6 v10 ls (lv_sub hl [1, 2, 3, 4, 0] rfl)
        · refine q_aload_n C dX7_isLinked_49 rfl (lv_at hl 0 rfl) ?_
          refine g_7_18 C hk0 kf_X7_43 dX7_isLinked_50 ?_
          refine q_iload C dX7_isLinked_53 (lv_at hl 4 rfl) ?_
          refine a_ild C (yk_7_18 hk0) (yl_7_18 hk0) dX7_isLinked_55 (fun v11 => ?_)
          refine q_if_ne C 62 dX7_isLinked_56 (by decide) ?_ ?_
          · refine q_iload C dX7_isLinked_62 (lv_at hl 4 rfl) ?_
            refine q_iload_n C dX7_isLinked_64 rfl (lv_at hl 1 rfl) ?_
            refine q_icmp_le C 70 dX7_isLinked_65 (by decide) ?_ ?_
            · refine q_iconst C dX7_isLinked_70 rfl (by decide) (fun v12 => ?_)
              refine q_istore_n C [(3, .int v12), (0, .ref (gad G k0)), (1, .int a1), (2, .int a2), (4, .int x7)] dX7_isLinked_71 rfl hl (by decide) rfl (fun ls hl => ?_)
              refine q_iinc (k := 4) C (fun v13 => [(4, .int v13), (3, .int v12), (0, .ref (gad G k0)), (1, .int a1), (2, .int a2)]) dX7_isLinked_72 hl rfl (by decide) (by decide) (fun _ => rfl) (fun v13 ls hl => ?_)
              refine q_goto C 30 dX7_isLinked_75 (by decide) ?_
              exact ih v12 v13 ls (lv_sub hl [2, 3, 4, 1, 0] rfl)
            · refine q_iconst C dX7_isLinked_68 rfl (by decide) (fun v14 => ?_)
              exact q_zret C hr hlo dX7_isLinked_69
          · refine q_goto C 72 dX7_isLinked_59 (by decide) ?_
            refine q_iinc (k := 4) C (fun v15 => [(4, .int v15), (0, .ref (gad G k0)), (1, .int a1), (2, .int a2), (3, .int x6)]) dX7_isLinked_72 hl rfl (by decide) (by decide) (fun _ => rfl) (fun v15 ls hl => ?_)
            refine q_goto C 30 dX7_isLinked_75 (by decide) ?_
            exact ih x6 v15 ls (lv_sub hl [1, 2, 3, 4, 0] rfl)
  refine q_aload_n C dX7_isLinked_0 rfl (lv_at hl 0 rfl) ?_
  refine q_iload_n C dX7_isLinked_1 rfl (lv_at hl 1 rfl) ?_
  refine q_iload_n C dX7_isLinked_2 rfl (lv_at hl 2 rfl) ?_
  refine q_c1i C (fun r h => cr_V (As := [.int a1, .int a2]) (rest := []) C (m_X7_isWholeBy l G F k0 a1 a2 σ r h) cb_X7_isWholeBy hk0 (by decide) rfl (cf_7 hk0 _) rfl kl_X7_260 ⟨Nat.le_of_ble_eq_true rfl, Nat.le_of_ble_eq_true rfl⟩ ⟨Nat.zero_le _, Nat.zero_le _⟩ hl.1 rfl (Nat.le_of_ble_eq_true rfl) dX7_isLinked_3 rfl) (fun v1 => ?_)
  refine q_if_ne C 11 dX7_isLinked_6 (by decide) ?_ ?_
  · refine q_aload_n C dX7_isLinked_11 rfl (lv_at hl 0 rfl) ?_
    refine g_7_18 C hk0 kf_X7_43 dX7_isLinked_12 ?_
    refine q_iload_n C dX7_isLinked_15 rfl (lv_at hl 1 rfl) ?_
    refine a_ild C (yk_7_18 hk0) (yl_7_18 hk0) dX7_isLinked_16 (fun v2 => ?_)
    refine q_iconst C dX7_isLinked_17 rfl (by decide) (fun v3 => ?_)
    refine q_icmp_ne C 25 dX7_isLinked_18 (by decide) ?_ ?_
    · refine q_iconst C dX7_isLinked_25 rfl (by decide) (fun v4 => ?_)
      refine q_istore_n C [(3, .int v4), (0, .ref (gad G k0)), (1, .int a1), (2, .int a2)] dX7_isLinked_26 rfl hl (by decide) rfl (fun ls hl => ?_)
      refine q_iconst C dX7_isLinked_27 rfl (by decide) (fun v5 => ?_)
      refine q_istore C [(4, .int v5), (3, .int v4), (0, .ref (gad G k0)), (1, .int a1), (2, .int a2)] dX7_isLinked_28 hl (by decide) rfl (fun ls hl => ?_)
      exact B30 F v4 v5 ls (lv_sub hl [2, 3, 4, 1, 0] rfl)
    · refine q_iconst C dX7_isLinked_21 rfl (by decide) (fun v16 => ?_)
      refine q_goto C 26 dX7_isLinked_22 (by decide) ?_
      refine q_istore_n C [(3, .int v16), (0, .ref (gad G k0)), (1, .int a1), (2, .int a2)] dX7_isLinked_26 rfl hl (by decide) rfl (fun ls hl => ?_)
      refine q_iconst C dX7_isLinked_27 rfl (by decide) (fun v17 => ?_)
      refine q_istore C [(4, .int v17), (3, .int v16), (0, .ref (gad G k0)), (1, .int a1), (2, .int a2)] dX7_isLinked_28 hl (by decide) rfl (fun ls hl => ?_)
      exact B30 F v16 v17 ls (lv_sub hl [2, 3, 4, 1, 0] rfl)
  · refine q_iconst C dX7_isLinked_9 rfl (by decide) (fun v18 => ?_)
    exact q_zret C hr hlo dX7_isLinked_10
def f_X7_chainAt_L4 (F : Nat) (k0 : Nat) (a1 : Int)  (σ : St) : Nat → Int → Int → Option (Int)
  | 0, _, _ => none
  | n + 1, x3, x4 =>
    z_gt (σ k0 28) fun v5 =>
    if v5 ≤ x4 then (
      some x3)
    else (
      z_c1 (f_X7_isLinked F k0 x4 a1 σ) fun v6 =>
      if v6 = 0 then (
        z_gt 0 fun v7 =>
        z_ck (x3 + v7) fun v8 =>
        z_ck (x4 + 1) fun v9 =>
        f_X7_chainAt_L4 F k0 a1 σ n v8 v9)
      else (
        z_gt 1 fun v10 =>
        z_ck (x3 + v10) fun v11 =>
        z_ck (x4 + 1) fun v12 =>
        f_X7_chainAt_L4 F k0 a1 σ n v11 v12))

def f_X7_chainAt (F : Nat) (k0 : Nat) (a1 : Int) (σ : St) : Option (Int) :=
  z_ob 7 k0 <| 
  z_gt 0 fun v1 =>
  z_gt 0 fun v2 =>
  f_X7_chainAt_L4 F k0 a1 σ F v1 v2
theorem cb_X7_chainAt : CB yX7_chainAt cX7_chainAt 4 (some .int) 1 := ⟨ki_X7_chainAt, kq_X7_chainAt, kn_X7, kc_X7_chainAt, by decide +kernel, by decide +kernel, by decide +kernel⟩
set_option maxRecDepth 20000 in
set_option maxHeartbeats 4000000 in
theorem m_X7_chainAt (l : Launch) (G : GG) (F : Nat) (k0 : Nat) (a1 : Int32) (σ : St) : ∀ r, f_X7_chainAt F k0 a1.toInt σ = some r → MC G l yX7_chainAt cX7_chainAt 4 (some .int) { frames := 2, cells := 0, slots := 0, locals := 46 } [.ref (gad G k0), .int a1] σ (vI r) σ := by
  refine MC_of (own := RX7) (vI) (fun _ => σ) (by decide +kernel) rfl (Nat.le_of_ble_eq_true rfl) ?_
  intro p e s m args below meth c C hr hlo ls hl
  have hl : lv_has ls 4 [(0, .ref (gad G k0)), (1, .int a1)] := hl
  unfold f_X7_chainAt
  refine q_ob (fun hk0 => ?_)
  have B4 : ∀ (n : Nat) (x3 : Int32) (x4 : Int32) (ls : Array Slot), lv_has ls 4 [(0, .ref (gad G k0)), (1, .int a1), (2, .int x3), (3, .int x4)] → Sim G (AG G) 0 0 p l e { frames := 2, cells := 0, slots := 0, locals := 46 } s m args below meth c (fun r : Int => MQ below (QC G (vI r) (σ)) args s 0 0 (AG G)) σ (f_X7_chainAt_L4 F k0 a1.toInt  σ n x3.toInt x4.toInt) (F0 m 4 ls []) := by
    intro n
    induction n with
    | zero =>
      intro x3 x4 ls hl
      exact sim_none
    | succ n ih =>
      intro x3 x4 ls hl
      rw [f_X7_chainAt_L4]
      refine q_iload_n C dX7_chainAt_4 rfl (lv_at hl 3 rfl) ?_
      refine q_aload_n C dX7_chainAt_5 rfl (lv_at hl 0 rfl) ?_
      refine g_7_28 C hk0 kf_X7_257 dX7_chainAt_6 (fun v5 => ?_)
      refine q_icmp_ge C 35 dX7_chainAt_9 (by decide) ?_ ?_
      · refine q_iload_n C dX7_chainAt_35 rfl (lv_at hl 2 rfl) ?_
        exact q_iret C hr hlo dX7_chainAt_36
      · refine q_iload_n C dX7_chainAt_12 rfl (lv_at hl 2 rfl) ?_
        refine q_aload_n C dX7_chainAt_13 rfl (lv_at hl 0 rfl) ?_
        refine q_iload_n C dX7_chainAt_14 rfl (lv_at hl 3 rfl) ?_
        refine q_iload_n C dX7_chainAt_15 rfl (lv_at hl 1 rfl) ?_
        refine q_c1i C (fun r h => cr_V (As := [.int x4, .int a1]) (rest := [.int x3]) C (m_X7_isLinked l G F k0 x4 a1 σ r h) cb_X7_isLinked hk0 (by decide) rfl (cf_7 hk0 _) rfl kl_X7_367 ⟨Nat.le_of_ble_eq_true rfl, Nat.le_of_ble_eq_true rfl⟩ ⟨Nat.zero_le _, Nat.zero_le _⟩ hl.1 rfl (Nat.le_of_ble_eq_true rfl) dX7_chainAt_16 rfl) (fun v6 => ?_)
        refine q_if_eq C 26 dX7_chainAt_19 (by decide) ?_ ?_
        · refine q_iconst C dX7_chainAt_26 rfl (by decide) (fun v7 => ?_)
          refine q_iadd C dX7_chainAt_27 (fun v8 => ?_)
          refine q_istore_n C [(2, .int v8), (0, .ref (gad G k0)), (1, .int a1), (3, .int x4)] dX7_chainAt_28 rfl hl (by decide) rfl (fun ls hl => ?_)
          refine q_iinc (k := 3) C (fun v9 => [(3, .int v9), (2, .int v8), (0, .ref (gad G k0)), (1, .int a1)]) dX7_chainAt_29 hl rfl (by decide) (by decide) (fun _ => rfl) (fun v9 ls hl => ?_)
          refine q_goto C 4 dX7_chainAt_32 (by decide) ?_
          exact ih v8 v9 ls (lv_sub hl [2, 3, 1, 0] rfl)
        · refine q_iconst C dX7_chainAt_22 rfl (by decide) (fun v10 => ?_)
          refine q_goto C 27 dX7_chainAt_23 (by decide) ?_
          refine q_iadd C dX7_chainAt_27 (fun v11 => ?_)
          refine q_istore_n C [(2, .int v11), (0, .ref (gad G k0)), (1, .int a1), (3, .int x4)] dX7_chainAt_28 rfl hl (by decide) rfl (fun ls hl => ?_)
          refine q_iinc (k := 3) C (fun v12 => [(3, .int v12), (2, .int v11), (0, .ref (gad G k0)), (1, .int a1)]) dX7_chainAt_29 hl rfl (by decide) (by decide) (fun _ => rfl) (fun v12 ls hl => ?_)
          refine q_goto C 4 dX7_chainAt_32 (by decide) ?_
          exact ih v11 v12 ls (lv_sub hl [2, 3, 1, 0] rfl)
  refine q_iconst C dX7_chainAt_0 rfl (by decide) (fun v1 => ?_)
  refine q_istore_n C [(2, .int v1), (0, .ref (gad G k0)), (1, .int a1)] dX7_chainAt_1 rfl hl (by decide) rfl (fun ls hl => ?_)
  refine q_iconst C dX7_chainAt_2 rfl (by decide) (fun v2 => ?_)
  refine q_istore_n C [(3, .int v2), (2, .int v1), (0, .ref (gad G k0)), (1, .int a1)] dX7_chainAt_3 rfl hl (by decide) rfl (fun ls hl => ?_)
  exact B4 F v1 v2 ls (lv_sub hl [2, 3, 1, 0] rfl)
def f_X7_linkedAt_L5 (F : Nat) (k0 : Nat) (a1 : Int) (a2 : Int)  (σ : St) : Nat → Int → Int → Option (Int)
  | 0, _, _ => none
  | n + 1, x3, x4 =>
    z_gt (σ k0 28) fun v5 =>
    if v5 ≤ x4 then (
      z_gt (-1) fun v6 =>
      some v6)
    else (
      z_c1 (f_X7_isLinked F k0 x4 a1 σ) fun v7 =>
      if ¬ v7 = 0 then (
        if ¬ x3 = a2 then (
          z_ck (x3 + 1) fun v8 =>
          z_ck (x4 + 1) fun v9 =>
          f_X7_linkedAt_L5 F k0 a1 a2 σ n v8 v9)
        else (
          some x4))
      else (
        z_ck (x4 + 1) fun v10 =>
        f_X7_linkedAt_L5 F k0 a1 a2 σ n x3 v10))

def f_X7_linkedAt (F : Nat) (k0 : Nat) (a1 : Int) (a2 : Int) (σ : St) : Option (Int) :=
  z_ob 7 k0 <| 
  z_gt 0 fun v1 =>
  z_gt 0 fun v2 =>
  f_X7_linkedAt_L5 F k0 a1 a2 σ F v1 v2
theorem cb_X7_linkedAt : CB yX7_linkedAt cX7_linkedAt 5 (some .int) 2 := ⟨ki_X7_linkedAt, kq_X7_linkedAt, kn_X7, kc_X7_linkedAt, by decide +kernel, by decide +kernel, by decide +kernel⟩
set_option maxRecDepth 20000 in
set_option maxHeartbeats 4000000 in
theorem m_X7_linkedAt (l : Launch) (G : GG) (F : Nat) (k0 : Nat) (a1 : Int32) (a2 : Int32) (σ : St) : ∀ r, f_X7_linkedAt F k0 a1.toInt a2.toInt σ = some r → MC G l yX7_linkedAt cX7_linkedAt 5 (some .int) { frames := 2, cells := 0, slots := 0, locals := 46 } [.ref (gad G k0), .int a1, .int a2] σ (vI r) σ := by
  refine MC_of (own := RX7) (vI) (fun _ => σ) (by decide +kernel) rfl (Nat.le_of_ble_eq_true rfl) ?_
  intro p e s m args below meth c C hr hlo ls hl
  have hl : lv_has ls 5 [(0, .ref (gad G k0)), (1, .int a1), (2, .int a2)] := hl
  unfold f_X7_linkedAt
  refine q_ob (fun hk0 => ?_)
  have B5 : ∀ (n : Nat) (x3 : Int32) (x4 : Int32) (ls : Array Slot), lv_has ls 5 [(0, .ref (gad G k0)), (1, .int a1), (2, .int a2), (3, .int x3), (4, .int x4)] → Sim G (AG G) 0 0 p l e { frames := 2, cells := 0, slots := 0, locals := 46 } s m args below meth c (fun r : Int => MQ below (QC G (vI r) (σ)) args s 0 0 (AG G)) σ (f_X7_linkedAt_L5 F k0 a1.toInt a2.toInt  σ n x3.toInt x4.toInt) (F0 m 5 ls []) := by
    intro n
    induction n with
    | zero =>
      intro x3 x4 ls hl
      exact sim_none
    | succ n ih =>
      intro x3 x4 ls hl
      rw [f_X7_linkedAt_L5]
      refine q_iload C dX7_linkedAt_5 (lv_at hl 4 rfl) ?_
      refine q_aload_n C dX7_linkedAt_7 rfl (lv_at hl 0 rfl) ?_
      refine g_7_28 C hk0 kf_X7_257 dX7_linkedAt_8 (fun v5 => ?_)
      refine q_icmp_ge C 44 dX7_linkedAt_11 (by decide) ?_ ?_
      · refine q_iconst C dX7_linkedAt_44 rfl (by decide) (fun v6 => ?_)
        exact q_iret C hr hlo dX7_linkedAt_45
      · refine q_aload_n C dX7_linkedAt_14 rfl (lv_at hl 0 rfl) ?_
        refine q_iload C dX7_linkedAt_15 (lv_at hl 4 rfl) ?_
        refine q_iload_n C dX7_linkedAt_17 rfl (lv_at hl 1 rfl) ?_
        refine q_c1i C (fun r h => cr_V (As := [.int x4, .int a1]) (rest := []) C (m_X7_isLinked l G F k0 x4 a1 σ r h) cb_X7_isLinked hk0 (by decide) rfl (cf_7 hk0 _) rfl kl_X7_367 ⟨Nat.le_of_ble_eq_true rfl, Nat.le_of_ble_eq_true rfl⟩ ⟨Nat.zero_le _, Nat.zero_le _⟩ hl.1 rfl (Nat.le_of_ble_eq_true rfl) dX7_linkedAt_18 rfl) (fun v7 => ?_)
        refine q_if_ne C 27 dX7_linkedAt_21 (by decide) ?_ ?_
        · refine q_iload_n C dX7_linkedAt_27 rfl (lv_at hl 3 rfl) ?_
          refine q_iload_n C dX7_linkedAt_28 rfl (lv_at hl 2 rfl) ?_
          refine q_icmp_ne C 35 dX7_linkedAt_29 (by decide) ?_ ?_
          · refine q_iinc (k := 3) C (fun v8 => [(3, .int v8), (0, .ref (gad G k0)), (1, .int a1), (2, .int a2), (4, .int x4)]) dX7_linkedAt_35 hl rfl (by decide) (by decide) (fun _ => rfl) (fun v8 ls hl => ?_)
            refine q_iinc (k := 4) C (fun v9 => [(4, .int v9), (3, .int v8), (0, .ref (gad G k0)), (1, .int a1), (2, .int a2)]) dX7_linkedAt_38 hl rfl (by decide) (by decide) (fun _ => rfl) (fun v9 ls hl => ?_)
            refine q_goto C 5 dX7_linkedAt_41 (by decide) ?_
            exact ih v8 v9 ls (lv_sub hl [2, 3, 4, 1, 0] rfl)
          · refine q_iload C dX7_linkedAt_32 (lv_at hl 4 rfl) ?_
            exact q_iret C hr hlo dX7_linkedAt_34
        · refine q_goto C 38 dX7_linkedAt_24 (by decide) ?_
          refine q_iinc (k := 4) C (fun v10 => [(4, .int v10), (0, .ref (gad G k0)), (1, .int a1), (2, .int a2), (3, .int x3)]) dX7_linkedAt_38 hl rfl (by decide) (by decide) (fun _ => rfl) (fun v10 ls hl => ?_)
          refine q_goto C 5 dX7_linkedAt_41 (by decide) ?_
          exact ih x3 v10 ls (lv_sub hl [1, 2, 3, 4, 0] rfl)
  refine q_iconst C dX7_linkedAt_0 rfl (by decide) (fun v1 => ?_)
  refine q_istore_n C [(3, .int v1), (0, .ref (gad G k0)), (1, .int a1), (2, .int a2)] dX7_linkedAt_1 rfl hl (by decide) rfl (fun ls hl => ?_)
  refine q_iconst C dX7_linkedAt_2 rfl (by decide) (fun v2 => ?_)
  refine q_istore C [(4, .int v2), (3, .int v1), (0, .ref (gad G k0)), (1, .int a1), (2, .int a2)] dX7_linkedAt_3 hl (by decide) rfl (fun ls hl => ?_)
  exact B5 F v1 v2 ls (lv_sub hl [2, 3, 4, 1, 0] rfl)
def f_X7_chain (F : Nat) (k0 : Nat) (a1 : Int) (σ : St) : Option (Int × St) :=
  z_ob 7 k0 <| 
  z_c2 (f_X7_asksAt F k0 a1 σ) fun v1 σ1 =>
  if v1 = 0 then (
    z_gt (-2) fun v2 =>
    some (v2, σ1))
  else (
    z_c1 (f_X7_chainAt F k0 a1 σ1) fun v3 =>
    some (v3, σ1))
theorem cb_X7_chain : CB yX7_chain cX7_chain 2 (some .int) 1 := ⟨ki_X7_chain, kq_X7_chain, kn_X7, kc_X7_chain, by decide +kernel, by decide +kernel, by decide +kernel⟩
set_option maxRecDepth 20000 in
set_option maxHeartbeats 4000000 in
theorem m_X7_chain (l : Launch) (G : GG) (F : Nat) (k0 : Nat) (a1 : Int32) (σ : St) : ∀ r, f_X7_chain F k0 a1.toInt σ = some r → MC G l yX7_chain cX7_chain 2 (some .int) { frames := 8, cells := 0, slots := 0, locals := 178 } [.ref (gad G k0), .int a1] σ (vI r.1) r.2 := by
  refine MC_of (own := RX7) (fun r : Int × St => vI r.1) (fun r : Int × St => r.2) (by decide +kernel) rfl (Nat.le_of_ble_eq_true rfl) ?_
  intro p e s m args below meth c C hr hlo ls hl
  have hl : lv_has ls 2 [(0, .ref (gad G k0)), (1, .int a1)] := hl
  unfold f_X7_chain
  refine q_ob (fun hk0 => ?_)
  refine q_aload_n C dX7_chain_0 rfl (lv_at hl 0 rfl) ?_
  refine q_iload_n C dX7_chain_1 rfl (lv_at hl 1 rfl) ?_
  refine q_c2i C (fun r h => cr_V (As := [.int a1]) (rest := []) C (m_X7_asksAt l G F k0 a1 σ r h) cb_X7_asksAt hk0 (by decide) rfl (cf_7 hk0 _) rfl kl_X7_323 ⟨Nat.le_of_ble_eq_true rfl, Nat.le_of_ble_eq_true rfl⟩ ⟨Nat.zero_le _, Nat.zero_le _⟩ hl.1 rfl (Nat.le_of_ble_eq_true rfl) dX7_chain_2 rfl) (fun v1 σ1 => ?_)
  refine q_if_eq C 16 dX7_chain_5 (by decide) ?_ ?_
  · refine q_bipush C dX7_chain_16 rfl (by decide) (fun v2 => ?_)
    exact q_iretE C hr hlo dX7_chain_18
  · refine q_aload_n C dX7_chain_8 rfl (lv_at hl 0 rfl) ?_
    refine q_iload_n C dX7_chain_9 rfl (lv_at hl 1 rfl) ?_
    refine q_c1i C (fun r h => cr_V (As := [.int a1]) (rest := []) C (m_X7_chainAt l G F k0 a1 σ1 r h) cb_X7_chainAt hk0 (by decide) rfl (cf_7 hk0 _) rfl kl_X7_370 ⟨Nat.le_of_ble_eq_true rfl, Nat.le_of_ble_eq_true rfl⟩ ⟨Nat.zero_le _, Nat.zero_le _⟩ hl.1 rfl (Nat.le_of_ble_eq_true rfl) dX7_chain_10 rfl) (fun v3 => ?_)
    refine q_goto C 18 dX7_chain_13 (by decide) ?_
    exact q_iretE C hr hlo dX7_chain_18
def f_X7_linked (F : Nat) (k0 : Nat) (a1 : Int) (a2 : Int) (σ : St) : Option (Int × St) :=
  z_ob 7 k0 <| 
  z_c2 (f_X7_asksAt F k0 a1 σ) fun v1 σ1 =>
  if v1 = 0 then (
    z_gt (-2) fun v2 =>
    some (v2, σ1))
  else (
    if a2 < 0 then (
      z_gt (-2) fun v3 =>
      some (v3, σ1))
    else (
      z_c1 (f_X7_linkedAt F k0 a1 a2 σ1) fun v4 =>
      some (v4, σ1)))
theorem cb_X7_linked : CB yX7_linked cX7_linked 3 (some .int) 2 := ⟨ki_X7_linked, kq_X7_linked, kn_X7, kc_X7_linked, by decide +kernel, by decide +kernel, by decide +kernel⟩
set_option maxRecDepth 20000 in
set_option maxHeartbeats 4000000 in
theorem m_X7_linked (l : Launch) (G : GG) (F : Nat) (k0 : Nat) (a1 : Int32) (a2 : Int32) (σ : St) : ∀ r, f_X7_linked F k0 a1.toInt a2.toInt σ = some r → MC G l yX7_linked cX7_linked 3 (some .int) { frames := 8, cells := 0, slots := 0, locals := 178 } [.ref (gad G k0), .int a1, .int a2] σ (vI r.1) r.2 := by
  refine MC_of (own := RX7) (fun r : Int × St => vI r.1) (fun r : Int × St => r.2) (by decide +kernel) rfl (Nat.le_of_ble_eq_true rfl) ?_
  intro p e s m args below meth c C hr hlo ls hl
  have hl : lv_has ls 3 [(0, .ref (gad G k0)), (1, .int a1), (2, .int a2)] := hl
  unfold f_X7_linked
  refine q_ob (fun hk0 => ?_)
  refine q_aload_n C dX7_linked_0 rfl (lv_at hl 0 rfl) ?_
  refine q_iload_n C dX7_linked_1 rfl (lv_at hl 1 rfl) ?_
  refine q_c2i C (fun r h => cr_V (As := [.int a1]) (rest := []) C (m_X7_asksAt l G F k0 a1 σ r h) cb_X7_asksAt hk0 (by decide) rfl (cf_7 hk0 _) rfl kl_X7_323 ⟨Nat.le_of_ble_eq_true rfl, Nat.le_of_ble_eq_true rfl⟩ ⟨Nat.zero_le _, Nat.zero_le _⟩ hl.1 rfl (Nat.le_of_ble_eq_true rfl) dX7_linked_2 rfl) (fun v1 σ1 => ?_)
  refine q_if_eq C 21 dX7_linked_5 (by decide) ?_ ?_
  · refine q_bipush C dX7_linked_21 rfl (by decide) (fun v2 => ?_)
    exact q_iretE C hr hlo dX7_linked_23
  · refine q_iload_n C dX7_linked_8 rfl (lv_at hl 2 rfl) ?_
    refine q_if_lt C 21 dX7_linked_9 (by decide) ?_ ?_
    · refine q_bipush C dX7_linked_21 rfl (by decide) (fun v3 => ?_)
      exact q_iretE C hr hlo dX7_linked_23
    · refine q_aload_n C dX7_linked_12 rfl (lv_at hl 0 rfl) ?_
      refine q_iload_n C dX7_linked_13 rfl (lv_at hl 1 rfl) ?_
      refine q_iload_n C dX7_linked_14 rfl (lv_at hl 2 rfl) ?_
      refine q_c1i C (fun r h => cr_V (As := [.int a1, .int a2]) (rest := []) C (m_X7_linkedAt l G F k0 a1 a2 σ1 r h) cb_X7_linkedAt hk0 (by decide) rfl (cf_7 hk0 _) rfl kl_X7_373 ⟨Nat.le_of_ble_eq_true rfl, Nat.le_of_ble_eq_true rfl⟩ ⟨Nat.zero_le _, Nat.zero_le _⟩ hl.1 rfl (Nat.le_of_ble_eq_true rfl) dX7_linked_15 rfl) (fun v4 => ?_)
      refine q_goto C 23 dX7_linked_18 (by decide) ?_
      exact q_iretE C hr hlo dX7_linked_23
def f_X7_replayFrom (F : Nat) (k0 : Nat) (a1 : Int) (σ : St) : Option (Int) :=
  z_ob 7 k0 <| 
  z_c1 (f_X7_chainAt F k0 a1 σ) fun v1 =>
  if ¬ v1 = 0 then (
    z_gt 1 fun v2 =>
    z_ck (v1 - v2) fun v3 =>
    z_c1 (f_X7_linkedAt F k0 a1 v3 σ) fun v4 =>
    z_ix v4 60 <| z_gt (σ (k0 + 11) v4) fun v5 =>
    some v5)
  else (
    z_gt 0 fun v6 =>
    some v6)
theorem cb_X7_replayFrom : CB yX7_replayFrom cX7_replayFrom 3 (some .int) 1 := ⟨ki_X7_replayFrom, kq_X7_replayFrom, kn_X7, kc_X7_replayFrom, by decide +kernel, by decide +kernel, by decide +kernel⟩
set_option maxRecDepth 20000 in
set_option maxHeartbeats 4000000 in
theorem m_X7_replayFrom (l : Launch) (G : GG) (F : Nat) (k0 : Nat) (a1 : Int32) (σ : St) : ∀ r, f_X7_replayFrom F k0 a1.toInt σ = some r → MC G l yX7_replayFrom cX7_replayFrom 3 (some .int) { frames := 3, cells := 0, slots := 0, locals := 70 } [.ref (gad G k0), .int a1] σ (vI r) σ := by
  refine MC_of (own := RX7) (vI) (fun _ => σ) (by decide +kernel) rfl (Nat.le_of_ble_eq_true rfl) ?_
  intro p e s m args below meth c C hr hlo ls hl
  have hl : lv_has ls 3 [(0, .ref (gad G k0)), (1, .int a1)] := hl
  unfold f_X7_replayFrom
  refine q_ob (fun hk0 => ?_)
  refine q_aload_n C dX7_replayFrom_0 rfl (lv_at hl 0 rfl) ?_
  refine q_iload_n C dX7_replayFrom_1 rfl (lv_at hl 1 rfl) ?_
  refine q_c1i C (fun r h => cr_V (As := [.int a1]) (rest := []) C (m_X7_chainAt l G F k0 a1 σ r h) cb_X7_chainAt hk0 (by decide) rfl (cf_7 hk0 _) rfl kl_X7_370 ⟨Nat.le_of_ble_eq_true rfl, Nat.le_of_ble_eq_true rfl⟩ ⟨Nat.zero_le _, Nat.zero_le _⟩ hl.1 rfl (Nat.le_of_ble_eq_true rfl) dX7_replayFrom_2 rfl) (fun v1 => ?_)
  refine q_istore_n C [(2, .int v1), (0, .ref (gad G k0)), (1, .int a1)] dX7_replayFrom_5 rfl hl (by decide) rfl (fun ls hl => ?_)
  refine q_iload_n C dX7_replayFrom_6 rfl (lv_at hl 0 rfl) ?_
  refine q_if_ne C 14 dX7_replayFrom_7 (by decide) ?_ ?_
  · refine q_aload_n C dX7_replayFrom_14 rfl (lv_at hl 1 rfl) ?_
    refine g_7_19 C hk0 kf_X7_46 dX7_replayFrom_15 ?_
    refine q_aload_n C dX7_replayFrom_18 rfl (lv_at hl 1 rfl) ?_
    refine q_iload_n C dX7_replayFrom_19 rfl (lv_at hl 2 rfl) ?_
    refine q_iload_n C dX7_replayFrom_20 rfl (lv_at hl 0 rfl) ?_
    refine q_iconst C dX7_replayFrom_21 rfl (by decide) (fun v2 => ?_)
    refine q_isub C dX7_replayFrom_22 (fun v3 => ?_)
    refine q_c1i C (fun r h => cr_V (As := [.int a1, .int v3]) (rest := [.ref (gad G (k0 + 11))]) C (m_X7_linkedAt l G F k0 a1 v3 σ r h) cb_X7_linkedAt hk0 (by decide) rfl (cf_7 hk0 _) rfl kl_X7_373 ⟨Nat.le_of_ble_eq_true rfl, Nat.le_of_ble_eq_true rfl⟩ ⟨Nat.zero_le _, Nat.zero_le _⟩ hl.1 rfl (Nat.le_of_ble_eq_true rfl) dX7_replayFrom_23 rfl) (fun v4 => ?_)
    refine a_ild C (yk_7_19 hk0) (yl_7_19 hk0) dX7_replayFrom_26 (fun v5 => ?_)
    exact q_iret C hr hlo dX7_replayFrom_27
  · refine q_iconst C dX7_replayFrom_10 rfl (by decide) (fun v6 => ?_)
    refine q_goto C 27 dX7_replayFrom_11 (by decide) ?_
    exact q_iret C hr hlo dX7_replayFrom_27
def f_X7_replays_L19 (F : Nat) (k0 : Nat) (a1 : Int)   : Nat → Int → Int → St → Option (Int × St)
  | 0, _, _, _ => none
  | n + 1, x4, x5, σ =>
    if a1 ≤ x5 then (
      some (x4, σ))
    else (
      z_c1 (f_X7_isCommand F k0 x5 σ) fun v6 =>
      if v6 = 0 then (
        z_gt 0 fun v7 =>
        z_ck (x4 + v7) fun v8 =>
        z_ck (x5 + 1) fun v9 =>
        f_X7_replays_L19 F k0 a1 n v8 v9 σ)
      else (
        z_gt 1 fun v10 =>
        z_ck (x4 + v10) fun v11 =>
        z_ck (x5 + 1) fun v12 =>
        f_X7_replays_L19 F k0 a1 n v11 v12 σ))

def f_X7_replays (F : Nat) (k0 : Nat) (a1 : Int) (σ : St) : Option (Int × St) :=
  z_ob 7 k0 <| 
  z_c2 (f_X7_asksAt F k0 a1 σ) fun v1 σ1 =>
  if ¬ v1 = 0 then (
    z_gt 0 fun v2 =>
    z_c1 (f_X7_replayFrom F k0 a1 σ1) fun v3 =>
    f_X7_replays_L19 F k0 a1 F v2 v3 σ1)
  else (
    z_gt (-2) fun v13 =>
    some (v13, σ1))
theorem cb_X7_replays : CB yX7_replays cX7_replays 4 (some .int) 1 := ⟨ki_X7_replays, kq_X7_replays, kn_X7, kc_X7_replays, by decide +kernel, by decide +kernel, by decide +kernel⟩
set_option maxRecDepth 20000 in
set_option maxHeartbeats 4000000 in
theorem m_X7_replays (l : Launch) (G : GG) (F : Nat) (k0 : Nat) (a1 : Int32) (σ : St) : ∀ r, f_X7_replays F k0 a1.toInt σ = some r → MC G l yX7_replays cX7_replays 4 (some .int) { frames := 8, cells := 0, slots := 0, locals := 178 } [.ref (gad G k0), .int a1] σ (vI r.1) r.2 := by
  refine MC_of (own := RX7) (fun r : Int × St => vI r.1) (fun r : Int × St => r.2) (by decide +kernel) rfl (Nat.le_of_ble_eq_true rfl) ?_
  intro p e s m args below meth c C hr hlo ls hl
  have hl : lv_has ls 4 [(0, .ref (gad G k0)), (1, .int a1)] := hl
  unfold f_X7_replays
  refine q_ob (fun hk0 => ?_)
  have B19 : ∀ (n : Nat) (x4 : Int32) (x5 : Int32) (σ : St) (ls : Array Slot), lv_has ls 4 [(0, .ref (gad G k0)), (1, .int a1), (2, .int x4), (3, .int x5)] → Sim G (AG G) 0 0 p l e { frames := 8, cells := 0, slots := 0, locals := 178 } s m args below meth c (fun r : Int × St => MQ below (QC G (vI r.1) (r.2)) args s 0 0 (AG G)) σ (f_X7_replays_L19 F k0 a1.toInt   n x4.toInt x5.toInt σ) (F0 m 19 ls []) := by
    intro n
    induction n with
    | zero =>
      intro x4 x5 σ ls hl
      exact sim_none
    | succ n ih =>
      intro x4 x5 σ ls hl
      rw [f_X7_replays_L19]
      refine q_iload_n C dX7_replays_19 rfl (lv_at hl 3 rfl) ?_
      refine q_iload_n C dX7_replays_20 rfl (lv_at hl 1 rfl) ?_
      refine q_icmp_ge C 46 dX7_replays_21 (by decide) ?_ ?_
      · refine q_iload_n C dX7_replays_46 rfl (lv_at hl 2 rfl) ?_
        exact q_iretE C hr hlo dX7_replays_47
      · refine q_iload_n C dX7_replays_24 rfl (lv_at hl 2 rfl) ?_
        refine q_aload_n C dX7_replays_25 rfl (lv_at hl 0 rfl) ?_
        refine q_iload_n C dX7_replays_26 rfl (lv_at hl 3 rfl) ?_
        refine q_c1i C (fun r h => cr_V (As := [.int x5]) (rest := [.int x4]) C (m_X7_isCommand l G F k0 x5 σ r h) cb_X7_isCommand hk0 (by decide) rfl (cf_7 hk0 _) rfl kl_X7_249 ⟨Nat.le_of_ble_eq_true rfl, Nat.le_of_ble_eq_true rfl⟩ ⟨Nat.zero_le _, Nat.zero_le _⟩ hl.1 rfl (Nat.le_of_ble_eq_true rfl) dX7_replays_27 rfl) (fun v6 => ?_)
        refine q_if_eq C 37 dX7_replays_30 (by decide) ?_ ?_
        · refine q_iconst C dX7_replays_37 rfl (by decide) (fun v7 => ?_)
          refine q_iadd C dX7_replays_38 (fun v8 => ?_)
          refine q_istore_n C [(2, .int v8), (0, .ref (gad G k0)), (1, .int a1), (3, .int x5)] dX7_replays_39 rfl hl (by decide) rfl (fun ls hl => ?_)
          refine q_iinc (k := 3) C (fun v9 => [(3, .int v9), (2, .int v8), (0, .ref (gad G k0)), (1, .int a1)]) dX7_replays_40 hl rfl (by decide) (by decide) (fun _ => rfl) (fun v9 ls hl => ?_)
          refine q_goto C 19 dX7_replays_43 (by decide) ?_
          exact ih v8 v9 σ ls (lv_sub hl [2, 3, 1, 0] rfl)
        · refine q_iconst C dX7_replays_33 rfl (by decide) (fun v10 => ?_)
          refine q_goto C 38 dX7_replays_34 (by decide) ?_
          refine q_iadd C dX7_replays_38 (fun v11 => ?_)
          refine q_istore_n C [(2, .int v11), (0, .ref (gad G k0)), (1, .int a1), (3, .int x5)] dX7_replays_39 rfl hl (by decide) rfl (fun ls hl => ?_)
          refine q_iinc (k := 3) C (fun v12 => [(3, .int v12), (2, .int v11), (0, .ref (gad G k0)), (1, .int a1)]) dX7_replays_40 hl rfl (by decide) (by decide) (fun _ => rfl) (fun v12 ls hl => ?_)
          refine q_goto C 19 dX7_replays_43 (by decide) ?_
          exact ih v11 v12 σ ls (lv_sub hl [2, 3, 1, 0] rfl)
  refine q_aload_n C dX7_replays_0 rfl (lv_at hl 0 rfl) ?_
  refine q_iload_n C dX7_replays_1 rfl (lv_at hl 1 rfl) ?_
  refine q_c2i C (fun r h => cr_V (As := [.int a1]) (rest := []) C (m_X7_asksAt l G F k0 a1 σ r h) cb_X7_asksAt hk0 (by decide) rfl (cf_7 hk0 _) rfl kl_X7_323 ⟨Nat.le_of_ble_eq_true rfl, Nat.le_of_ble_eq_true rfl⟩ ⟨Nat.zero_le _, Nat.zero_le _⟩ hl.1 rfl (Nat.le_of_ble_eq_true rfl) dX7_replays_2 rfl) (fun v1 σ1 => ?_)
  refine q_if_ne C 11 dX7_replays_5 (by decide) ?_ ?_
  · refine q_iconst C dX7_replays_11 rfl (by decide) (fun v2 => ?_)
    refine q_istore_n C [(2, .int v2), (0, .ref (gad G k0)), (1, .int a1)] dX7_replays_12 rfl hl (by decide) rfl (fun ls hl => ?_)
    refine q_aload_n C dX7_replays_13 rfl (lv_at hl 1 rfl) ?_
    refine q_iload_n C dX7_replays_14 rfl (lv_at hl 2 rfl) ?_
    refine q_c1i C (fun r h => cr_V (As := [.int a1]) (rest := []) C (m_X7_replayFrom l G F k0 a1 σ1 r h) cb_X7_replayFrom hk0 (by decide) rfl (cf_7 hk0 _) rfl kl_X7_376 ⟨Nat.le_of_ble_eq_true rfl, Nat.le_of_ble_eq_true rfl⟩ ⟨Nat.zero_le _, Nat.zero_le _⟩ hl.1 rfl (Nat.le_of_ble_eq_true rfl) dX7_replays_15 rfl) (fun v3 => ?_)
    refine q_istore_n C [(3, .int v3), (2, .int v2), (0, .ref (gad G k0)), (1, .int a1)] dX7_replays_18 rfl hl (by decide) rfl (fun ls hl => ?_)
    exact B19 F v2 v3 σ1 ls (lv_sub hl [2, 3, 1, 0] rfl)
  · refine q_bipush C dX7_replays_8 rfl (by decide) (fun v13 => ?_)
    exact q_iretE C hr hlo dX7_replays_10
def f_X7_sourceAt_L8 (F : Nat) (k0 : Nat) (a1 : Int) (a2 : Int)  (σ : St) : Nat → Int → Option (Int)
  | 0, _ => none
  | n + 1, x4 =>
    if x4 < 0 then (
      z_gt (-1) fun v5 =>
      some v5)
    else (
      z_c1 (f_X7_linkedAt F k0 a2 x4 σ) fun v6 =>
      z_gt 32 fun v7 =>
      z_ck (v7 * v6) fun v8 =>
      z_ck (v8 + a1) fun v9 =>
      z_ix v9 1920 <| z_gt (σ (k0 + 17) v9) fun v10 =>
      z_gt (-1) fun v11 =>
      if v10 = v11 then (
        z_ck (x4 + (-1)) fun v12 =>
        f_X7_sourceAt_L8 F k0 a1 a2 σ n v12)
      else (
        some v6))

def f_X7_sourceAt (F : Nat) (k0 : Nat) (a1 : Int) (a2 : Int) (σ : St) : Option (Int) :=
  z_ob 7 k0 <| 
  z_c1 (f_X7_chainAt F k0 a2 σ) fun v1 =>
  z_gt 1 fun v2 =>
  z_ck (v1 - v2) fun v3 =>
  f_X7_sourceAt_L8 F k0 a1 a2 σ F v3
theorem cb_X7_sourceAt : CB yX7_sourceAt cX7_sourceAt 5 (some .int) 2 := ⟨ki_X7_sourceAt, kq_X7_sourceAt, kn_X7, kc_X7_sourceAt, by decide +kernel, by decide +kernel, by decide +kernel⟩
set_option maxRecDepth 20000 in
set_option maxHeartbeats 4000000 in
theorem m_X7_sourceAt (l : Launch) (G : GG) (F : Nat) (k0 : Nat) (a1 : Int32) (a2 : Int32) (σ : St) : ∀ r, f_X7_sourceAt F k0 a1.toInt a2.toInt σ = some r → MC G l yX7_sourceAt cX7_sourceAt 5 (some .int) { frames := 3, cells := 0, slots := 0, locals := 70 } [.ref (gad G k0), .int a1, .int a2] σ (vI r) σ := by
  refine MC_of (own := RX7) (vI) (fun _ => σ) (by decide +kernel) rfl (Nat.le_of_ble_eq_true rfl) ?_
  intro p e s m args below meth c C hr hlo ls hl
  have hl : lv_has ls 5 [(0, .ref (gad G k0)), (1, .int a1), (2, .int a2)] := hl
  unfold f_X7_sourceAt
  refine q_ob (fun hk0 => ?_)
  have B8 : ∀ (n : Nat) (x4 : Int32) (ls : Array Slot), lv_has ls 5 [(0, .ref (gad G k0)), (1, .int a1), (2, .int a2), (3, .int x4)] → Sim G (AG G) 0 0 p l e { frames := 3, cells := 0, slots := 0, locals := 70 } s m args below meth c (fun r : Int => MQ below (QC G (vI r) (σ)) args s 0 0 (AG G)) σ (f_X7_sourceAt_L8 F k0 a1.toInt a2.toInt  σ n x4.toInt) (F0 m 8 ls []) := by
    intro n
    induction n with
    | zero =>
      intro x4 ls hl
      exact sim_none
    | succ n ih =>
      intro x4 ls hl
      rw [f_X7_sourceAt_L8]
      refine q_iload_n C dX7_sourceAt_8 rfl (lv_at hl 3 rfl) ?_
      refine q_if_lt C 45 dX7_sourceAt_9 (by decide) ?_ ?_
      · refine q_iconst C dX7_sourceAt_45 rfl (by decide) (fun v5 => ?_)
        exact q_iret C hr hlo dX7_sourceAt_46
      · refine q_aload_n C dX7_sourceAt_12 rfl (lv_at hl 0 rfl) ?_
        refine q_iload_n C dX7_sourceAt_13 rfl (lv_at hl 2 rfl) ?_
        refine q_iload_n C dX7_sourceAt_14 rfl (lv_at hl 3 rfl) ?_
        refine q_c1i C (fun r h => cr_V (As := [.int a2, .int x4]) (rest := []) C (m_X7_linkedAt l G F k0 a2 x4 σ r h) cb_X7_linkedAt hk0 (by decide) rfl (cf_7 hk0 _) rfl kl_X7_373 ⟨Nat.le_of_ble_eq_true rfl, Nat.le_of_ble_eq_true rfl⟩ ⟨Nat.zero_le _, Nat.zero_le _⟩ hl.1 rfl (Nat.le_of_ble_eq_true rfl) dX7_sourceAt_15 rfl) (fun v6 => ?_)
        refine q_istore C [(4, .int v6), (0, .ref (gad G k0)), (1, .int a1), (2, .int a2), (3, .int x4)] dX7_sourceAt_18 hl (by decide) rfl (fun ls hl => ?_)
        refine q_aload_n C dX7_sourceAt_20 rfl (lv_at hl 1 rfl) ?_
        refine g_7_25 C hk0 kf_X7_64 dX7_sourceAt_21 ?_
        refine q_bipush C dX7_sourceAt_24 rfl (by decide) (fun v7 => ?_)
        refine q_iload C dX7_sourceAt_26 (lv_at hl 0 rfl) ?_
        refine q_imul C dX7_sourceAt_28 (fun v8 => ?_)
        refine q_iload_n C dX7_sourceAt_29 rfl (lv_at hl 2 rfl) ?_
        refine q_iadd C dX7_sourceAt_30 (fun v9 => ?_)
        refine a_ild C (yk_7_25 hk0) (yl_7_25 hk0) dX7_sourceAt_31 (fun v10 => ?_)
        refine q_iconst C dX7_sourceAt_32 rfl (by decide) (fun v11 => ?_)
        refine q_icmp_eq C 39 dX7_sourceAt_33 (by decide) ?_ ?_
        · refine q_iinc (k := 4) C (fun v12 => [(3, .int v12), (4, .int v6), (0, .ref (gad G k0)), (1, .int a1), (2, .int a2)]) dX7_sourceAt_39 hl rfl (by decide) (by decide) (fun _ => rfl) (fun v12 ls hl => ?_)
          refine q_goto C 8 dX7_sourceAt_42 (by decide) ?_
          exact ih v12 ls (lv_sub hl [2, 3, 4, 0] rfl)
        · refine q_iload C dX7_sourceAt_36 (lv_at hl 0 rfl) ?_
          exact q_iret C hr hlo dX7_sourceAt_38
  refine q_aload_n C dX7_sourceAt_0 rfl (lv_at hl 0 rfl) ?_
  refine q_iload_n C dX7_sourceAt_1 rfl (lv_at hl 2 rfl) ?_
  refine q_c1i C (fun r h => cr_V (As := [.int a2]) (rest := []) C (m_X7_chainAt l G F k0 a2 σ r h) cb_X7_chainAt hk0 (by decide) rfl (cf_7 hk0 _) rfl kl_X7_370 ⟨Nat.le_of_ble_eq_true rfl, Nat.le_of_ble_eq_true rfl⟩ ⟨Nat.zero_le _, Nat.zero_le _⟩ hl.1 rfl (Nat.le_of_ble_eq_true rfl) dX7_sourceAt_2 rfl) (fun v1 => ?_)
  refine q_iconst C dX7_sourceAt_5 rfl (by decide) (fun v2 => ?_)
  refine q_isub C dX7_sourceAt_6 (fun v3 => ?_)
  refine q_istore_n C [(3, .int v3), (0, .ref (gad G k0)), (1, .int a1), (2, .int a2)] dX7_sourceAt_7 rfl hl (by decide) rfl (fun ls hl => ?_)
  exact B8 F v3 ls (lv_sub hl [1, 2, 3, 0] rfl)
def f_X7_raisedAt (F : Nat) (k0 : Nat) (a1 : Int) (a2 : Int) (σ : St) : Option (Int) :=
  z_ob 7 k0 <| 
  z_c1 (f_X7_sourceAt F k0 a1 a2 σ) fun v1 =>
  z_gt (-1) fun v2 =>
  if ¬ v1 = v2 then (
    z_ix v1 60 <| z_gt (σ (k0 + 11) v1) fun v3 =>
    z_c1 (f_X7_valueAt F k0 a1 v3 σ) fun v4 =>
    some v4)
  else (
    z_gt 0 fun v5 =>
    some v5)
theorem cb_X7_raisedAt : CB yX7_raisedAt cX7_raisedAt 4 (some .int) 2 := ⟨ki_X7_raisedAt, kq_X7_raisedAt, kn_X7, kc_X7_raisedAt, by decide +kernel, by decide +kernel, by decide +kernel⟩
set_option maxRecDepth 20000 in
set_option maxHeartbeats 4000000 in
theorem m_X7_raisedAt (l : Launch) (G : GG) (F : Nat) (k0 : Nat) (a1 : Int32) (a2 : Int32) (σ : St) : ∀ r, f_X7_raisedAt F k0 a1.toInt a2.toInt σ = some r → MC G l yX7_raisedAt cX7_raisedAt 4 (some .int) { frames := 4, cells := 0, slots := 0, locals := 94 } [.ref (gad G k0), .int a1, .int a2] σ (vI r) σ := by
  refine MC_of (own := RX7) (vI) (fun _ => σ) (by decide +kernel) rfl (Nat.le_of_ble_eq_true rfl) ?_
  intro p e s m args below meth c C hr hlo ls hl
  have hl : lv_has ls 4 [(0, .ref (gad G k0)), (1, .int a1), (2, .int a2)] := hl
  unfold f_X7_raisedAt
  refine q_ob (fun hk0 => ?_)
  refine q_aload_n C dX7_raisedAt_0 rfl (lv_at hl 0 rfl) ?_
  refine q_iload_n C dX7_raisedAt_1 rfl (lv_at hl 1 rfl) ?_
  refine q_iload_n C dX7_raisedAt_2 rfl (lv_at hl 2 rfl) ?_
  refine q_c1i C (fun r h => cr_V (As := [.int a1, .int a2]) (rest := []) C (m_X7_sourceAt l G F k0 a1 a2 σ r h) cb_X7_sourceAt hk0 (by decide) rfl (cf_7 hk0 _) rfl kl_X7_379 ⟨Nat.le_of_ble_eq_true rfl, Nat.le_of_ble_eq_true rfl⟩ ⟨Nat.zero_le _, Nat.zero_le _⟩ hl.1 rfl (Nat.le_of_ble_eq_true rfl) dX7_raisedAt_3 rfl) (fun v1 => ?_)
  refine q_istore_n C [(3, .int v1), (0, .ref (gad G k0)), (1, .int a1), (2, .int a2)] dX7_raisedAt_6 rfl hl (by decide) rfl (fun ls hl => ?_)
  refine q_iload_n C dX7_raisedAt_7 rfl (lv_at hl 0 rfl) ?_
  refine q_iconst C dX7_raisedAt_8 rfl (by decide) (fun v2 => ?_)
  refine q_icmp_ne C 16 dX7_raisedAt_9 (by decide) ?_ ?_
  · refine q_aload_n C dX7_raisedAt_16 rfl (lv_at hl 1 rfl) ?_
    refine q_iload_n C dX7_raisedAt_17 rfl (lv_at hl 2 rfl) ?_
    refine q_aload_n C dX7_raisedAt_18 rfl (lv_at hl 1 rfl) ?_
    refine g_7_19 C hk0 kf_X7_46 dX7_raisedAt_19 ?_
    refine q_iload_n C dX7_raisedAt_22 rfl (lv_at hl 0 rfl) ?_
    refine a_ild C (yk_7_19 hk0) (yl_7_19 hk0) dX7_raisedAt_23 (fun v3 => ?_)
    refine q_c1i C (fun r h => cr_V (As := [.int a1, .int v3]) (rest := []) C (m_X7_valueAt l G F k0 a1 v3 σ r h) cb_X7_valueAt hk0 (by decide) rfl (cf_7 hk0 _) rfl kl_X7_337 ⟨Nat.le_of_ble_eq_true rfl, Nat.le_of_ble_eq_true rfl⟩ ⟨Nat.zero_le _, Nat.zero_le _⟩ hl.1 rfl (Nat.le_of_ble_eq_true rfl) dX7_raisedAt_24 rfl) (fun v4 => ?_)
    exact q_iret C hr hlo dX7_raisedAt_27
  · refine q_iconst C dX7_raisedAt_12 rfl (by decide) (fun v5 => ?_)
    refine q_goto C 27 dX7_raisedAt_13 (by decide) ?_
    exact q_iret C hr hlo dX7_raisedAt_27
def f_X7_raised (F : Nat) (k0 : Nat) (a1 : Int) (a2 : Int) (σ : St) : Option (Int × St) :=
  z_ob 7 k0 <| 
  z_c2 (f_X7_asksCell F k0 a1 a2 σ) fun v1 σ1 =>
  if v1 = 0 then (
    z_gt (-2) fun v2 =>
    some (v2, σ1))
  else (
    z_c1 (f_X7_raisedAt F k0 a1 a2 σ1) fun v3 =>
    some (v3, σ1))
theorem cb_X7_raised : CB yX7_raised cX7_raised 3 (some .int) 2 := ⟨ki_X7_raised, kq_X7_raised, kn_X7, kc_X7_raised, by decide +kernel, by decide +kernel, by decide +kernel⟩
set_option maxRecDepth 20000 in
set_option maxHeartbeats 4000000 in
theorem m_X7_raised (l : Launch) (G : GG) (F : Nat) (k0 : Nat) (a1 : Int32) (a2 : Int32) (σ : St) : ∀ r, f_X7_raised F k0 a1.toInt a2.toInt σ = some r → MC G l yX7_raised cX7_raised 3 (some .int) { frames := 9, cells := 0, slots := 0, locals := 200 } [.ref (gad G k0), .int a1, .int a2] σ (vI r.1) r.2 := by
  refine MC_of (own := RX7) (fun r : Int × St => vI r.1) (fun r : Int × St => r.2) (by decide +kernel) rfl (Nat.le_of_ble_eq_true rfl) ?_
  intro p e s m args below meth c C hr hlo ls hl
  have hl : lv_has ls 3 [(0, .ref (gad G k0)), (1, .int a1), (2, .int a2)] := hl
  unfold f_X7_raised
  refine q_ob (fun hk0 => ?_)
  refine q_aload_n C dX7_raised_0 rfl (lv_at hl 0 rfl) ?_
  refine q_iload_n C dX7_raised_1 rfl (lv_at hl 1 rfl) ?_
  refine q_iload_n C dX7_raised_2 rfl (lv_at hl 2 rfl) ?_
  refine q_c2i C (fun r h => cr_V (As := [.int a1, .int a2]) (rest := []) C (m_X7_asksCell l G F k0 a1 a2 σ r h) cb_X7_asksCell hk0 (by decide) rfl (cf_7 hk0 _) rfl kl_X7_334 ⟨Nat.le_of_ble_eq_true rfl, Nat.le_of_ble_eq_true rfl⟩ ⟨Nat.zero_le _, Nat.zero_le _⟩ hl.1 rfl (Nat.le_of_ble_eq_true rfl) dX7_raised_3 rfl) (fun v1 σ1 => ?_)
  refine q_if_eq C 18 dX7_raised_6 (by decide) ?_ ?_
  · refine q_bipush C dX7_raised_18 rfl (by decide) (fun v2 => ?_)
    exact q_iretE C hr hlo dX7_raised_20
  · refine q_aload_n C dX7_raised_9 rfl (lv_at hl 0 rfl) ?_
    refine q_iload_n C dX7_raised_10 rfl (lv_at hl 1 rfl) ?_
    refine q_iload_n C dX7_raised_11 rfl (lv_at hl 2 rfl) ?_
    refine q_c1i C (fun r h => cr_V (As := [.int a1, .int a2]) (rest := []) C (m_X7_raisedAt l G F k0 a1 a2 σ1 r h) cb_X7_raisedAt hk0 (by decide) rfl (cf_7 hk0 _) rfl kl_X7_382 ⟨Nat.le_of_ble_eq_true rfl, Nat.le_of_ble_eq_true rfl⟩ ⟨Nat.zero_le _, Nat.zero_le _⟩ hl.1 rfl (Nat.le_of_ble_eq_true rfl) dX7_raised_12 rfl) (fun v3 => ?_)
    refine q_goto C 20 dX7_raised_15 (by decide) ?_
    exact q_iretE C hr hlo dX7_raised_20
def f_X7_restored_L46 (F : Nat) (k0 : Nat) (a1 : Int) (a2 : Int)   : Nat → Int → St → Option (Int × St)
  | 0, _, _ => none
  | n + 1, x6, σ =>
    if a2 ≤ x6 then (
      z_ix a1 32 <| z_gt (σ (k0 + 20) a1) fun v7 =>
      some (v7, σ))
    else (
      z_c1 (f_X7_isCommand F k0 x6 σ) fun v8 =>
      if v8 = 0 then (
        z_ck (x6 + 1) fun v9 =>
        f_X7_restored_L46 F k0 a1 a2 n v9 σ)
      else (
        z_gt 0 fun v10 =>
        z_c1 (f_X7_obey F k0 x6 (k0 + 20) v10 σ) fun σ2 =>
        z_ck (x6 + 1) fun v11 =>
        f_X7_restored_L46 F k0 a1 a2 n v11 σ2))

def f_X7_restored_L14 (F : Nat) (k0 : Nat) (a1 : Int) (a2 : Int)   : Nat → Int → St → Option (Int × St)
  | 0, _, _ => none
  | n + 1, x3, σ =>
    z_c1 (f_X7_cells F k0 σ) fun v4 =>
    if v4 ≤ x3 then (
      z_c1 (f_X7_replayFrom F k0 a2 σ) fun v5 =>
      f_X7_restored_L46 F k0 a1 a2 F v5 σ)
    else (
      z_c1 (f_X7_raisedAt F k0 x3 a2 σ) fun v12 =>
      z_ix x3 32 <| z_sg (z_up σ (k0 + 20) x3 v12) fun σ3 =>
      z_ck (x3 + 1) fun v13 =>
      f_X7_restored_L14 F k0 a1 a2 n v13 σ3)

def f_X7_restored (F : Nat) (k0 : Nat) (a1 : Int) (a2 : Int) (σ : St) : Option (Int × St) :=
  z_ob 7 k0 <| 
  z_c2 (f_X7_asksCell F k0 a1 a2 σ) fun v1 σ1 =>
  if ¬ v1 = 0 then (
    z_gt 0 fun v2 =>
    f_X7_restored_L14 F k0 a1 a2 F v2 σ1)
  else (
    z_gt (-2) fun v14 =>
    some (v14, σ1))
theorem cb_X7_restored : CB yX7_restored cX7_restored 4 (some .int) 2 := ⟨ki_X7_restored, kq_X7_restored, kn_X7, kc_X7_restored, by decide +kernel, by decide +kernel, by decide +kernel⟩
set_option maxRecDepth 20000 in
set_option maxHeartbeats 4000000 in
theorem m_X7_restored (l : Launch) (G : GG) (F : Nat) (k0 : Nat) (a1 : Int32) (a2 : Int32) (σ : St) : ∀ r, f_X7_restored F k0 a1.toInt a2.toInt σ = some r → MC G l yX7_restored cX7_restored 4 (some .int) { frames := 9, cells := 0, slots := 0, locals := 200 } [.ref (gad G k0), .int a1, .int a2] σ (vI r.1) r.2 := by
  refine MC_of (own := RX7) (fun r : Int × St => vI r.1) (fun r : Int × St => r.2) (by decide +kernel) rfl (Nat.le_of_ble_eq_true rfl) ?_
  intro p e s m args below meth c C hr hlo ls hl
  have hl : lv_has ls 4 [(0, .ref (gad G k0)), (1, .int a1), (2, .int a2)] := hl
  unfold f_X7_restored
  refine q_ob (fun hk0 => ?_)
  have B46 : ∀ (n : Nat) (x6 : Int32) (σ : St) (ls : Array Slot), lv_has ls 4 [(0, .ref (gad G k0)), (1, .int a1), (2, .int a2), (3, .int x6)] → Sim G (AG G) 0 0 p l e { frames := 9, cells := 0, slots := 0, locals := 200 } s m args below meth c (fun r : Int × St => MQ below (QC G (vI r.1) (r.2)) args s 0 0 (AG G)) σ (f_X7_restored_L46 F k0 a1.toInt a2.toInt   n x6.toInt σ) (F0 m 46 ls []) := by
    intro n
    induction n with
    | zero =>
      intro x6 σ ls hl
      exact sim_none
    | succ n ih =>
      intro x6 σ ls hl
      rw [f_X7_restored_L46]
      refine q_iload_n C dX7_restored_46 rfl (lv_at hl 3 rfl) ?_
      refine q_iload_n C dX7_restored_47 rfl (lv_at hl 2 rfl) ?_
      refine q_icmp_ge C 75 dX7_restored_48 (by decide) ?_ ?_
      · refine q_aload_n C dX7_restored_75 rfl (lv_at hl 0 rfl) ?_
        refine g_7_30 C hk0 kf_X7_73 dX7_restored_76 ?_
        refine q_iload_n C dX7_restored_79 rfl (lv_at hl 1 rfl) ?_
        refine a_ild C (yk_7_30 hk0) (yl_7_30 hk0) dX7_restored_80 (fun v7 => ?_)
        exact q_iretE C hr hlo dX7_restored_81
      · refine q_aload_n C dX7_restored_51 rfl (lv_at hl 0 rfl) ?_
        refine q_iload_n C dX7_restored_52 rfl (lv_at hl 3 rfl) ?_
        refine q_c1i C (fun r h => cr_V (As := [.int x6]) (rest := []) C (m_X7_isCommand l G F k0 x6 σ r h) cb_X7_isCommand hk0 (by decide) rfl (cf_7 hk0 _) rfl kl_X7_249 ⟨Nat.le_of_ble_eq_true rfl, Nat.le_of_ble_eq_true rfl⟩ ⟨Nat.zero_le _, Nat.zero_le _⟩ hl.1 rfl (Nat.le_of_ble_eq_true rfl) dX7_restored_53 rfl) (fun v8 => ?_)
        refine q_if_eq C 69 dX7_restored_56 (by decide) ?_ ?_
        · refine q_iinc (k := 3) C (fun v9 => [(3, .int v9), (0, .ref (gad G k0)), (1, .int a1), (2, .int a2)]) dX7_restored_69 hl rfl (by decide) (by decide) (fun _ => rfl) (fun v9 ls hl => ?_)
          refine q_goto C 46 dX7_restored_72 (by decide) ?_
          exact ih v9 σ ls (lv_sub hl [1, 2, 3, 0] rfl)
        · refine q_aload_n C dX7_restored_59 rfl (lv_at hl 0 rfl) ?_
          refine q_iload_n C dX7_restored_60 rfl (lv_at hl 3 rfl) ?_
          refine q_aload_n C dX7_restored_61 rfl (lv_at hl 0 rfl) ?_
          refine g_7_30 C hk0 kf_X7_73 dX7_restored_62 ?_
          refine q_iconst C dX7_restored_65 rfl (by decide) (fun v10 => ?_)
          refine q_cv C (fun r h => cr_V (As := [.int x6, .ref (gad G (k0 + 20)), .int v10]) (rest := []) C (m_X7_obey l G F k0 x6 (k0 + 20) v10 σ r h) cb_X7_obey hk0 (by decide) rfl (cf_7 hk0 _) rfl kl_X7_253 ⟨Nat.le_of_ble_eq_true rfl, Nat.le_of_ble_eq_true rfl⟩ ⟨Nat.zero_le _, Nat.zero_le _⟩ hl.1 rfl (Nat.le_of_ble_eq_true rfl) dX7_restored_66 rfl) (fun σ2 => ?_)
          refine q_iinc (k := 3) C (fun v11 => [(3, .int v11), (0, .ref (gad G k0)), (1, .int a1), (2, .int a2)]) dX7_restored_69 hl rfl (by decide) (by decide) (fun _ => rfl) (fun v11 ls hl => ?_)
          refine q_goto C 46 dX7_restored_72 (by decide) ?_
          exact ih v11 σ2 ls (lv_sub hl [1, 2, 3, 0] rfl)
  have B14 : ∀ (n : Nat) (x3 : Int32) (σ : St) (ls : Array Slot), lv_has ls 4 [(0, .ref (gad G k0)), (1, .int a1), (2, .int a2), (3, .int x3)] → Sim G (AG G) 0 0 p l e { frames := 9, cells := 0, slots := 0, locals := 200 } s m args below meth c (fun r : Int × St => MQ below (QC G (vI r.1) (r.2)) args s 0 0 (AG G)) σ (f_X7_restored_L14 F k0 a1.toInt a2.toInt   n x3.toInt σ) (F0 m 14 ls []) := by
    intro n
    induction n with
    | zero =>
      intro x3 σ ls hl
      exact sim_none
    | succ n ih =>
      intro x3 σ ls hl
      rw [f_X7_restored_L14]
      refine q_iload_n C dX7_restored_14 rfl (lv_at hl 3 rfl) ?_
      refine q_aload_n C dX7_restored_15 rfl (lv_at hl 0 rfl) ?_
      refine q_c1i C (fun r h => cr_V (As := []) (rest := [.int x3]) C (m_X7_cells l G F k0 σ r h) cb_X7_cells hk0 (by decide) rfl (cf_7 hk0 _) rfl kl_X7_107 ⟨Nat.le_of_ble_eq_true rfl, Nat.le_of_ble_eq_true rfl⟩ ⟨Nat.zero_le _, Nat.zero_le _⟩ hl.1 rfl (Nat.le_of_ble_eq_true rfl) dX7_restored_16 rfl) (fun v4 => ?_)
      refine q_icmp_ge C 40 dX7_restored_19 (by decide) ?_ ?_
      · refine q_aload_n C dX7_restored_40 rfl (lv_at hl 0 rfl) ?_
        refine q_iload_n C dX7_restored_41 rfl (lv_at hl 2 rfl) ?_
        refine q_c1i C (fun r h => cr_V (As := [.int a2]) (rest := []) C (m_X7_replayFrom l G F k0 a2 σ r h) cb_X7_replayFrom hk0 (by decide) rfl (cf_7 hk0 _) rfl kl_X7_376 ⟨Nat.le_of_ble_eq_true rfl, Nat.le_of_ble_eq_true rfl⟩ ⟨Nat.zero_le _, Nat.zero_le _⟩ hl.1 rfl (Nat.le_of_ble_eq_true rfl) dX7_restored_42 rfl) (fun v5 => ?_)
        refine q_istore_n C [(3, .int v5), (0, .ref (gad G k0)), (1, .int a1), (2, .int a2)] dX7_restored_45 rfl hl (by decide) rfl (fun ls hl => ?_)
        exact B46 F v5 σ ls (lv_sub hl [1, 2, 3, 0] rfl)
      · refine q_aload_n C dX7_restored_22 rfl (lv_at hl 0 rfl) ?_
        refine g_7_30 C hk0 kf_X7_73 dX7_restored_23 ?_
        refine q_iload_n C dX7_restored_26 rfl (lv_at hl 3 rfl) ?_
        refine q_aload_n C dX7_restored_27 rfl (lv_at hl 0 rfl) ?_
        refine q_iload_n C dX7_restored_28 rfl (lv_at hl 3 rfl) ?_
        refine q_iload_n C dX7_restored_29 rfl (lv_at hl 2 rfl) ?_
        refine q_c1i C (fun r h => cr_V (As := [.int x3, .int a2]) (rest := [.int x3, .ref (gad G (k0 + 20))]) C (m_X7_raisedAt l G F k0 x3 a2 σ r h) cb_X7_raisedAt hk0 (by decide) rfl (cf_7 hk0 _) rfl kl_X7_382 ⟨Nat.le_of_ble_eq_true rfl, Nat.le_of_ble_eq_true rfl⟩ ⟨Nat.zero_le _, Nat.zero_le _⟩ hl.1 rfl (Nat.le_of_ble_eq_true rfl) dX7_restored_30 rfl) (fun v12 => ?_)
        refine a_ist C (yk_7_30 hk0) (yl_7_30 hk0) dX7_restored_33 (q_sg (fun σ3 => ?_))
        refine q_iinc (k := 3) C (fun v13 => [(3, .int v13), (0, .ref (gad G k0)), (1, .int a1), (2, .int a2)]) dX7_restored_34 hl rfl (by decide) (by decide) (fun _ => rfl) (fun v13 ls hl => ?_)
        refine q_goto C 14 dX7_restored_37 (by decide) ?_
        exact ih v13 σ3 ls (lv_sub hl [1, 2, 3, 0] rfl)
  refine q_aload_n C dX7_restored_0 rfl (lv_at hl 0 rfl) ?_
  refine q_iload_n C dX7_restored_1 rfl (lv_at hl 1 rfl) ?_
  refine q_iload_n C dX7_restored_2 rfl (lv_at hl 2 rfl) ?_
  refine q_c2i C (fun r h => cr_V (As := [.int a1, .int a2]) (rest := []) C (m_X7_asksCell l G F k0 a1 a2 σ r h) cb_X7_asksCell hk0 (by decide) rfl (cf_7 hk0 _) rfl kl_X7_334 ⟨Nat.le_of_ble_eq_true rfl, Nat.le_of_ble_eq_true rfl⟩ ⟨Nat.zero_le _, Nat.zero_le _⟩ hl.1 rfl (Nat.le_of_ble_eq_true rfl) dX7_restored_3 rfl) (fun v1 σ1 => ?_)
  refine q_if_ne C 12 dX7_restored_6 (by decide) ?_ ?_
  · refine q_iconst C dX7_restored_12 rfl (by decide) (fun v2 => ?_)
    refine q_istore_n C [(3, .int v2), (0, .ref (gad G k0)), (1, .int a1), (2, .int a2)] dX7_restored_13 rfl hl (by decide) rfl (fun ls hl => ?_)
    exact B14 F v2 σ1 ls (lv_sub hl [1, 2, 3, 0] rfl)
  · refine q_bipush C dX7_restored_9 rfl (by decide) (fun v14 => ?_)
    exact q_iretE C hr hlo dX7_restored_11
def f_X7_doubled_L26 (F : Nat) (k0 : Nat) (a1 : Int) (K15 : Int → Int → St → Option (Int × St))  : Nat → Int → Int → Int → St → Option (Int × St)
  | 0, _, _, _, _ => none
  | n + 1, x8, x9, x10, σ =>
    z_c1 (f_X7_cells F k0 σ) fun v11 =>
    if v11 ≤ x10 then (
      z_ck (x9 + 1) fun v12 =>
      K15 x8 v12 σ)
    else (
      z_c1 (f_X7_isLinked F k0 x9 a1 σ) fun v13 =>
      if v13 = 0 then (
        z_gt 0 fun v14 =>
        z_ck (x8 + v14) fun v15 =>
        z_ck (x10 + 1) fun v16 =>
        f_X7_doubled_L26 F k0 a1 K15 n v15 x9 v16 σ)
      else (
        z_gt 32 fun v17 =>
        z_ck (v17 * x9) fun v18 =>
        z_ck (v18 + x10) fun v19 =>
        z_ix v19 1920 <| z_gt (σ (k0 + 17) v19) fun v20 =>
        z_gt (-1) fun v21 =>
        if v20 = v21 then (
          z_gt 0 fun v22 =>
          z_ck (x8 + v22) fun v23 =>
          z_ck (x10 + 1) fun v24 =>
          f_X7_doubled_L26 F k0 a1 K15 n v23 x9 v24 σ)
        else (
          z_c1 (f_X7_sourceAt F k0 x10 a1 σ) fun v25 =>
          if v25 = x9 then (
            z_gt 0 fun v26 =>
            z_ck (x8 + v26) fun v27 =>
            z_ck (x10 + 1) fun v28 =>
            f_X7_doubled_L26 F k0 a1 K15 n v27 x9 v28 σ)
          else (
            z_gt 1 fun v29 =>
            z_ck (x8 + v29) fun v30 =>
            z_ck (x10 + 1) fun v31 =>
            f_X7_doubled_L26 F k0 a1 K15 n v30 x9 v31 σ))))

def f_X7_doubled_L15 (F : Nat) (k0 : Nat) (a1 : Int)   : Nat → Int → Int → St → Option (Int × St)
  | 0, _, _, _ => none
  | n + 1, x4, x5, σ =>
    z_gt (σ k0 28) fun v6 =>
    if v6 ≤ x5 then (
      some (x4, σ))
    else (
      z_gt 0 fun v7 =>
      f_X7_doubled_L26 F k0 a1 (f_X7_doubled_L15 F k0 a1 n) F x4 x5 v7 σ)

def f_X7_doubled (F : Nat) (k0 : Nat) (a1 : Int) (σ : St) : Option (Int × St) :=
  z_ob 7 k0 <| 
  z_c2 (f_X7_asksAt F k0 a1 σ) fun v1 σ1 =>
  if ¬ v1 = 0 then (
    z_gt 0 fun v2 =>
    z_gt 0 fun v3 =>
    f_X7_doubled_L15 F k0 a1 F v2 v3 σ1)
  else (
    z_gt (-2) fun v32 =>
    some (v32, σ1))
theorem cb_X7_doubled : CB yX7_doubled cX7_doubled 5 (some .int) 1 := ⟨ki_X7_doubled, kq_X7_doubled, kn_X7, kc_X7_doubled, by decide +kernel, by decide +kernel, by decide +kernel⟩
set_option maxRecDepth 20000 in
set_option maxHeartbeats 4000000 in
theorem m_X7_doubled (l : Launch) (G : GG) (F : Nat) (k0 : Nat) (a1 : Int32) (σ : St) : ∀ r, f_X7_doubled F k0 a1.toInt σ = some r → MC G l yX7_doubled cX7_doubled 5 (some .int) { frames := 8, cells := 0, slots := 0, locals := 178 } [.ref (gad G k0), .int a1] σ (vI r.1) r.2 := by
  refine MC_of (own := RX7) (fun r : Int × St => vI r.1) (fun r : Int × St => r.2) (by decide +kernel) rfl (Nat.le_of_ble_eq_true rfl) ?_
  intro p e s m args below meth c C hr hlo ls hl
  have hl : lv_has ls 5 [(0, .ref (gad G k0)), (1, .int a1)] := hl
  unfold f_X7_doubled
  refine q_ob (fun hk0 => ?_)
  have B26 : ∀ (K15 : Int → Int → St → Option (Int × St)) (hK15 : ∀ (y0 : Int32) (y1 : Int32) (σ : St) (ls : Array Slot), lv_has ls 5 [(0, .ref (gad G k0)), (1, .int a1), (2, .int y0), (3, .int y1)] → Sim G (AG G) 0 0 p l e { frames := 8, cells := 0, slots := 0, locals := 178 } s m args below meth c (fun r : Int × St => MQ below (QC G (vI r.1) (r.2)) args s 0 0 (AG G)) σ (K15 y0.toInt y1.toInt σ) (F0 m 15 ls [])), ∀ (n : Nat) (x8 : Int32) (x9 : Int32) (x10 : Int32) (σ : St) (ls : Array Slot), lv_has ls 5 [(0, .ref (gad G k0)), (1, .int a1), (2, .int x8), (3, .int x9), (4, .int x10)] → Sim G (AG G) 0 0 p l e { frames := 8, cells := 0, slots := 0, locals := 178 } s m args below meth c (fun r : Int × St => MQ below (QC G (vI r.1) (r.2)) args s 0 0 (AG G)) σ (f_X7_doubled_L26 F k0 a1.toInt K15  n x8.toInt x9.toInt x10.toInt σ) (F0 m 26 ls []) := by
    intro K15 hK15
    intro n
    induction n with
    | zero =>
      intro x8 x9 x10 σ ls hl
      exact sim_none
    | succ n ih =>
      intro x8 x9 x10 σ ls hl
      rw [f_X7_doubled_L26]
      refine q_iload C dX7_doubled_26 (lv_at hl 4 rfl) ?_
      refine q_aload_n C dX7_doubled_28 rfl (lv_at hl 0 rfl) ?_
      refine q_c1i C (fun r h => cr_V (As := []) (rest := [.int x10]) C (m_X7_cells l G F k0 σ r h) cb_X7_cells hk0 (by decide) rfl (cf_7 hk0 _) rfl kl_X7_107 ⟨Nat.le_of_ble_eq_true rfl, Nat.le_of_ble_eq_true rfl⟩ ⟨Nat.zero_le _, Nat.zero_le _⟩ hl.1 rfl (Nat.le_of_ble_eq_true rfl) dX7_doubled_29 rfl) (fun v11 => ?_)
      refine q_icmp_ge C 85 dX7_doubled_32 (by decide) ?_ ?_
      · refine q_iinc (k := 3) C (fun v12 => [(3, .int v12), (0, .ref (gad G k0)), (1, .int a1), (2, .int x8), (4, .int x10)]) dX7_doubled_85 hl rfl (by decide) (by decide) (fun _ => rfl) (fun v12 ls hl => ?_)
        refine q_goto C 15 dX7_doubled_88 (by decide) ?_
        exact hK15 x8 v12 σ ls (lv_sub hl [1, 2, 3, 0] rfl)
      · refine q_iload_n C dX7_doubled_35 rfl (lv_at hl 2 rfl) ?_
        refine q_aload_n C dX7_doubled_36 rfl (lv_at hl 0 rfl) ?_
        refine q_iload_n C dX7_doubled_37 rfl (lv_at hl 3 rfl) ?_
        refine q_iload_n C dX7_doubled_38 rfl (lv_at hl 1 rfl) ?_
        refine q_c1i C (fun r h => cr_V (As := [.int x9, .int a1]) (rest := [.int x8]) C (m_X7_isLinked l G F k0 x9 a1 σ r h) cb_X7_isLinked hk0 (by decide) rfl (cf_7 hk0 _) rfl kl_X7_367 ⟨Nat.le_of_ble_eq_true rfl, Nat.le_of_ble_eq_true rfl⟩ ⟨Nat.zero_le _, Nat.zero_le _⟩ hl.1 rfl (Nat.le_of_ble_eq_true rfl) dX7_doubled_39 rfl) (fun v13 => ?_)
        refine q_if_eq C 76 dX7_doubled_42 (by decide) ?_ ?_
        · refine q_iconst C dX7_doubled_76 rfl (by decide) (fun v14 => ?_)
          refine q_iadd C dX7_doubled_77 (fun v15 => ?_)
          refine q_istore_n C [(2, .int v15), (0, .ref (gad G k0)), (1, .int a1), (3, .int x9), (4, .int x10)] dX7_doubled_78 rfl hl (by decide) rfl (fun ls hl => ?_)
          refine q_iinc (k := 4) C (fun v16 => [(4, .int v16), (2, .int v15), (0, .ref (gad G k0)), (1, .int a1), (3, .int x9)]) dX7_doubled_79 hl rfl (by decide) (by decide) (fun _ => rfl) (fun v16 ls hl => ?_)
          refine q_goto C 26 dX7_doubled_82 (by decide) ?_
          exact ih v15 x9 v16 σ ls (lv_sub hl [2, 3, 1, 4, 0] rfl)
        · refine q_aload_n C dX7_doubled_45 rfl (lv_at hl 0 rfl) ?_
          refine g_7_25 C hk0 kf_X7_64 dX7_doubled_46 ?_
          refine q_bipush C dX7_doubled_49 rfl (by decide) (fun v17 => ?_)
          refine q_iload_n C dX7_doubled_51 rfl (lv_at hl 3 rfl) ?_
          refine q_imul C dX7_doubled_52 (fun v18 => ?_)
          refine q_iload C dX7_doubled_53 (lv_at hl 4 rfl) ?_
          refine q_iadd C dX7_doubled_55 (fun v19 => ?_)
          refine a_ild C (yk_7_25 hk0) (yl_7_25 hk0) dX7_doubled_56 (fun v20 => ?_)
          refine q_iconst C dX7_doubled_57 rfl (by decide) (fun v21 => ?_)
          refine q_icmp_eq C 76 dX7_doubled_58 (by decide) ?_ ?_
          · refine q_iconst C dX7_doubled_76 rfl (by decide) (fun v22 => ?_)
            refine q_iadd C dX7_doubled_77 (fun v23 => ?_)
            refine q_istore_n C [(2, .int v23), (0, .ref (gad G k0)), (1, .int a1), (3, .int x9), (4, .int x10)] dX7_doubled_78 rfl hl (by decide) rfl (fun ls hl => ?_)
            refine q_iinc (k := 4) C (fun v24 => [(4, .int v24), (2, .int v23), (0, .ref (gad G k0)), (1, .int a1), (3, .int x9)]) dX7_doubled_79 hl rfl (by decide) (by decide) (fun _ => rfl) (fun v24 ls hl => ?_)
            refine q_goto C 26 dX7_doubled_82 (by decide) ?_
            exact ih v23 x9 v24 σ ls (lv_sub hl [2, 3, 1, 4, 0] rfl)
          · refine q_aload_n C dX7_doubled_61 rfl (lv_at hl 0 rfl) ?_
            refine q_iload C dX7_doubled_62 (lv_at hl 4 rfl) ?_
            refine q_iload_n C dX7_doubled_64 rfl (lv_at hl 1 rfl) ?_
            refine q_c1i C (fun r h => cr_V (As := [.int x10, .int a1]) (rest := [.int x8]) C (m_X7_sourceAt l G F k0 x10 a1 σ r h) cb_X7_sourceAt hk0 (by decide) rfl (cf_7 hk0 _) rfl kl_X7_379 ⟨Nat.le_of_ble_eq_true rfl, Nat.le_of_ble_eq_true rfl⟩ ⟨Nat.zero_le _, Nat.zero_le _⟩ hl.1 rfl (Nat.le_of_ble_eq_true rfl) dX7_doubled_65 rfl) (fun v25 => ?_)
            refine q_iload_n C dX7_doubled_68 rfl (lv_at hl 3 rfl) ?_
            refine q_icmp_eq C 76 dX7_doubled_69 (by decide) ?_ ?_
            · refine q_iconst C dX7_doubled_76 rfl (by decide) (fun v26 => ?_)
              refine q_iadd C dX7_doubled_77 (fun v27 => ?_)
              refine q_istore_n C [(2, .int v27), (0, .ref (gad G k0)), (1, .int a1), (3, .int x9), (4, .int x10)] dX7_doubled_78 rfl hl (by decide) rfl (fun ls hl => ?_)
              refine q_iinc (k := 4) C (fun v28 => [(4, .int v28), (2, .int v27), (0, .ref (gad G k0)), (1, .int a1), (3, .int x9)]) dX7_doubled_79 hl rfl (by decide) (by decide) (fun _ => rfl) (fun v28 ls hl => ?_)
              refine q_goto C 26 dX7_doubled_82 (by decide) ?_
              exact ih v27 x9 v28 σ ls (lv_sub hl [2, 3, 1, 4, 0] rfl)
            · refine q_iconst C dX7_doubled_72 rfl (by decide) (fun v29 => ?_)
              refine q_goto C 77 dX7_doubled_73 (by decide) ?_
              refine q_iadd C dX7_doubled_77 (fun v30 => ?_)
              refine q_istore_n C [(2, .int v30), (0, .ref (gad G k0)), (1, .int a1), (3, .int x9), (4, .int x10)] dX7_doubled_78 rfl hl (by decide) rfl (fun ls hl => ?_)
              refine q_iinc (k := 4) C (fun v31 => [(4, .int v31), (2, .int v30), (0, .ref (gad G k0)), (1, .int a1), (3, .int x9)]) dX7_doubled_79 hl rfl (by decide) (by decide) (fun _ => rfl) (fun v31 ls hl => ?_)
              refine q_goto C 26 dX7_doubled_82 (by decide) ?_
              exact ih v30 x9 v31 σ ls (lv_sub hl [2, 3, 1, 4, 0] rfl)
  have B15 : ∀ (n : Nat) (x4 : Int32) (x5 : Int32) (σ : St) (ls : Array Slot), lv_has ls 5 [(0, .ref (gad G k0)), (1, .int a1), (2, .int x4), (3, .int x5)] → Sim G (AG G) 0 0 p l e { frames := 8, cells := 0, slots := 0, locals := 178 } s m args below meth c (fun r : Int × St => MQ below (QC G (vI r.1) (r.2)) args s 0 0 (AG G)) σ (f_X7_doubled_L15 F k0 a1.toInt   n x4.toInt x5.toInt σ) (F0 m 15 ls []) := by
    intro n
    induction n with
    | zero =>
      intro x4 x5 σ ls hl
      exact sim_none
    | succ n ih =>
      intro x4 x5 σ ls hl
      rw [f_X7_doubled_L15]
      refine q_iload_n C dX7_doubled_15 rfl (lv_at hl 3 rfl) ?_
      refine q_aload_n C dX7_doubled_16 rfl (lv_at hl 0 rfl) ?_
      refine g_7_28 C hk0 kf_X7_257 dX7_doubled_17 (fun v6 => ?_)
      refine q_icmp_ge C 91 dX7_doubled_20 (by decide) ?_ ?_
      · refine q_iload_n C dX7_doubled_91 rfl (lv_at hl 2 rfl) ?_
        exact q_iretE C hr hlo dX7_doubled_92
      · refine q_iconst C dX7_doubled_23 rfl (by decide) (fun v7 => ?_)
        refine q_istore C [(4, .int v7), (0, .ref (gad G k0)), (1, .int a1), (2, .int x4), (3, .int x5)] dX7_doubled_24 hl (by decide) rfl (fun ls hl => ?_)
        exact B26 (f_X7_doubled_L15 F k0 a1.toInt n) ih F x4 x5 v7 σ ls (lv_sub hl [1, 2, 3, 4, 0] rfl)
  refine q_aload_n C dX7_doubled_0 rfl (lv_at hl 0 rfl) ?_
  refine q_iload_n C dX7_doubled_1 rfl (lv_at hl 1 rfl) ?_
  refine q_c2i C (fun r h => cr_V (As := [.int a1]) (rest := []) C (m_X7_asksAt l G F k0 a1 σ r h) cb_X7_asksAt hk0 (by decide) rfl (cf_7 hk0 _) rfl kl_X7_323 ⟨Nat.le_of_ble_eq_true rfl, Nat.le_of_ble_eq_true rfl⟩ ⟨Nat.zero_le _, Nat.zero_le _⟩ hl.1 rfl (Nat.le_of_ble_eq_true rfl) dX7_doubled_2 rfl) (fun v1 σ1 => ?_)
  refine q_if_ne C 11 dX7_doubled_5 (by decide) ?_ ?_
  · refine q_iconst C dX7_doubled_11 rfl (by decide) (fun v2 => ?_)
    refine q_istore_n C [(2, .int v2), (0, .ref (gad G k0)), (1, .int a1)] dX7_doubled_12 rfl hl (by decide) rfl (fun ls hl => ?_)
    refine q_iconst C dX7_doubled_13 rfl (by decide) (fun v3 => ?_)
    refine q_istore_n C [(3, .int v3), (2, .int v2), (0, .ref (gad G k0)), (1, .int a1)] dX7_doubled_14 rfl hl (by decide) rfl (fun ls hl => ?_)
    exact B15 F v2 v3 σ1 ls (lv_sub hl [2, 3, 1, 0] rfl)
  · refine q_bipush C dX7_doubled_8 rfl (by decide) (fun v32 => ?_)
    exact q_iretE C hr hlo dX7_doubled_10
def f_X7_source (F : Nat) (k0 : Nat) (a1 : Int) (a2 : Int) (σ : St) : Option (Int × St) :=
  z_ob 7 k0 <| 
  z_c2 (f_X7_asksCell F k0 a1 a2 σ) fun v1 σ1 =>
  if v1 = 0 then (
    z_gt (-2) fun v2 =>
    some (v2, σ1))
  else (
    z_c1 (f_X7_sourceAt F k0 a1 a2 σ1) fun v3 =>
    some (v3, σ1))
theorem cb_X7_source : CB yX7_source cX7_source 3 (some .int) 2 := ⟨ki_X7_source, kq_X7_source, kn_X7, kc_X7_source, by decide +kernel, by decide +kernel, by decide +kernel⟩
set_option maxRecDepth 20000 in
set_option maxHeartbeats 4000000 in
theorem m_X7_source (l : Launch) (G : GG) (F : Nat) (k0 : Nat) (a1 : Int32) (a2 : Int32) (σ : St) : ∀ r, f_X7_source F k0 a1.toInt a2.toInt σ = some r → MC G l yX7_source cX7_source 3 (some .int) { frames := 9, cells := 0, slots := 0, locals := 200 } [.ref (gad G k0), .int a1, .int a2] σ (vI r.1) r.2 := by
  refine MC_of (own := RX7) (fun r : Int × St => vI r.1) (fun r : Int × St => r.2) (by decide +kernel) rfl (Nat.le_of_ble_eq_true rfl) ?_
  intro p e s m args below meth c C hr hlo ls hl
  have hl : lv_has ls 3 [(0, .ref (gad G k0)), (1, .int a1), (2, .int a2)] := hl
  unfold f_X7_source
  refine q_ob (fun hk0 => ?_)
  refine q_aload_n C dX7_source_0 rfl (lv_at hl 0 rfl) ?_
  refine q_iload_n C dX7_source_1 rfl (lv_at hl 1 rfl) ?_
  refine q_iload_n C dX7_source_2 rfl (lv_at hl 2 rfl) ?_
  refine q_c2i C (fun r h => cr_V (As := [.int a1, .int a2]) (rest := []) C (m_X7_asksCell l G F k0 a1 a2 σ r h) cb_X7_asksCell hk0 (by decide) rfl (cf_7 hk0 _) rfl kl_X7_334 ⟨Nat.le_of_ble_eq_true rfl, Nat.le_of_ble_eq_true rfl⟩ ⟨Nat.zero_le _, Nat.zero_le _⟩ hl.1 rfl (Nat.le_of_ble_eq_true rfl) dX7_source_3 rfl) (fun v1 σ1 => ?_)
  refine q_if_eq C 18 dX7_source_6 (by decide) ?_ ?_
  · refine q_bipush C dX7_source_18 rfl (by decide) (fun v2 => ?_)
    exact q_iretE C hr hlo dX7_source_20
  · refine q_aload_n C dX7_source_9 rfl (lv_at hl 0 rfl) ?_
    refine q_iload_n C dX7_source_10 rfl (lv_at hl 1 rfl) ?_
    refine q_iload_n C dX7_source_11 rfl (lv_at hl 2 rfl) ?_
    refine q_c1i C (fun r h => cr_V (As := [.int a1, .int a2]) (rest := []) C (m_X7_sourceAt l G F k0 a1 a2 σ1 r h) cb_X7_sourceAt hk0 (by decide) rfl (cf_7 hk0 _) rfl kl_X7_379 ⟨Nat.le_of_ble_eq_true rfl, Nat.le_of_ble_eq_true rfl⟩ ⟨Nat.zero_le _, Nat.zero_le _⟩ hl.1 rfl (Nat.le_of_ble_eq_true rfl) dX7_source_12 rfl) (fun v3 => ?_)
    refine q_goto C 20 dX7_source_15 (by decide) ?_
    exact q_iretE C hr hlo dX7_source_20
def f_X7_age (F : Nat) (k0 : Nat) (a1 : Int) (σ : St) : Option (Int × St) :=
  z_ob 7 k0 <| 
  z_c2 (f_X7_asksAt F k0 a1 σ) fun v1 σ1 =>
  if v1 = 0 then (
    z_gt (-2) fun v2 =>
    some (v2, σ1))
  else (
    z_c1 (f_X7_replayFrom F k0 a1 σ1) fun v3 =>
    z_ck (a1 - v3) fun v4 =>
    some (v4, σ1))
theorem cb_X7_age : CB yX7_age cX7_age 2 (some .int) 1 := ⟨ki_X7_age, kq_X7_age, kn_X7, kc_X7_age, by decide +kernel, by decide +kernel, by decide +kernel⟩
set_option maxRecDepth 20000 in
set_option maxHeartbeats 4000000 in
theorem m_X7_age (l : Launch) (G : GG) (F : Nat) (k0 : Nat) (a1 : Int32) (σ : St) : ∀ r, f_X7_age F k0 a1.toInt σ = some r → MC G l yX7_age cX7_age 2 (some .int) { frames := 8, cells := 0, slots := 0, locals := 178 } [.ref (gad G k0), .int a1] σ (vI r.1) r.2 := by
  refine MC_of (own := RX7) (fun r : Int × St => vI r.1) (fun r : Int × St => r.2) (by decide +kernel) rfl (Nat.le_of_ble_eq_true rfl) ?_
  intro p e s m args below meth c C hr hlo ls hl
  have hl : lv_has ls 2 [(0, .ref (gad G k0)), (1, .int a1)] := hl
  unfold f_X7_age
  refine q_ob (fun hk0 => ?_)
  refine q_aload_n C dX7_age_0 rfl (lv_at hl 0 rfl) ?_
  refine q_iload_n C dX7_age_1 rfl (lv_at hl 1 rfl) ?_
  refine q_c2i C (fun r h => cr_V (As := [.int a1]) (rest := []) C (m_X7_asksAt l G F k0 a1 σ r h) cb_X7_asksAt hk0 (by decide) rfl (cf_7 hk0 _) rfl kl_X7_323 ⟨Nat.le_of_ble_eq_true rfl, Nat.le_of_ble_eq_true rfl⟩ ⟨Nat.zero_le _, Nat.zero_le _⟩ hl.1 rfl (Nat.le_of_ble_eq_true rfl) dX7_age_2 rfl) (fun v1 σ1 => ?_)
  refine q_if_eq C 18 dX7_age_5 (by decide) ?_ ?_
  · refine q_bipush C dX7_age_18 rfl (by decide) (fun v2 => ?_)
    exact q_iretE C hr hlo dX7_age_20
  · refine q_iload_n C dX7_age_8 rfl (lv_at hl 1 rfl) ?_
    refine q_aload_n C dX7_age_9 rfl (lv_at hl 0 rfl) ?_
    refine q_iload_n C dX7_age_10 rfl (lv_at hl 1 rfl) ?_
    refine q_c1i C (fun r h => cr_V (As := [.int a1]) (rest := [.int a1]) C (m_X7_replayFrom l G F k0 a1 σ1 r h) cb_X7_replayFrom hk0 (by decide) rfl (cf_7 hk0 _) rfl kl_X7_376 ⟨Nat.le_of_ble_eq_true rfl, Nat.le_of_ble_eq_true rfl⟩ ⟨Nat.zero_le _, Nat.zero_le _⟩ hl.1 rfl (Nat.le_of_ble_eq_true rfl) dX7_age_11 rfl) (fun v3 => ?_)
    refine q_isub C dX7_age_14 (fun v4 => ?_)
    refine q_goto C 20 dX7_age_15 (by decide) ?_
    exact q_iretE C hr hlo dX7_age_20
def f_X7_worst_L14 (F : Nat) (k0 : Nat)   : Nat → Int → Int → St → Option (Int × St)
  | 0, _, _, _ => none
  | n + 1, x4, x5, σ =>
    z_c1 (f_X7_events F k0 σ) fun v6 =>
    if v6 < x5 then (
      some (x4, σ))
    else (
      z_c1 (f_X7_replayFrom F k0 x5 σ) fun v7 =>
      z_ck (x5 - v7) fun v8 =>
      z_c1 (f_X7_replayFrom F k0 x4 σ) fun v9 =>
      z_ck (x4 - v9) fun v10 =>
      if v8 ≤ v10 then (
        z_ck (x5 + 1) fun v11 =>
        f_X7_worst_L14 F k0 n x4 v11 σ)
      else (
        z_ck (x5 + 1) fun v12 =>
        f_X7_worst_L14 F k0 n x5 v12 σ))

def f_X7_worst (F : Nat) (k0 : Nat) (σ : St) : Option (Int × St) :=
  z_ob 7 k0 <| 
  z_c2 (f_X7_asks F k0 σ) fun v1 σ1 =>
  if ¬ v1 = 0 then (
    z_gt 0 fun v2 =>
    z_gt 1 fun v3 =>
    f_X7_worst_L14 F k0 F v2 v3 σ1)
  else (
    z_gt (-2) fun v13 =>
    some (v13, σ1))
theorem cb_X7_worst : CB yX7_worst cX7_worst 3 (some .int) 0 := ⟨ki_X7_worst, kq_X7_worst, kn_X7, kc_X7_worst, by decide +kernel, by decide +kernel, by decide +kernel⟩
set_option maxRecDepth 20000 in
set_option maxHeartbeats 4000000 in
theorem m_X7_worst (l : Launch) (G : GG) (F : Nat) (k0 : Nat) (σ : St) : ∀ r, f_X7_worst F k0 σ = some r → MC G l yX7_worst cX7_worst 3 (some .int) { frames := 7, cells := 0, slots := 0, locals := 157 } [.ref (gad G k0)] σ (vI r.1) r.2 := by
  refine MC_of (own := RX7) (fun r : Int × St => vI r.1) (fun r : Int × St => r.2) (by decide +kernel) rfl (Nat.le_of_ble_eq_true rfl) ?_
  intro p e s m args below meth c C hr hlo ls hl
  have hl : lv_has ls 3 [(0, .ref (gad G k0))] := hl
  unfold f_X7_worst
  refine q_ob (fun hk0 => ?_)
  have B14 : ∀ (n : Nat) (x4 : Int32) (x5 : Int32) (σ : St) (ls : Array Slot), lv_has ls 3 [(0, .ref (gad G k0)), (1, .int x4), (2, .int x5)] → Sim G (AG G) 0 0 p l e { frames := 7, cells := 0, slots := 0, locals := 157 } s m args below meth c (fun r : Int × St => MQ below (QC G (vI r.1) (r.2)) args s 0 0 (AG G)) σ (f_X7_worst_L14 F k0   n x4.toInt x5.toInt σ) (F0 m 14 ls []) := by
    intro n
    induction n with
    | zero =>
      intro x4 x5 σ ls hl
      exact sim_none
    | succ n ih =>
      intro x4 x5 σ ls hl
      rw [f_X7_worst_L14]
      refine q_iload_n C dX7_worst_14 rfl (lv_at hl 2 rfl) ?_
      refine q_aload_n C dX7_worst_15 rfl (lv_at hl 0 rfl) ?_
      refine q_c1i C (fun r h => cr_V (As := []) (rest := [.int x5]) C (m_X7_events l G F k0 σ r h) cb_X7_events hk0 (by decide) rfl (cf_7 hk0 _) rfl kl_X7_111 ⟨Nat.le_of_ble_eq_true rfl, Nat.le_of_ble_eq_true rfl⟩ ⟨Nat.zero_le _, Nat.zero_le _⟩ hl.1 rfl (Nat.le_of_ble_eq_true rfl) dX7_worst_16 rfl) (fun v6 => ?_)
      refine q_icmp_gt C 47 dX7_worst_19 (by decide) ?_ ?_
      · refine q_iload_n C dX7_worst_47 rfl (lv_at hl 1 rfl) ?_
        exact q_iretE C hr hlo dX7_worst_48
      · refine q_iload_n C dX7_worst_22 rfl (lv_at hl 2 rfl) ?_
        refine q_aload_n C dX7_worst_23 rfl (lv_at hl 0 rfl) ?_
        refine q_iload_n C dX7_worst_24 rfl (lv_at hl 2 rfl) ?_
        refine q_c1i C (fun r h => cr_V (As := [.int x5]) (rest := [.int x5]) C (m_X7_replayFrom l G F k0 x5 σ r h) cb_X7_replayFrom hk0 (by decide) rfl (cf_7 hk0 _) rfl kl_X7_376 ⟨Nat.le_of_ble_eq_true rfl, Nat.le_of_ble_eq_true rfl⟩ ⟨Nat.zero_le _, Nat.zero_le _⟩ hl.1 rfl (Nat.le_of_ble_eq_true rfl) dX7_worst_25 rfl) (fun v7 => ?_)
        refine q_isub C dX7_worst_28 (fun v8 => ?_)
        refine q_iload_n C dX7_worst_29 rfl (lv_at hl 1 rfl) ?_
        refine q_aload_n C dX7_worst_30 rfl (lv_at hl 0 rfl) ?_
        refine q_iload_n C dX7_worst_31 rfl (lv_at hl 1 rfl) ?_
        refine q_c1i C (fun r h => cr_V (As := [.int x4]) (rest := [.int x4, .int v8]) C (m_X7_replayFrom l G F k0 x4 σ r h) cb_X7_replayFrom hk0 (by decide) rfl (cf_7 hk0 _) rfl kl_X7_376 ⟨Nat.le_of_ble_eq_true rfl, Nat.le_of_ble_eq_true rfl⟩ ⟨Nat.zero_le _, Nat.zero_le _⟩ hl.1 rfl (Nat.le_of_ble_eq_true rfl) dX7_worst_32 rfl) (fun v9 => ?_)
        refine q_isub C dX7_worst_35 (fun v10 => ?_)
        refine q_icmp_le C 41 dX7_worst_36 (by decide) ?_ ?_
        · refine q_iinc (k := 2) C (fun v11 => [(2, .int v11), (0, .ref (gad G k0)), (1, .int x4)]) dX7_worst_41 hl rfl (by decide) (by decide) (fun _ => rfl) (fun v11 ls hl => ?_)
          refine q_goto C 14 dX7_worst_44 (by decide) ?_
          exact ih x4 v11 σ ls (lv_sub hl [1, 2, 0] rfl)
        · refine q_iload_n C dX7_worst_39 rfl (lv_at hl 2 rfl) ?_
          refine q_istore_n C [(1, .int x5), (0, .ref (gad G k0)), (2, .int x5)] dX7_worst_40 rfl hl (by decide) rfl (fun ls hl => ?_)
          refine q_iinc (k := 2) C (fun v12 => [(2, .int v12), (1, .int x5), (0, .ref (gad G k0))]) dX7_worst_41 hl rfl (by decide) (by decide) (fun _ => rfl) (fun v12 ls hl => ?_)
          refine q_goto C 14 dX7_worst_44 (by decide) ?_
          exact ih x5 v12 σ ls (lv_sub hl [2, 1, 0] rfl)
  refine q_aload_n C dX7_worst_0 rfl (lv_at hl 0 rfl) ?_
  refine q_c2i C (fun r h => cr_V (As := []) (rest := []) C (m_X7_asks l G F k0 σ r h) cb_X7_asks hk0 (by decide) rfl (cf_7 hk0 _) rfl kl_X7_316 ⟨Nat.le_of_ble_eq_true rfl, Nat.le_of_ble_eq_true rfl⟩ ⟨Nat.zero_le _, Nat.zero_le _⟩ hl.1 rfl (Nat.le_of_ble_eq_true rfl) dX7_worst_1 rfl) (fun v1 σ1 => ?_)
  refine q_if_ne C 10 dX7_worst_4 (by decide) ?_ ?_
  · refine q_iconst C dX7_worst_10 rfl (by decide) (fun v2 => ?_)
    refine q_istore_n C [(1, .int v2), (0, .ref (gad G k0))] dX7_worst_11 rfl hl (by decide) rfl (fun ls hl => ?_)
    refine q_iconst C dX7_worst_12 rfl (by decide) (fun v3 => ?_)
    refine q_istore_n C [(2, .int v3), (1, .int v2), (0, .ref (gad G k0))] dX7_worst_13 rfl hl (by decide) rfl (fun ls hl => ?_)
    exact B14 F v2 v3 σ1 ls (lv_sub hl [2, 1, 0] rfl)
  · refine q_bipush C dX7_worst_7 rfl (by decide) (fun v13 => ?_)
    exact q_iretE C hr hlo dX7_worst_9
def f_X7_differAt_L5 (F : Nat) (k0 : Nat) (a1 : Int) (a2 : Int)  (σ : St) : Nat → Int → Int → Option (Int)
  | 0, _, _ => none
  | n + 1, x3, x4 =>
    z_c1 (f_X7_cells F k0 σ) fun v5 =>
    if v5 ≤ x4 then (
      some x3)
    else (
      z_c1 (f_X7_valueAt F k0 x4 a1 σ) fun v6 =>
      z_c1 (f_X7_valueAt F k0 x4 a2 σ) fun v7 =>
      if v6 = v7 then (
        z_gt 0 fun v8 =>
        z_ck (x3 + v8) fun v9 =>
        z_ck (x4 + 1) fun v10 =>
        f_X7_differAt_L5 F k0 a1 a2 σ n v9 v10)
      else (
        z_gt 1 fun v11 =>
        z_ck (x3 + v11) fun v12 =>
        z_ck (x4 + 1) fun v13 =>
        f_X7_differAt_L5 F k0 a1 a2 σ n v12 v13))

def f_X7_differAt (F : Nat) (k0 : Nat) (a1 : Int) (a2 : Int) (σ : St) : Option (Int) :=
  z_ob 7 k0 <| 
  z_gt 0 fun v1 =>
  z_gt 0 fun v2 =>
  f_X7_differAt_L5 F k0 a1 a2 σ F v1 v2
theorem cb_X7_differAt : CB yX7_differAt cX7_differAt 5 (some .int) 2 := ⟨ki_X7_differAt, kq_X7_differAt, kn_X7, kc_X7_differAt, by decide +kernel, by decide +kernel, by decide +kernel⟩
set_option maxRecDepth 20000 in
set_option maxHeartbeats 4000000 in
theorem m_X7_differAt (l : Launch) (G : GG) (F : Nat) (k0 : Nat) (a1 : Int32) (a2 : Int32) (σ : St) : ∀ r, f_X7_differAt F k0 a1.toInt a2.toInt σ = some r → MC G l yX7_differAt cX7_differAt 5 (some .int) { frames := 1, cells := 0, slots := 0, locals := 22 } [.ref (gad G k0), .int a1, .int a2] σ (vI r) σ := by
  refine MC_of (own := RX7) (vI) (fun _ => σ) (by decide +kernel) rfl (Nat.le_of_ble_eq_true rfl) ?_
  intro p e s m args below meth c C hr hlo ls hl
  have hl : lv_has ls 5 [(0, .ref (gad G k0)), (1, .int a1), (2, .int a2)] := hl
  unfold f_X7_differAt
  refine q_ob (fun hk0 => ?_)
  have B5 : ∀ (n : Nat) (x3 : Int32) (x4 : Int32) (ls : Array Slot), lv_has ls 5 [(0, .ref (gad G k0)), (1, .int a1), (2, .int a2), (3, .int x3), (4, .int x4)] → Sim G (AG G) 0 0 p l e { frames := 1, cells := 0, slots := 0, locals := 22 } s m args below meth c (fun r : Int => MQ below (QC G (vI r) (σ)) args s 0 0 (AG G)) σ (f_X7_differAt_L5 F k0 a1.toInt a2.toInt  σ n x3.toInt x4.toInt) (F0 m 5 ls []) := by
    intro n
    induction n with
    | zero =>
      intro x3 x4 ls hl
      exact sim_none
    | succ n ih =>
      intro x3 x4 ls hl
      rw [f_X7_differAt_L5]
      refine q_iload C dX7_differAt_5 (lv_at hl 4 rfl) ?_
      refine q_aload_n C dX7_differAt_7 rfl (lv_at hl 0 rfl) ?_
      refine q_c1i C (fun r h => cr_V (As := []) (rest := [.int x4]) C (m_X7_cells l G F k0 σ r h) cb_X7_cells hk0 (by decide) rfl (cf_7 hk0 _) rfl kl_X7_107 ⟨Nat.le_of_ble_eq_true rfl, Nat.le_of_ble_eq_true rfl⟩ ⟨Nat.zero_le _, Nat.zero_le _⟩ hl.1 rfl (Nat.le_of_ble_eq_true rfl) dX7_differAt_8 rfl) (fun v5 => ?_)
      refine q_icmp_ge C 45 dX7_differAt_11 (by decide) ?_ ?_
      · refine q_iload_n C dX7_differAt_45 rfl (lv_at hl 3 rfl) ?_
        exact q_iret C hr hlo dX7_differAt_46
      · refine q_iload_n C dX7_differAt_14 rfl (lv_at hl 3 rfl) ?_
        refine q_aload_n C dX7_differAt_15 rfl (lv_at hl 0 rfl) ?_
        refine q_iload C dX7_differAt_16 (lv_at hl 4 rfl) ?_
        refine q_iload_n C dX7_differAt_18 rfl (lv_at hl 1 rfl) ?_
        refine q_c1i C (fun r h => cr_V (As := [.int x4, .int a1]) (rest := [.int x3]) C (m_X7_valueAt l G F k0 x4 a1 σ r h) cb_X7_valueAt hk0 (by decide) rfl (cf_7 hk0 _) rfl kl_X7_337 ⟨Nat.le_of_ble_eq_true rfl, Nat.le_of_ble_eq_true rfl⟩ ⟨Nat.zero_le _, Nat.zero_le _⟩ hl.1 rfl (Nat.le_of_ble_eq_true rfl) dX7_differAt_19 rfl) (fun v6 => ?_)
        refine q_aload_n C dX7_differAt_22 rfl (lv_at hl 0 rfl) ?_
        refine q_iload C dX7_differAt_23 (lv_at hl 4 rfl) ?_
        refine q_iload_n C dX7_differAt_25 rfl (lv_at hl 2 rfl) ?_
        refine q_c1i C (fun r h => cr_V (As := [.int x4, .int a2]) (rest := [.int v6, .int x3]) C (m_X7_valueAt l G F k0 x4 a2 σ r h) cb_X7_valueAt hk0 (by decide) rfl (cf_7 hk0 _) rfl kl_X7_337 ⟨Nat.le_of_ble_eq_true rfl, Nat.le_of_ble_eq_true rfl⟩ ⟨Nat.zero_le _, Nat.zero_le _⟩ hl.1 rfl (Nat.le_of_ble_eq_true rfl) dX7_differAt_26 rfl) (fun v7 => ?_)
        refine q_icmp_eq C 36 dX7_differAt_29 (by decide) ?_ ?_
        · refine q_iconst C dX7_differAt_36 rfl (by decide) (fun v8 => ?_)
          refine q_iadd C dX7_differAt_37 (fun v9 => ?_)
          refine q_istore_n C [(3, .int v9), (0, .ref (gad G k0)), (1, .int a1), (2, .int a2), (4, .int x4)] dX7_differAt_38 rfl hl (by decide) rfl (fun ls hl => ?_)
          refine q_iinc (k := 4) C (fun v10 => [(4, .int v10), (3, .int v9), (0, .ref (gad G k0)), (1, .int a1), (2, .int a2)]) dX7_differAt_39 hl rfl (by decide) (by decide) (fun _ => rfl) (fun v10 ls hl => ?_)
          refine q_goto C 5 dX7_differAt_42 (by decide) ?_
          exact ih v9 v10 ls (lv_sub hl [2, 3, 4, 1, 0] rfl)
        · refine q_iconst C dX7_differAt_32 rfl (by decide) (fun v11 => ?_)
          refine q_goto C 37 dX7_differAt_33 (by decide) ?_
          refine q_iadd C dX7_differAt_37 (fun v12 => ?_)
          refine q_istore_n C [(3, .int v12), (0, .ref (gad G k0)), (1, .int a1), (2, .int a2), (4, .int x4)] dX7_differAt_38 rfl hl (by decide) rfl (fun ls hl => ?_)
          refine q_iinc (k := 4) C (fun v13 => [(4, .int v13), (3, .int v12), (0, .ref (gad G k0)), (1, .int a1), (2, .int a2)]) dX7_differAt_39 hl rfl (by decide) (by decide) (fun _ => rfl) (fun v13 ls hl => ?_)
          refine q_goto C 5 dX7_differAt_42 (by decide) ?_
          exact ih v12 v13 ls (lv_sub hl [2, 3, 4, 1, 0] rfl)
  refine q_iconst C dX7_differAt_0 rfl (by decide) (fun v1 => ?_)
  refine q_istore_n C [(3, .int v1), (0, .ref (gad G k0)), (1, .int a1), (2, .int a2)] dX7_differAt_1 rfl hl (by decide) rfl (fun ls hl => ?_)
  refine q_iconst C dX7_differAt_2 rfl (by decide) (fun v2 => ?_)
  refine q_istore C [(4, .int v2), (3, .int v1), (0, .ref (gad G k0)), (1, .int a1), (2, .int a2)] dX7_differAt_3 hl (by decide) rfl (fun ls hl => ?_)
  exact B5 F v1 v2 ls (lv_sub hl [2, 3, 4, 1, 0] rfl)
def f_X7_differ (F : Nat) (k0 : Nat) (a1 : Int) (a2 : Int) (σ : St) : Option (Int × St) :=
  z_ob 7 k0 <| 
  z_c2 (f_X7_asksAt F k0 a1 σ) fun v1 σ1 =>
  if v1 = 0 then (
    z_gt (-2) fun v2 =>
    some (v2, σ1))
  else (
    z_gt a2 fun v3 =>
    z_c1 (f_X7_isTick F k0 v3 σ1) fun v4 =>
    if v4 = 0 then (
      z_gt (-2) fun v5 =>
      some (v5, σ1))
    else (
      z_c1 (f_X7_differAt F k0 a1 a2 σ1) fun v6 =>
      some (v6, σ1)))
theorem cb_X7_differ : CB yX7_differ cX7_differ 3 (some .int) 2 := ⟨ki_X7_differ, kq_X7_differ, kn_X7, kc_X7_differ, by decide +kernel, by decide +kernel, by decide +kernel⟩
set_option maxRecDepth 20000 in
set_option maxHeartbeats 4000000 in
theorem m_X7_differ (l : Launch) (G : GG) (F : Nat) (k0 : Nat) (a1 : Int32) (a2 : Int32) (σ : St) : ∀ r, f_X7_differ F k0 a1.toInt a2.toInt σ = some r → MC G l yX7_differ cX7_differ 3 (some .int) { frames := 8, cells := 0, slots := 0, locals := 178 } [.ref (gad G k0), .int a1, .int a2] σ (vI r.1) r.2 := by
  refine MC_of (own := RX7) (fun r : Int × St => vI r.1) (fun r : Int × St => r.2) (by decide +kernel) rfl (Nat.le_of_ble_eq_true rfl) ?_
  intro p e s m args below meth c C hr hlo ls hl
  have hl : lv_has ls 3 [(0, .ref (gad G k0)), (1, .int a1), (2, .int a2)] := hl
  unfold f_X7_differ
  refine q_ob (fun hk0 => ?_)
  refine q_aload_n C dX7_differ_0 rfl (lv_at hl 0 rfl) ?_
  refine q_iload_n C dX7_differ_1 rfl (lv_at hl 1 rfl) ?_
  refine q_c2i C (fun r h => cr_V (As := [.int a1]) (rest := []) C (m_X7_asksAt l G F k0 a1 σ r h) cb_X7_asksAt hk0 (by decide) rfl (cf_7 hk0 _) rfl kl_X7_323 ⟨Nat.le_of_ble_eq_true rfl, Nat.le_of_ble_eq_true rfl⟩ ⟨Nat.zero_le _, Nat.zero_le _⟩ hl.1 rfl (Nat.le_of_ble_eq_true rfl) dX7_differ_2 rfl) (fun v1 σ1 => ?_)
  refine q_if_eq C 26 dX7_differ_5 (by decide) ?_ ?_
  · refine q_bipush C dX7_differ_26 rfl (by decide) (fun v2 => ?_)
    exact q_iretE C hr hlo dX7_differ_28
  · refine q_aload_n C dX7_differ_8 rfl (lv_at hl 0 rfl) ?_
    refine q_iload_n C dX7_differ_9 rfl (lv_at hl 2 rfl) ?_
    refine q_i2l C dX7_differ_10 (fun v3 => ?_)
    refine q_c1i C (fun r h => cr_V (As := [.long v3]) (rest := []) C (m_X7_isTick l G F k0 v3 σ1 r h) cb_X7_isTick hk0 (by decide) rfl (cf_7 hk0 _) rfl kl_X7_319 ⟨Nat.le_of_ble_eq_true rfl, Nat.le_of_ble_eq_true rfl⟩ ⟨Nat.zero_le _, Nat.zero_le _⟩ hl.1 rfl (Nat.le_of_ble_eq_true rfl) dX7_differ_11 rfl) (fun v4 => ?_)
    refine q_if_eq C 26 dX7_differ_14 (by decide) ?_ ?_
    · refine q_bipush C dX7_differ_26 rfl (by decide) (fun v5 => ?_)
      exact q_iretE C hr hlo dX7_differ_28
    · refine q_aload_n C dX7_differ_17 rfl (lv_at hl 0 rfl) ?_
      refine q_iload_n C dX7_differ_18 rfl (lv_at hl 1 rfl) ?_
      refine q_iload_n C dX7_differ_19 rfl (lv_at hl 2 rfl) ?_
      refine q_c1i C (fun r h => cr_V (As := [.int a1, .int a2]) (rest := []) C (m_X7_differAt l G F k0 a1 a2 σ1 r h) cb_X7_differAt hk0 (by decide) rfl (cf_7 hk0 _) rfl kl_X7_385 ⟨Nat.le_of_ble_eq_true rfl, Nat.le_of_ble_eq_true rfl⟩ ⟨Nat.zero_le _, Nat.zero_le _⟩ hl.1 rfl (Nat.le_of_ble_eq_true rfl) dX7_differ_20 rfl) (fun v6 => ?_)
      refine q_goto C 28 dX7_differ_23 (by decide) ?_
      exact q_iretE C hr hlo dX7_differ_28
def f_X7_same_L13 (F : Nat) (k0 : Nat) (a1 : Int)   : Nat → Int → St → Option (Int × St)
  | 0, _, _ => none
  | n + 1, x3, σ =>
    z_c1 (f_X7_differAt F k0 a1 x3 σ) fun v4 =>
    if v4 ≤ 0 then (
      some (x3, σ))
    else (
      z_ck (x3 + 1) fun v5 =>
      f_X7_same_L13 F k0 a1 n v5 σ)

def f_X7_same (F : Nat) (k0 : Nat) (a1 : Int) (σ : St) : Option (Int × St) :=
  z_ob 7 k0 <| 
  z_c2 (f_X7_asksAt F k0 a1 σ) fun v1 σ1 =>
  if ¬ v1 = 0 then (
    z_gt 0 fun v2 =>
    f_X7_same_L13 F k0 a1 F v2 σ1)
  else (
    z_gt (-2) fun v6 =>
    some (v6, σ1))
theorem cb_X7_same : CB yX7_same cX7_same 3 (some .int) 1 := ⟨ki_X7_same, kq_X7_same, kn_X7, kc_X7_same, by decide +kernel, by decide +kernel, by decide +kernel⟩
set_option maxRecDepth 20000 in
set_option maxHeartbeats 4000000 in
theorem m_X7_same (l : Launch) (G : GG) (F : Nat) (k0 : Nat) (a1 : Int32) (σ : St) : ∀ r, f_X7_same F k0 a1.toInt σ = some r → MC G l yX7_same cX7_same 3 (some .int) { frames := 8, cells := 0, slots := 0, locals := 178 } [.ref (gad G k0), .int a1] σ (vI r.1) r.2 := by
  refine MC_of (own := RX7) (fun r : Int × St => vI r.1) (fun r : Int × St => r.2) (by decide +kernel) rfl (Nat.le_of_ble_eq_true rfl) ?_
  intro p e s m args below meth c C hr hlo ls hl
  have hl : lv_has ls 3 [(0, .ref (gad G k0)), (1, .int a1)] := hl
  unfold f_X7_same
  refine q_ob (fun hk0 => ?_)
  have B13 : ∀ (n : Nat) (x3 : Int32) (σ : St) (ls : Array Slot), lv_has ls 3 [(0, .ref (gad G k0)), (1, .int a1), (2, .int x3)] → Sim G (AG G) 0 0 p l e { frames := 8, cells := 0, slots := 0, locals := 178 } s m args below meth c (fun r : Int × St => MQ below (QC G (vI r.1) (r.2)) args s 0 0 (AG G)) σ (f_X7_same_L13 F k0 a1.toInt   n x3.toInt σ) (F0 m 13 ls []) := by
    intro n
    induction n with
    | zero =>
      intro x3 σ ls hl
      exact sim_none
    | succ n ih =>
      intro x3 σ ls hl
      rw [f_X7_same_L13]
      refine q_aload_n C dX7_same_13 rfl (lv_at hl 0 rfl) ?_
      refine q_iload_n C dX7_same_14 rfl (lv_at hl 1 rfl) ?_
      refine q_iload_n C dX7_same_15 rfl (lv_at hl 2 rfl) ?_
      refine q_c1i C (fun r h => cr_V (As := [.int a1, .int x3]) (rest := []) C (m_X7_differAt l G F k0 a1 x3 σ r h) cb_X7_differAt hk0 (by decide) rfl (cf_7 hk0 _) rfl kl_X7_385 ⟨Nat.le_of_ble_eq_true rfl, Nat.le_of_ble_eq_true rfl⟩ ⟨Nat.zero_le _, Nat.zero_le _⟩ hl.1 rfl (Nat.le_of_ble_eq_true rfl) dX7_same_16 rfl) (fun v4 => ?_)
      refine q_if_le C 28 dX7_same_19 (by decide) ?_ ?_
      · refine q_iload_n C dX7_same_28 rfl (lv_at hl 2 rfl) ?_
        exact q_iretE C hr hlo dX7_same_29
      · refine q_iinc (k := 2) C (fun v5 => [(2, .int v5), (0, .ref (gad G k0)), (1, .int a1)]) dX7_same_22 hl rfl (by decide) (by decide) (fun _ => rfl) (fun v5 ls hl => ?_)
        refine q_goto C 13 dX7_same_25 (by decide) ?_
        exact ih v5 σ ls (lv_sub hl [1, 2, 0] rfl)
  refine q_aload_n C dX7_same_0 rfl (lv_at hl 0 rfl) ?_
  refine q_iload_n C dX7_same_1 rfl (lv_at hl 1 rfl) ?_
  refine q_c2i C (fun r h => cr_V (As := [.int a1]) (rest := []) C (m_X7_asksAt l G F k0 a1 σ r h) cb_X7_asksAt hk0 (by decide) rfl (cf_7 hk0 _) rfl kl_X7_323 ⟨Nat.le_of_ble_eq_true rfl, Nat.le_of_ble_eq_true rfl⟩ ⟨Nat.zero_le _, Nat.zero_le _⟩ hl.1 rfl (Nat.le_of_ble_eq_true rfl) dX7_same_2 rfl) (fun v1 σ1 => ?_)
  refine q_if_ne C 11 dX7_same_5 (by decide) ?_ ?_
  · refine q_iconst C dX7_same_11 rfl (by decide) (fun v2 => ?_)
    refine q_istore_n C [(2, .int v2), (0, .ref (gad G k0)), (1, .int a1)] dX7_same_12 rfl hl (by decide) rfl (fun ls hl => ?_)
    exact B13 F v2 σ1 ls (lv_sub hl [1, 2, 0] rfl)
  · refine q_bipush C dX7_same_8 rfl (by decide) (fun v6 => ?_)
    exact q_iretE C hr hlo dX7_same_10
def f_X7_layCommands_L4 (F : Nat) (k0 : Nat)   : Nat → Int → Int → St → Option (Int × St)
  | 0, _, _, _ => none
  | n + 1, x3, x4, σ =>
    z_c1 (f_X7_events F k0 σ) fun v5 =>
    if v5 ≤ x4 then (
      some (x3, σ))
    else (
      z_c1 (f_X7_isCommand F k0 x4 σ) fun v6 =>
      if ¬ v6 = 0 then (
        z_ix x3 60 <| z_sg (z_up σ (k0 + 21) x3 x4) fun σ1 =>
        z_ck (x3 + 1) fun v7 =>
        z_ck (x4 + 1) fun v8 =>
        f_X7_layCommands_L4 F k0 n v7 v8 σ1)
      else (
        z_ck (x4 + 1) fun v9 =>
        f_X7_layCommands_L4 F k0 n x3 v9 σ))

def f_X7_layCommands (F : Nat) (k0 : Nat) (σ : St) : Option (Int × St) :=
  z_ob 7 k0 <| 
  z_gt 0 fun v1 =>
  z_gt 0 fun v2 =>
  f_X7_layCommands_L4 F k0 F v1 v2 σ
theorem cb_X7_layCommands : CB yX7_layCommands cX7_layCommands 3 (some .int) 0 := ⟨ki_X7_layCommands, kq_X7_layCommands, kn_X7, kc_X7_layCommands, by decide +kernel, by decide +kernel, by decide +kernel⟩
set_option maxRecDepth 20000 in
set_option maxHeartbeats 4000000 in
theorem m_X7_layCommands (l : Launch) (G : GG) (F : Nat) (k0 : Nat) (σ : St) : ∀ r, f_X7_layCommands F k0 σ = some r → MC G l yX7_layCommands cX7_layCommands 3 (some .int) { frames := 2, cells := 0, slots := 0, locals := 42 } [.ref (gad G k0)] σ (vI r.1) r.2 := by
  refine MC_of (own := RX7) (fun r : Int × St => vI r.1) (fun r : Int × St => r.2) (by decide +kernel) rfl (Nat.le_of_ble_eq_true rfl) ?_
  intro p e s m args below meth c C hr hlo ls hl
  have hl : lv_has ls 3 [(0, .ref (gad G k0))] := hl
  unfold f_X7_layCommands
  refine q_ob (fun hk0 => ?_)
  have B4 : ∀ (n : Nat) (x3 : Int32) (x4 : Int32) (σ : St) (ls : Array Slot), lv_has ls 3 [(0, .ref (gad G k0)), (1, .int x3), (2, .int x4)] → Sim G (AG G) 0 0 p l e { frames := 2, cells := 0, slots := 0, locals := 42 } s m args below meth c (fun r : Int × St => MQ below (QC G (vI r.1) (r.2)) args s 0 0 (AG G)) σ (f_X7_layCommands_L4 F k0   n x3.toInt x4.toInt σ) (F0 m 4 ls []) := by
    intro n
    induction n with
    | zero =>
      intro x3 x4 σ ls hl
      exact sim_none
    | succ n ih =>
      intro x3 x4 σ ls hl
      rw [f_X7_layCommands_L4]
      refine q_iload_n C dX7_layCommands_4 rfl (lv_at hl 2 rfl) ?_
      refine q_aload_n C dX7_layCommands_5 rfl (lv_at hl 0 rfl) ?_
      refine q_c1i C (fun r h => cr_V (As := []) (rest := [.int x4]) C (m_X7_events l G F k0 σ r h) cb_X7_events hk0 (by decide) rfl (cf_7 hk0 _) rfl kl_X7_111 ⟨Nat.le_of_ble_eq_true rfl, Nat.le_of_ble_eq_true rfl⟩ ⟨Nat.zero_le _, Nat.zero_le _⟩ hl.1 rfl (Nat.le_of_ble_eq_true rfl) dX7_layCommands_6 rfl) (fun v5 => ?_)
      refine q_icmp_ge C 39 dX7_layCommands_9 (by decide) ?_ ?_
      · refine q_iload_n C dX7_layCommands_39 rfl (lv_at hl 1 rfl) ?_
        exact q_iretE C hr hlo dX7_layCommands_40
      · refine q_aload_n C dX7_layCommands_12 rfl (lv_at hl 0 rfl) ?_
        refine q_iload_n C dX7_layCommands_13 rfl (lv_at hl 2 rfl) ?_
        refine q_c1i C (fun r h => cr_V (As := [.int x4]) (rest := []) C (m_X7_isCommand l G F k0 x4 σ r h) cb_X7_isCommand hk0 (by decide) rfl (cf_7 hk0 _) rfl kl_X7_249 ⟨Nat.le_of_ble_eq_true rfl, Nat.le_of_ble_eq_true rfl⟩ ⟨Nat.zero_le _, Nat.zero_le _⟩ hl.1 rfl (Nat.le_of_ble_eq_true rfl) dX7_layCommands_14 rfl) (fun v6 => ?_)
        refine q_if_ne C 23 dX7_layCommands_17 (by decide) ?_ ?_
        · refine q_aload_n C dX7_layCommands_23 rfl (lv_at hl 0 rfl) ?_
          refine g_7_31 C hk0 kf_X7_76 dX7_layCommands_24 ?_
          refine q_iload_n C dX7_layCommands_27 rfl (lv_at hl 1 rfl) ?_
          refine q_iload_n C dX7_layCommands_28 rfl (lv_at hl 2 rfl) ?_
          refine a_ist C (yk_7_31 hk0) (yl_7_31 hk0) dX7_layCommands_29 (q_sg (fun σ1 => ?_))
          refine q_iinc (k := 1) C (fun v7 => [(1, .int v7), (0, .ref (gad G k0)), (2, .int x4)]) dX7_layCommands_30 hl rfl (by decide) (by decide) (fun _ => rfl) (fun v7 ls hl => ?_)
          refine q_iinc (k := 2) C (fun v8 => [(2, .int v8), (1, .int v7), (0, .ref (gad G k0))]) dX7_layCommands_33 hl rfl (by decide) (by decide) (fun _ => rfl) (fun v8 ls hl => ?_)
          refine q_goto C 4 dX7_layCommands_36 (by decide) ?_
          exact ih v7 v8 σ1 ls (lv_sub hl [2, 1, 0] rfl)
        · refine q_goto C 33 dX7_layCommands_20 (by decide) ?_
          refine q_iinc (k := 2) C (fun v9 => [(2, .int v9), (0, .ref (gad G k0)), (1, .int x3)]) dX7_layCommands_33 hl rfl (by decide) (by decide) (fun _ => rfl) (fun v9 ls hl => ?_)
          refine q_goto C 4 dX7_layCommands_36 (by decide) ?_
          exact ih x3 v9 σ ls (lv_sub hl [1, 2, 0] rfl)
  refine q_iconst C dX7_layCommands_0 rfl (by decide) (fun v1 => ?_)
  refine q_istore_n C [(1, .int v1), (0, .ref (gad G k0))] dX7_layCommands_1 rfl hl (by decide) rfl (fun ls hl => ?_)
  refine q_iconst C dX7_layCommands_2 rfl (by decide) (fun v2 => ?_)
  refine q_istore_n C [(2, .int v2), (1, .int v1), (0, .ref (gad G k0))] dX7_layCommands_3 rfl hl (by decide) rfl (fun ls hl => ?_)
  exact B4 F v1 v2 σ ls (lv_sub hl [2, 1, 0] rfl)
def f_X7_changedIn_L20 (F : Nat) (k0 : Nat) (a1 : Int) (a2 : Int) (K5 : Int → Int → Option (Int)) (σ : St) : Nat → Int → Int → Int → Int → Option (Int)
  | 0, _, _, _, _ => none
  | n + 1, x7, x8, x9, x10 =>
    z_ck (a1 + a2) fun v11 =>
    if v11 ≤ x10 then (
      if x9 = 0 then (
        z_gt 0 fun v12 =>
        z_ck (x7 + v12) fun v13 =>
        z_ck (x8 + 1) fun v14 =>
        K5 v13 v14)
      else (
        z_gt 1 fun v15 =>
        z_ck (x7 + v15) fun v16 =>
        z_ck (x8 + 1) fun v17 =>
        K5 v16 v17))
    else (
      if ¬ x9 = 0 then (
        z_gt 1 fun v18 =>
        z_ck (x10 + 1) fun v19 =>
        f_X7_changedIn_L20 F k0 a1 a2 K5 σ n x7 x8 v18 v19)
      else (
        z_gt 32 fun v20 =>
        z_ix x10 60 <| z_gt (σ (k0 + 21) x10) fun v21 =>
        z_ck (v20 * v21) fun v22 =>
        z_ck (v22 + x8) fun v23 =>
        z_ix v23 1920 <| z_gt (σ (k0 + 9) v23) fun v24 =>
        if v24 = 0 then (
          z_gt 0 fun v25 =>
          z_ck (x10 + 1) fun v26 =>
          f_X7_changedIn_L20 F k0 a1 a2 K5 σ n x7 x8 v25 v26)
        else (
          z_gt 1 fun v27 =>
          z_ck (x10 + 1) fun v28 =>
          f_X7_changedIn_L20 F k0 a1 a2 K5 σ n x7 x8 v27 v28)))

def f_X7_changedIn_L5 (F : Nat) (k0 : Nat) (a1 : Int) (a2 : Int)  (σ : St) : Nat → Int → Int → Option (Int)
  | 0, _, _ => none
  | n + 1, x3, x4 =>
    z_c1 (f_X7_cells F k0 σ) fun v5 =>
    if v5 ≤ x4 then (
      some x3)
    else (
      z_gt 0 fun v6 =>
      f_X7_changedIn_L20 F k0 a1 a2 (f_X7_changedIn_L5 F k0 a1 a2 σ n) σ F x3 x4 v6 a1)

def f_X7_changedIn (F : Nat) (k0 : Nat) (a1 : Int) (a2 : Int) (σ : St) : Option (Int) :=
  z_ob 7 k0 <| 
  z_gt 0 fun v1 =>
  z_gt 0 fun v2 =>
  f_X7_changedIn_L5 F k0 a1 a2 σ F v1 v2
theorem cb_X7_changedIn : CB yX7_changedIn cX7_changedIn 7 (some .int) 2 := ⟨ki_X7_changedIn, kq_X7_changedIn, kn_X7, kc_X7_changedIn, by decide +kernel, by decide +kernel, by decide +kernel⟩
set_option maxRecDepth 20000 in
set_option maxHeartbeats 4000000 in
theorem m_X7_changedIn (l : Launch) (G : GG) (F : Nat) (k0 : Nat) (a1 : Int32) (a2 : Int32) (σ : St) : ∀ r, f_X7_changedIn F k0 a1.toInt a2.toInt σ = some r → MC G l yX7_changedIn cX7_changedIn 7 (some .int) { frames := 1, cells := 0, slots := 0, locals := 20 } [.ref (gad G k0), .int a1, .int a2] σ (vI r) σ := by
  refine MC_of (own := RX7) (vI) (fun _ => σ) (by decide +kernel) rfl (Nat.le_of_ble_eq_true rfl) ?_
  intro p e s m args below meth c C hr hlo ls hl
  have hl : lv_has ls 7 [(0, .ref (gad G k0)), (1, .int a1), (2, .int a2)] := hl
  unfold f_X7_changedIn
  refine q_ob (fun hk0 => ?_)
  have B20 : ∀ (K5 : Int → Int → Option (Int)) (hK5 : ∀ (y0 : Int32) (y1 : Int32)  (ls : Array Slot), lv_has ls 7 [(0, .ref (gad G k0)), (1, .int a1), (2, .int a2), (3, .int y0), (4, .int y1)] → Sim G (AG G) 0 0 p l e { frames := 1, cells := 0, slots := 0, locals := 20 } s m args below meth c (fun r : Int => MQ below (QC G (vI r) (σ)) args s 0 0 (AG G)) σ (K5 y0.toInt y1.toInt) (F0 m 5 ls [])), ∀ (n : Nat) (x7 : Int32) (x8 : Int32) (x9 : Int32) (x10 : Int32) (ls : Array Slot), lv_has ls 7 [(0, .ref (gad G k0)), (1, .int a1), (2, .int a2), (3, .int x7), (4, .int x8), (5, .int x9), (6, .int x10)] → Sim G (AG G) 0 0 p l e { frames := 1, cells := 0, slots := 0, locals := 20 } s m args below meth c (fun r : Int => MQ below (QC G (vI r) (σ)) args s 0 0 (AG G)) σ (f_X7_changedIn_L20 F k0 a1.toInt a2.toInt K5 σ n x7.toInt x8.toInt x9.toInt x10.toInt) (F0 m 20 ls []) := by
    intro K5 hK5
    intro n
    induction n with
    | zero =>
      intro x7 x8 x9 x10 ls hl
      exact sim_none
    | succ n ih =>
      intro x7 x8 x9 x10 ls hl
      rw [f_X7_changedIn_L20]
      refine q_iload C dX7_changedIn_20 (lv_at hl 6 rfl) ?_
      refine q_iload_n C dX7_changedIn_22 rfl (lv_at hl 1 rfl) ?_
      refine q_iload_n C dX7_changedIn_23 rfl (lv_at hl 2 rfl) ?_
      refine q_iadd C dX7_changedIn_24 (fun v11 => ?_)
      refine q_icmp_ge C 67 dX7_changedIn_25 (by decide) ?_ ?_
      · refine q_iload_n C dX7_changedIn_67 rfl (lv_at hl 3 rfl) ?_
        refine q_iload C dX7_changedIn_68 (lv_at hl 5 rfl) ?_
        refine q_if_eq C 77 dX7_changedIn_70 (by decide) ?_ ?_
        · refine q_iconst C dX7_changedIn_77 rfl (by decide) (fun v12 => ?_)
          refine q_iadd C dX7_changedIn_78 (fun v13 => ?_)
          refine q_istore_n C [(3, .int v13), (0, .ref (gad G k0)), (1, .int a1), (2, .int a2), (4, .int x8), (5, .int x9), (6, .int x10)] dX7_changedIn_79 rfl hl (by decide) rfl (fun ls hl => ?_)
          refine q_iinc (k := 4) C (fun v14 => [(4, .int v14), (3, .int v13), (0, .ref (gad G k0)), (1, .int a1), (2, .int a2), (5, .int x9), (6, .int x10)]) dX7_changedIn_80 hl rfl (by decide) (by decide) (fun _ => rfl) (fun v14 ls hl => ?_)
          refine q_goto C 5 dX7_changedIn_83 (by decide) ?_
          exact hK5 v13 v14 ls (lv_sub hl [2, 3, 4, 1, 0] rfl)
        · refine q_iconst C dX7_changedIn_73 rfl (by decide) (fun v15 => ?_)
          refine q_goto C 78 dX7_changedIn_74 (by decide) ?_
          refine q_iadd C dX7_changedIn_78 (fun v16 => ?_)
          refine q_istore_n C [(3, .int v16), (0, .ref (gad G k0)), (1, .int a1), (2, .int a2), (4, .int x8), (5, .int x9), (6, .int x10)] dX7_changedIn_79 rfl hl (by decide) rfl (fun ls hl => ?_)
          refine q_iinc (k := 4) C (fun v17 => [(4, .int v17), (3, .int v16), (0, .ref (gad G k0)), (1, .int a1), (2, .int a2), (5, .int x9), (6, .int x10)]) dX7_changedIn_80 hl rfl (by decide) (by decide) (fun _ => rfl) (fun v17 ls hl => ?_)
          refine q_goto C 5 dX7_changedIn_83 (by decide) ?_
          exact hK5 v16 v17 ls (lv_sub hl [2, 3, 4, 1, 0] rfl)
      · refine q_iload C dX7_changedIn_28 (lv_at hl 5 rfl) ?_
        refine q_if_ne C 54 dX7_changedIn_30 (by decide) ?_ ?_
        · refine q_iconst C dX7_changedIn_54 rfl (by decide) (fun v18 => ?_)
          refine q_goto C 59 dX7_changedIn_55 (by decide) ?_
          refine q_istore C [(5, .int v18), (0, .ref (gad G k0)), (1, .int a1), (2, .int a2), (3, .int x7), (4, .int x8), (6, .int x10)] dX7_changedIn_59 hl (by decide) rfl (fun ls hl => ?_)
          refine q_iinc (k := 6) C (fun v19 => [(6, .int v19), (5, .int v18), (0, .ref (gad G k0)), (1, .int a1), (2, .int a2), (3, .int x7), (4, .int x8)]) dX7_changedIn_61 hl rfl (by decide) (by decide) (fun _ => rfl) (fun v19 ls hl => ?_)
          refine q_goto C 20 dX7_changedIn_64 (by decide) ?_
          exact ih x7 x8 v18 v19 ls (lv_sub hl [2, 3, 4, 5, 6, 1, 0] rfl)
        · refine q_aload_n C dX7_changedIn_33 rfl (lv_at hl 0 rfl) ?_
          refine g_7_17 C hk0 kf_X7_40 dX7_changedIn_34 ?_
          refine q_bipush C dX7_changedIn_37 rfl (by decide) (fun v20 => ?_)
          refine q_aload_n C dX7_changedIn_39 rfl (lv_at hl 0 rfl) ?_
          refine g_7_31 C hk0 kf_X7_76 dX7_changedIn_40 ?_
          refine q_iload C dX7_changedIn_43 (lv_at hl 6 rfl) ?_
          refine a_ild C (yk_7_31 hk0) (yl_7_31 hk0) dX7_changedIn_45 (fun v21 => ?_)
          refine q_imul C dX7_changedIn_46 (fun v22 => ?_)
          refine q_iload C dX7_changedIn_47 (lv_at hl 4 rfl) ?_
          refine q_iadd C dX7_changedIn_49 (fun v23 => ?_)
          refine a_zld C (yk_7_17 hk0) (yl_7_17 hk0) dX7_changedIn_50 (fun v24 => ?_)
          refine q_if_eq C 58 dX7_changedIn_51 (by decide) ?_ ?_
          · refine q_iconst C dX7_changedIn_58 rfl (by decide) (fun v25 => ?_)
            refine q_istore C [(5, .int v25), (0, .ref (gad G k0)), (1, .int a1), (2, .int a2), (3, .int x7), (4, .int x8), (6, .int x10)] dX7_changedIn_59 hl (by decide) rfl (fun ls hl => ?_)
            refine q_iinc (k := 6) C (fun v26 => [(6, .int v26), (5, .int v25), (0, .ref (gad G k0)), (1, .int a1), (2, .int a2), (3, .int x7), (4, .int x8)]) dX7_changedIn_61 hl rfl (by decide) (by decide) (fun _ => rfl) (fun v26 ls hl => ?_)
            refine q_goto C 20 dX7_changedIn_64 (by decide) ?_
            exact ih x7 x8 v25 v26 ls (lv_sub hl [2, 3, 4, 5, 6, 1, 0] rfl)
          · refine q_iconst C dX7_changedIn_54 rfl (by decide) (fun v27 => ?_)
            refine q_goto C 59 dX7_changedIn_55 (by decide) ?_
            refine q_istore C [(5, .int v27), (0, .ref (gad G k0)), (1, .int a1), (2, .int a2), (3, .int x7), (4, .int x8), (6, .int x10)] dX7_changedIn_59 hl (by decide) rfl (fun ls hl => ?_)
            refine q_iinc (k := 6) C (fun v28 => [(6, .int v28), (5, .int v27), (0, .ref (gad G k0)), (1, .int a1), (2, .int a2), (3, .int x7), (4, .int x8)]) dX7_changedIn_61 hl rfl (by decide) (by decide) (fun _ => rfl) (fun v28 ls hl => ?_)
            refine q_goto C 20 dX7_changedIn_64 (by decide) ?_
            exact ih x7 x8 v27 v28 ls (lv_sub hl [2, 3, 4, 5, 6, 1, 0] rfl)
  have B5 : ∀ (n : Nat) (x3 : Int32) (x4 : Int32) (ls : Array Slot), lv_has ls 7 [(0, .ref (gad G k0)), (1, .int a1), (2, .int a2), (3, .int x3), (4, .int x4)] → Sim G (AG G) 0 0 p l e { frames := 1, cells := 0, slots := 0, locals := 20 } s m args below meth c (fun r : Int => MQ below (QC G (vI r) (σ)) args s 0 0 (AG G)) σ (f_X7_changedIn_L5 F k0 a1.toInt a2.toInt  σ n x3.toInt x4.toInt) (F0 m 5 ls []) := by
    intro n
    induction n with
    | zero =>
      intro x3 x4 ls hl
      exact sim_none
    | succ n ih =>
      intro x3 x4 ls hl
      rw [f_X7_changedIn_L5]
      refine q_iload C dX7_changedIn_5 (lv_at hl 4 rfl) ?_
      refine q_aload_n C dX7_changedIn_7 rfl (lv_at hl 0 rfl) ?_
      refine q_c1i C (fun r h => cr_V (As := []) (rest := [.int x4]) C (m_X7_cells l G F k0 σ r h) cb_X7_cells hk0 (by decide) rfl (cf_7 hk0 _) rfl kl_X7_107 ⟨Nat.le_of_ble_eq_true rfl, Nat.le_of_ble_eq_true rfl⟩ ⟨Nat.zero_le _, Nat.zero_le _⟩ hl.1 rfl (Nat.le_of_ble_eq_true rfl) dX7_changedIn_8 rfl) (fun v5 => ?_)
      refine q_icmp_ge C 86 dX7_changedIn_11 (by decide) ?_ ?_
      · refine q_iload_n C dX7_changedIn_86 rfl (lv_at hl 3 rfl) ?_
        exact q_iret C hr hlo dX7_changedIn_87
      · refine q_iconst C dX7_changedIn_14 rfl (by decide) (fun v6 => ?_)
        refine q_istore C [(5, .int v6), (0, .ref (gad G k0)), (1, .int a1), (2, .int a2), (3, .int x3), (4, .int x4)] dX7_changedIn_15 hl (by decide) rfl (fun ls hl => ?_)
        refine q_iload_n C dX7_changedIn_17 rfl (lv_at hl 2 rfl) ?_
        refine q_istore C [(6, .int a1), (5, .int v6), (0, .ref (gad G k0)), (1, .int a1), (2, .int a2), (3, .int x3), (4, .int x4)] dX7_changedIn_18 hl (by decide) rfl (fun ls hl => ?_)
        exact B20 (f_X7_changedIn_L5 F k0 a1.toInt a2.toInt σ n) ih F x3 x4 v6 a1 ls (lv_sub hl [2, 3, 4, 5, 6, 1, 0] rfl)
  refine q_iconst C dX7_changedIn_0 rfl (by decide) (fun v1 => ?_)
  refine q_istore_n C [(3, .int v1), (0, .ref (gad G k0)), (1, .int a1), (2, .int a2)] dX7_changedIn_1 rfl hl (by decide) rfl (fun ls hl => ?_)
  refine q_iconst C dX7_changedIn_2 rfl (by decide) (fun v2 => ?_)
  refine q_istore C [(4, .int v2), (3, .int v1), (0, .ref (gad G k0)), (1, .int a1), (2, .int a2)] dX7_changedIn_3 hl (by decide) rfl (fun ls hl => ?_)
  exact B5 F v1 v2 ls (lv_sub hl [2, 3, 4, 1, 0] rfl)
def f_X7_paceBy_L21 (F : Nat) (k0 : Nat) (a1 : Int)   : Nat → Int → Int → Int → St → Option (Int × St)
  | 0, _, _, _, _ => none
  | n + 1, x3, x4, x5, σ =>
    if x3 ≤ x5 then (
      some (x4, σ))
    else (
      z_ck (x5 - a1) fun v6 =>
      z_c1 (f_X7_changedIn F k0 v6 a1 σ) fun v7 =>
      z_ck (x4 + v7) fun v8 =>
      z_ck (x5 + a1) fun v9 =>
      f_X7_paceBy_L21 F k0 a1 n x3 v8 v9 σ)

def f_X7_paceBy (F : Nat) (k0 : Nat) (a1 : Int) (σ : St) : Option (Int × St) :=
  z_ob 7 k0 <| 
  z_c2 (f_X7_layCommands F k0 σ) fun v1 σ1 =>
  if ¬ v1 = 0 then (
    z_c1 (f_X7_cells F k0 σ1) fun v2 =>
    f_X7_paceBy_L21 F k0 a1 F v1 v2 a1 σ1)
  else (
    z_gt 0 fun v10 =>
    f_X7_paceBy_L21 F k0 a1 F v1 v10 a1 σ1)
theorem cb_X7_paceBy : CB yX7_paceBy cX7_paceBy 5 (some .int) 1 := ⟨ki_X7_paceBy, kq_X7_paceBy, kn_X7, kc_X7_paceBy, by decide +kernel, by decide +kernel, by decide +kernel⟩
set_option maxRecDepth 20000 in
set_option maxHeartbeats 4000000 in
theorem m_X7_paceBy (l : Launch) (G : GG) (F : Nat) (k0 : Nat) (a1 : Int32) (σ : St) : ∀ r, f_X7_paceBy F k0 a1.toInt σ = some r → MC G l yX7_paceBy cX7_paceBy 5 (some .int) { frames := 3, cells := 0, slots := 0, locals := 64 } [.ref (gad G k0), .int a1] σ (vI r.1) r.2 := by
  refine MC_of (own := RX7) (fun r : Int × St => vI r.1) (fun r : Int × St => r.2) (by decide +kernel) rfl (Nat.le_of_ble_eq_true rfl) ?_
  intro p e s m args below meth c C hr hlo ls hl
  have hl : lv_has ls 5 [(0, .ref (gad G k0)), (1, .int a1)] := hl
  unfold f_X7_paceBy
  refine q_ob (fun hk0 => ?_)
  have B21 : ∀ (n : Nat) (x3 : Int32) (x4 : Int32) (x5 : Int32) (σ : St) (ls : Array Slot), lv_has ls 5 [(0, .ref (gad G k0)), (1, .int a1), (2, .int x3), (3, .int x4), (4, .int x5)] → Sim G (AG G) 0 0 p l e { frames := 3, cells := 0, slots := 0, locals := 64 } s m args below meth c (fun r : Int × St => MQ below (QC G (vI r.1) (r.2)) args s 0 0 (AG G)) σ (f_X7_paceBy_L21 F k0 a1.toInt   n x3.toInt x4.toInt x5.toInt σ) (F0 m 21 ls []) := by
    intro n
    induction n with
    | zero =>
      intro x3 x4 x5 σ ls hl
      exact sim_none
    | succ n ih =>
      intro x3 x4 x5 σ ls hl
      rw [f_X7_paceBy_L21]
      refine q_iload C dX7_paceBy_21 (lv_at hl 4 rfl) ?_
      refine q_iload_n C dX7_paceBy_23 rfl (lv_at hl 2 rfl) ?_
      refine q_icmp_ge C 48 dX7_paceBy_24 (by decide) ?_ ?_
      · refine q_iload_n C dX7_paceBy_48 rfl (lv_at hl 3 rfl) ?_
        exact q_iretE C hr hlo dX7_paceBy_49
      · refine q_iload_n C dX7_paceBy_27 rfl (lv_at hl 3 rfl) ?_
        refine q_aload_n C dX7_paceBy_28 rfl (lv_at hl 0 rfl) ?_
        refine q_iload C dX7_paceBy_29 (lv_at hl 4 rfl) ?_
        refine q_iload_n C dX7_paceBy_31 rfl (lv_at hl 1 rfl) ?_
        refine q_isub C dX7_paceBy_32 (fun v6 => ?_)
        refine q_iload_n C dX7_paceBy_33 rfl (lv_at hl 1 rfl) ?_
        refine q_c1i C (fun r h => cr_V (As := [.int v6, .int a1]) (rest := [.int x4]) C (m_X7_changedIn l G F k0 v6 a1 σ r h) cb_X7_changedIn hk0 (by decide) rfl (cf_7 hk0 _) rfl kl_X7_391 ⟨Nat.le_of_ble_eq_true rfl, Nat.le_of_ble_eq_true rfl⟩ ⟨Nat.zero_le _, Nat.zero_le _⟩ hl.1 rfl (Nat.le_of_ble_eq_true rfl) dX7_paceBy_34 rfl) (fun v7 => ?_)
        refine q_iadd C dX7_paceBy_37 (fun v8 => ?_)
        refine q_istore_n C [(3, .int v8), (0, .ref (gad G k0)), (1, .int a1), (2, .int x3), (4, .int x5)] dX7_paceBy_38 rfl hl (by decide) rfl (fun ls hl => ?_)
        refine q_iload C dX7_paceBy_39 (lv_at hl 4 rfl) ?_
        refine q_iload_n C dX7_paceBy_41 rfl (lv_at hl 2 rfl) ?_
        refine q_iadd C dX7_paceBy_42 (fun v9 => ?_)
        refine q_istore C [(4, .int v9), (3, .int v8), (0, .ref (gad G k0)), (1, .int a1), (2, .int x3)] dX7_paceBy_43 hl (by decide) rfl (fun ls hl => ?_)
        refine q_goto C 21 dX7_paceBy_45 (by decide) ?_
        exact ih x3 v8 v9 σ ls (lv_sub hl [2, 3, 4, 1, 0] rfl)
  refine q_aload_n C dX7_paceBy_0 rfl (lv_at hl 0 rfl) ?_
  refine q_c2i C (fun r h => cr_V (As := []) (rest := []) C (m_X7_layCommands l G F k0 σ r h) cb_X7_layCommands hk0 (by decide) rfl (cf_7 hk0 _) rfl kl_X7_388 ⟨Nat.le_of_ble_eq_true rfl, Nat.le_of_ble_eq_true rfl⟩ ⟨Nat.zero_le _, Nat.zero_le _⟩ hl.1 rfl (Nat.le_of_ble_eq_true rfl) dX7_paceBy_1 rfl) (fun v1 σ1 => ?_)
  refine q_istore_n C [(2, .int v1), (0, .ref (gad G k0)), (1, .int a1)] dX7_paceBy_4 rfl hl (by decide) rfl (fun ls hl => ?_)
  refine q_iload_n C dX7_paceBy_5 rfl (lv_at hl 0 rfl) ?_
  refine q_if_ne C 13 dX7_paceBy_6 (by decide) ?_ ?_
  · refine q_aload_n C dX7_paceBy_13 rfl (lv_at hl 1 rfl) ?_
    refine q_c1i C (fun r h => cr_V (As := []) (rest := []) C (m_X7_cells l G F k0 σ1 r h) cb_X7_cells hk0 (by decide) rfl (cf_7 hk0 _) rfl kl_X7_107 ⟨Nat.le_of_ble_eq_true rfl, Nat.le_of_ble_eq_true rfl⟩ ⟨Nat.zero_le _, Nat.zero_le _⟩ hl.1 rfl (Nat.le_of_ble_eq_true rfl) dX7_paceBy_14 rfl) (fun v2 => ?_)
    refine q_istore_n C [(3, .int v2), (2, .int v1), (0, .ref (gad G k0)), (1, .int a1)] dX7_paceBy_17 rfl hl (by decide) rfl (fun ls hl => ?_)
    refine q_iload_n C dX7_paceBy_18 rfl (lv_at hl 3 rfl) ?_
    refine q_istore C [(4, .int a1), (3, .int v2), (2, .int v1), (0, .ref (gad G k0)), (1, .int a1)] dX7_paceBy_19 hl (by decide) rfl (fun ls hl => ?_)
    exact B21 F v1 v2 a1 σ1 ls (lv_sub hl [3, 4, 2, 1, 0] rfl)
  · refine q_iconst C dX7_paceBy_9 rfl (by decide) (fun v10 => ?_)
    refine q_goto C 17 dX7_paceBy_10 (by decide) ?_
    refine q_istore_n C [(3, .int v10), (2, .int v1), (0, .ref (gad G k0)), (1, .int a1)] dX7_paceBy_17 rfl hl (by decide) rfl (fun ls hl => ?_)
    refine q_iload_n C dX7_paceBy_18 rfl (lv_at hl 3 rfl) ?_
    refine q_istore C [(4, .int a1), (3, .int v10), (2, .int v1), (0, .ref (gad G k0)), (1, .int a1)] dX7_paceBy_19 hl (by decide) rfl (fun ls hl => ?_)
    exact B21 F v1 v10 a1 σ1 ls (lv_sub hl [3, 4, 2, 1, 0] rfl)
def f_X7_pace (F : Nat) (k0 : Nat) (a1 : Int) (σ : St) : Option (Int × St) :=
  z_ob 7 k0 <| 
  z_c2 (f_X7_asks F k0 σ) fun v1 σ1 =>
  if v1 = 0 then (
    z_gt (-2) fun v2 =>
    some (v2, σ1))
  else (
    z_gt a1 fun v3 =>
    z_gt 1 fun v4 =>
    z_gt 20 fun v5 =>
    z_c1 (f_X7_in F v3 v4 v5 σ1) fun v6 =>
    if v6 = 0 then (
      z_gt (-2) fun v7 =>
      some (v7, σ1))
    else (
      z_c2 (f_X7_paceBy F k0 a1 σ1) fun v8 σ2 =>
      some (v8, σ2)))
theorem cb_X7_pace : CB yX7_pace cX7_pace 2 (some .int) 1 := ⟨ki_X7_pace, kq_X7_pace, kn_X7, kc_X7_pace, by decide +kernel, by decide +kernel, by decide +kernel⟩
set_option maxRecDepth 20000 in
set_option maxHeartbeats 4000000 in
theorem m_X7_pace (l : Launch) (G : GG) (F : Nat) (k0 : Nat) (a1 : Int32) (σ : St) : ∀ r, f_X7_pace F k0 a1.toInt σ = some r → MC G l yX7_pace cX7_pace 2 (some .int) { frames := 7, cells := 0, slots := 0, locals := 157 } [.ref (gad G k0), .int a1] σ (vI r.1) r.2 := by
  refine MC_of (own := RX7) (fun r : Int × St => vI r.1) (fun r : Int × St => r.2) (by decide +kernel) rfl (Nat.le_of_ble_eq_true rfl) ?_
  intro p e s m args below meth c C hr hlo ls hl
  have hl : lv_has ls 2 [(0, .ref (gad G k0)), (1, .int a1)] := hl
  unfold f_X7_pace
  refine q_ob (fun hk0 => ?_)
  refine q_aload_n C dX7_pace_0 rfl (lv_at hl 0 rfl) ?_
  refine q_c2i C (fun r h => cr_V (As := []) (rest := []) C (m_X7_asks l G F k0 σ r h) cb_X7_asks hk0 (by decide) rfl (cf_7 hk0 _) rfl kl_X7_316 ⟨Nat.le_of_ble_eq_true rfl, Nat.le_of_ble_eq_true rfl⟩ ⟨Nat.zero_le _, Nat.zero_le _⟩ hl.1 rfl (Nat.le_of_ble_eq_true rfl) dX7_pace_1 rfl) (fun v1 σ1 => ?_)
  refine q_if_eq C 27 dX7_pace_4 (by decide) ?_ ?_
  · refine q_bipush C dX7_pace_27 rfl (by decide) (fun v2 => ?_)
    exact q_iretE C hr hlo dX7_pace_29
  · refine q_iload_n C dX7_pace_7 rfl (lv_at hl 1 rfl) ?_
    refine q_i2l C dX7_pace_8 (fun v3 => ?_)
    refine q_lconst C dX7_pace_9 rfl (by decide) (fun v4 => ?_)
    refine q_ldc2 C kk_X7_394 dX7_pace_10 (by decide) (fun v5 => ?_)
    refine q_c1i C (fun r h => cr_S (As := [.long v3, .long v4, .long v5]) (rest := []) C (m_X7_in l G F v3 v4 v5 σ1 r h) sb_X7_in kl_X7_103 ⟨Nat.le_of_ble_eq_true rfl, Nat.le_of_ble_eq_true rfl⟩ ⟨Nat.zero_le _, Nat.zero_le _⟩ hl.1 rfl (Nat.le_of_ble_eq_true rfl) dX7_pace_13 rfl) (fun v6 => ?_)
    refine q_if_eq C 27 dX7_pace_16 (by decide) ?_ ?_
    · refine q_bipush C dX7_pace_27 rfl (by decide) (fun v7 => ?_)
      exact q_iretE C hr hlo dX7_pace_29
    · refine q_aload_n C dX7_pace_19 rfl (lv_at hl 0 rfl) ?_
      refine q_iload_n C dX7_pace_20 rfl (lv_at hl 1 rfl) ?_
      refine q_c2i C (fun r h => cr_V (As := [.int a1]) (rest := []) C (m_X7_paceBy l G F k0 a1 σ1 r h) cb_X7_paceBy hk0 (by decide) rfl (cf_7 hk0 _) rfl kl_X7_396 ⟨Nat.le_of_ble_eq_true rfl, Nat.le_of_ble_eq_true rfl⟩ ⟨Nat.zero_le _, Nat.zero_le _⟩ hl.1 rfl (Nat.le_of_ble_eq_true rfl) dX7_pace_21 rfl) (fun v8 σ2 => ?_)
      refine q_goto C 29 dX7_pace_24 (by decide) ?_
      exact q_iretE C hr hlo dX7_pace_29
def f_X7_costBy (F : Nat) (k0 : Nat) (a1 : Int) (σ : St) : Option (Int × St) :=
  z_ob 7 k0 <| 
  z_c2 (f_X7_layCommands F k0 σ) fun v1 σ1 =>
  if ¬ v1 = 0 then (
    z_gt 1 fun v2 =>
    z_ck (v1 - v2) fun v3 =>
    z_nz a1 <| z_gt (v3.tmod a1) fun v4 =>
    z_gt 1 fun v5 =>
    z_ck (v4 + v5) fun v6 =>
    z_c2 (f_X7_paceBy F k0 a1 σ1) fun v7 σ2 =>
    z_gt 2 fun v8 =>
    z_ck (v8 * v6) fun v9 =>
    z_ck (v7 + v9) fun v10 =>
    some (v10, σ2))
  else (
    z_gt 0 fun v11 =>
    z_c2 (f_X7_paceBy F k0 a1 σ1) fun v12 σ3 =>
    z_gt 2 fun v13 =>
    z_ck (v13 * v11) fun v14 =>
    z_ck (v12 + v14) fun v15 =>
    some (v15, σ3))
theorem cb_X7_costBy : CB yX7_costBy cX7_costBy 4 (some .int) 1 := ⟨ki_X7_costBy, kq_X7_costBy, kn_X7, kc_X7_costBy, by decide +kernel, by decide +kernel, by decide +kernel⟩
set_option maxRecDepth 20000 in
set_option maxHeartbeats 4000000 in
theorem m_X7_costBy (l : Launch) (G : GG) (F : Nat) (k0 : Nat) (a1 : Int32) (σ : St) : ∀ r, f_X7_costBy F k0 a1.toInt σ = some r → MC G l yX7_costBy cX7_costBy 4 (some .int) { frames := 4, cells := 0, slots := 0, locals := 88 } [.ref (gad G k0), .int a1] σ (vI r.1) r.2 := by
  refine MC_of (own := RX7) (fun r : Int × St => vI r.1) (fun r : Int × St => r.2) (by decide +kernel) rfl (Nat.le_of_ble_eq_true rfl) ?_
  intro p e s m args below meth c C hr hlo ls hl
  have hl : lv_has ls 4 [(0, .ref (gad G k0)), (1, .int a1)] := hl
  unfold f_X7_costBy
  refine q_ob (fun hk0 => ?_)
  refine q_aload_n C dX7_costBy_0 rfl (lv_at hl 0 rfl) ?_
  refine q_c2i C (fun r h => cr_V (As := []) (rest := []) C (m_X7_layCommands l G F k0 σ r h) cb_X7_layCommands hk0 (by decide) rfl (cf_7 hk0 _) rfl kl_X7_388 ⟨Nat.le_of_ble_eq_true rfl, Nat.le_of_ble_eq_true rfl⟩ ⟨Nat.zero_le _, Nat.zero_le _⟩ hl.1 rfl (Nat.le_of_ble_eq_true rfl) dX7_costBy_1 rfl) (fun v1 σ1 => ?_)
  refine q_istore_n C [(2, .int v1), (0, .ref (gad G k0)), (1, .int a1)] dX7_costBy_4 rfl hl (by decide) rfl (fun ls hl => ?_)
  refine q_iload_n C dX7_costBy_5 rfl (lv_at hl 0 rfl) ?_
  refine q_if_ne C 13 dX7_costBy_6 (by decide) ?_ ?_
  · refine q_iload_n C dX7_costBy_13 rfl (lv_at hl 0 rfl) ?_
    refine q_iconst C dX7_costBy_14 rfl (by decide) (fun v2 => ?_)
    refine q_isub C dX7_costBy_15 (fun v3 => ?_)
    refine q_iload_n C dX7_costBy_16 rfl (lv_at hl 2 rfl) ?_
    refine q_irem C dX7_costBy_17 (fun v4 => ?_)
    refine q_iconst C dX7_costBy_18 rfl (by decide) (fun v5 => ?_)
    refine q_iadd C dX7_costBy_19 (fun v6 => ?_)
    refine q_istore_n C [(3, .int v6), (2, .int v1), (0, .ref (gad G k0)), (1, .int a1)] dX7_costBy_20 rfl hl (by decide) rfl (fun ls hl => ?_)
    refine q_aload_n C dX7_costBy_21 rfl (lv_at hl 2 rfl) ?_
    refine q_iload_n C dX7_costBy_22 rfl (lv_at hl 3 rfl) ?_
    refine q_c2i C (fun r h => cr_V (As := [.int a1]) (rest := []) C (m_X7_paceBy l G F k0 a1 σ1 r h) cb_X7_paceBy hk0 (by decide) rfl (cf_7 hk0 _) rfl kl_X7_396 ⟨Nat.le_of_ble_eq_true rfl, Nat.le_of_ble_eq_true rfl⟩ ⟨Nat.zero_le _, Nat.zero_le _⟩ hl.1 rfl (Nat.le_of_ble_eq_true rfl) dX7_costBy_23 rfl) (fun v7 σ2 => ?_)
    refine q_iconst C dX7_costBy_26 rfl (by decide) (fun v8 => ?_)
    refine q_iload_n C dX7_costBy_27 rfl (lv_at hl 0 rfl) ?_
    refine q_imul C dX7_costBy_28 (fun v9 => ?_)
    refine q_iadd C dX7_costBy_29 (fun v10 => ?_)
    exact q_iretE C hr hlo dX7_costBy_30
  · refine q_iconst C dX7_costBy_9 rfl (by decide) (fun v11 => ?_)
    refine q_goto C 20 dX7_costBy_10 (by decide) ?_
    refine q_istore_n C [(3, .int v11), (2, .int v1), (0, .ref (gad G k0)), (1, .int a1)] dX7_costBy_20 rfl hl (by decide) rfl (fun ls hl => ?_)
    refine q_aload_n C dX7_costBy_21 rfl (lv_at hl 2 rfl) ?_
    refine q_iload_n C dX7_costBy_22 rfl (lv_at hl 3 rfl) ?_
    refine q_c2i C (fun r h => cr_V (As := [.int a1]) (rest := []) C (m_X7_paceBy l G F k0 a1 σ1 r h) cb_X7_paceBy hk0 (by decide) rfl (cf_7 hk0 _) rfl kl_X7_396 ⟨Nat.le_of_ble_eq_true rfl, Nat.le_of_ble_eq_true rfl⟩ ⟨Nat.zero_le _, Nat.zero_le _⟩ hl.1 rfl (Nat.le_of_ble_eq_true rfl) dX7_costBy_23 rfl) (fun v12 σ3 => ?_)
    refine q_iconst C dX7_costBy_26 rfl (by decide) (fun v13 => ?_)
    refine q_iload_n C dX7_costBy_27 rfl (lv_at hl 0 rfl) ?_
    refine q_imul C dX7_costBy_28 (fun v14 => ?_)
    refine q_iadd C dX7_costBy_29 (fun v15 => ?_)
    exact q_iretE C hr hlo dX7_costBy_30
def f_X7_best_L14 (F : Nat) (k0 : Nat)   : Nat → Int → Int → St → Option (Int × St)
  | 0, _, _, _ => none
  | n + 1, x4, x5, σ =>
    z_gt 20 fun v6 =>
    if v6 < x5 then (
      some (x4, σ))
    else (
      z_c2 (f_X7_costBy F k0 x5 σ) fun v7 σ2 =>
      z_c2 (f_X7_costBy F k0 x4 σ2) fun v8 σ3 =>
      if v8 ≤ v7 then (
        z_ck (x5 + 1) fun v9 =>
        f_X7_best_L14 F k0 n x4 v9 σ3)
      else (
        z_ck (x5 + 1) fun v10 =>
        f_X7_best_L14 F k0 n x5 v10 σ3))

def f_X7_best (F : Nat) (k0 : Nat) (σ : St) : Option (Int × St) :=
  z_ob 7 k0 <| 
  z_c2 (f_X7_asks F k0 σ) fun v1 σ1 =>
  if ¬ v1 = 0 then (
    z_gt 1 fun v2 =>
    z_gt 2 fun v3 =>
    f_X7_best_L14 F k0 F v2 v3 σ1)
  else (
    z_gt (-2) fun v11 =>
    some (v11, σ1))
theorem cb_X7_best : CB yX7_best cX7_best 3 (some .int) 0 := ⟨ki_X7_best, kq_X7_best, kn_X7, kc_X7_best, by decide +kernel, by decide +kernel, by decide +kernel⟩
set_option maxRecDepth 20000 in
set_option maxHeartbeats 4000000 in
theorem m_X7_best (l : Launch) (G : GG) (F : Nat) (k0 : Nat) (σ : St) : ∀ r, f_X7_best F k0 σ = some r → MC G l yX7_best cX7_best 3 (some .int) { frames := 7, cells := 0, slots := 0, locals := 157 } [.ref (gad G k0)] σ (vI r.1) r.2 := by
  refine MC_of (own := RX7) (fun r : Int × St => vI r.1) (fun r : Int × St => r.2) (by decide +kernel) rfl (Nat.le_of_ble_eq_true rfl) ?_
  intro p e s m args below meth c C hr hlo ls hl
  have hl : lv_has ls 3 [(0, .ref (gad G k0))] := hl
  unfold f_X7_best
  refine q_ob (fun hk0 => ?_)
  have B14 : ∀ (n : Nat) (x4 : Int32) (x5 : Int32) (σ : St) (ls : Array Slot), lv_has ls 3 [(0, .ref (gad G k0)), (1, .int x4), (2, .int x5)] → Sim G (AG G) 0 0 p l e { frames := 7, cells := 0, slots := 0, locals := 157 } s m args below meth c (fun r : Int × St => MQ below (QC G (vI r.1) (r.2)) args s 0 0 (AG G)) σ (f_X7_best_L14 F k0   n x4.toInt x5.toInt σ) (F0 m 14 ls []) := by
    intro n
    induction n with
    | zero =>
      intro x4 x5 σ ls hl
      exact sim_none
    | succ n ih =>
      intro x4 x5 σ ls hl
      rw [f_X7_best_L14]
      refine q_iload_n C dX7_best_14 rfl (lv_at hl 2 rfl) ?_
      refine q_bipush C dX7_best_15 rfl (by decide) (fun v6 => ?_)
      refine q_icmp_gt C 41 dX7_best_17 (by decide) ?_ ?_
      · refine q_iload_n C dX7_best_41 rfl (lv_at hl 1 rfl) ?_
        exact q_iretE C hr hlo dX7_best_42
      · refine q_aload_n C dX7_best_20 rfl (lv_at hl 0 rfl) ?_
        refine q_iload_n C dX7_best_21 rfl (lv_at hl 2 rfl) ?_
        refine q_c2i C (fun r h => cr_V (As := [.int x5]) (rest := []) C (m_X7_costBy l G F k0 x5 σ r h) cb_X7_costBy hk0 (by decide) rfl (cf_7 hk0 _) rfl kl_X7_399 ⟨Nat.le_of_ble_eq_true rfl, Nat.le_of_ble_eq_true rfl⟩ ⟨Nat.zero_le _, Nat.zero_le _⟩ hl.1 rfl (Nat.le_of_ble_eq_true rfl) dX7_best_22 rfl) (fun v7 σ2 => ?_)
        refine q_aload_n C dX7_best_25 rfl (lv_at hl 0 rfl) ?_
        refine q_iload_n C dX7_best_26 rfl (lv_at hl 1 rfl) ?_
        refine q_c2i C (fun r h => cr_V (As := [.int x4]) (rest := [.int v7]) C (m_X7_costBy l G F k0 x4 σ2 r h) cb_X7_costBy hk0 (by decide) rfl (cf_7 hk0 _) rfl kl_X7_399 ⟨Nat.le_of_ble_eq_true rfl, Nat.le_of_ble_eq_true rfl⟩ ⟨Nat.zero_le _, Nat.zero_le _⟩ hl.1 rfl (Nat.le_of_ble_eq_true rfl) dX7_best_27 rfl) (fun v8 σ3 => ?_)
        refine q_icmp_ge C 35 dX7_best_30 (by decide) ?_ ?_
        · refine q_iinc (k := 2) C (fun v9 => [(2, .int v9), (0, .ref (gad G k0)), (1, .int x4)]) dX7_best_35 hl rfl (by decide) (by decide) (fun _ => rfl) (fun v9 ls hl => ?_)
          refine q_goto C 14 dX7_best_38 (by decide) ?_
          exact ih x4 v9 σ3 ls (lv_sub hl [1, 2, 0] rfl)
        · refine q_iload_n C dX7_best_33 rfl (lv_at hl 2 rfl) ?_
          refine q_istore_n C [(1, .int x5), (0, .ref (gad G k0)), (2, .int x5)] dX7_best_34 rfl hl (by decide) rfl (fun ls hl => ?_)
          refine q_iinc (k := 2) C (fun v10 => [(2, .int v10), (1, .int x5), (0, .ref (gad G k0))]) dX7_best_35 hl rfl (by decide) (by decide) (fun _ => rfl) (fun v10 ls hl => ?_)
          refine q_goto C 14 dX7_best_38 (by decide) ?_
          exact ih x5 v10 σ3 ls (lv_sub hl [2, 1, 0] rfl)
  refine q_aload_n C dX7_best_0 rfl (lv_at hl 0 rfl) ?_
  refine q_c2i C (fun r h => cr_V (As := []) (rest := []) C (m_X7_asks l G F k0 σ r h) cb_X7_asks hk0 (by decide) rfl (cf_7 hk0 _) rfl kl_X7_316 ⟨Nat.le_of_ble_eq_true rfl, Nat.le_of_ble_eq_true rfl⟩ ⟨Nat.zero_le _, Nat.zero_le _⟩ hl.1 rfl (Nat.le_of_ble_eq_true rfl) dX7_best_1 rfl) (fun v1 σ1 => ?_)
  refine q_if_ne C 10 dX7_best_4 (by decide) ?_ ?_
  · refine q_iconst C dX7_best_10 rfl (by decide) (fun v2 => ?_)
    refine q_istore_n C [(1, .int v2), (0, .ref (gad G k0))] dX7_best_11 rfl hl (by decide) rfl (fun ls hl => ?_)
    refine q_iconst C dX7_best_12 rfl (by decide) (fun v3 => ?_)
    refine q_istore_n C [(2, .int v3), (1, .int v2), (0, .ref (gad G k0))] dX7_best_13 rfl hl (by decide) rfl (fun ls hl => ?_)
    exact B14 F v2 v3 σ1 ls (lv_sub hl [2, 1, 0] rfl)
  · refine q_bipush C dX7_best_7 rfl (by decide) (fun v11 => ?_)
    exact q_iretE C hr hlo dX7_best_9
def f_X7_zeros_L4 (F : Nat) (k0 : Nat)  (σ : St) : Nat → Int → Int → Option (Int)
  | 0, _, _ => none
  | n + 1, x3, x4 =>
    z_c1 (f_X7_cells F k0 σ) fun v5 =>
    if v5 ≤ x4 then (
      some x3)
    else (
      z_c1 (f_X7_events F k0 σ) fun v6 =>
      z_c1 (f_X7_valueAt F k0 x4 v6 σ) fun v7 =>
      if ¬ v7 = 0 then (
        z_gt 0 fun v8 =>
        z_ck (x3 + v8) fun v9 =>
        z_ck (x4 + 1) fun v10 =>
        f_X7_zeros_L4 F k0 σ n v9 v10)
      else (
        z_gt 1 fun v11 =>
        z_ck (x3 + v11) fun v12 =>
        z_ck (x4 + 1) fun v13 =>
        f_X7_zeros_L4 F k0 σ n v12 v13))

def f_X7_zeros (F : Nat) (k0 : Nat) (σ : St) : Option (Int) :=
  z_ob 7 k0 <| 
  z_gt 0 fun v1 =>
  z_gt 0 fun v2 =>
  f_X7_zeros_L4 F k0 σ F v1 v2
theorem cb_X7_zeros : CB yX7_zeros cX7_zeros 3 (some .int) 0 := ⟨ki_X7_zeros, kq_X7_zeros, kn_X7, kc_X7_zeros, by decide +kernel, by decide +kernel, by decide +kernel⟩
set_option maxRecDepth 20000 in
set_option maxHeartbeats 4000000 in
theorem m_X7_zeros (l : Launch) (G : GG) (F : Nat) (k0 : Nat) (σ : St) : ∀ r, f_X7_zeros F k0 σ = some r → MC G l yX7_zeros cX7_zeros 3 (some .int) { frames := 1, cells := 0, slots := 0, locals := 22 } [.ref (gad G k0)] σ (vI r) σ := by
  refine MC_of (own := RX7) (vI) (fun _ => σ) (by decide +kernel) rfl (Nat.le_of_ble_eq_true rfl) ?_
  intro p e s m args below meth c C hr hlo ls hl
  have hl : lv_has ls 3 [(0, .ref (gad G k0))] := hl
  unfold f_X7_zeros
  refine q_ob (fun hk0 => ?_)
  have B4 : ∀ (n : Nat) (x3 : Int32) (x4 : Int32) (ls : Array Slot), lv_has ls 3 [(0, .ref (gad G k0)), (1, .int x3), (2, .int x4)] → Sim G (AG G) 0 0 p l e { frames := 1, cells := 0, slots := 0, locals := 22 } s m args below meth c (fun r : Int => MQ below (QC G (vI r) (σ)) args s 0 0 (AG G)) σ (f_X7_zeros_L4 F k0  σ n x3.toInt x4.toInt) (F0 m 4 ls []) := by
    intro n
    induction n with
    | zero =>
      intro x3 x4 ls hl
      exact sim_none
    | succ n ih =>
      intro x3 x4 ls hl
      rw [f_X7_zeros_L4]
      refine q_iload_n C dX7_zeros_4 rfl (lv_at hl 2 rfl) ?_
      refine q_aload_n C dX7_zeros_5 rfl (lv_at hl 0 rfl) ?_
      refine q_c1i C (fun r h => cr_V (As := []) (rest := [.int x4]) C (m_X7_cells l G F k0 σ r h) cb_X7_cells hk0 (by decide) rfl (cf_7 hk0 _) rfl kl_X7_107 ⟨Nat.le_of_ble_eq_true rfl, Nat.le_of_ble_eq_true rfl⟩ ⟨Nat.zero_le _, Nat.zero_le _⟩ hl.1 rfl (Nat.le_of_ble_eq_true rfl) dX7_zeros_6 rfl) (fun v5 => ?_)
      refine q_icmp_ge C 38 dX7_zeros_9 (by decide) ?_ ?_
      · refine q_iload_n C dX7_zeros_38 rfl (lv_at hl 1 rfl) ?_
        exact q_iret C hr hlo dX7_zeros_39
      · refine q_iload_n C dX7_zeros_12 rfl (lv_at hl 1 rfl) ?_
        refine q_aload_n C dX7_zeros_13 rfl (lv_at hl 0 rfl) ?_
        refine q_iload_n C dX7_zeros_14 rfl (lv_at hl 2 rfl) ?_
        refine q_aload_n C dX7_zeros_15 rfl (lv_at hl 0 rfl) ?_
        refine q_c1i C (fun r h => cr_V (As := []) (rest := [.int x4, .ref (gad G k0), .int x3]) C (m_X7_events l G F k0 σ r h) cb_X7_events hk0 (by decide) rfl (cf_7 hk0 _) rfl kl_X7_111 ⟨Nat.le_of_ble_eq_true rfl, Nat.le_of_ble_eq_true rfl⟩ ⟨Nat.zero_le _, Nat.zero_le _⟩ hl.1 rfl (Nat.le_of_ble_eq_true rfl) dX7_zeros_16 rfl) (fun v6 => ?_)
        refine q_c1i C (fun r h => cr_V (As := [.int x4, .int v6]) (rest := [.int x3]) C (m_X7_valueAt l G F k0 x4 v6 σ r h) cb_X7_valueAt hk0 (by decide) rfl (cf_7 hk0 _) rfl kl_X7_337 ⟨Nat.le_of_ble_eq_true rfl, Nat.le_of_ble_eq_true rfl⟩ ⟨Nat.zero_le _, Nat.zero_le _⟩ hl.1 rfl (Nat.le_of_ble_eq_true rfl) dX7_zeros_19 rfl) (fun v7 => ?_)
        refine q_if_ne C 29 dX7_zeros_22 (by decide) ?_ ?_
        · refine q_iconst C dX7_zeros_29 rfl (by decide) (fun v8 => ?_)
          refine q_iadd C dX7_zeros_30 (fun v9 => ?_)
          refine q_istore_n C [(1, .int v9), (0, .ref (gad G k0)), (2, .int x4)] dX7_zeros_31 rfl hl (by decide) rfl (fun ls hl => ?_)
          refine q_iinc (k := 2) C (fun v10 => [(2, .int v10), (1, .int v9), (0, .ref (gad G k0))]) dX7_zeros_32 hl rfl (by decide) (by decide) (fun _ => rfl) (fun v10 ls hl => ?_)
          refine q_goto C 4 dX7_zeros_35 (by decide) ?_
          exact ih v9 v10 ls (lv_sub hl [2, 1, 0] rfl)
        · refine q_iconst C dX7_zeros_25 rfl (by decide) (fun v11 => ?_)
          refine q_goto C 30 dX7_zeros_26 (by decide) ?_
          refine q_iadd C dX7_zeros_30 (fun v12 => ?_)
          refine q_istore_n C [(1, .int v12), (0, .ref (gad G k0)), (2, .int x4)] dX7_zeros_31 rfl hl (by decide) rfl (fun ls hl => ?_)
          refine q_iinc (k := 2) C (fun v13 => [(2, .int v13), (1, .int v12), (0, .ref (gad G k0))]) dX7_zeros_32 hl rfl (by decide) (by decide) (fun _ => rfl) (fun v13 ls hl => ?_)
          refine q_goto C 4 dX7_zeros_35 (by decide) ?_
          exact ih v12 v13 ls (lv_sub hl [2, 1, 0] rfl)
  refine q_iconst C dX7_zeros_0 rfl (by decide) (fun v1 => ?_)
  refine q_istore_n C [(1, .int v1), (0, .ref (gad G k0))] dX7_zeros_1 rfl hl (by decide) rfl (fun ls hl => ?_)
  refine q_iconst C dX7_zeros_2 rfl (by decide) (fun v2 => ?_)
  refine q_istore_n C [(2, .int v2), (1, .int v1), (0, .ref (gad G k0))] dX7_zeros_3 rfl hl (by decide) rfl (fun ls hl => ?_)
  exact B4 F v1 v2 ls (lv_sub hl [2, 1, 0] rfl)
def f_X7_layWithout (F : Nat) (k0 : Nat) (a1 : Int) (σ : St) : Option (St) :=
  z_ob 7 k0 <| 
  z_gt 1 fun v1 =>
  z_ix a1 60 <| z_bo v1 <| z_sg (z_up σ (k0 + 7) a1 v1) fun σ1 =>
  z_c1 (f_X7_layValues F k0 σ1) fun σ2 =>
  z_gt 0 fun v2 =>
  z_ix a1 60 <| z_bo v2 <| z_sg (z_up σ2 (k0 + 7) a1 v2) fun σ3 =>
  some σ3
theorem cb_X7_layWithout : CB yX7_layWithout cX7_layWithout 2 none 1 := ⟨ki_X7_layWithout, kq_X7_layWithout, kn_X7, kc_X7_layWithout, by decide +kernel, by decide +kernel, by decide +kernel⟩
set_option maxRecDepth 20000 in
set_option maxHeartbeats 4000000 in
theorem m_X7_layWithout (l : Launch) (G : GG) (F : Nat) (k0 : Nat) (a1 : Int32) (σ : St) : ∀ r, f_X7_layWithout F k0 a1.toInt σ = some r → MC G l yX7_layWithout cX7_layWithout 2 none { frames := 3, cells := 0, slots := 0, locals := 73 } [.ref (gad G k0), .int a1] σ vV r := by
  refine MC_of (own := RX7) (fun _ => vV) (fun r => r) (by decide +kernel) rfl (Nat.le_of_ble_eq_true rfl) ?_
  intro p e s m args below meth c C hr hlo ls hl
  have hl : lv_has ls 2 [(0, .ref (gad G k0)), (1, .int a1)] := hl
  unfold f_X7_layWithout
  refine q_ob (fun hk0 => ?_)
  refine q_aload_n C dX7_layWithout_0 rfl (lv_at hl 0 rfl) ?_
  refine g_7_15 C hk0 kf_X7_34 dX7_layWithout_1 ?_
  refine q_iload_n C dX7_layWithout_4 rfl (lv_at hl 1 rfl) ?_
  refine q_iconst C dX7_layWithout_5 rfl (by decide) (fun v1 => ?_)
  refine a_zst C (yk_7_15 hk0) (yl_7_15 hk0) dX7_layWithout_6 (q_sg (fun σ1 => ?_))
  refine q_aload_n C dX7_layWithout_7 rfl (lv_at hl 0 rfl) ?_
  refine q_cv C (fun r h => cr_V (As := []) (rest := []) C (m_X7_layValues l G F k0 σ1 r h) cb_X7_layValues hk0 (by decide) rfl (cf_7 hk0 _) rfl kl_X7_304 ⟨Nat.le_of_ble_eq_true rfl, Nat.le_of_ble_eq_true rfl⟩ ⟨Nat.zero_le _, Nat.zero_le _⟩ hl.1 rfl (Nat.le_of_ble_eq_true rfl) dX7_layWithout_8 rfl) (fun σ2 => ?_)
  refine q_aload_n C dX7_layWithout_11 rfl (lv_at hl 0 rfl) ?_
  refine g_7_15 C hk0 kf_X7_34 dX7_layWithout_12 ?_
  refine q_iload_n C dX7_layWithout_15 rfl (lv_at hl 1 rfl) ?_
  refine q_iconst C dX7_layWithout_16 rfl (by decide) (fun v2 => ?_)
  refine a_zst C (yk_7_15 hk0) (yl_7_15 hk0) dX7_layWithout_17 (q_sg (fun σ3 => ?_))
  exact q_vretE C hr hlo dX7_layWithout_18
def f_X7_blame_L19 (F : Nat) (k0 : Nat)   : Nat → Int → Int → Int → St → Option (Int × St)
  | 0, _, _, _, _ => none
  | n + 1, x5, x6, x7, σ =>
    z_gt 3 fun v8 =>
    z_ix v8 246 <| z_gt (σ (k0 + 1) v8) fun v9 =>
    if v9 ≤ x7 then (
      some (x6, σ))
    else (
      z_c1 (f_X7_layWithout F k0 x7 σ) fun σ2 =>
      z_c1 (f_X7_zeros F k0 σ2) fun v10 =>
      if x5 < v10 then (
        z_c1 (f_X7_zeros F k0 σ2) fun v11 =>
        z_ck (x7 + 1) fun v12 =>
        f_X7_blame_L19 F k0 n v11 x7 v12 σ2)
      else (
        z_ck (x7 + 1) fun v13 =>
        f_X7_blame_L19 F k0 n x5 x6 v13 σ2))

def f_X7_blame (F : Nat) (k0 : Nat) (σ : St) : Option (Int × St) :=
  z_ob 7 k0 <| 
  z_c2 (f_X7_asks F k0 σ) fun v1 σ1 =>
  if ¬ v1 = 0 then (
    z_c1 (f_X7_zeros F k0 σ1) fun v2 =>
    z_gt (-1) fun v3 =>
    z_gt 0 fun v4 =>
    f_X7_blame_L19 F k0 F v2 v3 v4 σ1)
  else (
    z_gt (-2) fun v14 =>
    some (v14, σ1))
theorem cb_X7_blame : CB yX7_blame cX7_blame 4 (some .int) 0 := ⟨ki_X7_blame, kq_X7_blame, kn_X7, kc_X7_blame, by decide +kernel, by decide +kernel, by decide +kernel⟩
set_option maxRecDepth 20000 in
set_option maxHeartbeats 4000000 in
theorem m_X7_blame (l : Launch) (G : GG) (F : Nat) (k0 : Nat) (σ : St) : ∀ r, f_X7_blame F k0 σ = some r → MC G l yX7_blame cX7_blame 4 (some .int) { frames := 7, cells := 0, slots := 0, locals := 157 } [.ref (gad G k0)] σ (vI r.1) r.2 := by
  refine MC_of (own := RX7) (fun r : Int × St => vI r.1) (fun r : Int × St => r.2) (by decide +kernel) rfl (Nat.le_of_ble_eq_true rfl) ?_
  intro p e s m args below meth c C hr hlo ls hl
  have hl : lv_has ls 4 [(0, .ref (gad G k0))] := hl
  unfold f_X7_blame
  refine q_ob (fun hk0 => ?_)
  have B19 : ∀ (n : Nat) (x5 : Int32) (x6 : Int32) (x7 : Int32) (σ : St) (ls : Array Slot), lv_has ls 4 [(0, .ref (gad G k0)), (1, .int x5), (2, .int x6), (3, .int x7)] → Sim G (AG G) 0 0 p l e { frames := 7, cells := 0, slots := 0, locals := 157 } s m args below meth c (fun r : Int × St => MQ below (QC G (vI r.1) (r.2)) args s 0 0 (AG G)) σ (f_X7_blame_L19 F k0   n x5.toInt x6.toInt x7.toInt σ) (F0 m 19 ls []) := by
    intro n
    induction n with
    | zero =>
      intro x5 x6 x7 σ ls hl
      exact sim_none
    | succ n ih =>
      intro x5 x6 x7 σ ls hl
      rw [f_X7_blame_L19]
      refine q_iload_n C dX7_blame_19 rfl (lv_at hl 3 rfl) ?_
      refine q_aload_n C dX7_blame_20 rfl (lv_at hl 0 rfl) ?_
      refine g_7_1 C hk0 kf_X7_9 dX7_blame_21 ?_
      refine q_iconst C dX7_blame_24 rfl (by decide) (fun v8 => ?_)
      refine a_ild C (yk_7_1 hk0) (yl_7_1 hk0) dX7_blame_25 (fun v9 => ?_)
      refine q_icmp_ge C 58 dX7_blame_26 (by decide) ?_ ?_
      · refine q_iload_n C dX7_blame_58 rfl (lv_at hl 2 rfl) ?_
        exact q_iretE C hr hlo dX7_blame_59
      · refine q_aload_n C dX7_blame_29 rfl (lv_at hl 0 rfl) ?_
        refine q_iload_n C dX7_blame_30 rfl (lv_at hl 3 rfl) ?_
        refine q_cv C (fun r h => cr_V (As := [.int x7]) (rest := []) C (m_X7_layWithout l G F k0 x7 σ r h) cb_X7_layWithout hk0 (by decide) rfl (cf_7 hk0 _) rfl kl_X7_405 ⟨Nat.le_of_ble_eq_true rfl, Nat.le_of_ble_eq_true rfl⟩ ⟨Nat.zero_le _, Nat.zero_le _⟩ hl.1 rfl (Nat.le_of_ble_eq_true rfl) dX7_blame_31 rfl) (fun σ2 => ?_)
        refine q_aload_n C dX7_blame_34 rfl (lv_at hl 0 rfl) ?_
        refine q_c1i C (fun r h => cr_V (As := []) (rest := []) C (m_X7_zeros l G F k0 σ2 r h) cb_X7_zeros hk0 (by decide) rfl (cf_7 hk0 _) rfl kl_X7_402 ⟨Nat.le_of_ble_eq_true rfl, Nat.le_of_ble_eq_true rfl⟩ ⟨Nat.zero_le _, Nat.zero_le _⟩ hl.1 rfl (Nat.le_of_ble_eq_true rfl) dX7_blame_35 rfl) (fun v10 => ?_)
        refine q_iload_n C dX7_blame_38 rfl (lv_at hl 1 rfl) ?_
        refine q_icmp_gt C 45 dX7_blame_39 (by decide) ?_ ?_
        · refine q_aload_n C dX7_blame_45 rfl (lv_at hl 0 rfl) ?_
          refine q_c1i C (fun r h => cr_V (As := []) (rest := []) C (m_X7_zeros l G F k0 σ2 r h) cb_X7_zeros hk0 (by decide) rfl (cf_7 hk0 _) rfl kl_X7_402 ⟨Nat.le_of_ble_eq_true rfl, Nat.le_of_ble_eq_true rfl⟩ ⟨Nat.zero_le _, Nat.zero_le _⟩ hl.1 rfl (Nat.le_of_ble_eq_true rfl) dX7_blame_46 rfl) (fun v11 => ?_)
          refine q_istore_n C [(1, .int v11), (0, .ref (gad G k0)), (2, .int x6), (3, .int x7)] dX7_blame_49 rfl hl (by decide) rfl (fun ls hl => ?_)
          refine q_iload_n C dX7_blame_50 rfl (lv_at hl 3 rfl) ?_
          refine q_istore_n C [(2, .int x7), (1, .int v11), (0, .ref (gad G k0)), (3, .int x7)] dX7_blame_51 rfl hl (by decide) rfl (fun ls hl => ?_)
          refine q_iinc (k := 3) C (fun v12 => [(3, .int v12), (2, .int x7), (1, .int v11), (0, .ref (gad G k0))]) dX7_blame_52 hl rfl (by decide) (by decide) (fun _ => rfl) (fun v12 ls hl => ?_)
          refine q_goto C 19 dX7_blame_55 (by decide) ?_
          exact ih v11 x7 v12 σ2 ls (lv_sub hl [3, 2, 1, 0] rfl)
        · refine q_goto C 52 dX7_blame_42 (by decide) ?_
          refine q_iinc (k := 3) C (fun v13 => [(3, .int v13), (0, .ref (gad G k0)), (1, .int x5), (2, .int x6)]) dX7_blame_52 hl rfl (by decide) (by decide) (fun _ => rfl) (fun v13 ls hl => ?_)
          refine q_goto C 19 dX7_blame_55 (by decide) ?_
          exact ih x5 x6 v13 σ2 ls (lv_sub hl [1, 2, 3, 0] rfl)
  refine q_aload_n C dX7_blame_0 rfl (lv_at hl 0 rfl) ?_
  refine q_c2i C (fun r h => cr_V (As := []) (rest := []) C (m_X7_asks l G F k0 σ r h) cb_X7_asks hk0 (by decide) rfl (cf_7 hk0 _) rfl kl_X7_316 ⟨Nat.le_of_ble_eq_true rfl, Nat.le_of_ble_eq_true rfl⟩ ⟨Nat.zero_le _, Nat.zero_le _⟩ hl.1 rfl (Nat.le_of_ble_eq_true rfl) dX7_blame_1 rfl) (fun v1 σ1 => ?_)
  refine q_if_ne C 10 dX7_blame_4 (by decide) ?_ ?_
  · refine q_aload_n C dX7_blame_10 rfl (lv_at hl 0 rfl) ?_
    refine q_c1i C (fun r h => cr_V (As := []) (rest := []) C (m_X7_zeros l G F k0 σ1 r h) cb_X7_zeros hk0 (by decide) rfl (cf_7 hk0 _) rfl kl_X7_402 ⟨Nat.le_of_ble_eq_true rfl, Nat.le_of_ble_eq_true rfl⟩ ⟨Nat.zero_le _, Nat.zero_le _⟩ hl.1 rfl (Nat.le_of_ble_eq_true rfl) dX7_blame_11 rfl) (fun v2 => ?_)
    refine q_istore_n C [(1, .int v2), (0, .ref (gad G k0))] dX7_blame_14 rfl hl (by decide) rfl (fun ls hl => ?_)
    refine q_iconst C dX7_blame_15 rfl (by decide) (fun v3 => ?_)
    refine q_istore_n C [(2, .int v3), (1, .int v2), (0, .ref (gad G k0))] dX7_blame_16 rfl hl (by decide) rfl (fun ls hl => ?_)
    refine q_iconst C dX7_blame_17 rfl (by decide) (fun v4 => ?_)
    refine q_istore_n C [(3, .int v4), (2, .int v3), (1, .int v2), (0, .ref (gad G k0))] dX7_blame_18 rfl hl (by decide) rfl (fun ls hl => ?_)
    exact B19 F v2 v3 v4 σ1 ls (lv_sub hl [3, 2, 1, 0] rfl)
  · refine q_bipush C dX7_blame_7 rfl (by decide) (fun v14 => ?_)
    exact q_iretE C hr hlo dX7_blame_9
def f_X7_idle_L71 (F : Nat) (k0 : Nat) (K41 : Int → St → Option (Int × St))  : Nat → Int → Int → Int → St → Option (Int × St)
  | 0, _, _, _, _ => none
  | n + 1, x13, x14, x15, σ =>
    z_gt 32 fun v16 =>
    if v16 ≤ x15 then (
      if x14 = 0 then (
        z_ck (x13 + 1) fun v17 =>
        K41 v17 σ)
      else (
        some (x13, σ)))
    else (
      if x14 = 0 then (
        z_gt 0 fun v18 =>
        z_ck (x15 + 1) fun v19 =>
        f_X7_idle_L71 F k0 K41 n x13 v18 v19 σ)
      else (
        z_ix x15 32 <| z_gt (σ (k0 + 22) x15) fun v20 =>
        z_c1 (f_X7_events F k0 σ) fun v21 =>
        z_c1 (f_X7_valueAt F k0 x15 v21 σ) fun v22 =>
        if ¬ v20 = v22 then (
          z_gt 0 fun v23 =>
          z_ck (x15 + 1) fun v24 =>
          f_X7_idle_L71 F k0 K41 n x13 v23 v24 σ)
        else (
          z_gt 1 fun v25 =>
          z_ck (x15 + 1) fun v26 =>
          f_X7_idle_L71 F k0 K41 n x13 v25 v26 σ)))

def f_X7_idle_L41 (F : Nat) (k0 : Nat)   : Nat → Int → St → Option (Int × St)
  | 0, _, _ => none
  | n + 1, x6, σ =>
    z_gt 3 fun v7 =>
    z_ix v7 246 <| z_gt (σ (k0 + 1) v7) fun v8 =>
    if v8 ≤ x6 then (
      z_gt (-1) fun v9 =>
      some (v9, σ))
    else (
      z_c1 (f_X7_isCommand F k0 x6 σ) fun v10 =>
      if ¬ v10 = 0 then (
        z_c1 (f_X7_layWithout F k0 x6 σ) fun σ2 =>
        z_gt 1 fun v11 =>
        z_gt 0 fun v12 =>
        f_X7_idle_L71 F k0 (f_X7_idle_L41 F k0 n) F x6 v11 v12 σ2)
      else (
        z_ck (x6 + 1) fun v27 =>
        f_X7_idle_L41 F k0 n v27 σ))

def f_X7_idle_L12 (F : Nat) (k0 : Nat)   : Nat → Int → St → Option (Int × St)
  | 0, _, _ => none
  | n + 1, x3, σ =>
    z_gt 32 fun v4 =>
    if v4 ≤ x3 then (
      z_gt 0 fun v5 =>
      f_X7_idle_L41 F k0 F v5 σ)
    else (
      z_c1 (f_X7_events F k0 σ) fun v28 =>
      z_c1 (f_X7_valueAt F k0 x3 v28 σ) fun v29 =>
      z_ix x3 32 <| z_sg (z_up σ (k0 + 22) x3 v29) fun σ3 =>
      z_ck (x3 + 1) fun v30 =>
      f_X7_idle_L12 F k0 n v30 σ3)

def f_X7_idle (F : Nat) (k0 : Nat) (σ : St) : Option (Int × St) :=
  z_ob 7 k0 <| 
  z_c2 (f_X7_asks F k0 σ) fun v1 σ1 =>
  if ¬ v1 = 0 then (
    z_gt 0 fun v2 =>
    f_X7_idle_L12 F k0 F v2 σ1)
  else (
    z_gt (-2) fun v31 =>
    some (v31, σ1))
theorem cb_X7_idle : CB yX7_idle cX7_idle 4 (some .int) 0 := ⟨ki_X7_idle, kq_X7_idle, kn_X7, kc_X7_idle, by decide +kernel, by decide +kernel, by decide +kernel⟩
set_option maxRecDepth 20000 in
set_option maxHeartbeats 4000000 in
theorem m_X7_idle (l : Launch) (G : GG) (F : Nat) (k0 : Nat) (σ : St) : ∀ r, f_X7_idle F k0 σ = some r → MC G l yX7_idle cX7_idle 4 (some .int) { frames := 7, cells := 0, slots := 0, locals := 157 } [.ref (gad G k0)] σ (vI r.1) r.2 := by
  refine MC_of (own := RX7) (fun r : Int × St => vI r.1) (fun r : Int × St => r.2) (by decide +kernel) rfl (Nat.le_of_ble_eq_true rfl) ?_
  intro p e s m args below meth c C hr hlo ls hl
  have hl : lv_has ls 4 [(0, .ref (gad G k0))] := hl
  unfold f_X7_idle
  refine q_ob (fun hk0 => ?_)
  have B71 : ∀ (K41 : Int → St → Option (Int × St)) (hK41 : ∀ (y0 : Int32) (σ : St) (ls : Array Slot), lv_has ls 4 [(0, .ref (gad G k0)), (1, .int y0)] → Sim G (AG G) 0 0 p l e { frames := 7, cells := 0, slots := 0, locals := 157 } s m args below meth c (fun r : Int × St => MQ below (QC G (vI r.1) (r.2)) args s 0 0 (AG G)) σ (K41 y0.toInt σ) (F0 m 41 ls [])), ∀ (n : Nat) (x13 : Int32) (x14 : Int32) (x15 : Int32) (σ : St) (ls : Array Slot), lv_has ls 4 [(0, .ref (gad G k0)), (1, .int x13), (2, .int x14), (3, .int x15)] → Sim G (AG G) 0 0 p l e { frames := 7, cells := 0, slots := 0, locals := 157 } s m args below meth c (fun r : Int × St => MQ below (QC G (vI r.1) (r.2)) args s 0 0 (AG G)) σ (f_X7_idle_L71 F k0 K41  n x13.toInt x14.toInt x15.toInt σ) (F0 m 71 ls []) := by
    intro K41 hK41
    intro n
    induction n with
    | zero =>
      intro x13 x14 x15 σ ls hl
      exact sim_none
    | succ n ih =>
      intro x13 x14 x15 σ ls hl
      rw [f_X7_idle_L71]
      refine q_iload_n C dX7_idle_71 rfl (lv_at hl 3 rfl) ?_
      refine q_bipush C dX7_idle_72 rfl (by decide) (fun v16 => ?_)
      refine q_icmp_ge C 111 dX7_idle_74 (by decide) ?_ ?_
      · refine q_iload_n C dX7_idle_111 rfl (lv_at hl 2 rfl) ?_
        refine q_if_eq C 117 dX7_idle_112 (by decide) ?_ ?_
        · refine q_iinc (k := 1) C (fun v17 => [(1, .int v17), (0, .ref (gad G k0)), (2, .int x14), (3, .int x15)]) dX7_idle_117 hl rfl (by decide) (by decide) (fun _ => rfl) (fun v17 ls hl => ?_)
          refine q_goto C 41 dX7_idle_120 (by decide) ?_
          exact hK41 v17 σ ls (lv_sub hl [1, 0] rfl)
        · refine q_iload_n C dX7_idle_115 rfl (lv_at hl 1 rfl) ?_
          exact q_iretE C hr hlo dX7_idle_116
      · refine q_iload_n C dX7_idle_77 rfl (lv_at hl 2 rfl) ?_
        refine q_if_eq C 103 dX7_idle_78 (by decide) ?_ ?_
        · refine q_iconst C dX7_idle_103 rfl (by decide) (fun v18 => ?_)
          refine q_istore_n C [(2, .int v18), (0, .ref (gad G k0)), (1, .int x13), (3, .int x15)] dX7_idle_104 rfl hl (by decide) rfl (fun ls hl => ?_)
          refine q_iinc (k := 3) C (fun v19 => [(3, .int v19), (2, .int v18), (0, .ref (gad G k0)), (1, .int x13)]) dX7_idle_105 hl rfl (by decide) (by decide) (fun _ => rfl) (fun v19 ls hl => ?_)
          refine q_goto C 71 dX7_idle_108 (by decide) ?_
          exact ih x13 v18 v19 σ ls (lv_sub hl [2, 3, 1, 0] rfl)
        · refine q_aload_n C dX7_idle_81 rfl (lv_at hl 0 rfl) ?_
          refine g_7_32 C hk0 kf_X7_79 dX7_idle_82 ?_
          refine q_iload_n C dX7_idle_85 rfl (lv_at hl 3 rfl) ?_
          refine a_ild C (yk_7_32 hk0) (yl_7_32 hk0) dX7_idle_86 (fun v20 => ?_)
          refine q_aload_n C dX7_idle_87 rfl (lv_at hl 0 rfl) ?_
          refine q_iload_n C dX7_idle_88 rfl (lv_at hl 3 rfl) ?_
          refine q_aload_n C dX7_idle_89 rfl (lv_at hl 0 rfl) ?_
          refine q_c1i C (fun r h => cr_V (As := []) (rest := [.int x15, .ref (gad G k0), .int v20]) C (m_X7_events l G F k0 σ r h) cb_X7_events hk0 (by decide) rfl (cf_7 hk0 _) rfl kl_X7_111 ⟨Nat.le_of_ble_eq_true rfl, Nat.le_of_ble_eq_true rfl⟩ ⟨Nat.zero_le _, Nat.zero_le _⟩ hl.1 rfl (Nat.le_of_ble_eq_true rfl) dX7_idle_90 rfl) (fun v21 => ?_)
          refine q_c1i C (fun r h => cr_V (As := [.int x15, .int v21]) (rest := [.int v20]) C (m_X7_valueAt l G F k0 x15 v21 σ r h) cb_X7_valueAt hk0 (by decide) rfl (cf_7 hk0 _) rfl kl_X7_337 ⟨Nat.le_of_ble_eq_true rfl, Nat.le_of_ble_eq_true rfl⟩ ⟨Nat.zero_le _, Nat.zero_le _⟩ hl.1 rfl (Nat.le_of_ble_eq_true rfl) dX7_idle_93 rfl) (fun v22 => ?_)
          refine q_icmp_ne C 103 dX7_idle_96 (by decide) ?_ ?_
          · refine q_iconst C dX7_idle_103 rfl (by decide) (fun v23 => ?_)
            refine q_istore_n C [(2, .int v23), (0, .ref (gad G k0)), (1, .int x13), (3, .int x15)] dX7_idle_104 rfl hl (by decide) rfl (fun ls hl => ?_)
            refine q_iinc (k := 3) C (fun v24 => [(3, .int v24), (2, .int v23), (0, .ref (gad G k0)), (1, .int x13)]) dX7_idle_105 hl rfl (by decide) (by decide) (fun _ => rfl) (fun v24 ls hl => ?_)
            refine q_goto C 71 dX7_idle_108 (by decide) ?_
            exact ih x13 v23 v24 σ ls (lv_sub hl [2, 3, 1, 0] rfl)
          · refine q_iconst C dX7_idle_99 rfl (by decide) (fun v25 => ?_)
            refine q_goto C 104 dX7_idle_100 (by decide) ?_
            refine q_istore_n C [(2, .int v25), (0, .ref (gad G k0)), (1, .int x13), (3, .int x15)] dX7_idle_104 rfl hl (by decide) rfl (fun ls hl => ?_)
            refine q_iinc (k := 3) C (fun v26 => [(3, .int v26), (2, .int v25), (0, .ref (gad G k0)), (1, .int x13)]) dX7_idle_105 hl rfl (by decide) (by decide) (fun _ => rfl) (fun v26 ls hl => ?_)
            refine q_goto C 71 dX7_idle_108 (by decide) ?_
            exact ih x13 v25 v26 σ ls (lv_sub hl [2, 3, 1, 0] rfl)
  have B41 : ∀ (n : Nat) (x6 : Int32) (σ : St) (ls : Array Slot), lv_has ls 4 [(0, .ref (gad G k0)), (1, .int x6)] → Sim G (AG G) 0 0 p l e { frames := 7, cells := 0, slots := 0, locals := 157 } s m args below meth c (fun r : Int × St => MQ below (QC G (vI r.1) (r.2)) args s 0 0 (AG G)) σ (f_X7_idle_L41 F k0   n x6.toInt σ) (F0 m 41 ls []) := by
    intro n
    induction n with
    | zero =>
      intro x6 σ ls hl
      exact sim_none
    | succ n ih =>
      intro x6 σ ls hl
      rw [f_X7_idle_L41]
      refine q_iload_n C dX7_idle_41 rfl (lv_at hl 1 rfl) ?_
      refine q_aload_n C dX7_idle_42 rfl (lv_at hl 0 rfl) ?_
      refine g_7_1 C hk0 kf_X7_9 dX7_idle_43 ?_
      refine q_iconst C dX7_idle_46 rfl (by decide) (fun v7 => ?_)
      refine a_ild C (yk_7_1 hk0) (yl_7_1 hk0) dX7_idle_47 (fun v8 => ?_)
      refine q_icmp_ge C 123 dX7_idle_48 (by decide) ?_ ?_
      · refine q_iconst C dX7_idle_123 rfl (by decide) (fun v9 => ?_)
        exact q_iretE C hr hlo dX7_idle_124
      · refine q_aload_n C dX7_idle_51 rfl (lv_at hl 0 rfl) ?_
        refine q_iload_n C dX7_idle_52 rfl (lv_at hl 1 rfl) ?_
        refine q_c1i C (fun r h => cr_V (As := [.int x6]) (rest := []) C (m_X7_isCommand l G F k0 x6 σ r h) cb_X7_isCommand hk0 (by decide) rfl (cf_7 hk0 _) rfl kl_X7_249 ⟨Nat.le_of_ble_eq_true rfl, Nat.le_of_ble_eq_true rfl⟩ ⟨Nat.zero_le _, Nat.zero_le _⟩ hl.1 rfl (Nat.le_of_ble_eq_true rfl) dX7_idle_53 rfl) (fun v10 => ?_)
        refine q_if_ne C 62 dX7_idle_56 (by decide) ?_ ?_
        · refine q_aload_n C dX7_idle_62 rfl (lv_at hl 0 rfl) ?_
          refine q_iload_n C dX7_idle_63 rfl (lv_at hl 1 rfl) ?_
          refine q_cv C (fun r h => cr_V (As := [.int x6]) (rest := []) C (m_X7_layWithout l G F k0 x6 σ r h) cb_X7_layWithout hk0 (by decide) rfl (cf_7 hk0 _) rfl kl_X7_405 ⟨Nat.le_of_ble_eq_true rfl, Nat.le_of_ble_eq_true rfl⟩ ⟨Nat.zero_le _, Nat.zero_le _⟩ hl.1 rfl (Nat.le_of_ble_eq_true rfl) dX7_idle_64 rfl) (fun σ2 => ?_)
          refine q_iconst C dX7_idle_67 rfl (by decide) (fun v11 => ?_)
          refine q_istore_n C [(2, .int v11), (0, .ref (gad G k0)), (1, .int x6)] dX7_idle_68 rfl hl (by decide) rfl (fun ls hl => ?_)
          refine q_iconst C dX7_idle_69 rfl (by decide) (fun v12 => ?_)
          refine q_istore_n C [(3, .int v12), (2, .int v11), (0, .ref (gad G k0)), (1, .int x6)] dX7_idle_70 rfl hl (by decide) rfl (fun ls hl => ?_)
          exact B71 (f_X7_idle_L41 F k0 n) ih F x6 v11 v12 σ2 ls (lv_sub hl [2, 3, 1, 0] rfl)
        · refine q_goto C 117 dX7_idle_59 (by decide) ?_
          refine q_iinc (k := 1) C (fun v27 => [(1, .int v27), (0, .ref (gad G k0))]) dX7_idle_117 hl rfl (by decide) (by decide) (fun _ => rfl) (fun v27 ls hl => ?_)
          refine q_goto C 41 dX7_idle_120 (by decide) ?_
          exact ih v27 σ ls (lv_sub hl [1, 0] rfl)
  have B12 : ∀ (n : Nat) (x3 : Int32) (σ : St) (ls : Array Slot), lv_has ls 4 [(0, .ref (gad G k0)), (1, .int x3)] → Sim G (AG G) 0 0 p l e { frames := 7, cells := 0, slots := 0, locals := 157 } s m args below meth c (fun r : Int × St => MQ below (QC G (vI r.1) (r.2)) args s 0 0 (AG G)) σ (f_X7_idle_L12 F k0   n x3.toInt σ) (F0 m 12 ls []) := by
    intro n
    induction n with
    | zero =>
      intro x3 σ ls hl
      exact sim_none
    | succ n ih =>
      intro x3 σ ls hl
      rw [f_X7_idle_L12]
      refine q_iload_n C dX7_idle_12 rfl (lv_at hl 1 rfl) ?_
      refine q_bipush C dX7_idle_13 rfl (by decide) (fun v4 => ?_)
      refine q_icmp_ge C 39 dX7_idle_15 (by decide) ?_ ?_
      · refine q_iconst C dX7_idle_39 rfl (by decide) (fun v5 => ?_)
        refine q_istore_n C [(1, .int v5), (0, .ref (gad G k0))] dX7_idle_40 rfl hl (by decide) rfl (fun ls hl => ?_)
        exact B41 F v5 σ ls (lv_sub hl [1, 0] rfl)
      · refine q_aload_n C dX7_idle_18 rfl (lv_at hl 0 rfl) ?_
        refine g_7_32 C hk0 kf_X7_79 dX7_idle_19 ?_
        refine q_iload_n C dX7_idle_22 rfl (lv_at hl 1 rfl) ?_
        refine q_aload_n C dX7_idle_23 rfl (lv_at hl 0 rfl) ?_
        refine q_iload_n C dX7_idle_24 rfl (lv_at hl 1 rfl) ?_
        refine q_aload_n C dX7_idle_25 rfl (lv_at hl 0 rfl) ?_
        refine q_c1i C (fun r h => cr_V (As := []) (rest := [.int x3, .ref (gad G k0), .int x3, .ref (gad G (k0 + 22))]) C (m_X7_events l G F k0 σ r h) cb_X7_events hk0 (by decide) rfl (cf_7 hk0 _) rfl kl_X7_111 ⟨Nat.le_of_ble_eq_true rfl, Nat.le_of_ble_eq_true rfl⟩ ⟨Nat.zero_le _, Nat.zero_le _⟩ hl.1 rfl (Nat.le_of_ble_eq_true rfl) dX7_idle_26 rfl) (fun v28 => ?_)
        refine q_c1i C (fun r h => cr_V (As := [.int x3, .int v28]) (rest := [.int x3, .ref (gad G (k0 + 22))]) C (m_X7_valueAt l G F k0 x3 v28 σ r h) cb_X7_valueAt hk0 (by decide) rfl (cf_7 hk0 _) rfl kl_X7_337 ⟨Nat.le_of_ble_eq_true rfl, Nat.le_of_ble_eq_true rfl⟩ ⟨Nat.zero_le _, Nat.zero_le _⟩ hl.1 rfl (Nat.le_of_ble_eq_true rfl) dX7_idle_29 rfl) (fun v29 => ?_)
        refine a_ist C (yk_7_32 hk0) (yl_7_32 hk0) dX7_idle_32 (q_sg (fun σ3 => ?_))
        refine q_iinc (k := 1) C (fun v30 => [(1, .int v30), (0, .ref (gad G k0))]) dX7_idle_33 hl rfl (by decide) (by decide) (fun _ => rfl) (fun v30 ls hl => ?_)
        refine q_goto C 12 dX7_idle_36 (by decide) ?_
        exact ih v30 σ3 ls (lv_sub hl [1, 0] rfl)
  refine q_aload_n C dX7_idle_0 rfl (lv_at hl 0 rfl) ?_
  refine q_c2i C (fun r h => cr_V (As := []) (rest := []) C (m_X7_asks l G F k0 σ r h) cb_X7_asks hk0 (by decide) rfl (cf_7 hk0 _) rfl kl_X7_316 ⟨Nat.le_of_ble_eq_true rfl, Nat.le_of_ble_eq_true rfl⟩ ⟨Nat.zero_le _, Nat.zero_le _⟩ hl.1 rfl (Nat.le_of_ble_eq_true rfl) dX7_idle_1 rfl) (fun v1 σ1 => ?_)
  refine q_if_ne C 10 dX7_idle_4 (by decide) ?_ ?_
  · refine q_iconst C dX7_idle_10 rfl (by decide) (fun v2 => ?_)
    refine q_istore_n C [(1, .int v2), (0, .ref (gad G k0))] dX7_idle_11 rfl hl (by decide) rfl (fun ls hl => ?_)
    exact B12 F v2 σ1 ls (lv_sub hl [1, 0] rfl)
  · refine q_bipush C dX7_idle_7 rfl (by decide) (fun v31 => ?_)
    exact q_iretE C hr hlo dX7_idle_9
def f_X7_numberAt (F : Nat) (k0 : Nat) (a1 : Int) (a2 : Int) (σ : St) : Option (Int) :=
  z_ob 7 k0 <| 
  z_gt 60 fun v1 =>
  z_ck (v1 * a1) fun v2 =>
  z_ck (v2 + a2) fun v3 =>
  z_ix v3 240 <| z_gt (σ (k0 + 26) v3) fun v4 =>
  some v4
theorem cb_X7_numberAt : CB yX7_numberAt cX7_numberAt 3 (some .long) 2 := ⟨ki_X7_numberAt, kq_X7_numberAt, kn_X7, kc_X7_numberAt, by decide +kernel, by decide +kernel, by decide +kernel⟩
set_option maxRecDepth 20000 in
set_option maxHeartbeats 4000000 in
theorem m_X7_numberAt (l : Launch) (G : GG) (F : Nat) (k0 : Nat) (a1 : Int32) (a2 : Int32) (σ : St) : ∀ r, f_X7_numberAt F k0 a1.toInt a2.toInt σ = some r → MC G l yX7_numberAt cX7_numberAt 3 (some .long) { frames := 0, cells := 0, slots := 0, locals := 0 } [.ref (gad G k0), .int a1, .int a2] σ (vL r) σ := by
  refine MC_of (own := RX7) (vL) (fun _ => σ) (by decide +kernel) rfl (Nat.le_of_ble_eq_true rfl) ?_
  intro p e s m args below meth c C hr hlo ls hl
  have hl : lv_has ls 3 [(0, .ref (gad G k0)), (1, .int a1), (2, .int a2)] := hl
  unfold f_X7_numberAt
  refine q_ob (fun hk0 => ?_)
  refine q_aload_n C dX7_numberAt_0 rfl (lv_at hl 0 rfl) ?_
  refine g_7_42 C hk0 kf_X7_91 dX7_numberAt_1 ?_
  refine q_bipush C dX7_numberAt_4 rfl (by decide) (fun v1 => ?_)
  refine q_iload_n C dX7_numberAt_6 rfl (lv_at hl 1 rfl) ?_
  refine q_imul C dX7_numberAt_7 (fun v2 => ?_)
  refine q_iload_n C dX7_numberAt_8 rfl (lv_at hl 2 rfl) ?_
  refine q_iadd C dX7_numberAt_9 (fun v3 => ?_)
  refine a_lld C (yk_7_42 hk0) (yl_7_42 hk0) dX7_numberAt_10 (fun v4 => ?_)
  exact q_lret C hr hlo dX7_numberAt_11
def f_X7_isSeen_L2 (F : Nat) (k0 : Nat) (a1 : Int)  (σ : St) : Nat → Int → Option (Int)
  | 0, _ => none
  | n + 1, x2 =>
    z_ix a1 4 <| z_gt (σ (k0 + 24) a1) fun v3 =>
    if v3 ≤ x2 then (
      z_gt 1 fun v4 =>
      z_bo v4 <| some v4)
    else (
      z_gt 1 fun v5 =>
      z_ck (x2 + v5) fun v6 =>
      z_c1 (f_X7_numberAt F k0 a1 v6 σ) fun v7 =>
      z_gt (z_l2i v7) fun v8 =>
      z_c1 (f_X7_numberAt F k0 a1 x2 σ) fun v9 =>
      z_gt (z_l2i v9) fun v10 =>
      z_c1 (f_X7_valueAt F k0 v8 v10 σ) fun v11 =>
      z_gt v11 fun v12 =>
      z_gt 2 fun v13 =>
      z_ck (x2 + v13) fun v14 =>
      z_c1 (f_X7_numberAt F k0 a1 v14 σ) fun v15 =>
      z_gt (z_cmp v12 v15) fun v16 =>
      if v16 = 0 then (
        z_ck (x2 + 3) fun v17 =>
        f_X7_isSeen_L2 F k0 a1 σ n v17)
      else (
        z_gt 0 fun v18 =>
        z_bo v18 <| some v18))

def f_X7_isSeen (F : Nat) (k0 : Nat) (a1 : Int) (σ : St) : Option (Int) :=
  z_ob 7 k0 <| 
  z_gt 0 fun v1 =>
  f_X7_isSeen_L2 F k0 a1 σ F v1
theorem cb_X7_isSeen : CB yX7_isSeen cX7_isSeen 3 (some .boolean) 1 := ⟨ki_X7_isSeen, kq_X7_isSeen, kn_X7, kc_X7_isSeen, by decide +kernel, by decide +kernel, by decide +kernel⟩
set_option maxRecDepth 20000 in
set_option maxHeartbeats 4000000 in
theorem m_X7_isSeen (l : Launch) (G : GG) (F : Nat) (k0 : Nat) (a1 : Int32) (σ : St) : ∀ r, f_X7_isSeen F k0 a1.toInt σ = some r → MC G l yX7_isSeen cX7_isSeen 3 (some .boolean) { frames := 1, cells := 0, slots := 0, locals := 22 } [.ref (gad G k0), .int a1] σ (vI r) σ := by
  refine MC_of (own := RX7) (vI) (fun _ => σ) (by decide +kernel) rfl (Nat.le_of_ble_eq_true rfl) ?_
  intro p e s m args below meth c C hr hlo ls hl
  have hl : lv_has ls 3 [(0, .ref (gad G k0)), (1, .int a1)] := hl
  unfold f_X7_isSeen
  refine q_ob (fun hk0 => ?_)
  have B2 : ∀ (n : Nat) (x2 : Int32) (ls : Array Slot), lv_has ls 3 [(0, .ref (gad G k0)), (1, .int a1), (2, .int x2)] → Sim G (AG G) 0 0 p l e { frames := 1, cells := 0, slots := 0, locals := 22 } s m args below meth c (fun r : Int => MQ below (QC G (vI r) (σ)) args s 0 0 (AG G)) σ (f_X7_isSeen_L2 F k0 a1.toInt  σ n x2.toInt) (F0 m 2 ls []) := by
    intro n
    induction n with
    | zero =>
      intro x2 ls hl
      exact sim_none
    | succ n ih =>
      intro x2 ls hl
      rw [f_X7_isSeen_L2]
      refine q_iload_n C dX7_isSeen_2 rfl (lv_at hl 2 rfl) ?_
      refine q_aload_n C dX7_isSeen_3 rfl (lv_at hl 0 rfl) ?_
      refine g_7_40 C hk0 kf_X7_85 dX7_isSeen_4 ?_
      refine q_iload_n C dX7_isSeen_7 rfl (lv_at hl 1 rfl) ?_
      refine a_ild C (yk_7_40 hk0) (yl_7_40 hk0) dX7_isSeen_8 (fun v3 => ?_)
      refine q_icmp_ge C 53 dX7_isSeen_9 (by decide) ?_ ?_
      · refine q_iconst C dX7_isSeen_53 rfl (by decide) (fun v4 => ?_)
        exact q_zret C hr hlo dX7_isSeen_54
      · refine q_aload_n C dX7_isSeen_12 rfl (lv_at hl 0 rfl) ?_
        refine q_aload_n C dX7_isSeen_13 rfl (lv_at hl 0 rfl) ?_
        refine q_iload_n C dX7_isSeen_14 rfl (lv_at hl 1 rfl) ?_
        refine q_iload_n C dX7_isSeen_15 rfl (lv_at hl 2 rfl) ?_
        refine q_iconst C dX7_isSeen_16 rfl (by decide) (fun v5 => ?_)
        refine q_iadd C dX7_isSeen_17 (fun v6 => ?_)
        refine q_c1l C (fun r h => cr_V (As := [.int a1, .int v6]) (rest := [.ref (gad G k0)]) C (m_X7_numberAt l G F k0 a1 v6 σ r h) cb_X7_numberAt hk0 (by decide) rfl (cf_7 hk0 _) rfl kl_X7_408 ⟨Nat.le_of_ble_eq_true rfl, Nat.le_of_ble_eq_true rfl⟩ ⟨Nat.zero_le _, Nat.zero_le _⟩ hl.1 rfl (Nat.le_of_ble_eq_true rfl) dX7_isSeen_18 rfl) (fun v7 => ?_)
        refine q_l2i C dX7_isSeen_21 (fun v8 => ?_)
        refine q_aload_n C dX7_isSeen_22 rfl (lv_at hl 0 rfl) ?_
        refine q_iload_n C dX7_isSeen_23 rfl (lv_at hl 1 rfl) ?_
        refine q_iload_n C dX7_isSeen_24 rfl (lv_at hl 2 rfl) ?_
        refine q_c1l C (fun r h => cr_V (As := [.int a1, .int x2]) (rest := [.int v8, .ref (gad G k0)]) C (m_X7_numberAt l G F k0 a1 x2 σ r h) cb_X7_numberAt hk0 (by decide) rfl (cf_7 hk0 _) rfl kl_X7_408 ⟨Nat.le_of_ble_eq_true rfl, Nat.le_of_ble_eq_true rfl⟩ ⟨Nat.zero_le _, Nat.zero_le _⟩ hl.1 rfl (Nat.le_of_ble_eq_true rfl) dX7_isSeen_25 rfl) (fun v9 => ?_)
        refine q_l2i C dX7_isSeen_28 (fun v10 => ?_)
        refine q_c1i C (fun r h => cr_V (As := [.int v8, .int v10]) (rest := []) C (m_X7_valueAt l G F k0 v8 v10 σ r h) cb_X7_valueAt hk0 (by decide) rfl (cf_7 hk0 _) rfl kl_X7_337 ⟨Nat.le_of_ble_eq_true rfl, Nat.le_of_ble_eq_true rfl⟩ ⟨Nat.zero_le _, Nat.zero_le _⟩ hl.1 rfl (Nat.le_of_ble_eq_true rfl) dX7_isSeen_29 rfl) (fun v11 => ?_)
        refine q_i2l C dX7_isSeen_32 (fun v12 => ?_)
        refine q_aload_n C dX7_isSeen_33 rfl (lv_at hl 0 rfl) ?_
        refine q_iload_n C dX7_isSeen_34 rfl (lv_at hl 1 rfl) ?_
        refine q_iload_n C dX7_isSeen_35 rfl (lv_at hl 2 rfl) ?_
        refine q_iconst C dX7_isSeen_36 rfl (by decide) (fun v13 => ?_)
        refine q_iadd C dX7_isSeen_37 (fun v14 => ?_)
        refine q_c1l C (fun r h => cr_V (As := [.int a1, .int v14]) (rest := [.long v12]) C (m_X7_numberAt l G F k0 a1 v14 σ r h) cb_X7_numberAt hk0 (by decide) rfl (cf_7 hk0 _) rfl kl_X7_408 ⟨Nat.le_of_ble_eq_true rfl, Nat.le_of_ble_eq_true rfl⟩ ⟨Nat.zero_le _, Nat.zero_le _⟩ hl.1 rfl (Nat.le_of_ble_eq_true rfl) dX7_isSeen_38 rfl) (fun v15 => ?_)
        refine q_lcmp C dX7_isSeen_41 (fun v16 => ?_)
        refine q_if_eq C 47 dX7_isSeen_42 (by decide) ?_ ?_
        · refine q_iinc (k := 2) C (fun v17 => [(2, .int v17), (0, .ref (gad G k0)), (1, .int a1)]) dX7_isSeen_47 hl rfl (by decide) (by decide) (fun _ => rfl) (fun v17 ls hl => ?_)
          refine q_goto C 2 dX7_isSeen_50 (by decide) ?_
          exact ih v17 ls (lv_sub hl [1, 2, 0] rfl)
        · refine q_iconst C dX7_isSeen_45 rfl (by decide) (fun v18 => ?_)
          exact q_zret C hr hlo dX7_isSeen_46
  refine q_iconst C dX7_isSeen_0 rfl (by decide) (fun v1 => ?_)
  refine q_istore_n C [(2, .int v1), (0, .ref (gad G k0)), (1, .int a1)] dX7_isSeen_1 rfl hl (by decide) rfl (fun ls hl => ?_)
  exact B2 F v1 ls (lv_sub hl [1, 2, 0] rfl)
def f_X7_isSlot (F : Nat) (a1 : Int) (σ : St) : Option (Int) :=
  
  z_gt a1 fun v1 =>
  z_gt 0 fun v2 =>
  z_gt 3 fun v3 =>
  z_c1 (f_X7_in F v1 v2 v3 σ) fun v4 =>
  z_bo v4 <| some v4
theorem sb_X7_isSlot : SB yX7_isSlot cX7_isSlot 1 (some .boolean) 1 := ⟨ks_X7_isSlot, kn_X7, kc_X7_isSlot, by decide +kernel, by decide +kernel, by decide +kernel⟩
set_option maxRecDepth 20000 in
set_option maxHeartbeats 4000000 in
theorem m_X7_isSlot (l : Launch) (G : GG) (F : Nat) (a1 : Int32) (σ : St) : ∀ r, f_X7_isSlot F a1.toInt σ = some r → MC G l yX7_isSlot cX7_isSlot 1 (some .boolean) { frames := 1, cells := 0, slots := 0, locals := 25 } [.int a1] σ (vI r) σ := by
  refine MC_of (own := RX7) (vI) (fun _ => σ) (by decide +kernel) rfl (Nat.le_of_ble_eq_true rfl) ?_
  intro p e s m args below meth c C hr hlo ls hl
  have hl : lv_has ls 1 [(0, .int a1)] := hl
  unfold f_X7_isSlot
  refine q_iload_n C dX7_isSlot_0 rfl (lv_at hl 0 rfl) ?_
  refine q_i2l C dX7_isSlot_1 (fun v1 => ?_)
  refine q_lconst C dX7_isSlot_2 rfl (by decide) (fun v2 => ?_)
  refine q_ldc2 C kk_X7_332 dX7_isSlot_3 (by decide) (fun v3 => ?_)
  refine q_c1i C (fun r h => cr_S (As := [.long v1, .long v2, .long v3]) (rest := []) C (m_X7_in l G F v1 v2 v3 σ r h) sb_X7_in kl_X7_103 ⟨Nat.le_of_ble_eq_true rfl, Nat.le_of_ble_eq_true rfl⟩ ⟨Nat.zero_le _, Nat.zero_le _⟩ hl.1 rfl (Nat.le_of_ble_eq_true rfl) dX7_isSlot_6 rfl) (fun v4 => ?_)
  exact q_zret C hr hlo dX7_isSlot_9
def f_X7_askMay_L140 (F : Nat) (k0 : Nat) (a1 : Int)   : Nat → Int → St → Option (Int × St)
  | 0, _, _ => none
  | n + 1, x17, σ =>
    z_gt 3 fun v18 =>
    z_ix v18 246 <| z_gt (σ (k0 + 1) v18) fun v19 =>
    if v19 ≤ x17 then (
      z_gt 0 fun v20 =>
      some (v20, σ))
    else (
      z_c1 (f_X7_layWithout F k0 x17 σ) fun σ5 =>
      z_c1 (f_X7_isSeen F k0 a1 σ5) fun v21 =>
      if ¬ v21 = 0 then (
        z_gt (σ5 k0 33) fun v22 =>
        if ¬ v22 = 0 then (
          z_gt (σ5 k0 33) fun v23 =>
          z_gt 1 fun v24 =>
          z_ck (v23 + v24) fun v25 =>
          z_sg (z_up σ5 k0 33 v25) fun σ6 =>
          z_ck (x17 + 1) fun v26 =>
          f_X7_askMay_L140 F k0 a1 n v26 σ6)
        else (
          z_sg (z_up σ5 k0 34 x17) fun σ7 =>
          z_gt (σ7 k0 33) fun v27 =>
          z_gt 1 fun v28 =>
          z_ck (v27 + v28) fun v29 =>
          z_sg (z_up σ7 k0 33 v29) fun σ8 =>
          z_ck (x17 + 1) fun v30 =>
          f_X7_askMay_L140 F k0 a1 n v30 σ8))
      else (
        z_ck (x17 + 1) fun v31 =>
        f_X7_askMay_L140 F k0 a1 n v31 σ5))

def f_X7_askMay_L46 (F : Nat) (k0 : Nat) (a1 : Int)   : Nat → Int → St → Option (Int × St)
  | 0, _, _ => none
  | n + 1, x10, σ =>
    z_ix a1 4 <| z_gt (σ (k0 + 24) a1) fun v11 =>
    if v11 ≤ x10 then (
      z_c1 (f_X7_isSeen F k0 a1 σ) fun v12 =>
      if v12 = 0 then (
        z_gt 0 fun v13 =>
        z_sg (z_up σ k0 35 v13) fun σ2 =>
        z_gt 0 fun v14 =>
        z_sg (z_up σ2 k0 33 v14) fun σ3 =>
        z_gt (-1) fun v15 =>
        z_sg (z_up σ3 k0 34 v15) fun σ4 =>
        z_gt 0 fun v16 =>
        f_X7_askMay_L140 F k0 a1 F v16 σ4)
      else (
        z_gt 1 fun v32 =>
        z_sg (z_up σ k0 35 v32) fun σ9 =>
        z_gt 0 fun v33 =>
        z_sg (z_up σ9 k0 33 v33) fun σ10 =>
        z_gt (-1) fun v34 =>
        z_sg (z_up σ10 k0 34 v34) fun σ11 =>
        z_gt 0 fun v35 =>
        f_X7_askMay_L140 F k0 a1 F v35 σ11))
    else (
      z_c1 (f_X7_numberAt F k0 a1 x10 σ) fun v36 =>
      z_c1 (f_X7_isTick F k0 v36 σ) fun v37 =>
      if v37 = 0 then (
        z_gt (-2) fun v38 =>
        some (v38, σ))
      else (
        z_gt 1 fun v39 =>
        z_ck (x10 + v39) fun v40 =>
        z_c1 (f_X7_numberAt F k0 a1 v40 σ) fun v41 =>
        z_c1 (f_X7_isCell F k0 v41 σ) fun v42 =>
        if v42 = 0 then (
          z_gt (-2) fun v43 =>
          some (v43, σ))
        else (
          z_gt 2 fun v44 =>
          z_ck (x10 + v44) fun v45 =>
          z_c1 (f_X7_numberAt F k0 a1 v45 σ) fun v46 =>
          z_gt 0 fun v47 =>
          z_gt 255 fun v48 =>
          z_c1 (f_X7_in F v46 v47 v48 σ) fun v49 =>
          if ¬ v49 = 0 then (
            z_ck (x10 + 3) fun v50 =>
            f_X7_askMay_L46 F k0 a1 n v50 σ)
          else (
            z_gt (-2) fun v51 =>
            some (v51, σ)))))

def f_X7_askMay (F : Nat) (k0 : Nat) (a1 : Int) (σ : St) : Option (Int × St) :=
  z_ob 7 k0 <| 
  z_c1 (f_X7_isSlot F a1 σ) fun v1 =>
  if v1 = 0 then (
    z_gt (-2) fun v2 =>
    some (v2, σ))
  else (
    z_c2 (f_X7_asks F k0 σ) fun v3 σ1 =>
    if ¬ v3 = 0 then (
      z_ix a1 4 <| z_gt (σ1 (k0 + 24) a1) fun v4 =>
      z_gt (-1) fun v5 =>
      if ¬ v4 = v5 then (
        z_ix a1 4 <| z_gt (σ1 (k0 + 24) a1) fun v6 =>
        z_gt 3 fun v7 =>
        z_nz v7 <| z_gt (v6.tmod v7) fun v8 =>
        if v8 = 0 then (
          z_gt 0 fun v9 =>
          f_X7_askMay_L46 F k0 a1 F v9 σ1)
        else (
          z_gt (-2) fun v52 =>
          some (v52, σ1)))
      else (
        z_gt (-6) fun v53 =>
        some (v53, σ1)))
    else (
      z_gt (-2) fun v54 =>
      some (v54, σ1)))
theorem cb_X7_askMay : CB yX7_askMay cX7_askMay 3 (some .int) 1 := ⟨ki_X7_askMay, kq_X7_askMay, kn_X7, kc_X7_askMay, by decide +kernel, by decide +kernel, by decide +kernel⟩
set_option maxRecDepth 20000 in
set_option maxHeartbeats 4000000 in
theorem m_X7_askMay (l : Launch) (G : GG) (F : Nat) (k0 : Nat) (a1 : Int32) (σ : St) : ∀ r, f_X7_askMay F k0 a1.toInt σ = some r → MC G l yX7_askMay cX7_askMay 3 (some .int) { frames := 7, cells := 0, slots := 0, locals := 157 } [.ref (gad G k0), .int a1] σ (vI r.1) r.2 := by
  refine MC_of (own := RX7) (fun r : Int × St => vI r.1) (fun r : Int × St => r.2) (by decide +kernel) rfl (Nat.le_of_ble_eq_true rfl) ?_
  intro p e s m args below meth c C hr hlo ls hl
  have hl : lv_has ls 3 [(0, .ref (gad G k0)), (1, .int a1)] := hl
  unfold f_X7_askMay
  refine q_ob (fun hk0 => ?_)
  have B140 : ∀ (n : Nat) (x17 : Int32) (σ : St) (ls : Array Slot), lv_has ls 3 [(0, .ref (gad G k0)), (1, .int a1), (2, .int x17)] → Sim G (AG G) 0 0 p l e { frames := 7, cells := 0, slots := 0, locals := 157 } s m args below meth c (fun r : Int × St => MQ below (QC G (vI r.1) (r.2)) args s 0 0 (AG G)) σ (f_X7_askMay_L140 F k0 a1.toInt   n x17.toInt σ) (F0 m 140 ls []) := by
    intro n
    induction n with
    | zero =>
      intro x17 σ ls hl
      exact sim_none
    | succ n ih =>
      intro x17 σ ls hl
      rw [f_X7_askMay_L140]
      refine q_iload_n C dX7_askMay_140 rfl (lv_at hl 2 rfl) ?_
      refine q_aload_n C dX7_askMay_141 rfl (lv_at hl 0 rfl) ?_
      refine g_7_1 C hk0 kf_X7_9 dX7_askMay_142 ?_
      refine q_iconst C dX7_askMay_145 rfl (by decide) (fun v18 => ?_)
      refine a_ild C (yk_7_1 hk0) (yl_7_1 hk0) dX7_askMay_146 (fun v19 => ?_)
      refine q_icmp_ge C 194 dX7_askMay_147 (by decide) ?_ ?_
      · refine q_iconst C dX7_askMay_194 rfl (by decide) (fun v20 => ?_)
        exact q_iretE C hr hlo dX7_askMay_195
      · refine q_aload_n C dX7_askMay_150 rfl (lv_at hl 0 rfl) ?_
        refine q_iload_n C dX7_askMay_151 rfl (lv_at hl 2 rfl) ?_
        refine q_cv C (fun r h => cr_V (As := [.int x17]) (rest := []) C (m_X7_layWithout l G F k0 x17 σ r h) cb_X7_layWithout hk0 (by decide) rfl (cf_7 hk0 _) rfl kl_X7_405 ⟨Nat.le_of_ble_eq_true rfl, Nat.le_of_ble_eq_true rfl⟩ ⟨Nat.zero_le _, Nat.zero_le _⟩ hl.1 rfl (Nat.le_of_ble_eq_true rfl) dX7_askMay_152 rfl) (fun σ5 => ?_)
        refine q_aload_n C dX7_askMay_155 rfl (lv_at hl 0 rfl) ?_
        refine q_iload_n C dX7_askMay_156 rfl (lv_at hl 1 rfl) ?_
        refine q_c1i C (fun r h => cr_V (As := [.int a1]) (rest := []) C (m_X7_isSeen l G F k0 a1 σ5 r h) cb_X7_isSeen hk0 (by decide) rfl (cf_7 hk0 _) rfl kl_X7_417 ⟨Nat.le_of_ble_eq_true rfl, Nat.le_of_ble_eq_true rfl⟩ ⟨Nat.zero_le _, Nat.zero_le _⟩ hl.1 rfl (Nat.le_of_ble_eq_true rfl) dX7_askMay_157 rfl) (fun v21 => ?_)
        refine q_if_ne C 166 dX7_askMay_160 (by decide) ?_ ?_
        · refine q_aload_n C dX7_askMay_166 rfl (lv_at hl 0 rfl) ?_
          refine g_7_33 C hk0 kf_X7_423 dX7_askMay_167 (fun v22 => ?_)
          refine q_if_ne C 178 dX7_askMay_170 (by decide) ?_ ?_
          · refine q_aload_n C dX7_askMay_178 rfl (lv_at hl 0 rfl) ?_
            refine q_dup C dX7_askMay_179 rfl ?_
            refine g_7_33 C hk0 kf_X7_423 dX7_askMay_180 (fun v23 => ?_)
            refine q_iconst C dX7_askMay_183 rfl (by decide) (fun v24 => ?_)
            refine q_iadd C dX7_askMay_184 (fun v25 => ?_)
            refine p_7_33 C hk0 kf_X7_423 dX7_askMay_185 (q_sg (fun σ6 => ?_))
            refine q_iinc (k := 2) C (fun v26 => [(2, .int v26), (0, .ref (gad G k0)), (1, .int a1)]) dX7_askMay_188 hl rfl (by decide) (by decide) (fun _ => rfl) (fun v26 ls hl => ?_)
            refine q_goto C 140 dX7_askMay_191 (by decide) ?_
            exact ih v26 σ6 ls (lv_sub hl [1, 2, 0] rfl)
          · refine q_aload_n C dX7_askMay_173 rfl (lv_at hl 0 rfl) ?_
            refine q_iload_n C dX7_askMay_174 rfl (lv_at hl 2 rfl) ?_
            refine p_7_34 C hk0 kf_X7_426 dX7_askMay_175 (q_sg (fun σ7 => ?_))
            refine q_aload_n C dX7_askMay_178 rfl (lv_at hl 0 rfl) ?_
            refine q_dup C dX7_askMay_179 rfl ?_
            refine g_7_33 C hk0 kf_X7_423 dX7_askMay_180 (fun v27 => ?_)
            refine q_iconst C dX7_askMay_183 rfl (by decide) (fun v28 => ?_)
            refine q_iadd C dX7_askMay_184 (fun v29 => ?_)
            refine p_7_33 C hk0 kf_X7_423 dX7_askMay_185 (q_sg (fun σ8 => ?_))
            refine q_iinc (k := 2) C (fun v30 => [(2, .int v30), (0, .ref (gad G k0)), (1, .int a1)]) dX7_askMay_188 hl rfl (by decide) (by decide) (fun _ => rfl) (fun v30 ls hl => ?_)
            refine q_goto C 140 dX7_askMay_191 (by decide) ?_
            exact ih v30 σ8 ls (lv_sub hl [1, 2, 0] rfl)
        · refine q_goto C 188 dX7_askMay_163 (by decide) ?_
          refine q_iinc (k := 2) C (fun v31 => [(2, .int v31), (0, .ref (gad G k0)), (1, .int a1)]) dX7_askMay_188 hl rfl (by decide) (by decide) (fun _ => rfl) (fun v31 ls hl => ?_)
          refine q_goto C 140 dX7_askMay_191 (by decide) ?_
          exact ih v31 σ5 ls (lv_sub hl [1, 2, 0] rfl)
  have B46 : ∀ (n : Nat) (x10 : Int32) (σ : St) (ls : Array Slot), lv_has ls 3 [(0, .ref (gad G k0)), (1, .int a1), (2, .int x10)] → Sim G (AG G) 0 0 p l e { frames := 7, cells := 0, slots := 0, locals := 157 } s m args below meth c (fun r : Int × St => MQ below (QC G (vI r.1) (r.2)) args s 0 0 (AG G)) σ (f_X7_askMay_L46 F k0 a1.toInt   n x10.toInt σ) (F0 m 46 ls []) := by
    intro n
    induction n with
    | zero =>
      intro x10 σ ls hl
      exact sim_none
    | succ n ih =>
      intro x10 σ ls hl
      rw [f_X7_askMay_L46]
      refine q_iload_n C dX7_askMay_46 rfl (lv_at hl 2 rfl) ?_
      refine q_aload_n C dX7_askMay_47 rfl (lv_at hl 0 rfl) ?_
      refine g_7_40 C hk0 kf_X7_85 dX7_askMay_48 ?_
      refine q_iload_n C dX7_askMay_51 rfl (lv_at hl 1 rfl) ?_
      refine a_ild C (yk_7_40 hk0) (yl_7_40 hk0) dX7_askMay_52 (fun v11 => ?_)
      refine q_icmp_ge C 111 dX7_askMay_53 (by decide) ?_ ?_
      · refine q_aload_n C dX7_askMay_111 rfl (lv_at hl 0 rfl) ?_
        refine q_aload_n C dX7_askMay_112 rfl (lv_at hl 0 rfl) ?_
        refine q_iload_n C dX7_askMay_113 rfl (lv_at hl 1 rfl) ?_
        refine q_c1i C (fun r h => cr_V (As := [.int a1]) (rest := [.ref (gad G k0)]) C (m_X7_isSeen l G F k0 a1 σ r h) cb_X7_isSeen hk0 (by decide) rfl (cf_7 hk0 _) rfl kl_X7_417 ⟨Nat.le_of_ble_eq_true rfl, Nat.le_of_ble_eq_true rfl⟩ ⟨Nat.zero_le _, Nat.zero_le _⟩ hl.1 rfl (Nat.le_of_ble_eq_true rfl) dX7_askMay_114 rfl) (fun v12 => ?_)
        refine q_if_eq C 124 dX7_askMay_117 (by decide) ?_ ?_
        · refine q_iconst C dX7_askMay_124 rfl (by decide) (fun v13 => ?_)
          refine p_7_35 C hk0 kf_X7_420 dX7_askMay_125 (q_sg (fun σ2 => ?_))
          refine q_aload_n C dX7_askMay_128 rfl (lv_at hl 0 rfl) ?_
          refine q_iconst C dX7_askMay_129 rfl (by decide) (fun v14 => ?_)
          refine p_7_33 C hk0 kf_X7_423 dX7_askMay_130 (q_sg (fun σ3 => ?_))
          refine q_aload_n C dX7_askMay_133 rfl (lv_at hl 0 rfl) ?_
          refine q_iconst C dX7_askMay_134 rfl (by decide) (fun v15 => ?_)
          refine p_7_34 C hk0 kf_X7_426 dX7_askMay_135 (q_sg (fun σ4 => ?_))
          refine q_iconst C dX7_askMay_138 rfl (by decide) (fun v16 => ?_)
          refine q_istore_n C [(2, .int v16), (0, .ref (gad G k0)), (1, .int a1)] dX7_askMay_139 rfl hl (by decide) rfl (fun ls hl => ?_)
          exact B140 F v16 σ4 ls (lv_sub hl [1, 2, 0] rfl)
        · refine q_iconst C dX7_askMay_120 rfl (by decide) (fun v32 => ?_)
          refine q_goto C 125 dX7_askMay_121 (by decide) ?_
          refine p_7_35 C hk0 kf_X7_420 dX7_askMay_125 (q_sg (fun σ9 => ?_))
          refine q_aload_n C dX7_askMay_128 rfl (lv_at hl 0 rfl) ?_
          refine q_iconst C dX7_askMay_129 rfl (by decide) (fun v33 => ?_)
          refine p_7_33 C hk0 kf_X7_423 dX7_askMay_130 (q_sg (fun σ10 => ?_))
          refine q_aload_n C dX7_askMay_133 rfl (lv_at hl 0 rfl) ?_
          refine q_iconst C dX7_askMay_134 rfl (by decide) (fun v34 => ?_)
          refine p_7_34 C hk0 kf_X7_426 dX7_askMay_135 (q_sg (fun σ11 => ?_))
          refine q_iconst C dX7_askMay_138 rfl (by decide) (fun v35 => ?_)
          refine q_istore_n C [(2, .int v35), (0, .ref (gad G k0)), (1, .int a1)] dX7_askMay_139 rfl hl (by decide) rfl (fun ls hl => ?_)
          exact B140 F v35 σ11 ls (lv_sub hl [1, 2, 0] rfl)
      · refine q_aload_n C dX7_askMay_56 rfl (lv_at hl 0 rfl) ?_
        refine q_aload_n C dX7_askMay_57 rfl (lv_at hl 0 rfl) ?_
        refine q_iload_n C dX7_askMay_58 rfl (lv_at hl 1 rfl) ?_
        refine q_iload_n C dX7_askMay_59 rfl (lv_at hl 2 rfl) ?_
        refine q_c1l C (fun r h => cr_V (As := [.int a1, .int x10]) (rest := [.ref (gad G k0)]) C (m_X7_numberAt l G F k0 a1 x10 σ r h) cb_X7_numberAt hk0 (by decide) rfl (cf_7 hk0 _) rfl kl_X7_408 ⟨Nat.le_of_ble_eq_true rfl, Nat.le_of_ble_eq_true rfl⟩ ⟨Nat.zero_le _, Nat.zero_le _⟩ hl.1 rfl (Nat.le_of_ble_eq_true rfl) dX7_askMay_60 rfl) (fun v36 => ?_)
        refine q_c1i C (fun r h => cr_V (As := [.long v36]) (rest := []) C (m_X7_isTick l G F k0 v36 σ r h) cb_X7_isTick hk0 (by decide) rfl (cf_7 hk0 _) rfl kl_X7_319 ⟨Nat.le_of_ble_eq_true rfl, Nat.le_of_ble_eq_true rfl⟩ ⟨Nat.zero_le _, Nat.zero_le _⟩ hl.1 rfl (Nat.le_of_ble_eq_true rfl) dX7_askMay_63 rfl) (fun v37 => ?_)
        refine q_if_eq C 102 dX7_askMay_66 (by decide) ?_ ?_
        · refine q_bipush C dX7_askMay_102 rfl (by decide) (fun v38 => ?_)
          exact q_iretE C hr hlo dX7_askMay_104
        · refine q_aload_n C dX7_askMay_69 rfl (lv_at hl 0 rfl) ?_
          refine q_aload_n C dX7_askMay_70 rfl (lv_at hl 0 rfl) ?_
          refine q_iload_n C dX7_askMay_71 rfl (lv_at hl 1 rfl) ?_
          refine q_iload_n C dX7_askMay_72 rfl (lv_at hl 2 rfl) ?_
          refine q_iconst C dX7_askMay_73 rfl (by decide) (fun v39 => ?_)
          refine q_iadd C dX7_askMay_74 (fun v40 => ?_)
          refine q_c1l C (fun r h => cr_V (As := [.int a1, .int v40]) (rest := [.ref (gad G k0)]) C (m_X7_numberAt l G F k0 a1 v40 σ r h) cb_X7_numberAt hk0 (by decide) rfl (cf_7 hk0 _) rfl kl_X7_408 ⟨Nat.le_of_ble_eq_true rfl, Nat.le_of_ble_eq_true rfl⟩ ⟨Nat.zero_le _, Nat.zero_le _⟩ hl.1 rfl (Nat.le_of_ble_eq_true rfl) dX7_askMay_75 rfl) (fun v41 => ?_)
          refine q_c1i C (fun r h => cr_V (As := [.long v41]) (rest := []) C (m_X7_isCell l G F k0 v41 σ r h) cb_X7_isCell hk0 (by decide) rfl (cf_7 hk0 _) rfl kl_X7_326 ⟨Nat.le_of_ble_eq_true rfl, Nat.le_of_ble_eq_true rfl⟩ ⟨Nat.zero_le _, Nat.zero_le _⟩ hl.1 rfl (Nat.le_of_ble_eq_true rfl) dX7_askMay_78 rfl) (fun v42 => ?_)
          refine q_if_eq C 102 dX7_askMay_81 (by decide) ?_ ?_
          · refine q_bipush C dX7_askMay_102 rfl (by decide) (fun v43 => ?_)
            exact q_iretE C hr hlo dX7_askMay_104
          · refine q_aload_n C dX7_askMay_84 rfl (lv_at hl 0 rfl) ?_
            refine q_iload_n C dX7_askMay_85 rfl (lv_at hl 1 rfl) ?_
            refine q_iload_n C dX7_askMay_86 rfl (lv_at hl 2 rfl) ?_
            refine q_iconst C dX7_askMay_87 rfl (by decide) (fun v44 => ?_)
            refine q_iadd C dX7_askMay_88 (fun v45 => ?_)
            refine q_c1l C (fun r h => cr_V (As := [.int a1, .int v45]) (rest := []) C (m_X7_numberAt l G F k0 a1 v45 σ r h) cb_X7_numberAt hk0 (by decide) rfl (cf_7 hk0 _) rfl kl_X7_408 ⟨Nat.le_of_ble_eq_true rfl, Nat.le_of_ble_eq_true rfl⟩ ⟨Nat.zero_le _, Nat.zero_le _⟩ hl.1 rfl (Nat.le_of_ble_eq_true rfl) dX7_askMay_89 rfl) (fun v46 => ?_)
            refine q_lconst C dX7_askMay_92 rfl (by decide) (fun v47 => ?_)
            refine q_ldc2 C kk_X7_415 dX7_askMay_93 (by decide) (fun v48 => ?_)
            refine q_c1i C (fun r h => cr_S (As := [.long v46, .long v47, .long v48]) (rest := []) C (m_X7_in l G F v46 v47 v48 σ r h) sb_X7_in kl_X7_103 ⟨Nat.le_of_ble_eq_true rfl, Nat.le_of_ble_eq_true rfl⟩ ⟨Nat.zero_le _, Nat.zero_le _⟩ hl.1 rfl (Nat.le_of_ble_eq_true rfl) dX7_askMay_96 rfl) (fun v49 => ?_)
            refine q_if_ne C 105 dX7_askMay_99 (by decide) ?_ ?_
            · refine q_iinc (k := 2) C (fun v50 => [(2, .int v50), (0, .ref (gad G k0)), (1, .int a1)]) dX7_askMay_105 hl rfl (by decide) (by decide) (fun _ => rfl) (fun v50 ls hl => ?_)
              refine q_goto C 46 dX7_askMay_108 (by decide) ?_
              exact ih v50 σ ls (lv_sub hl [1, 2, 0] rfl)
            · refine q_bipush C dX7_askMay_102 rfl (by decide) (fun v51 => ?_)
              exact q_iretE C hr hlo dX7_askMay_104
  refine q_iload_n C dX7_askMay_0 rfl (lv_at hl 1 rfl) ?_
  refine q_c1i C (fun r h => cr_S (As := [.int a1]) (rest := []) C (m_X7_isSlot l G F a1 σ r h) sb_X7_isSlot kl_X7_412 ⟨Nat.le_of_ble_eq_true rfl, Nat.le_of_ble_eq_true rfl⟩ ⟨Nat.zero_le _, Nat.zero_le _⟩ hl.1 rfl (Nat.le_of_ble_eq_true rfl) dX7_askMay_1 rfl) (fun v1 => ?_)
  refine q_if_eq C 14 dX7_askMay_4 (by decide) ?_ ?_
  · refine q_bipush C dX7_askMay_14 rfl (by decide) (fun v2 => ?_)
    exact q_iretE C hr hlo dX7_askMay_16
  · refine q_aload_n C dX7_askMay_7 rfl (lv_at hl 0 rfl) ?_
    refine q_c2i C (fun r h => cr_V (As := []) (rest := []) C (m_X7_asks l G F k0 σ r h) cb_X7_asks hk0 (by decide) rfl (cf_7 hk0 _) rfl kl_X7_316 ⟨Nat.le_of_ble_eq_true rfl, Nat.le_of_ble_eq_true rfl⟩ ⟨Nat.zero_le _, Nat.zero_le _⟩ hl.1 rfl (Nat.le_of_ble_eq_true rfl) dX7_askMay_8 rfl) (fun v3 σ1 => ?_)
    refine q_if_ne C 17 dX7_askMay_11 (by decide) ?_ ?_
    · refine q_aload_n C dX7_askMay_17 rfl (lv_at hl 0 rfl) ?_
      refine g_7_40 C hk0 kf_X7_85 dX7_askMay_18 ?_
      refine q_iload_n C dX7_askMay_21 rfl (lv_at hl 1 rfl) ?_
      refine a_ild C (yk_7_40 hk0) (yl_7_40 hk0) dX7_askMay_22 (fun v4 => ?_)
      refine q_iconst C dX7_askMay_23 rfl (by decide) (fun v5 => ?_)
      refine q_icmp_ne C 30 dX7_askMay_24 (by decide) ?_ ?_
      · refine q_aload_n C dX7_askMay_30 rfl (lv_at hl 0 rfl) ?_
        refine g_7_40 C hk0 kf_X7_85 dX7_askMay_31 ?_
        refine q_iload_n C dX7_askMay_34 rfl (lv_at hl 1 rfl) ?_
        refine a_ild C (yk_7_40 hk0) (yl_7_40 hk0) dX7_askMay_35 (fun v6 => ?_)
        refine q_iconst C dX7_askMay_36 rfl (by decide) (fun v7 => ?_)
        refine q_irem C dX7_askMay_37 (fun v8 => ?_)
        refine q_if_eq C 44 dX7_askMay_38 (by decide) ?_ ?_
        · refine q_iconst C dX7_askMay_44 rfl (by decide) (fun v9 => ?_)
          refine q_istore_n C [(2, .int v9), (0, .ref (gad G k0)), (1, .int a1)] dX7_askMay_45 rfl hl (by decide) rfl (fun ls hl => ?_)
          exact B46 F v9 σ1 ls (lv_sub hl [1, 2, 0] rfl)
        · refine q_bipush C dX7_askMay_41 rfl (by decide) (fun v52 => ?_)
          exact q_iretE C hr hlo dX7_askMay_43
      · refine q_bipush C dX7_askMay_27 rfl (by decide) (fun v53 => ?_)
        exact q_iretE C hr hlo dX7_askMay_29
    · refine q_bipush C dX7_askMay_14 rfl (by decide) (fun v54 => ?_)
      exact q_iretE C hr hlo dX7_askMay_16
def f_X7_may (F : Nat) (k0 : Nat) (a1 : Int) (σ : St) : Option (Int × St) :=
  z_ob 7 k0 <| 
  z_c2 (f_X7_askMay F k0 a1 σ) fun v1 σ1 =>
  if 0 ≤ v1 then (
    z_gt (σ1 k0 33) fun v2 =>
    some (v2, σ1))
  else (
    some (v1, σ1))
theorem cb_X7_may : CB yX7_may cX7_may 3 (some .int) 1 := ⟨ki_X7_may, kq_X7_may, kn_X7, kc_X7_may, by decide +kernel, by decide +kernel, by decide +kernel⟩
set_option maxRecDepth 20000 in
set_option maxHeartbeats 4000000 in
theorem m_X7_may (l : Launch) (G : GG) (F : Nat) (k0 : Nat) (a1 : Int32) (σ : St) : ∀ r, f_X7_may F k0 a1.toInt σ = some r → MC G l yX7_may cX7_may 3 (some .int) { frames := 8, cells := 0, slots := 0, locals := 179 } [.ref (gad G k0), .int a1] σ (vI r.1) r.2 := by
  refine MC_of (own := RX7) (fun r : Int × St => vI r.1) (fun r : Int × St => r.2) (by decide +kernel) rfl (Nat.le_of_ble_eq_true rfl) ?_
  intro p e s m args below meth c C hr hlo ls hl
  have hl : lv_has ls 3 [(0, .ref (gad G k0)), (1, .int a1)] := hl
  unfold f_X7_may
  refine q_ob (fun hk0 => ?_)
  refine q_aload_n C dX7_may_0 rfl (lv_at hl 0 rfl) ?_
  refine q_iload_n C dX7_may_1 rfl (lv_at hl 1 rfl) ?_
  refine q_c2i C (fun r h => cr_V (As := [.int a1]) (rest := []) C (m_X7_askMay l G F k0 a1 σ r h) cb_X7_askMay hk0 (by decide) rfl (cf_7 hk0 _) rfl kl_X7_429 ⟨Nat.le_of_ble_eq_true rfl, Nat.le_of_ble_eq_true rfl⟩ ⟨Nat.zero_le _, Nat.zero_le _⟩ hl.1 rfl (Nat.le_of_ble_eq_true rfl) dX7_may_2 rfl) (fun v1 σ1 => ?_)
  refine q_istore_n C [(2, .int v1), (0, .ref (gad G k0)), (1, .int a1)] dX7_may_5 rfl hl (by decide) rfl (fun ls hl => ?_)
  refine q_iload_n C dX7_may_6 rfl (lv_at hl 0 rfl) ?_
  refine q_if_ge C 14 dX7_may_7 (by decide) ?_ ?_
  · refine q_aload_n C dX7_may_14 rfl (lv_at hl 1 rfl) ?_
    refine g_7_33 C hk0 kf_X7_423 dX7_may_15 (fun v2 => ?_)
    exact q_iretE C hr hlo dX7_may_18
  · refine q_iload_n C dX7_may_10 rfl (lv_at hl 0 rfl) ?_
    refine q_goto C 18 dX7_may_11 (by decide) ?_
    exact q_iretE C hr hlo dX7_may_18
def f_X7_which (F : Nat) (k0 : Nat) (a1 : Int) (σ : St) : Option (Int × St) :=
  z_ob 7 k0 <| 
  z_c2 (f_X7_askMay F k0 a1 σ) fun v1 σ1 =>
  if 0 ≤ v1 then (
    z_gt (σ1 k0 34) fun v2 =>
    some (v2, σ1))
  else (
    some (v1, σ1))
theorem cb_X7_which : CB yX7_which cX7_which 3 (some .int) 1 := ⟨ki_X7_which, kq_X7_which, kn_X7, kc_X7_which, by decide +kernel, by decide +kernel, by decide +kernel⟩
set_option maxRecDepth 20000 in
set_option maxHeartbeats 4000000 in
theorem m_X7_which (l : Launch) (G : GG) (F : Nat) (k0 : Nat) (a1 : Int32) (σ : St) : ∀ r, f_X7_which F k0 a1.toInt σ = some r → MC G l yX7_which cX7_which 3 (some .int) { frames := 8, cells := 0, slots := 0, locals := 179 } [.ref (gad G k0), .int a1] σ (vI r.1) r.2 := by
  refine MC_of (own := RX7) (fun r : Int × St => vI r.1) (fun r : Int × St => r.2) (by decide +kernel) rfl (Nat.le_of_ble_eq_true rfl) ?_
  intro p e s m args below meth c C hr hlo ls hl
  have hl : lv_has ls 3 [(0, .ref (gad G k0)), (1, .int a1)] := hl
  unfold f_X7_which
  refine q_ob (fun hk0 => ?_)
  refine q_aload_n C dX7_which_0 rfl (lv_at hl 0 rfl) ?_
  refine q_iload_n C dX7_which_1 rfl (lv_at hl 1 rfl) ?_
  refine q_c2i C (fun r h => cr_V (As := [.int a1]) (rest := []) C (m_X7_askMay l G F k0 a1 σ r h) cb_X7_askMay hk0 (by decide) rfl (cf_7 hk0 _) rfl kl_X7_429 ⟨Nat.le_of_ble_eq_true rfl, Nat.le_of_ble_eq_true rfl⟩ ⟨Nat.zero_le _, Nat.zero_le _⟩ hl.1 rfl (Nat.le_of_ble_eq_true rfl) dX7_which_2 rfl) (fun v1 σ1 => ?_)
  refine q_istore_n C [(2, .int v1), (0, .ref (gad G k0)), (1, .int a1)] dX7_which_5 rfl hl (by decide) rfl (fun ls hl => ?_)
  refine q_iload_n C dX7_which_6 rfl (lv_at hl 0 rfl) ?_
  refine q_if_ge C 14 dX7_which_7 (by decide) ?_ ?_
  · refine q_aload_n C dX7_which_14 rfl (lv_at hl 1 rfl) ?_
    refine g_7_34 C hk0 kf_X7_426 dX7_which_15 (fun v2 => ?_)
    exact q_iretE C hr hlo dX7_which_18
  · refine q_iload_n C dX7_which_10 rfl (lv_at hl 0 rfl) ?_
    refine q_goto C 18 dX7_which_11 (by decide) ?_
    exact q_iretE C hr hlo dX7_which_18
def f_X7_plain (F : Nat) (k0 : Nat) (a1 : Int) (σ : St) : Option (Int × St) :=
  z_ob 7 k0 <| 
  z_c2 (f_X7_askMay F k0 a1 σ) fun v1 σ1 =>
  if 0 ≤ v1 then (
    z_gt (σ1 k0 35) fun v2 =>
    some (v2, σ1))
  else (
    some (v1, σ1))
theorem cb_X7_plain : CB yX7_plain cX7_plain 3 (some .int) 1 := ⟨ki_X7_plain, kq_X7_plain, kn_X7, kc_X7_plain, by decide +kernel, by decide +kernel, by decide +kernel⟩
set_option maxRecDepth 20000 in
set_option maxHeartbeats 4000000 in
theorem m_X7_plain (l : Launch) (G : GG) (F : Nat) (k0 : Nat) (a1 : Int32) (σ : St) : ∀ r, f_X7_plain F k0 a1.toInt σ = some r → MC G l yX7_plain cX7_plain 3 (some .int) { frames := 8, cells := 0, slots := 0, locals := 179 } [.ref (gad G k0), .int a1] σ (vI r.1) r.2 := by
  refine MC_of (own := RX7) (fun r : Int × St => vI r.1) (fun r : Int × St => r.2) (by decide +kernel) rfl (Nat.le_of_ble_eq_true rfl) ?_
  intro p e s m args below meth c C hr hlo ls hl
  have hl : lv_has ls 3 [(0, .ref (gad G k0)), (1, .int a1)] := hl
  unfold f_X7_plain
  refine q_ob (fun hk0 => ?_)
  refine q_aload_n C dX7_plain_0 rfl (lv_at hl 0 rfl) ?_
  refine q_iload_n C dX7_plain_1 rfl (lv_at hl 1 rfl) ?_
  refine q_c2i C (fun r h => cr_V (As := [.int a1]) (rest := []) C (m_X7_askMay l G F k0 a1 σ r h) cb_X7_askMay hk0 (by decide) rfl (cf_7 hk0 _) rfl kl_X7_429 ⟨Nat.le_of_ble_eq_true rfl, Nat.le_of_ble_eq_true rfl⟩ ⟨Nat.zero_le _, Nat.zero_le _⟩ hl.1 rfl (Nat.le_of_ble_eq_true rfl) dX7_plain_2 rfl) (fun v1 σ1 => ?_)
  refine q_istore_n C [(2, .int v1), (0, .ref (gad G k0)), (1, .int a1)] dX7_plain_5 rfl hl (by decide) rfl (fun ls hl => ?_)
  refine q_iload_n C dX7_plain_6 rfl (lv_at hl 0 rfl) ?_
  refine q_if_ge C 14 dX7_plain_7 (by decide) ?_ ?_
  · refine q_aload_n C dX7_plain_14 rfl (lv_at hl 1 rfl) ?_
    refine g_7_35 C hk0 kf_X7_420 dX7_plain_15 (fun v2 => ?_)
    exact q_iretE C hr hlo dX7_plain_18
  · refine q_iload_n C dX7_plain_10 rfl (lv_at hl 0 rfl) ?_
    refine q_goto C 18 dX7_plain_11 (by decide) ?_
    exact q_iretE C hr hlo dX7_plain_18
def f_X7_savedBy_L9 (F : Nat) (k0 : Nat) (a1 : Int)   : Nat → Int → Int → St → Option (Int × St)
  | 0, _, _, _ => none
  | n + 1, x3, x4, σ =>
    z_gt (σ k0 28) fun v5 =>
    if v5 ≤ x4 then (
      some (x3, σ))
    else (
      z_c1 (f_X7_savedMany F k0 x4 σ) fun v6 =>
      z_ck (x3 + v6) fun v7 =>
      z_ck (x4 + 1) fun v8 =>
      f_X7_savedBy_L9 F k0 a1 n v7 v8 σ)

def f_X7_savedBy (F : Nat) (k0 : Nat) (a1 : Int) (σ : St) : Option (Int × St) :=
  z_ob 7 k0 <| 
  z_c1 (f_X7_layAll F k0 a1 σ) fun σ1 =>
  z_gt 0 fun v1 =>
  z_gt 0 fun v2 =>
  f_X7_savedBy_L9 F k0 a1 F v1 v2 σ1
theorem cb_X7_savedBy : CB yX7_savedBy cX7_savedBy 4 (some .int) 1 := ⟨ki_X7_savedBy, kq_X7_savedBy, kn_X7, kc_X7_savedBy, by decide +kernel, by decide +kernel, by decide +kernel⟩
set_option maxRecDepth 20000 in
set_option maxHeartbeats 4000000 in
theorem m_X7_savedBy (l : Launch) (G : GG) (F : Nat) (k0 : Nat) (a1 : Int32) (σ : St) : ∀ r, f_X7_savedBy F k0 a1.toInt σ = some r → MC G l yX7_savedBy cX7_savedBy 4 (some .int) { frames := 6, cells := 0, slots := 0, locals := 137 } [.ref (gad G k0), .int a1] σ (vI r.1) r.2 := by
  refine MC_of (own := RX7) (fun r : Int × St => vI r.1) (fun r : Int × St => r.2) (by decide +kernel) rfl (Nat.le_of_ble_eq_true rfl) ?_
  intro p e s m args below meth c C hr hlo ls hl
  have hl : lv_has ls 4 [(0, .ref (gad G k0)), (1, .int a1)] := hl
  unfold f_X7_savedBy
  refine q_ob (fun hk0 => ?_)
  have B9 : ∀ (n : Nat) (x3 : Int32) (x4 : Int32) (σ : St) (ls : Array Slot), lv_has ls 4 [(0, .ref (gad G k0)), (2, .int x3), (3, .int x4)] → Sim G (AG G) 0 0 p l e { frames := 6, cells := 0, slots := 0, locals := 137 } s m args below meth c (fun r : Int × St => MQ below (QC G (vI r.1) (r.2)) args s 0 0 (AG G)) σ (f_X7_savedBy_L9 F k0 a1.toInt   n x3.toInt x4.toInt σ) (F0 m 9 ls []) := by
    intro n
    induction n with
    | zero =>
      intro x3 x4 σ ls hl
      exact sim_none
    | succ n ih =>
      intro x3 x4 σ ls hl
      rw [f_X7_savedBy_L9]
      refine q_iload_n C dX7_savedBy_9 rfl (lv_at hl 2 rfl) ?_
      refine q_aload_n C dX7_savedBy_10 rfl (lv_at hl 0 rfl) ?_
      refine g_7_28 C hk0 kf_X7_257 dX7_savedBy_11 (fun v5 => ?_)
      refine q_icmp_ge C 31 dX7_savedBy_14 (by decide) ?_ ?_
      · refine q_iload_n C dX7_savedBy_31 rfl (lv_at hl 1 rfl) ?_
        exact q_iretE C hr hlo dX7_savedBy_32
      · refine q_iload_n C dX7_savedBy_17 rfl (lv_at hl 1 rfl) ?_
        refine q_aload_n C dX7_savedBy_18 rfl (lv_at hl 0 rfl) ?_
        refine q_iload_n C dX7_savedBy_19 rfl (lv_at hl 2 rfl) ?_
        refine q_c1i C (fun r h => cr_V (As := [.int x4]) (rest := [.int x3]) C (m_X7_savedMany l G F k0 x4 σ r h) cb_X7_savedMany hk0 (by decide) rfl (cf_7 hk0 _) rfl kl_X7_361 ⟨Nat.le_of_ble_eq_true rfl, Nat.le_of_ble_eq_true rfl⟩ ⟨Nat.zero_le _, Nat.zero_le _⟩ hl.1 rfl (Nat.le_of_ble_eq_true rfl) dX7_savedBy_20 rfl) (fun v6 => ?_)
        refine q_iadd C dX7_savedBy_23 (fun v7 => ?_)
        refine q_istore_n C [(2, .int v7), (0, .ref (gad G k0)), (3, .int x4)] dX7_savedBy_24 rfl hl (by decide) rfl (fun ls hl => ?_)
        refine q_iinc (k := 2) C (fun v8 => [(3, .int v8), (2, .int v7), (0, .ref (gad G k0))]) dX7_savedBy_25 hl rfl (by decide) (by decide) (fun _ => rfl) (fun v8 ls hl => ?_)
        refine q_goto C 9 dX7_savedBy_28 (by decide) ?_
        exact ih v7 v8 σ ls (lv_sub hl [2, 1, 0] rfl)
  refine q_aload_n C dX7_savedBy_0 rfl (lv_at hl 0 rfl) ?_
  refine q_iload_n C dX7_savedBy_1 rfl (lv_at hl 1 rfl) ?_
  refine q_cv C (fun r h => cr_V (As := [.int a1]) (rest := []) C (m_X7_layAll l G F k0 a1 σ r h) cb_X7_layAll hk0 (by decide) rfl (cf_7 hk0 _) rfl kl_X7_313 ⟨Nat.le_of_ble_eq_true rfl, Nat.le_of_ble_eq_true rfl⟩ ⟨Nat.zero_le _, Nat.zero_le _⟩ hl.1 rfl (Nat.le_of_ble_eq_true rfl) dX7_savedBy_2 rfl) (fun σ1 => ?_)
  refine q_iconst C dX7_savedBy_5 rfl (by decide) (fun v1 => ?_)
  refine q_istore_n C [(2, .int v1), (0, .ref (gad G k0)), (1, .int a1)] dX7_savedBy_6 rfl hl (by decide) rfl (fun ls hl => ?_)
  refine q_iconst C dX7_savedBy_7 rfl (by decide) (fun v2 => ?_)
  refine q_istore_n C [(3, .int v2), (2, .int v1), (0, .ref (gad G k0)), (1, .int a1)] dX7_savedBy_8 rfl hl (by decide) rfl (fun ls hl => ?_)
  exact B9 F v1 v2 σ1 ls (lv_sub hl [2, 1, 0] rfl)
def f_X7_by (F : Nat) (k0 : Nat) (a1 : Int) (σ : St) : Option (Int × St) :=
  z_ob 7 k0 <| 
  z_c2 (f_X7_asks F k0 σ) fun v1 σ1 =>
  if v1 = 0 then (
    z_gt (-2) fun v2 =>
    some (v2, σ1))
  else (
    z_gt a1 fun v3 =>
    z_gt 0 fun v4 =>
    z_gt 3 fun v5 =>
    z_c1 (f_X7_in F v3 v4 v5 σ1) fun v6 =>
    if v6 = 0 then (
      z_gt (-2) fun v7 =>
      some (v7, σ1))
    else (
      z_c2 (f_X7_savedBy F k0 a1 σ1) fun v8 σ2 =>
      some (v8, σ2)))
theorem cb_X7_by : CB yX7_by cX7_by 2 (some .int) 1 := ⟨ki_X7_by, kq_X7_by, kn_X7, kc_X7_by, by decide +kernel, by decide +kernel, by decide +kernel⟩
set_option maxRecDepth 20000 in
set_option maxHeartbeats 4000000 in
theorem m_X7_by (l : Launch) (G : GG) (F : Nat) (k0 : Nat) (a1 : Int32) (σ : St) : ∀ r, f_X7_by F k0 a1.toInt σ = some r → MC G l yX7_by cX7_by 2 (some .int) { frames := 7, cells := 0, slots := 0, locals := 160 } [.ref (gad G k0), .int a1] σ (vI r.1) r.2 := by
  refine MC_of (own := RX7) (fun r : Int × St => vI r.1) (fun r : Int × St => r.2) (by decide +kernel) rfl (Nat.le_of_ble_eq_true rfl) ?_
  intro p e s m args below meth c C hr hlo ls hl
  have hl : lv_has ls 2 [(0, .ref (gad G k0)), (1, .int a1)] := hl
  unfold f_X7_by
  refine q_ob (fun hk0 => ?_)
  refine q_aload_n C dX7_by_0 rfl (lv_at hl 0 rfl) ?_
  refine q_c2i C (fun r h => cr_V (As := []) (rest := []) C (m_X7_asks l G F k0 σ r h) cb_X7_asks hk0 (by decide) rfl (cf_7 hk0 _) rfl kl_X7_316 ⟨Nat.le_of_ble_eq_true rfl, Nat.le_of_ble_eq_true rfl⟩ ⟨Nat.zero_le _, Nat.zero_le _⟩ hl.1 rfl (Nat.le_of_ble_eq_true rfl) dX7_by_1 rfl) (fun v1 σ1 => ?_)
  refine q_if_eq C 27 dX7_by_4 (by decide) ?_ ?_
  · refine q_bipush C dX7_by_27 rfl (by decide) (fun v2 => ?_)
    exact q_iretE C hr hlo dX7_by_29
  · refine q_iload_n C dX7_by_7 rfl (lv_at hl 1 rfl) ?_
    refine q_i2l C dX7_by_8 (fun v3 => ?_)
    refine q_lconst C dX7_by_9 rfl (by decide) (fun v4 => ?_)
    refine q_ldc2 C kk_X7_332 dX7_by_10 (by decide) (fun v5 => ?_)
    refine q_c1i C (fun r h => cr_S (As := [.long v3, .long v4, .long v5]) (rest := []) C (m_X7_in l G F v3 v4 v5 σ1 r h) sb_X7_in kl_X7_103 ⟨Nat.le_of_ble_eq_true rfl, Nat.le_of_ble_eq_true rfl⟩ ⟨Nat.zero_le _, Nat.zero_le _⟩ hl.1 rfl (Nat.le_of_ble_eq_true rfl) dX7_by_13 rfl) (fun v6 => ?_)
    refine q_if_eq C 27 dX7_by_16 (by decide) ?_ ?_
    · refine q_bipush C dX7_by_27 rfl (by decide) (fun v7 => ?_)
      exact q_iretE C hr hlo dX7_by_29
    · refine q_aload_n C dX7_by_19 rfl (lv_at hl 0 rfl) ?_
      refine q_iload_n C dX7_by_20 rfl (lv_at hl 1 rfl) ?_
      refine q_c2i C (fun r h => cr_V (As := [.int a1]) (rest := []) C (m_X7_savedBy l G F k0 a1 σ1 r h) cb_X7_savedBy hk0 (by decide) rfl (cf_7 hk0 _) rfl kl_X7_432 ⟨Nat.le_of_ble_eq_true rfl, Nat.le_of_ble_eq_true rfl⟩ ⟨Nat.zero_le _, Nat.zero_le _⟩ hl.1 rfl (Nat.le_of_ble_eq_true rfl) dX7_by_21 rfl) (fun v8 σ2 => ?_)
      refine q_goto C 29 dX7_by_24 (by decide) ?_
      exact q_iretE C hr hlo dX7_by_29
def f_X7_law_L20 (F : Nat) (k0 : Nat)   : Nat → Int → Int → Int → St → Option (Int × St)
  | 0, _, _, _, _ => none
  | n + 1, x6, x7, x8, σ =>
    z_gt 4 fun v9 =>
    if v9 ≤ x8 then (
      some (x6, σ))
    else (
      z_c2 (f_X7_savedBy F k0 x8 σ) fun v10 σ3 =>
      if v10 < x7 then (
        z_ck (x8 + 1) fun v11 =>
        f_X7_law_L20 F k0 n x8 v10 v11 σ3)
      else (
        z_ck (x8 + 1) fun v12 =>
        f_X7_law_L20 F k0 n x6 x7 v12 σ3))

def f_X7_law (F : Nat) (k0 : Nat) (σ : St) : Option (Int × St) :=
  z_ob 7 k0 <| 
  z_c2 (f_X7_asks F k0 σ) fun v1 σ1 =>
  if ¬ v1 = 0 then (
    z_gt 0 fun v2 =>
    z_gt 0 fun v3 =>
    z_c2 (f_X7_savedBy F k0 v3 σ1) fun v4 σ2 =>
    z_gt 1 fun v5 =>
    f_X7_law_L20 F k0 F v2 v4 v5 σ2)
  else (
    z_gt (-2) fun v13 =>
    some (v13, σ1))
theorem cb_X7_law : CB yX7_law cX7_law 5 (some .int) 0 := ⟨ki_X7_law, kq_X7_law, kn_X7, kc_X7_law, by decide +kernel, by decide +kernel, by decide +kernel⟩
set_option maxRecDepth 20000 in
set_option maxHeartbeats 4000000 in
theorem m_X7_law (l : Launch) (G : GG) (F : Nat) (k0 : Nat) (σ : St) : ∀ r, f_X7_law F k0 σ = some r → MC G l yX7_law cX7_law 5 (some .int) { frames := 7, cells := 0, slots := 0, locals := 160 } [.ref (gad G k0)] σ (vI r.1) r.2 := by
  refine MC_of (own := RX7) (fun r : Int × St => vI r.1) (fun r : Int × St => r.2) (by decide +kernel) rfl (Nat.le_of_ble_eq_true rfl) ?_
  intro p e s m args below meth c C hr hlo ls hl
  have hl : lv_has ls 5 [(0, .ref (gad G k0))] := hl
  unfold f_X7_law
  refine q_ob (fun hk0 => ?_)
  have B20 : ∀ (n : Nat) (x6 : Int32) (x7 : Int32) (x8 : Int32) (σ : St) (ls : Array Slot), lv_has ls 5 [(0, .ref (gad G k0)), (1, .int x6), (2, .int x7), (3, .int x8)] → Sim G (AG G) 0 0 p l e { frames := 7, cells := 0, slots := 0, locals := 160 } s m args below meth c (fun r : Int × St => MQ below (QC G (vI r.1) (r.2)) args s 0 0 (AG G)) σ (f_X7_law_L20 F k0   n x6.toInt x7.toInt x8.toInt σ) (F0 m 20 ls []) := by
    intro n
    induction n with
    | zero =>
      intro x6 x7 x8 σ ls hl
      exact sim_none
    | succ n ih =>
      intro x6 x7 x8 σ ls hl
      rw [f_X7_law_L20]
      refine q_iload_n C dX7_law_20 rfl (lv_at hl 3 rfl) ?_
      refine q_iconst C dX7_law_21 rfl (by decide) (fun v9 => ?_)
      refine q_icmp_ge C 52 dX7_law_22 (by decide) ?_ ?_
      · refine q_iload_n C dX7_law_52 rfl (lv_at hl 1 rfl) ?_
        exact q_iretE C hr hlo dX7_law_53
      · refine q_aload_n C dX7_law_25 rfl (lv_at hl 0 rfl) ?_
        refine q_iload_n C dX7_law_26 rfl (lv_at hl 3 rfl) ?_
        refine q_c2i C (fun r h => cr_V (As := [.int x8]) (rest := []) C (m_X7_savedBy l G F k0 x8 σ r h) cb_X7_savedBy hk0 (by decide) rfl (cf_7 hk0 _) rfl kl_X7_432 ⟨Nat.le_of_ble_eq_true rfl, Nat.le_of_ble_eq_true rfl⟩ ⟨Nat.zero_le _, Nat.zero_le _⟩ hl.1 rfl (Nat.le_of_ble_eq_true rfl) dX7_law_27 rfl) (fun v10 σ3 => ?_)
        refine q_istore C [(4, .int v10), (0, .ref (gad G k0)), (1, .int x6), (2, .int x7), (3, .int x8)] dX7_law_30 hl (by decide) rfl (fun ls hl => ?_)
        refine q_iload C dX7_law_32 (lv_at hl 0 rfl) ?_
        refine q_iload_n C dX7_law_34 rfl (lv_at hl 3 rfl) ?_
        refine q_icmp_lt C 41 dX7_law_35 (by decide) ?_ ?_
        · refine q_iload C dX7_law_41 (lv_at hl 0 rfl) ?_
          refine q_istore_n C [(2, .int v10), (4, .int v10), (0, .ref (gad G k0)), (1, .int x6), (3, .int x8)] dX7_law_43 rfl hl (by decide) rfl (fun ls hl => ?_)
          refine q_iload_n C dX7_law_44 rfl (lv_at hl 4 rfl) ?_
          refine q_istore_n C [(1, .int x8), (2, .int v10), (4, .int v10), (0, .ref (gad G k0)), (3, .int x8)] dX7_law_45 rfl hl (by decide) rfl (fun ls hl => ?_)
          refine q_iinc (k := 4) C (fun v11 => [(3, .int v11), (1, .int x8), (2, .int v10), (4, .int v10), (0, .ref (gad G k0))]) dX7_law_46 hl rfl (by decide) (by decide) (fun _ => rfl) (fun v11 ls hl => ?_)
          refine q_goto C 20 dX7_law_49 (by decide) ?_
          exact ih x8 v10 v11 σ3 ls (lv_sub hl [4, 1, 2, 0] rfl)
        · refine q_goto C 46 dX7_law_38 (by decide) ?_
          refine q_iinc (k := 4) C (fun v12 => [(3, .int v12), (4, .int v10), (0, .ref (gad G k0)), (1, .int x6), (2, .int x7)]) dX7_law_46 hl rfl (by decide) (by decide) (fun _ => rfl) (fun v12 ls hl => ?_)
          refine q_goto C 20 dX7_law_49 (by decide) ?_
          exact ih x6 x7 v12 σ3 ls (lv_sub hl [2, 3, 4, 0] rfl)
  refine q_aload_n C dX7_law_0 rfl (lv_at hl 0 rfl) ?_
  refine q_c2i C (fun r h => cr_V (As := []) (rest := []) C (m_X7_asks l G F k0 σ r h) cb_X7_asks hk0 (by decide) rfl (cf_7 hk0 _) rfl kl_X7_316 ⟨Nat.le_of_ble_eq_true rfl, Nat.le_of_ble_eq_true rfl⟩ ⟨Nat.zero_le _, Nat.zero_le _⟩ hl.1 rfl (Nat.le_of_ble_eq_true rfl) dX7_law_1 rfl) (fun v1 σ1 => ?_)
  refine q_if_ne C 10 dX7_law_4 (by decide) ?_ ?_
  · refine q_iconst C dX7_law_10 rfl (by decide) (fun v2 => ?_)
    refine q_istore_n C [(1, .int v2), (0, .ref (gad G k0))] dX7_law_11 rfl hl (by decide) rfl (fun ls hl => ?_)
    refine q_aload_n C dX7_law_12 rfl (lv_at hl 1 rfl) ?_
    refine q_iconst C dX7_law_13 rfl (by decide) (fun v3 => ?_)
    refine q_c2i C (fun r h => cr_V (As := [.int v3]) (rest := []) C (m_X7_savedBy l G F k0 v3 σ1 r h) cb_X7_savedBy hk0 (by decide) rfl (cf_7 hk0 _) rfl kl_X7_432 ⟨Nat.le_of_ble_eq_true rfl, Nat.le_of_ble_eq_true rfl⟩ ⟨Nat.zero_le _, Nat.zero_le _⟩ hl.1 rfl (Nat.le_of_ble_eq_true rfl) dX7_law_14 rfl) (fun v4 σ2 => ?_)
    refine q_istore_n C [(2, .int v4), (1, .int v2), (0, .ref (gad G k0))] dX7_law_17 rfl hl (by decide) rfl (fun ls hl => ?_)
    refine q_iconst C dX7_law_18 rfl (by decide) (fun v5 => ?_)
    refine q_istore_n C [(3, .int v5), (2, .int v4), (1, .int v2), (0, .ref (gad G k0))] dX7_law_19 rfl hl (by decide) rfl (fun ls hl => ?_)
    exact B20 F v2 v4 v5 σ2 ls (lv_sub hl [3, 2, 1, 0] rfl)
  · refine q_bipush C dX7_law_7 rfl (by decide) (fun v13 => ?_)
    exact q_iretE C hr hlo dX7_law_9
def f_X7_isFirst (F : Nat) (k0 : Nat) (a1 : Int) (σ : St) : Option (Int) :=
  z_ob 7 k0 <| 
  z_c1 (f_X7_isTold F k0 a1 σ) fun v1 =>
  if v1 = 0 then (
    z_gt 0 fun v2 =>
    z_bo v2 <| some v2)
  else (
    z_gt 8 fun v3 =>
    z_gt (z_cmp a1 v3) fun v4 =>
    if 0 ≤ v4 then (
      z_gt 0 fun v5 =>
      z_bo v5 <| some v5)
    else (
      z_gt (z_l2i a1) fun v6 =>
      z_c1 (f_X7_isCommand F k0 v6 σ) fun v7 =>
      if v7 = 0 then (
        z_gt 0 fun v8 =>
        z_bo v8 <| some v8)
      else (
        z_gt 1 fun v9 =>
        z_bo v9 <| some v9)))
theorem cb_X7_isFirst : CB yX7_isFirst cX7_isFirst 3 (some .boolean) 1 := ⟨ki_X7_isFirst, kq_X7_isFirst, kn_X7, kc_X7_isFirst, by decide +kernel, by decide +kernel, by decide +kernel⟩
set_option maxRecDepth 20000 in
set_option maxHeartbeats 4000000 in
theorem m_X7_isFirst (l : Launch) (G : GG) (F : Nat) (k0 : Nat) (a1 : Int64) (σ : St) : ∀ r, f_X7_isFirst F k0 a1.toInt σ = some r → MC G l yX7_isFirst cX7_isFirst 3 (some .boolean) { frames := 2, cells := 0, slots := 0, locals := 47 } [.ref (gad G k0), .long a1] σ (vI r) σ := by
  refine MC_of (own := RX7) (vI) (fun _ => σ) (by decide +kernel) rfl (Nat.le_of_ble_eq_true rfl) ?_
  intro p e s m args below meth c C hr hlo ls hl
  have hl : lv_has ls 3 [(0, .ref (gad G k0)), (1, .long a1)] := hl
  unfold f_X7_isFirst
  refine q_ob (fun hk0 => ?_)
  refine q_aload_n C dX7_isFirst_0 rfl (lv_at hl 0 rfl) ?_
  refine q_lload_n C dX7_isFirst_1 rfl (lv_at hl 1 rfl) ?_
  refine q_c1i C (fun r h => cr_V (As := [.long a1]) (rest := []) C (m_X7_isTold l G F k0 a1 σ r h) cb_X7_isTold hk0 (by decide) rfl (cf_7 hk0 _) rfl kl_X7_435 ⟨Nat.le_of_ble_eq_true rfl, Nat.le_of_ble_eq_true rfl⟩ ⟨Nat.zero_le _, Nat.zero_le _⟩ hl.1 rfl (Nat.le_of_ble_eq_true rfl) dX7_isFirst_2 rfl) (fun v1 => ?_)
  refine q_if_eq C 29 dX7_isFirst_5 (by decide) ?_ ?_
  · refine q_iconst C dX7_isFirst_29 rfl (by decide) (fun v2 => ?_)
    exact q_zret C hr hlo dX7_isFirst_30
  · refine q_lload_n C dX7_isFirst_8 rfl (lv_at hl 1 rfl) ?_
    refine q_ldc2 C kk_X7_438 dX7_isFirst_9 (by decide) (fun v3 => ?_)
    refine q_lcmp C dX7_isFirst_12 (fun v4 => ?_)
    refine q_if_ge C 29 dX7_isFirst_13 (by decide) ?_ ?_
    · refine q_iconst C dX7_isFirst_29 rfl (by decide) (fun v5 => ?_)
      exact q_zret C hr hlo dX7_isFirst_30
    · refine q_aload_n C dX7_isFirst_16 rfl (lv_at hl 0 rfl) ?_
      refine q_lload_n C dX7_isFirst_17 rfl (lv_at hl 1 rfl) ?_
      refine q_l2i C dX7_isFirst_18 (fun v6 => ?_)
      refine q_c1i C (fun r h => cr_V (As := [.int v6]) (rest := []) C (m_X7_isCommand l G F k0 v6 σ r h) cb_X7_isCommand hk0 (by decide) rfl (cf_7 hk0 _) rfl kl_X7_249 ⟨Nat.le_of_ble_eq_true rfl, Nat.le_of_ble_eq_true rfl⟩ ⟨Nat.zero_le _, Nat.zero_le _⟩ hl.1 rfl (Nat.le_of_ble_eq_true rfl) dX7_isFirst_19 rfl) (fun v7 => ?_)
      refine q_if_eq C 29 dX7_isFirst_22 (by decide) ?_ ?_
      · refine q_iconst C dX7_isFirst_29 rfl (by decide) (fun v8 => ?_)
        exact q_zret C hr hlo dX7_isFirst_30
      · refine q_iconst C dX7_isFirst_25 rfl (by decide) (fun v9 => ?_)
        refine q_goto C 30 dX7_isFirst_26 (by decide) ?_
        exact q_zret C hr hlo dX7_isFirst_30
def f_X7_allFirst_L4 (F : Nat) (k0 : Nat)  (σ : St) : Nat → Int → Int → Option (Int)
  | 0, _, _ => none
  | n + 1, x3, x4 =>
    z_gt 8 fun v5 =>
    if v5 ≤ x4 then (
      some x3)
    else (
      z_gt x4 fun v6 =>
      z_c1 (f_X7_isFirst F k0 v6 σ) fun v7 =>
      if v7 = 0 then (
        z_gt 0 fun v8 =>
        z_gt (z_or x3 v8) fun v9 =>
        z_ck (x4 + 1) fun v10 =>
        f_X7_allFirst_L4 F k0 σ n v9 v10)
      else (
        z_gt 1 fun v11 =>
        z_gt (z_shl v11 x4) fun v12 =>
        z_gt (z_or x3 v12) fun v13 =>
        z_ck (x4 + 1) fun v14 =>
        f_X7_allFirst_L4 F k0 σ n v13 v14))

def f_X7_allFirst (F : Nat) (k0 : Nat) (σ : St) : Option (Int) :=
  z_ob 7 k0 <| 
  z_gt 0 fun v1 =>
  z_gt 0 fun v2 =>
  f_X7_allFirst_L4 F k0 σ F v1 v2
theorem cb_X7_allFirst : CB yX7_allFirst cX7_allFirst 3 (some .int) 0 := ⟨ki_X7_allFirst, kq_X7_allFirst, kn_X7, kc_X7_allFirst, by decide +kernel, by decide +kernel, by decide +kernel⟩
set_option maxRecDepth 20000 in
set_option maxHeartbeats 4000000 in
theorem m_X7_allFirst (l : Launch) (G : GG) (F : Nat) (k0 : Nat) (σ : St) : ∀ r, f_X7_allFirst F k0 σ = some r → MC G l yX7_allFirst cX7_allFirst 3 (some .int) { frames := 3, cells := 0, slots := 0, locals := 69 } [.ref (gad G k0)] σ (vI r) σ := by
  refine MC_of (own := RX7) (vI) (fun _ => σ) (by decide +kernel) rfl (Nat.le_of_ble_eq_true rfl) ?_
  intro p e s m args below meth c C hr hlo ls hl
  have hl : lv_has ls 3 [(0, .ref (gad G k0))] := hl
  unfold f_X7_allFirst
  refine q_ob (fun hk0 => ?_)
  have B4 : ∀ (n : Nat) (x3 : Int32) (x4 : Int32) (ls : Array Slot), lv_has ls 3 [(0, .ref (gad G k0)), (1, .int x3), (2, .int x4)] → Sim G (AG G) 0 0 p l e { frames := 3, cells := 0, slots := 0, locals := 69 } s m args below meth c (fun r : Int => MQ below (QC G (vI r) (σ)) args s 0 0 (AG G)) σ (f_X7_allFirst_L4 F k0  σ n x3.toInt x4.toInt) (F0 m 4 ls []) := by
    intro n
    induction n with
    | zero =>
      intro x3 x4 ls hl
      exact sim_none
    | succ n ih =>
      intro x3 x4 ls hl
      rw [f_X7_allFirst_L4]
      refine q_iload_n C dX7_allFirst_4 rfl (lv_at hl 2 rfl) ?_
      refine q_bipush C dX7_allFirst_5 rfl (by decide) (fun v5 => ?_)
      refine q_icmp_ge C 35 dX7_allFirst_7 (by decide) ?_ ?_
      · refine q_iload_n C dX7_allFirst_35 rfl (lv_at hl 1 rfl) ?_
        exact q_iret C hr hlo dX7_allFirst_36
      · refine q_iload_n C dX7_allFirst_10 rfl (lv_at hl 1 rfl) ?_
        refine q_aload_n C dX7_allFirst_11 rfl (lv_at hl 0 rfl) ?_
        refine q_iload_n C dX7_allFirst_12 rfl (lv_at hl 2 rfl) ?_
        refine q_i2l C dX7_allFirst_13 (fun v6 => ?_)
        refine q_c1i C (fun r h => cr_V (As := [.long v6]) (rest := [.int x3]) C (m_X7_isFirst l G F k0 v6 σ r h) cb_X7_isFirst hk0 (by decide) rfl (cf_7 hk0 _) rfl kl_X7_440 ⟨Nat.le_of_ble_eq_true rfl, Nat.le_of_ble_eq_true rfl⟩ ⟨Nat.zero_le _, Nat.zero_le _⟩ hl.1 rfl (Nat.le_of_ble_eq_true rfl) dX7_allFirst_14 rfl) (fun v7 => ?_)
        refine q_if_eq C 26 dX7_allFirst_17 (by decide) ?_ ?_
        · refine q_iconst C dX7_allFirst_26 rfl (by decide) (fun v8 => ?_)
          refine q_ior C dX7_allFirst_27 (fun v9 => ?_)
          refine q_istore_n C [(1, .int v9), (0, .ref (gad G k0)), (2, .int x4)] dX7_allFirst_28 rfl hl (by decide) rfl (fun ls hl => ?_)
          refine q_iinc (k := 2) C (fun v10 => [(2, .int v10), (1, .int v9), (0, .ref (gad G k0))]) dX7_allFirst_29 hl rfl (by decide) (by decide) (fun _ => rfl) (fun v10 ls hl => ?_)
          refine q_goto C 4 dX7_allFirst_32 (by decide) ?_
          exact ih v9 v10 ls (lv_sub hl [2, 1, 0] rfl)
        · refine q_iconst C dX7_allFirst_20 rfl (by decide) (fun v11 => ?_)
          refine q_iload_n C dX7_allFirst_21 rfl (lv_at hl 2 rfl) ?_
          refine q_ishl C dX7_allFirst_22 (fun v12 => ?_)
          refine q_goto C 27 dX7_allFirst_23 (by decide) ?_
          refine q_ior C dX7_allFirst_27 (fun v13 => ?_)
          refine q_istore_n C [(1, .int v13), (0, .ref (gad G k0)), (2, .int x4)] dX7_allFirst_28 rfl hl (by decide) rfl (fun ls hl => ?_)
          refine q_iinc (k := 2) C (fun v14 => [(2, .int v14), (1, .int v13), (0, .ref (gad G k0))]) dX7_allFirst_29 hl rfl (by decide) (by decide) (fun _ => rfl) (fun v14 ls hl => ?_)
          refine q_goto C 4 dX7_allFirst_32 (by decide) ?_
          exact ih v13 v14 ls (lv_sub hl [2, 1, 0] rfl)
  refine q_iconst C dX7_allFirst_0 rfl (by decide) (fun v1 => ?_)
  refine q_istore_n C [(1, .int v1), (0, .ref (gad G k0))] dX7_allFirst_1 rfl hl (by decide) rfl (fun ls hl => ?_)
  refine q_iconst C dX7_allFirst_2 rfl (by decide) (fun v2 => ?_)
  refine q_istore_n C [(2, .int v2), (1, .int v1), (0, .ref (gad G k0))] dX7_allFirst_3 rfl hl (by decide) rfl (fun ls hl => ?_)
  exact B4 F v1 v2 ls (lv_sub hl [2, 1, 0] rfl)
def f_X7_worthNow_L6 (F : Nat) (k0 : Nat) (a1 : Int)   : Nat → Int → St → Option (Int × St)
  | 0, _, _ => none
  | n + 1, x2, σ =>
    z_gt 8 fun v3 =>
    if v3 ≤ x2 then (
      z_c1 (f_X7_layValues F k0 σ) fun σ2 =>
      z_c1 (f_X7_cells F k0 σ2) fun v4 =>
      z_c1 (f_X7_zeros F k0 σ2) fun v5 =>
      z_ck (v4 - v5) fun v6 =>
      some (v6, σ2))
    else (
      z_gt x2 fun v7 =>
      z_c1 (f_X7_isFirst F k0 v7 σ) fun v8 =>
      if v8 = 0 then (
        z_gt 0 fun v9 =>
        z_ix x2 60 <| z_bo v9 <| z_sg (z_up σ (k0 + 7) x2 v9) fun σ3 =>
        z_ck (x2 + 1) fun v10 =>
        f_X7_worthNow_L6 F k0 a1 n v10 σ3)
      else (
        z_c1 (f_X7_bit F a1 x2 σ) fun v11 =>
        if ¬ v11 = 0 then (
          z_gt 0 fun v12 =>
          z_ix x2 60 <| z_bo v12 <| z_sg (z_up σ (k0 + 7) x2 v12) fun σ4 =>
          z_ck (x2 + 1) fun v13 =>
          f_X7_worthNow_L6 F k0 a1 n v13 σ4)
        else (
          z_gt 1 fun v14 =>
          z_ix x2 60 <| z_bo v14 <| z_sg (z_up σ (k0 + 7) x2 v14) fun σ5 =>
          z_ck (x2 + 1) fun v15 =>
          f_X7_worthNow_L6 F k0 a1 n v15 σ5)))

def f_X7_worthNow (F : Nat) (k0 : Nat) (a1 : Int) (σ : St) : Option (Int × St) :=
  z_ob 7 k0 <| 
  z_c1 (f_X7_nothingGone F k0 σ) fun σ1 =>
  z_gt 0 fun v1 =>
  f_X7_worthNow_L6 F k0 a1 F v1 σ1
theorem cb_X7_worthNow : CB yX7_worthNow cX7_worthNow 3 (some .int) 1 := ⟨ki_X7_worthNow, kq_X7_worthNow, kn_X7, kc_X7_worthNow, by decide +kernel, by decide +kernel, by decide +kernel⟩
set_option maxRecDepth 20000 in
set_option maxHeartbeats 4000000 in
theorem m_X7_worthNow (l : Launch) (G : GG) (F : Nat) (k0 : Nat) (a1 : Int32) (σ : St) : ∀ r, f_X7_worthNow F k0 a1.toInt σ = some r → MC G l yX7_worthNow cX7_worthNow 3 (some .int) { frames := 3, cells := 0, slots := 0, locals := 73 } [.ref (gad G k0), .int a1] σ (vI r.1) r.2 := by
  refine MC_of (own := RX7) (fun r : Int × St => vI r.1) (fun r : Int × St => r.2) (by decide +kernel) rfl (Nat.le_of_ble_eq_true rfl) ?_
  intro p e s m args below meth c C hr hlo ls hl
  have hl : lv_has ls 3 [(0, .ref (gad G k0)), (1, .int a1)] := hl
  unfold f_X7_worthNow
  refine q_ob (fun hk0 => ?_)
  have B6 : ∀ (n : Nat) (x2 : Int32) (σ : St) (ls : Array Slot), lv_has ls 3 [(0, .ref (gad G k0)), (1, .int a1), (2, .int x2)] → Sim G (AG G) 0 0 p l e { frames := 3, cells := 0, slots := 0, locals := 73 } s m args below meth c (fun r : Int × St => MQ below (QC G (vI r.1) (r.2)) args s 0 0 (AG G)) σ (f_X7_worthNow_L6 F k0 a1.toInt   n x2.toInt σ) (F0 m 6 ls []) := by
    intro n
    induction n with
    | zero =>
      intro x2 σ ls hl
      exact sim_none
    | succ n ih =>
      intro x2 σ ls hl
      rw [f_X7_worthNow_L6]
      refine q_iload_n C dX7_worthNow_6 rfl (lv_at hl 2 rfl) ?_
      refine q_bipush C dX7_worthNow_7 rfl (by decide) (fun v3 => ?_)
      refine q_icmp_ge C 46 dX7_worthNow_9 (by decide) ?_ ?_
      · refine q_aload_n C dX7_worthNow_46 rfl (lv_at hl 0 rfl) ?_
        refine q_cv C (fun r h => cr_V (As := []) (rest := []) C (m_X7_layValues l G F k0 σ r h) cb_X7_layValues hk0 (by decide) rfl (cf_7 hk0 _) rfl kl_X7_304 ⟨Nat.le_of_ble_eq_true rfl, Nat.le_of_ble_eq_true rfl⟩ ⟨Nat.zero_le _, Nat.zero_le _⟩ hl.1 rfl (Nat.le_of_ble_eq_true rfl) dX7_worthNow_47 rfl) (fun σ2 => ?_)
        refine q_aload_n C dX7_worthNow_50 rfl (lv_at hl 0 rfl) ?_
        refine q_c1i C (fun r h => cr_V (As := []) (rest := []) C (m_X7_cells l G F k0 σ2 r h) cb_X7_cells hk0 (by decide) rfl (cf_7 hk0 _) rfl kl_X7_107 ⟨Nat.le_of_ble_eq_true rfl, Nat.le_of_ble_eq_true rfl⟩ ⟨Nat.zero_le _, Nat.zero_le _⟩ hl.1 rfl (Nat.le_of_ble_eq_true rfl) dX7_worthNow_51 rfl) (fun v4 => ?_)
        refine q_aload_n C dX7_worthNow_54 rfl (lv_at hl 0 rfl) ?_
        refine q_c1i C (fun r h => cr_V (As := []) (rest := [.int v4]) C (m_X7_zeros l G F k0 σ2 r h) cb_X7_zeros hk0 (by decide) rfl (cf_7 hk0 _) rfl kl_X7_402 ⟨Nat.le_of_ble_eq_true rfl, Nat.le_of_ble_eq_true rfl⟩ ⟨Nat.zero_le _, Nat.zero_le _⟩ hl.1 rfl (Nat.le_of_ble_eq_true rfl) dX7_worthNow_55 rfl) (fun v5 => ?_)
        refine q_isub C dX7_worthNow_58 (fun v6 => ?_)
        exact q_iretE C hr hlo dX7_worthNow_59
      · refine q_aload_n C dX7_worthNow_12 rfl (lv_at hl 0 rfl) ?_
        refine g_7_15 C hk0 kf_X7_34 dX7_worthNow_13 ?_
        refine q_iload_n C dX7_worthNow_16 rfl (lv_at hl 2 rfl) ?_
        refine q_aload_n C dX7_worthNow_17 rfl (lv_at hl 0 rfl) ?_
        refine q_iload_n C dX7_worthNow_18 rfl (lv_at hl 2 rfl) ?_
        refine q_i2l C dX7_worthNow_19 (fun v7 => ?_)
        refine q_c1i C (fun r h => cr_V (As := [.long v7]) (rest := [.int x2, .ref (gad G (k0 + 7))]) C (m_X7_isFirst l G F k0 v7 σ r h) cb_X7_isFirst hk0 (by decide) rfl (cf_7 hk0 _) rfl kl_X7_440 ⟨Nat.le_of_ble_eq_true rfl, Nat.le_of_ble_eq_true rfl⟩ ⟨Nat.zero_le _, Nat.zero_le _⟩ hl.1 rfl (Nat.le_of_ble_eq_true rfl) dX7_worthNow_20 rfl) (fun v8 => ?_)
        refine q_if_eq C 38 dX7_worthNow_23 (by decide) ?_ ?_
        · refine q_iconst C dX7_worthNow_38 rfl (by decide) (fun v9 => ?_)
          refine a_zst C (yk_7_15 hk0) (yl_7_15 hk0) dX7_worthNow_39 (q_sg (fun σ3 => ?_))
          refine q_iinc (k := 2) C (fun v10 => [(2, .int v10), (0, .ref (gad G k0)), (1, .int a1)]) dX7_worthNow_40 hl rfl (by decide) (by decide) (fun _ => rfl) (fun v10 ls hl => ?_)
          refine q_goto C 6 dX7_worthNow_43 (by decide) ?_
          exact ih v10 σ3 ls (lv_sub hl [1, 2, 0] rfl)
        · refine q_iload_n C dX7_worthNow_26 rfl (lv_at hl 1 rfl) ?_
          refine q_iload_n C dX7_worthNow_27 rfl (lv_at hl 2 rfl) ?_
          refine q_c1i C (fun r h => cr_S (As := [.int a1, .int x2]) (rest := [.int x2, .ref (gad G (k0 + 7))]) C (m_X7_bit l G F a1 x2 σ r h) sb_X7_bit kl_X7_443 ⟨Nat.le_of_ble_eq_true rfl, Nat.le_of_ble_eq_true rfl⟩ ⟨Nat.zero_le _, Nat.zero_le _⟩ hl.1 rfl (Nat.le_of_ble_eq_true rfl) dX7_worthNow_28 rfl) (fun v11 => ?_)
          refine q_if_ne C 38 dX7_worthNow_31 (by decide) ?_ ?_
          · refine q_iconst C dX7_worthNow_38 rfl (by decide) (fun v12 => ?_)
            refine a_zst C (yk_7_15 hk0) (yl_7_15 hk0) dX7_worthNow_39 (q_sg (fun σ4 => ?_))
            refine q_iinc (k := 2) C (fun v13 => [(2, .int v13), (0, .ref (gad G k0)), (1, .int a1)]) dX7_worthNow_40 hl rfl (by decide) (by decide) (fun _ => rfl) (fun v13 ls hl => ?_)
            refine q_goto C 6 dX7_worthNow_43 (by decide) ?_
            exact ih v13 σ4 ls (lv_sub hl [1, 2, 0] rfl)
          · refine q_iconst C dX7_worthNow_34 rfl (by decide) (fun v14 => ?_)
            refine q_goto C 39 dX7_worthNow_35 (by decide) ?_
            refine a_zst C (yk_7_15 hk0) (yl_7_15 hk0) dX7_worthNow_39 (q_sg (fun σ5 => ?_))
            refine q_iinc (k := 2) C (fun v15 => [(2, .int v15), (0, .ref (gad G k0)), (1, .int a1)]) dX7_worthNow_40 hl rfl (by decide) (by decide) (fun _ => rfl) (fun v15 ls hl => ?_)
            refine q_goto C 6 dX7_worthNow_43 (by decide) ?_
            exact ih v15 σ5 ls (lv_sub hl [1, 2, 0] rfl)
  refine q_aload_n C dX7_worthNow_0 rfl (lv_at hl 0 rfl) ?_
  refine q_cv C (fun r h => cr_V (As := []) (rest := []) C (m_X7_nothingGone l G F k0 σ r h) cb_X7_nothingGone hk0 (by decide) rfl (cf_7 hk0 _) rfl kl_X7_310 ⟨Nat.le_of_ble_eq_true rfl, Nat.le_of_ble_eq_true rfl⟩ ⟨Nat.zero_le _, Nat.zero_le _⟩ hl.1 rfl (Nat.le_of_ble_eq_true rfl) dX7_worthNow_1 rfl) (fun σ1 => ?_)
  refine q_iconst C dX7_worthNow_4 rfl (by decide) (fun v1 => ?_)
  refine q_istore_n C [(2, .int v1), (0, .ref (gad G k0)), (1, .int a1)] dX7_worthNow_5 rfl hl (by decide) rfl (fun ls hl => ?_)
  exact B6 F v1 σ1 ls (lv_sub hl [1, 2, 0] rfl)
def f_X7_worth (F : Nat) (k0 : Nat) (a1 : Int) (σ : St) : Option (Int × St) :=
  z_ob 7 k0 <| 
  z_c1 (f_X7_isStore F k0 σ) fun v1 =>
  if v1 = 0 then (
    z_gt (-2) fun v2 =>
    some (v2, σ))
  else (
    z_gt a1 fun v3 =>
    z_gt 0 fun v4 =>
    z_gt 255 fun v5 =>
    z_c1 (f_X7_in F v3 v4 v5 σ) fun v6 =>
    if v6 = 0 then (
      z_gt (-2) fun v7 =>
      some (v7, σ))
    else (
      z_c2 (f_X7_worthNow F k0 a1 σ) fun v8 σ1 =>
      some (v8, σ1)))
theorem cb_X7_worth : CB yX7_worth cX7_worth 2 (some .int) 1 := ⟨ki_X7_worth, kq_X7_worth, kn_X7, kc_X7_worth, by decide +kernel, by decide +kernel, by decide +kernel⟩
set_option maxRecDepth 20000 in
set_option maxHeartbeats 4000000 in
theorem m_X7_worth (l : Launch) (G : GG) (F : Nat) (k0 : Nat) (a1 : Int32) (σ : St) : ∀ r, f_X7_worth F k0 a1.toInt σ = some r → MC G l yX7_worth cX7_worth 2 (some .int) { frames := 4, cells := 0, slots := 0, locals := 95 } [.ref (gad G k0), .int a1] σ (vI r.1) r.2 := by
  refine MC_of (own := RX7) (fun r : Int × St => vI r.1) (fun r : Int × St => r.2) (by decide +kernel) rfl (Nat.le_of_ble_eq_true rfl) ?_
  intro p e s m args below meth c C hr hlo ls hl
  have hl : lv_has ls 2 [(0, .ref (gad G k0)), (1, .int a1)] := hl
  unfold f_X7_worth
  refine q_ob (fun hk0 => ?_)
  refine q_aload_n C dX7_worth_0 rfl (lv_at hl 0 rfl) ?_
  refine q_c1i C (fun r h => cr_V (As := []) (rest := []) C (m_X7_isStore l G F k0 σ r h) cb_X7_isStore hk0 (by decide) rfl (cf_7 hk0 _) rfl kl_X7_114 ⟨Nat.le_of_ble_eq_true rfl, Nat.le_of_ble_eq_true rfl⟩ ⟨Nat.zero_le _, Nat.zero_le _⟩ hl.1 rfl (Nat.le_of_ble_eq_true rfl) dX7_worth_1 rfl) (fun v1 => ?_)
  refine q_if_eq C 27 dX7_worth_4 (by decide) ?_ ?_
  · refine q_bipush C dX7_worth_27 rfl (by decide) (fun v2 => ?_)
    exact q_iretE C hr hlo dX7_worth_29
  · refine q_iload_n C dX7_worth_7 rfl (lv_at hl 1 rfl) ?_
    refine q_i2l C dX7_worth_8 (fun v3 => ?_)
    refine q_lconst C dX7_worth_9 rfl (by decide) (fun v4 => ?_)
    refine q_ldc2 C kk_X7_415 dX7_worth_10 (by decide) (fun v5 => ?_)
    refine q_c1i C (fun r h => cr_S (As := [.long v3, .long v4, .long v5]) (rest := []) C (m_X7_in l G F v3 v4 v5 σ r h) sb_X7_in kl_X7_103 ⟨Nat.le_of_ble_eq_true rfl, Nat.le_of_ble_eq_true rfl⟩ ⟨Nat.zero_le _, Nat.zero_le _⟩ hl.1 rfl (Nat.le_of_ble_eq_true rfl) dX7_worth_13 rfl) (fun v6 => ?_)
    refine q_if_eq C 27 dX7_worth_16 (by decide) ?_ ?_
    · refine q_bipush C dX7_worth_27 rfl (by decide) (fun v7 => ?_)
      exact q_iretE C hr hlo dX7_worth_29
    · refine q_aload_n C dX7_worth_19 rfl (lv_at hl 0 rfl) ?_
      refine q_iload_n C dX7_worth_20 rfl (lv_at hl 1 rfl) ?_
      refine q_c2i C (fun r h => cr_V (As := [.int a1]) (rest := []) C (m_X7_worthNow l G F k0 a1 σ r h) cb_X7_worthNow hk0 (by decide) rfl (cf_7 hk0 _) rfl kl_X7_446 ⟨Nat.le_of_ble_eq_true rfl, Nat.le_of_ble_eq_true rfl⟩ ⟨Nat.zero_le _, Nat.zero_le _⟩ hl.1 rfl (Nat.le_of_ble_eq_true rfl) dX7_worth_21 rfl) (fun v8 σ1 => ?_)
      refine q_goto C 29 dX7_worth_24 (by decide) ?_
      exact q_iretE C hr hlo dX7_worth_29
def f_X7_bits_L4 (F : Nat) (a1 : Int)  (σ : St) : Nat → Int → Int → Option (Int)
  | 0, _, _ => none
  | n + 1, x3, x4 =>
    z_gt 8 fun v5 =>
    if v5 ≤ x4 then (
      some x3)
    else (
      z_c1 (f_X7_bit F a1 x4 σ) fun v6 =>
      z_ck (x3 + v6) fun v7 =>
      z_ck (x4 + 1) fun v8 =>
      f_X7_bits_L4 F a1 σ n v7 v8)

def f_X7_bits (F : Nat) (a1 : Int) (σ : St) : Option (Int) :=
  
  z_gt 0 fun v1 =>
  z_gt 0 fun v2 =>
  f_X7_bits_L4 F a1 σ F v1 v2
theorem sb_X7_bits : SB yX7_bits cX7_bits 3 (some .int) 1 := ⟨ks_X7_bits, kn_X7, kc_X7_bits, by decide +kernel, by decide +kernel, by decide +kernel⟩
set_option maxRecDepth 20000 in
set_option maxHeartbeats 4000000 in
theorem m_X7_bits (l : Launch) (G : GG) (F : Nat) (a1 : Int32) (σ : St) : ∀ r, f_X7_bits F a1.toInt σ = some r → MC G l yX7_bits cX7_bits 3 (some .int) { frames := 1, cells := 0, slots := 0, locals := 21 } [.int a1] σ (vI r) σ := by
  refine MC_of (own := RX7) (vI) (fun _ => σ) (by decide +kernel) rfl (Nat.le_of_ble_eq_true rfl) ?_
  intro p e s m args below meth c C hr hlo ls hl
  have hl : lv_has ls 3 [(0, .int a1)] := hl
  unfold f_X7_bits
  have B4 : ∀ (n : Nat) (x3 : Int32) (x4 : Int32) (ls : Array Slot), lv_has ls 3 [(0, .int a1), (1, .int x3), (2, .int x4)] → Sim G (AG G) 0 0 p l e { frames := 1, cells := 0, slots := 0, locals := 21 } s m args below meth c (fun r : Int => MQ below (QC G (vI r) (σ)) args s 0 0 (AG G)) σ (f_X7_bits_L4 F a1.toInt  σ n x3.toInt x4.toInt) (F0 m 4 ls []) := by
    intro n
    induction n with
    | zero =>
      intro x3 x4 ls hl
      exact sim_none
    | succ n ih =>
      intro x3 x4 ls hl
      rw [f_X7_bits_L4]
      refine q_iload_n C dX7_bits_4 rfl (lv_at hl 2 rfl) ?_
      refine q_bipush C dX7_bits_5 rfl (by decide) (fun v5 => ?_)
      refine q_icmp_ge C 24 dX7_bits_7 (by decide) ?_ ?_
      · refine q_iload_n C dX7_bits_24 rfl (lv_at hl 1 rfl) ?_
        exact q_iret C hr hlo dX7_bits_25
      · refine q_iload_n C dX7_bits_10 rfl (lv_at hl 1 rfl) ?_
        refine q_iload_n C dX7_bits_11 rfl (lv_at hl 0 rfl) ?_
        refine q_iload_n C dX7_bits_12 rfl (lv_at hl 2 rfl) ?_
        refine q_c1i C (fun r h => cr_S (As := [.int a1, .int x4]) (rest := [.int x3]) C (m_X7_bit l G F a1 x4 σ r h) sb_X7_bit kl_X7_443 ⟨Nat.le_of_ble_eq_true rfl, Nat.le_of_ble_eq_true rfl⟩ ⟨Nat.zero_le _, Nat.zero_le _⟩ hl.1 rfl (Nat.le_of_ble_eq_true rfl) dX7_bits_13 rfl) (fun v6 => ?_)
        refine q_iadd C dX7_bits_16 (fun v7 => ?_)
        refine q_istore_n C [(1, .int v7), (0, .int a1), (2, .int x4)] dX7_bits_17 rfl hl (by decide) rfl (fun ls hl => ?_)
        refine q_iinc (k := 2) C (fun v8 => [(2, .int v8), (1, .int v7), (0, .int a1)]) dX7_bits_18 hl rfl (by decide) (by decide) (fun _ => rfl) (fun v8 ls hl => ?_)
        refine q_goto C 4 dX7_bits_21 (by decide) ?_
        exact ih v7 v8 ls (lv_sub hl [2, 1, 0] rfl)
  refine q_iconst C dX7_bits_0 rfl (by decide) (fun v1 => ?_)
  refine q_istore_n C [(1, .int v1), (0, .int a1)] dX7_bits_1 rfl hl (by decide) rfl (fun ls hl => ?_)
  refine q_iconst C dX7_bits_2 rfl (by decide) (fun v2 => ?_)
  refine q_istore_n C [(2, .int v2), (1, .int v1), (0, .int a1)] dX7_bits_3 rfl hl (by decide) rfl (fun ls hl => ?_)
  exact B4 F v1 v2 ls (lv_sub hl [2, 1, 0] rfl)
def f_X7_factorial_L4 (F : Nat) (a1 : Int)  (σ : St) : Nat → Int → Int → Option (Int)
  | 0, _, _ => none
  | n + 1, x3, x4 =>
    if a1 < x4 then (
      some x3)
    else (
      z_gt x4 fun v5 =>
      z_lk (x3 * v5) fun v6 =>
      z_ck (x4 + 1) fun v7 =>
      f_X7_factorial_L4 F a1 σ n v6 v7)

def f_X7_factorial (F : Nat) (a1 : Int) (σ : St) : Option (Int) :=
  
  z_gt 1 fun v1 =>
  z_gt 2 fun v2 =>
  f_X7_factorial_L4 F a1 σ F v1 v2
theorem sb_X7_factorial : SB yX7_factorial cX7_factorial 4 (some .long) 1 := ⟨ks_X7_factorial, kn_X7, kc_X7_factorial, by decide +kernel, by decide +kernel, by decide +kernel⟩
set_option maxRecDepth 20000 in
set_option maxHeartbeats 4000000 in
theorem m_X7_factorial (l : Launch) (G : GG) (F : Nat) (a1 : Int32) (σ : St) : ∀ r, f_X7_factorial F a1.toInt σ = some r → MC G l yX7_factorial cX7_factorial 4 (some .long) { frames := 0, cells := 0, slots := 0, locals := 0 } [.int a1] σ (vL r) σ := by
  refine MC_of (own := RX7) (vL) (fun _ => σ) (by decide +kernel) rfl (Nat.le_of_ble_eq_true rfl) ?_
  intro p e s m args below meth c C hr hlo ls hl
  have hl : lv_has ls 4 [(0, .int a1)] := hl
  unfold f_X7_factorial
  have B4 : ∀ (n : Nat) (x3 : Int64) (x4 : Int32) (ls : Array Slot), lv_has ls 4 [(0, .int a1), (1, .long x3), (3, .int x4)] → Sim G (AG G) 0 0 p l e { frames := 0, cells := 0, slots := 0, locals := 0 } s m args below meth c (fun r : Int => MQ below (QC G (vL r) (σ)) args s 0 0 (AG G)) σ (f_X7_factorial_L4 F a1.toInt  σ n x3.toInt x4.toInt) (F0 m 4 ls []) := by
    intro n
    induction n with
    | zero =>
      intro x3 x4 ls hl
      exact sim_none
    | succ n ih =>
      intro x3 x4 ls hl
      rw [f_X7_factorial_L4]
      refine q_iload_n C dX7_factorial_4 rfl (lv_at hl 2 rfl) ?_
      refine q_iload_n C dX7_factorial_5 rfl (lv_at hl 0 rfl) ?_
      refine q_icmp_gt C 20 dX7_factorial_6 (by decide) ?_ ?_
      · refine q_lload_n C dX7_factorial_20 rfl (lv_at hl 1 rfl) ?_
        exact q_lret C hr hlo dX7_factorial_21
      · refine q_lload_n C dX7_factorial_9 rfl (lv_at hl 1 rfl) ?_
        refine q_iload_n C dX7_factorial_10 rfl (lv_at hl 2 rfl) ?_
        refine q_i2l C dX7_factorial_11 (fun v5 => ?_)
        refine q_lmul C dX7_factorial_12 (fun v6 => ?_)
        refine q_lstore_n C [(1, .long v6), (0, .int a1), (3, .int x4)] dX7_factorial_13 rfl hl (by decide) rfl (fun ls hl => ?_)
        refine q_iinc (k := 2) C (fun v7 => [(3, .int v7), (1, .long v6), (0, .int a1)]) dX7_factorial_14 hl rfl (by decide) (by decide) (fun _ => rfl) (fun v7 ls hl => ?_)
        refine q_goto C 4 dX7_factorial_17 (by decide) ?_
        exact ih v6 v7 ls (lv_sub hl [2, 1, 0] rfl)
  refine q_lconst C dX7_factorial_0 rfl (by decide) (fun v1 => ?_)
  refine q_lstore_n C [(1, .long v1), (0, .int a1)] dX7_factorial_1 rfl hl (by decide) rfl (fun ls hl => ?_)
  refine q_iconst C dX7_factorial_2 rfl (by decide) (fun v2 => ?_)
  refine q_istore_n C [(3, .int v2), (1, .long v1), (0, .int a1)] dX7_factorial_3 rfl hl (by decide) rfl (fun ls hl => ?_)
  exact B4 F v1 v2 ls (lv_sub hl [2, 1, 0] rfl)
def f_X7_divisor_L9 (F : Nat) (a1 : Int) (a2 : Int)  (σ : St) : Nat → Int → Int → Option (Int)
  | 0, _, _ => none
  | n + 1, x2, x3 =>
    z_gt 0 fun v4 =>
    z_gt (z_cmp x3 v4) fun v5 =>
    if v5 = 0 then (
      some x2)
    else (
      z_nz x3 <| z_gt (x2.tmod x3) fun v6 =>
      f_X7_divisor_L9 F a1 a2 σ n x3 v6)

def f_X7_divisor (F : Nat) (a1 : Int) (a2 : Int) (σ : St) : Option (Int) :=
  
  z_lk (if 0 < a1 then a1 else -a1) fun v1 =>
  f_X7_divisor_L9 F a1 a2 σ F v1 a2
theorem sb_X7_divisor : SB yX7_divisor cX7_divisor 10 (some .long) 2 := ⟨ks_X7_divisor, kn_X7, kc_X7_divisor, by decide +kernel, by decide +kernel, by decide +kernel⟩
set_option maxRecDepth 20000 in
set_option maxHeartbeats 4000000 in
theorem m_X7_divisor (l : Launch) (G : GG) (F : Nat) (a1 : Int64) (a2 : Int64) (σ : St) : ∀ r, f_X7_divisor F a1.toInt a2.toInt σ = some r → MC G l yX7_divisor cX7_divisor 10 (some .long) { frames := 1, cells := 0, slots := 0, locals := 45 } [.long a1, .long a2] σ (vL r) σ := by
  refine MC_of (own := RX7) (vL) (fun _ => σ) (by decide +kernel) rfl (Nat.le_of_ble_eq_true rfl) ?_
  intro p e s m args below meth c C hr hlo ls hl
  have hl : lv_has ls 10 [(0, .long a1), (2, .long a2)] := hl
  unfold f_X7_divisor
  have B9 : ∀ (n : Nat) (x2 : Int64) (x3 : Int64) (ls : Array Slot), lv_has ls 10 [(4, .long x2), (6, .long x3)] → Sim G (AG G) 0 0 p l e { frames := 1, cells := 0, slots := 0, locals := 45 } s m args below meth c (fun r : Int => MQ below (QC G (vL r) (σ)) args s 0 0 (AG G)) σ (f_X7_divisor_L9 F a1.toInt a2.toInt  σ n x2.toInt x3.toInt) (F0 m 9 ls []) := by
    intro n
    induction n with
    | zero =>
      intro x2 x3 ls hl
      exact sim_none
    | succ n ih =>
      intro x2 x3 ls hl
      rw [f_X7_divisor_L9]
      refine q_lload C dX7_divisor_9 (lv_at hl 1 rfl) ?_
      refine q_lconst C dX7_divisor_11 rfl (by decide) (fun v4 => ?_)
      refine q_lcmp C dX7_divisor_12 (fun v5 => ?_)
      refine q_if_eq C 34 dX7_divisor_13 (by decide) ?_ ?_
      · refine q_lload C dX7_divisor_34 (lv_at hl 0 rfl) ?_
        exact q_lret C hr hlo dX7_divisor_36
      · refine q_lload C dX7_divisor_16 (lv_at hl 0 rfl) ?_
        refine q_lload C dX7_divisor_18 (lv_at hl 1 rfl) ?_
        refine q_lrem C dX7_divisor_20 (fun v6 => ?_)
        refine q_lstore C [(8, .long v6), (4, .long x2), (6, .long x3)] dX7_divisor_21 hl (by decide) rfl (fun ls hl => ?_)
        refine q_lload C dX7_divisor_23 (lv_at hl 2 rfl) ?_
        refine q_lstore C [(4, .long x3), (8, .long v6), (6, .long x3)] dX7_divisor_25 hl (by decide) rfl (fun ls hl => ?_)
        refine q_lload C dX7_divisor_27 (lv_at hl 1 rfl) ?_
        refine q_lstore C [(6, .long v6), (4, .long x3), (8, .long v6)] dX7_divisor_29 hl (by decide) rfl (fun ls hl => ?_)
        refine q_goto C 9 dX7_divisor_31 (by decide) ?_
        exact ih x3 v6 ls (lv_sub hl [1, 0] rfl)
  refine q_lload_n C dX7_divisor_0 rfl (lv_at hl 0 rfl) ?_
  refine q_abs C kl_X7_449 ⟨Nat.le_of_ble_eq_true rfl, Nat.le_of_ble_eq_true rfl⟩ ⟨Nat.zero_le _, Nat.zero_le _⟩ hl.1 dX7_divisor_1 (fun v1 => ?_)
  refine q_lstore C [(4, .long v1), (0, .long a1), (2, .long a2)] dX7_divisor_4 hl (by decide) rfl (fun ls hl => ?_)
  refine q_lload_n C dX7_divisor_6 rfl (lv_at hl 2 rfl) ?_
  refine q_lstore C [(6, .long a2), (4, .long v1), (0, .long a1), (2, .long a2)] dX7_divisor_7 hl (by decide) rfl (fun ls hl => ?_)
  exact B9 F v1 a2 ls (lv_sub hl [1, 0] rfl)
def f_X7_fraction (F : Nat) (a1 : Int) (a2 : Int) (a3 : Int) (σ : St) : Option (Int) :=
  
  if ¬ a3 = 0 then (
    z_c1 (f_X7_divisor F a1 a2 σ) fun v1 =>
    z_nz v1 <| z_lk (a2.tdiv v1) fun v2 =>
    some v2)
  else (
    z_c1 (f_X7_divisor F a1 a2 σ) fun v3 =>
    z_nz v3 <| z_lk (a1.tdiv v3) fun v4 =>
    some v4)
theorem sb_X7_fraction : SB yX7_fraction cX7_fraction 5 (some .long) 3 := ⟨ks_X7_fraction, kn_X7, kc_X7_fraction, by decide +kernel, by decide +kernel, by decide +kernel⟩
set_option maxRecDepth 20000 in
set_option maxHeartbeats 4000000 in
theorem m_X7_fraction (l : Launch) (G : GG) (F : Nat) (a1 : Int64) (a2 : Int64) (a3 : Int32) (σ : St) : ∀ r, f_X7_fraction F a1.toInt a2.toInt a3.toInt σ = some r → MC G l yX7_fraction cX7_fraction 5 (some .long) { frames := 2, cells := 0, slots := 0, locals := 74 } [.long a1, .long a2, .int a3] σ (vL r) σ := by
  refine MC_of (own := RX7) (vL) (fun _ => σ) (by decide +kernel) rfl (Nat.le_of_ble_eq_true rfl) ?_
  intro p e s m args below meth c C hr hlo ls hl
  have hl : lv_has ls 5 [(0, .long a1), (2, .long a2), (4, .int a3)] := hl
  unfold f_X7_fraction
  refine q_iload C dX7_fraction_0 (lv_at hl 2 rfl) ?_
  refine q_if_ne C 9 dX7_fraction_2 (by decide) ?_ ?_
  · refine q_lload_n C dX7_fraction_9 rfl (lv_at hl 1 rfl) ?_
    refine q_lload_n C dX7_fraction_10 rfl (lv_at hl 0 rfl) ?_
    refine q_lload_n C dX7_fraction_11 rfl (lv_at hl 1 rfl) ?_
    refine q_c1l C (fun r h => cr_S (As := [.long a1, .long a2]) (rest := [.long a2]) C (m_X7_divisor l G F a1 a2 σ r h) sb_X7_divisor kl_X7_453 ⟨Nat.le_of_ble_eq_true rfl, Nat.le_of_ble_eq_true rfl⟩ ⟨Nat.zero_le _, Nat.zero_le _⟩ hl.1 rfl (Nat.le_of_ble_eq_true rfl) dX7_fraction_12 rfl) (fun v1 => ?_)
    refine q_ldiv C dX7_fraction_15 (fun v2 => ?_)
    exact q_lret C hr hlo dX7_fraction_16
  · refine q_lload_n C dX7_fraction_5 rfl (lv_at hl 0 rfl) ?_
    refine q_goto C 10 dX7_fraction_6 (by decide) ?_
    refine q_lload_n C dX7_fraction_10 rfl (lv_at hl 0 rfl) ?_
    refine q_lload_n C dX7_fraction_11 rfl (lv_at hl 1 rfl) ?_
    refine q_c1l C (fun r h => cr_S (As := [.long a1, .long a2]) (rest := [.long a1]) C (m_X7_divisor l G F a1 a2 σ r h) sb_X7_divisor kl_X7_453 ⟨Nat.le_of_ble_eq_true rfl, Nat.le_of_ble_eq_true rfl⟩ ⟨Nat.zero_le _, Nat.zero_le _⟩ hl.1 rfl (Nat.le_of_ble_eq_true rfl) dX7_fraction_12 rfl) (fun v3 => ?_)
    refine q_ldiv C dX7_fraction_15 (fun v4 => ?_)
    exact q_lret C hr hlo dX7_fraction_16
def f_X7_share_L84 (F : Nat) (k0 : Nat) (a1 : Int) (a2 : Int)   : Nat → Int → Int → Int → Int → St → Option (Int × St)
  | 0, _, _, _, _, _ => none
  | n + 1, x18, x19, x20, x21, σ =>
    if x18 < x21 then (
      z_c1 (f_X7_factorial F x19 σ) fun v22 =>
      z_c1 (f_X7_fraction F x20 v22 a2 σ) fun v23 =>
      z_gt (z_l2i v23) fun v24 =>
      some (v24, σ))
    else (
      z_gt (-1) fun v25 =>
      z_gt (z_xor x18 v25) fun v26 =>
      z_gt (z_and x21 v26) fun v27 =>
      if ¬ v27 = 0 then (
        z_ck (x21 + 1) fun v28 =>
        f_X7_share_L84 F k0 a1 a2 n x18 x19 x20 v28 σ)
      else (
        z_c1 (f_X7_bit F x21 a1 σ) fun v29 =>
        if ¬ v29 = 0 then (
          z_ck (x21 + 1) fun v30 =>
          f_X7_share_L84 F k0 a1 a2 n x18 x19 x20 v30 σ)
        else (
          z_c1 (f_X7_bits F x21 σ) fun v31 =>
          z_c1 (f_X7_factorial F v31 σ) fun v32 =>
          z_gt 1 fun v33 =>
          z_ck (x19 - v33) fun v34 =>
          z_c1 (f_X7_bits F x21 σ) fun v35 =>
          z_ck (v34 - v35) fun v36 =>
          z_c1 (f_X7_factorial F v36 σ) fun v37 =>
          z_lk (v32 * v37) fun v38 =>
          z_gt 1 fun v39 =>
          z_gt (z_shl v39 a1) fun v40 =>
          z_gt (z_or x21 v40) fun v41 =>
          z_ix v41 256 <| z_gt (σ (k0 + 23) v41) fun v42 =>
          z_ix x21 256 <| z_gt (σ (k0 + 23) x21) fun v43 =>
          z_ck (v42 - v43) fun v44 =>
          z_gt v44 fun v45 =>
          z_lk (v38 * v45) fun v46 =>
          z_lk (x20 + v46) fun v47 =>
          z_ck (x21 + 1) fun v48 =>
          f_X7_share_L84 F k0 a1 a2 n x18 x19 v47 v48 σ)))

def f_X7_share_L44 (F : Nat) (k0 : Nat) (a1 : Int) (a2 : Int)   : Nat → Int → Int → Int → St → Option (Int × St)
  | 0, _, _, _, _ => none
  | n + 1, x13, x14, x15, σ =>
    if x13 < x15 then (
      z_gt 0 fun v16 =>
      z_gt 0 fun v17 =>
      f_X7_share_L84 F k0 a1 a2 F x13 x14 v16 v17 σ)
    else (
      z_gt (-1) fun v49 =>
      z_gt (z_xor x13 v49) fun v50 =>
      z_gt (z_and x15 v50) fun v51 =>
      if ¬ v51 = 0 then (
        z_ck (x15 + 1) fun v52 =>
        f_X7_share_L44 F k0 a1 a2 n x13 x14 v52 σ)
      else (
        z_c2 (f_X7_worthNow F k0 x15 σ) fun v53 σ1 =>
        z_ix x15 256 <| z_sg (z_up σ1 (k0 + 23) x15 v53) fun σ2 =>
        z_ck (x15 + 1) fun v54 =>
        f_X7_share_L44 F k0 a1 a2 n x13 x14 v54 σ2))

def f_X7_share (F : Nat) (k0 : Nat) (a1 : Int) (a2 : Int) (σ : St) : Option (Int × St) :=
  z_ob 7 k0 <| 
  z_c1 (f_X7_isStore F k0 σ) fun v1 =>
  if v1 = 0 then (
    z_gt (-1000) fun v2 =>
    some (v2, σ))
  else (
    z_gt a1 fun v3 =>
    z_c1 (f_X7_isFirst F k0 v3 σ) fun v4 =>
    if v4 = 0 then (
      z_gt (-1000) fun v5 =>
      some (v5, σ))
    else (
      z_gt a2 fun v6 =>
      z_gt 0 fun v7 =>
      z_gt 1 fun v8 =>
      z_c1 (f_X7_in F v6 v7 v8 σ) fun v9 =>
      if ¬ v9 = 0 then (
        z_c1 (f_X7_allFirst F k0 σ) fun v10 =>
        z_c1 (f_X7_bits F v10 σ) fun v11 =>
        z_gt 0 fun v12 =>
        f_X7_share_L44 F k0 a1 a2 F v10 v11 v12 σ)
      else (
        z_gt (-1000) fun v55 =>
        some (v55, σ))))
theorem cb_X7_share : CB yX7_share cX7_share 8 (some .int) 2 := ⟨ki_X7_share, kq_X7_share, kn_X7, kc_X7_share, by decide +kernel, by decide +kernel, by decide +kernel⟩
set_option maxRecDepth 20000 in
set_option maxHeartbeats 4000000 in
theorem m_X7_share (l : Launch) (G : GG) (F : Nat) (k0 : Nat) (a1 : Int32) (a2 : Int32) (σ : St) : ∀ r, f_X7_share F k0 a1.toInt a2.toInt σ = some r → MC G l yX7_share cX7_share 8 (some .int) { frames := 4, cells := 0, slots := 0, locals := 98 } [.ref (gad G k0), .int a1, .int a2] σ (vI r.1) r.2 := by
  refine MC_of (own := RX7) (fun r : Int × St => vI r.1) (fun r : Int × St => r.2) (by decide +kernel) rfl (Nat.le_of_ble_eq_true rfl) ?_
  intro p e s m args below meth c C hr hlo ls hl
  have hl : lv_has ls 8 [(0, .ref (gad G k0)), (1, .int a1), (2, .int a2)] := hl
  unfold f_X7_share
  refine q_ob (fun hk0 => ?_)
  have B84 : ∀ (n : Nat) (x18 : Int32) (x19 : Int32) (x20 : Int64) (x21 : Int32) (σ : St) (ls : Array Slot), lv_has ls 8 [(0, .ref (gad G k0)), (1, .int a1), (2, .int a2), (3, .int x18), (4, .int x19), (5, .long x20), (7, .int x21)] → Sim G (AG G) 0 0 p l e { frames := 4, cells := 0, slots := 0, locals := 98 } s m args below meth c (fun r : Int × St => MQ below (QC G (vI r.1) (r.2)) args s 0 0 (AG G)) σ (f_X7_share_L84 F k0 a1.toInt a2.toInt   n x18.toInt x19.toInt x20.toInt x21.toInt σ) (F0 m 84 ls []) := by
    intro n
    induction n with
    | zero =>
      intro x18 x19 x20 x21 σ ls hl
      exact sim_none
    | succ n ih =>
      intro x18 x19 x20 x21 σ ls hl
      rw [f_X7_share_L84]
      refine q_iload C dX7_share_84 (lv_at hl 6 rfl) ?_
      refine q_iload_n C dX7_share_86 rfl (lv_at hl 3 rfl) ?_
      refine q_icmp_gt C 162 dX7_share_87 (by decide) ?_ ?_
      · refine q_lload C dX7_share_162 (lv_at hl 5 rfl) ?_
        refine q_iload C dX7_share_164 (lv_at hl 4 rfl) ?_
        refine q_c1l C (fun r h => cr_S (As := [.int x19]) (rest := [.long x20]) C (m_X7_factorial l G F x19 σ r h) sb_X7_factorial kl_X7_463 ⟨Nat.le_of_ble_eq_true rfl, Nat.le_of_ble_eq_true rfl⟩ ⟨Nat.zero_le _, Nat.zero_le _⟩ hl.1 rfl (Nat.le_of_ble_eq_true rfl) dX7_share_166 rfl) (fun v22 => ?_)
        refine q_iload_n C dX7_share_169 rfl (lv_at hl 2 rfl) ?_
        refine q_c1l C (fun r h => cr_S (As := [.long x20, .long v22, .int a2]) (rest := []) C (m_X7_fraction l G F x20 v22 a2 σ r h) sb_X7_fraction kl_X7_467 ⟨Nat.le_of_ble_eq_true rfl, Nat.le_of_ble_eq_true rfl⟩ ⟨Nat.zero_le _, Nat.zero_le _⟩ hl.1 rfl (Nat.le_of_ble_eq_true rfl) dX7_share_170 rfl) (fun v23 => ?_)
        refine q_l2i C dX7_share_173 (fun v24 => ?_)
        exact q_iretE C hr hlo dX7_share_174
      · refine q_iload C dX7_share_90 (lv_at hl 6 rfl) ?_
        refine q_iload_n C dX7_share_92 rfl (lv_at hl 3 rfl) ?_
        refine q_iconst C dX7_share_93 rfl (by decide) (fun v25 => ?_)
        refine q_ixor C dX7_share_94 (fun v26 => ?_)
        refine q_iand C dX7_share_95 (fun v27 => ?_)
        refine q_if_ne C 156 dX7_share_96 (by decide) ?_ ?_
        · refine q_iinc (k := 6) C (fun v28 => [(7, .int v28), (0, .ref (gad G k0)), (1, .int a1), (2, .int a2), (3, .int x18), (4, .int x19), (5, .long x20)]) dX7_share_156 hl rfl (by decide) (by decide) (fun _ => rfl) (fun v28 ls hl => ?_)
          refine q_goto C 84 dX7_share_159 (by decide) ?_
          exact ih x18 x19 x20 v28 σ ls (lv_sub hl [1, 2, 3, 4, 5, 6, 0] rfl)
        · refine q_iload C dX7_share_99 (lv_at hl 6 rfl) ?_
          refine q_iload_n C dX7_share_101 rfl (lv_at hl 1 rfl) ?_
          refine q_c1i C (fun r h => cr_S (As := [.int x21, .int a1]) (rest := []) C (m_X7_bit l G F x21 a1 σ r h) sb_X7_bit kl_X7_443 ⟨Nat.le_of_ble_eq_true rfl, Nat.le_of_ble_eq_true rfl⟩ ⟨Nat.zero_le _, Nat.zero_le _⟩ hl.1 rfl (Nat.le_of_ble_eq_true rfl) dX7_share_102 rfl) (fun v29 => ?_)
          refine q_if_ne C 156 dX7_share_105 (by decide) ?_ ?_
          · refine q_iinc (k := 6) C (fun v30 => [(7, .int v30), (0, .ref (gad G k0)), (1, .int a1), (2, .int a2), (3, .int x18), (4, .int x19), (5, .long x20)]) dX7_share_156 hl rfl (by decide) (by decide) (fun _ => rfl) (fun v30 ls hl => ?_)
            refine q_goto C 84 dX7_share_159 (by decide) ?_
            exact ih x18 x19 x20 v30 σ ls (lv_sub hl [1, 2, 3, 4, 5, 6, 0] rfl)
          · refine q_lload C dX7_share_108 (lv_at hl 5 rfl) ?_
            refine q_iload C dX7_share_110 (lv_at hl 6 rfl) ?_
            refine q_c1i C (fun r h => cr_S (As := [.int x21]) (rest := [.long x20]) C (m_X7_bits l G F x21 σ r h) sb_X7_bits kl_X7_460 ⟨Nat.le_of_ble_eq_true rfl, Nat.le_of_ble_eq_true rfl⟩ ⟨Nat.zero_le _, Nat.zero_le _⟩ hl.1 rfl (Nat.le_of_ble_eq_true rfl) dX7_share_112 rfl) (fun v31 => ?_)
            refine q_c1l C (fun r h => cr_S (As := [.int v31]) (rest := [.long x20]) C (m_X7_factorial l G F v31 σ r h) sb_X7_factorial kl_X7_463 ⟨Nat.le_of_ble_eq_true rfl, Nat.le_of_ble_eq_true rfl⟩ ⟨Nat.zero_le _, Nat.zero_le _⟩ hl.1 rfl (Nat.le_of_ble_eq_true rfl) dX7_share_115 rfl) (fun v32 => ?_)
            refine q_iload C dX7_share_118 (lv_at hl 4 rfl) ?_
            refine q_iconst C dX7_share_120 rfl (by decide) (fun v33 => ?_)
            refine q_isub C dX7_share_121 (fun v34 => ?_)
            refine q_iload C dX7_share_122 (lv_at hl 6 rfl) ?_
            refine q_c1i C (fun r h => cr_S (As := [.int x21]) (rest := [.int v34, .long v32, .long x20]) C (m_X7_bits l G F x21 σ r h) sb_X7_bits kl_X7_460 ⟨Nat.le_of_ble_eq_true rfl, Nat.le_of_ble_eq_true rfl⟩ ⟨Nat.zero_le _, Nat.zero_le _⟩ hl.1 rfl (Nat.le_of_ble_eq_true rfl) dX7_share_124 rfl) (fun v35 => ?_)
            refine q_isub C dX7_share_127 (fun v36 => ?_)
            refine q_c1l C (fun r h => cr_S (As := [.int v36]) (rest := [.long v32, .long x20]) C (m_X7_factorial l G F v36 σ r h) sb_X7_factorial kl_X7_463 ⟨Nat.le_of_ble_eq_true rfl, Nat.le_of_ble_eq_true rfl⟩ ⟨Nat.zero_le _, Nat.zero_le _⟩ hl.1 rfl (Nat.le_of_ble_eq_true rfl) dX7_share_128 rfl) (fun v37 => ?_)
            refine q_lmul C dX7_share_131 (fun v38 => ?_)
            refine q_aload_n C dX7_share_132 rfl (lv_at hl 0 rfl) ?_
            refine g_7_36 C hk0 kf_X7_82 dX7_share_133 ?_
            refine q_iload C dX7_share_136 (lv_at hl 6 rfl) ?_
            refine q_iconst C dX7_share_138 rfl (by decide) (fun v39 => ?_)
            refine q_iload_n C dX7_share_139 rfl (lv_at hl 1 rfl) ?_
            refine q_ishl C dX7_share_140 (fun v40 => ?_)
            refine q_ior C dX7_share_141 (fun v41 => ?_)
            refine a_ild C (yk_7_36 hk0) (yl_7_36 hk0) dX7_share_142 (fun v42 => ?_)
            refine q_aload_n C dX7_share_143 rfl (lv_at hl 0 rfl) ?_
            refine g_7_36 C hk0 kf_X7_82 dX7_share_144 ?_
            refine q_iload C dX7_share_147 (lv_at hl 6 rfl) ?_
            refine a_ild C (yk_7_36 hk0) (yl_7_36 hk0) dX7_share_149 (fun v43 => ?_)
            refine q_isub C dX7_share_150 (fun v44 => ?_)
            refine q_i2l C dX7_share_151 (fun v45 => ?_)
            refine q_lmul C dX7_share_152 (fun v46 => ?_)
            refine q_ladd C dX7_share_153 (fun v47 => ?_)
            refine q_lstore C [(5, .long v47), (0, .ref (gad G k0)), (1, .int a1), (2, .int a2), (3, .int x18), (4, .int x19), (7, .int x21)] dX7_share_154 hl (by decide) rfl (fun ls hl => ?_)
            refine q_iinc (k := 6) C (fun v48 => [(7, .int v48), (5, .long v47), (0, .ref (gad G k0)), (1, .int a1), (2, .int a2), (3, .int x18), (4, .int x19)]) dX7_share_156 hl rfl (by decide) (by decide) (fun _ => rfl) (fun v48 ls hl => ?_)
            refine q_goto C 84 dX7_share_159 (by decide) ?_
            exact ih x18 x19 v47 v48 σ ls (lv_sub hl [2, 3, 4, 5, 6, 1, 0] rfl)
  have B44 : ∀ (n : Nat) (x13 : Int32) (x14 : Int32) (x15 : Int32) (σ : St) (ls : Array Slot), lv_has ls 8 [(0, .ref (gad G k0)), (1, .int a1), (2, .int a2), (3, .int x13), (4, .int x14), (5, .int x15)] → Sim G (AG G) 0 0 p l e { frames := 4, cells := 0, slots := 0, locals := 98 } s m args below meth c (fun r : Int × St => MQ below (QC G (vI r.1) (r.2)) args s 0 0 (AG G)) σ (f_X7_share_L44 F k0 a1.toInt a2.toInt   n x13.toInt x14.toInt x15.toInt σ) (F0 m 44 ls []) := by
    intro n
    induction n with
    | zero =>
      intro x13 x14 x15 σ ls hl
      exact sim_none
    | succ n ih =>
      intro x13 x14 x15 σ ls hl
      rw [f_X7_share_L44]
      refine q_iload C dX7_share_44 (lv_at hl 5 rfl) ?_
      refine q_iload_n C dX7_share_46 rfl (lv_at hl 3 rfl) ?_
      refine q_icmp_gt C 78 dX7_share_47 (by decide) ?_ ?_
      · refine q_lconst C dX7_share_78 rfl (by decide) (fun v16 => ?_)
        refine q_lstore C [(5, .long v16), (0, .ref (gad G k0)), (1, .int a1), (2, .int a2), (3, .int x13), (4, .int x14)] dX7_share_79 hl (by decide) rfl (fun ls hl => ?_)
        refine q_iconst C dX7_share_81 rfl (by decide) (fun v17 => ?_)
        refine q_istore C [(7, .int v17), (5, .long v16), (0, .ref (gad G k0)), (1, .int a1), (2, .int a2), (3, .int x13), (4, .int x14)] dX7_share_82 hl (by decide) rfl (fun ls hl => ?_)
        exact B84 F x13 x14 v16 v17 σ ls (lv_sub hl [2, 3, 4, 5, 6, 1, 0] rfl)
      · refine q_iload C dX7_share_50 (lv_at hl 5 rfl) ?_
        refine q_iload_n C dX7_share_52 rfl (lv_at hl 3 rfl) ?_
        refine q_iconst C dX7_share_53 rfl (by decide) (fun v49 => ?_)
        refine q_ixor C dX7_share_54 (fun v50 => ?_)
        refine q_iand C dX7_share_55 (fun v51 => ?_)
        refine q_if_ne C 72 dX7_share_56 (by decide) ?_ ?_
        · refine q_iinc (k := 5) C (fun v52 => [(5, .int v52), (0, .ref (gad G k0)), (1, .int a1), (2, .int a2), (3, .int x13), (4, .int x14)]) dX7_share_72 hl rfl (by decide) (by decide) (fun _ => rfl) (fun v52 ls hl => ?_)
          refine q_goto C 44 dX7_share_75 (by decide) ?_
          exact ih x13 x14 v52 σ ls (lv_sub hl [1, 2, 3, 4, 5, 0] rfl)
        · refine q_aload_n C dX7_share_59 rfl (lv_at hl 0 rfl) ?_
          refine g_7_36 C hk0 kf_X7_82 dX7_share_60 ?_
          refine q_iload C dX7_share_63 (lv_at hl 5 rfl) ?_
          refine q_aload_n C dX7_share_65 rfl (lv_at hl 0 rfl) ?_
          refine q_iload C dX7_share_66 (lv_at hl 5 rfl) ?_
          refine q_c2i C (fun r h => cr_V (As := [.int x15]) (rest := [.int x15, .ref (gad G (k0 + 23))]) C (m_X7_worthNow l G F k0 x15 σ r h) cb_X7_worthNow hk0 (by decide) rfl (cf_7 hk0 _) rfl kl_X7_446 ⟨Nat.le_of_ble_eq_true rfl, Nat.le_of_ble_eq_true rfl⟩ ⟨Nat.zero_le _, Nat.zero_le _⟩ hl.1 rfl (Nat.le_of_ble_eq_true rfl) dX7_share_68 rfl) (fun v53 σ1 => ?_)
          refine a_ist C (yk_7_36 hk0) (yl_7_36 hk0) dX7_share_71 (q_sg (fun σ2 => ?_))
          refine q_iinc (k := 5) C (fun v54 => [(5, .int v54), (0, .ref (gad G k0)), (1, .int a1), (2, .int a2), (3, .int x13), (4, .int x14)]) dX7_share_72 hl rfl (by decide) (by decide) (fun _ => rfl) (fun v54 ls hl => ?_)
          refine q_goto C 44 dX7_share_75 (by decide) ?_
          exact ih x13 x14 v54 σ2 ls (lv_sub hl [1, 2, 3, 4, 5, 0] rfl)
  refine q_aload_n C dX7_share_0 rfl (lv_at hl 0 rfl) ?_
  refine q_c1i C (fun r h => cr_V (As := []) (rest := []) C (m_X7_isStore l G F k0 σ r h) cb_X7_isStore hk0 (by decide) rfl (cf_7 hk0 _) rfl kl_X7_114 ⟨Nat.le_of_ble_eq_true rfl, Nat.le_of_ble_eq_true rfl⟩ ⟨Nat.zero_le _, Nat.zero_le _⟩ hl.1 rfl (Nat.le_of_ble_eq_true rfl) dX7_share_1 rfl) (fun v1 => ?_)
  refine q_if_eq C 26 dX7_share_4 (by decide) ?_ ?_
  · refine q_sipush C dX7_share_26 rfl (by decide) (fun v2 => ?_)
    exact q_iretE C hr hlo dX7_share_29
  · refine q_aload_n C dX7_share_7 rfl (lv_at hl 0 rfl) ?_
    refine q_iload_n C dX7_share_8 rfl (lv_at hl 1 rfl) ?_
    refine q_i2l C dX7_share_9 (fun v3 => ?_)
    refine q_c1i C (fun r h => cr_V (As := [.long v3]) (rest := []) C (m_X7_isFirst l G F k0 v3 σ r h) cb_X7_isFirst hk0 (by decide) rfl (cf_7 hk0 _) rfl kl_X7_440 ⟨Nat.le_of_ble_eq_true rfl, Nat.le_of_ble_eq_true rfl⟩ ⟨Nat.zero_le _, Nat.zero_le _⟩ hl.1 rfl (Nat.le_of_ble_eq_true rfl) dX7_share_10 rfl) (fun v4 => ?_)
    refine q_if_eq C 26 dX7_share_13 (by decide) ?_ ?_
    · refine q_sipush C dX7_share_26 rfl (by decide) (fun v5 => ?_)
      exact q_iretE C hr hlo dX7_share_29
    · refine q_iload_n C dX7_share_16 rfl (lv_at hl 2 rfl) ?_
      refine q_i2l C dX7_share_17 (fun v6 => ?_)
      refine q_lconst C dX7_share_18 rfl (by decide) (fun v7 => ?_)
      refine q_lconst C dX7_share_19 rfl (by decide) (fun v8 => ?_)
      refine q_c1i C (fun r h => cr_S (As := [.long v6, .long v7, .long v8]) (rest := []) C (m_X7_in l G F v6 v7 v8 σ r h) sb_X7_in kl_X7_103 ⟨Nat.le_of_ble_eq_true rfl, Nat.le_of_ble_eq_true rfl⟩ ⟨Nat.zero_le _, Nat.zero_le _⟩ hl.1 rfl (Nat.le_of_ble_eq_true rfl) dX7_share_20 rfl) (fun v9 => ?_)
      refine q_if_ne C 30 dX7_share_23 (by decide) ?_ ?_
      · refine q_aload_n C dX7_share_30 rfl (lv_at hl 0 rfl) ?_
        refine q_c1i C (fun r h => cr_V (As := []) (rest := []) C (m_X7_allFirst l G F k0 σ r h) cb_X7_allFirst hk0 (by decide) rfl (cf_7 hk0 _) rfl kl_X7_457 ⟨Nat.le_of_ble_eq_true rfl, Nat.le_of_ble_eq_true rfl⟩ ⟨Nat.zero_le _, Nat.zero_le _⟩ hl.1 rfl (Nat.le_of_ble_eq_true rfl) dX7_share_31 rfl) (fun v10 => ?_)
        refine q_istore_n C [(3, .int v10), (0, .ref (gad G k0)), (1, .int a1), (2, .int a2)] dX7_share_34 rfl hl (by decide) rfl (fun ls hl => ?_)
        refine q_iload_n C dX7_share_35 rfl (lv_at hl 0 rfl) ?_
        refine q_c1i C (fun r h => cr_S (As := [.int v10]) (rest := []) C (m_X7_bits l G F v10 σ r h) sb_X7_bits kl_X7_460 ⟨Nat.le_of_ble_eq_true rfl, Nat.le_of_ble_eq_true rfl⟩ ⟨Nat.zero_le _, Nat.zero_le _⟩ hl.1 rfl (Nat.le_of_ble_eq_true rfl) dX7_share_36 rfl) (fun v11 => ?_)
        refine q_istore C [(4, .int v11), (3, .int v10), (0, .ref (gad G k0)), (1, .int a1), (2, .int a2)] dX7_share_39 hl (by decide) rfl (fun ls hl => ?_)
        refine q_iconst C dX7_share_41 rfl (by decide) (fun v12 => ?_)
        refine q_istore C [(5, .int v12), (4, .int v11), (3, .int v10), (0, .ref (gad G k0)), (1, .int a1), (2, .int a2)] dX7_share_42 hl (by decide) rfl (fun ls hl => ?_)
        exact B44 F v10 v11 v12 σ ls (lv_sub hl [3, 4, 5, 2, 1, 0] rfl)
      · refine q_sipush C dX7_share_26 rfl (by decide) (fun v55 => ?_)
        exact q_iretE C hr hlo dX7_share_29
def f_X7_getsBy_L53 (F : Nat) (k0 : Nat) (a1 : Int) (a2 : Int) (a3 : Int) (a4 : Int) (a5 : Int)   : Nat → Int → Int → St → Option (Int × St)
  | 0, _, _, _ => none
  | n + 1, x12, x13, σ =>
    z_gt (σ k0 28) fun v14 =>
    if v14 ≤ x13 then (
      z_gt 3 fun v15 =>
      if ¬ a5 = 0 then (
        z_ck (v15 * a4) fun v16 =>
        z_ck (x12 - v16) fun v17 =>
        some (v17, σ))
      else (
        z_ck (v15 * a3) fun v18 =>
        z_ck (x12 - v18) fun v19 =>
        some (v19, σ)))
    else (
      z_ix x13 60 <| z_gt (σ (k0 + 12) x13) fun v20 =>
      z_gt 1 fun v21 =>
      if ¬ v20 = v21 then (
        z_gt 0 fun v22 =>
        z_ck (x12 + v22) fun v23 =>
        z_ck (x13 + 1) fun v24 =>
        f_X7_getsBy_L53 F k0 a1 a2 a3 a4 a5 n v23 v24 σ)
      else (
        z_ix x13 60 <| z_gt (σ (k0 + 14) x13) fun v25 =>
        z_ck (x12 + v25) fun v26 =>
        z_ck (x13 + 1) fun v27 =>
        f_X7_getsBy_L53 F k0 a1 a2 a3 a4 a5 n v26 v27 σ))

def f_X7_getsBy_J19 (F : Nat) (k0 : Nat) (a1 : Int) (a2 : Int) (a3 : Int) (a4 : Int) (a5 : Int)   (x3 : Int) (x4 : Int) (x5 : Nat) (σ : St) : Option (Int × St) :=
  z_ix x4 (lnX x5) <| z_bo x3 <| z_sg (z_up σ x5 x4 x3) fun σ2 =>
  z_gt 1 fun v6 =>
  if ¬ a4 = v6 then (
    z_gt 0 fun v7 =>
    z_ix a2 60 <| z_bo v7 <| z_sg (z_up σ2 (k0 + 7) a2 v7) fun σ3 =>
    z_gt 1 fun v8 =>
    z_ix v8 246 <| z_gt (σ3 (k0 + 1) v8) fun v9 =>
    z_c1 (f_X7_layAll F k0 v9 σ3) fun σ4 =>
    z_gt 0 fun v10 =>
    z_gt 0 fun v11 =>
    f_X7_getsBy_L53 F k0 a1 a2 a3 a4 a5 F v10 v11 σ4)
  else (
    z_gt 1 fun v28 =>
    z_ix a2 60 <| z_bo v28 <| z_sg (z_up σ2 (k0 + 7) a2 v28) fun σ5 =>
    z_gt 1 fun v29 =>
    z_ix v29 246 <| z_gt (σ5 (k0 + 1) v29) fun v30 =>
    z_c1 (f_X7_layAll F k0 v30 σ5) fun σ6 =>
    z_gt 0 fun v31 =>
    z_gt 0 fun v32 =>
    f_X7_getsBy_L53 F k0 a1 a2 a3 a4 a5 F v31 v32 σ6)

def f_X7_getsBy (F : Nat) (k0 : Nat) (a1 : Int) (a2 : Int) (a3 : Int) (a4 : Int) (a5 : Int) (σ : St) : Option (Int × St) :=
  z_ob 7 k0 <| 
  z_c1 (f_X7_nothingGone F k0 σ) fun σ1 =>
  z_gt 1 fun v1 =>
  if ¬ a3 = v1 then (
    z_gt 0 fun v2 =>
    f_X7_getsBy_J19 F k0 a1 a2 a3 a4 a5 v2 a1 (k0 + 7) σ1)
  else (
    z_gt 1 fun v33 =>
    f_X7_getsBy_J19 F k0 a1 a2 a3 a4 a5 v33 a1 (k0 + 7) σ1)
theorem cb_X7_getsBy : CB yX7_getsBy cX7_getsBy 8 (some .int) 5 := ⟨ki_X7_getsBy, kq_X7_getsBy, kn_X7, kc_X7_getsBy, by decide +kernel, by decide +kernel, by decide +kernel⟩
set_option maxRecDepth 20000 in
set_option maxHeartbeats 4000000 in
theorem m_X7_getsBy (l : Launch) (G : GG) (F : Nat) (k0 : Nat) (a1 : Int32) (a2 : Int32) (a3 : Int32) (a4 : Int32) (a5 : Int32) (σ : St) : ∀ r, f_X7_getsBy F k0 a1.toInt a2.toInt a3.toInt a4.toInt a5.toInt σ = some r → MC G l yX7_getsBy cX7_getsBy 8 (some .int) { frames := 6, cells := 0, slots := 0, locals := 137 } [.ref (gad G k0), .int a1, .int a2, .int a3, .int a4, .int a5] σ (vI r.1) r.2 := by
  refine MC_of (own := RX7) (fun r : Int × St => vI r.1) (fun r : Int × St => r.2) (by decide +kernel) rfl (Nat.le_of_ble_eq_true rfl) ?_
  intro p e s m args below meth c C hr hlo ls hl
  have hl : lv_has ls 8 [(0, .ref (gad G k0)), (1, .int a1), (2, .int a2), (3, .int a3), (4, .int a4), (5, .int a5)] := hl
  unfold f_X7_getsBy
  refine q_ob (fun hk0 => ?_)
  have B53 : ∀ (n : Nat) (x12 : Int32) (x13 : Int32) (σ : St) (ls : Array Slot), lv_has ls 8 [(0, .ref (gad G k0)), (3, .int a3), (4, .int a4), (5, .int a5), (6, .int x12), (7, .int x13)] → Sim G (AG G) 0 0 p l e { frames := 6, cells := 0, slots := 0, locals := 137 } s m args below meth c (fun r : Int × St => MQ below (QC G (vI r.1) (r.2)) args s 0 0 (AG G)) σ (f_X7_getsBy_L53 F k0 a1.toInt a2.toInt a3.toInt a4.toInt a5.toInt   n x12.toInt x13.toInt σ) (F0 m 53 ls []) := by
    intro n
    induction n with
    | zero =>
      intro x12 x13 σ ls hl
      exact sim_none
    | succ n ih =>
      intro x12 x13 σ ls hl
      rw [f_X7_getsBy_L53]
      refine q_iload C dX7_getsBy_53 (lv_at hl 5 rfl) ?_
      refine q_aload_n C dX7_getsBy_55 rfl (lv_at hl 0 rfl) ?_
      refine g_7_28 C hk0 kf_X7_257 dX7_getsBy_56 (fun v14 => ?_)
      refine q_icmp_ge C 95 dX7_getsBy_59 (by decide) ?_ ?_
      · refine q_iload C dX7_getsBy_95 (lv_at hl 4 rfl) ?_
        refine q_iconst C dX7_getsBy_97 rfl (by decide) (fun v15 => ?_)
        refine q_iload C dX7_getsBy_98 (lv_at hl 3 rfl) ?_
        refine q_if_ne C 107 dX7_getsBy_100 (by decide) ?_ ?_
        · refine q_iload C dX7_getsBy_107 (lv_at hl 2 rfl) ?_
          refine q_imul C dX7_getsBy_109 (fun v16 => ?_)
          refine q_isub C dX7_getsBy_110 (fun v17 => ?_)
          exact q_iretE C hr hlo dX7_getsBy_111
        · refine q_iload_n C dX7_getsBy_103 rfl (lv_at hl 1 rfl) ?_
          refine q_goto C 109 dX7_getsBy_104 (by decide) ?_
          refine q_imul C dX7_getsBy_109 (fun v18 => ?_)
          refine q_isub C dX7_getsBy_110 (fun v19 => ?_)
          exact q_iretE C hr hlo dX7_getsBy_111
      · refine q_iload C dX7_getsBy_62 (lv_at hl 4 rfl) ?_
        refine q_aload_n C dX7_getsBy_64 rfl (lv_at hl 0 rfl) ?_
        refine g_7_20 C hk0 kf_X7_49 dX7_getsBy_65 ?_
        refine q_iload C dX7_getsBy_68 (lv_at hl 5 rfl) ?_
        refine a_ild C (yk_7_20 hk0) (yl_7_20 hk0) dX7_getsBy_70 (fun v20 => ?_)
        refine q_iconst C dX7_getsBy_71 rfl (by decide) (fun v21 => ?_)
        refine q_icmp_ne C 85 dX7_getsBy_72 (by decide) ?_ ?_
        · refine q_iconst C dX7_getsBy_85 rfl (by decide) (fun v22 => ?_)
          refine q_iadd C dX7_getsBy_86 (fun v23 => ?_)
          refine q_istore C [(6, .int v23), (0, .ref (gad G k0)), (3, .int a3), (4, .int a4), (5, .int a5), (7, .int x13)] dX7_getsBy_87 hl (by decide) rfl (fun ls hl => ?_)
          refine q_iinc (k := 5) C (fun v24 => [(7, .int v24), (6, .int v23), (0, .ref (gad G k0)), (3, .int a3), (4, .int a4), (5, .int a5)]) dX7_getsBy_89 hl rfl (by decide) (by decide) (fun _ => rfl) (fun v24 ls hl => ?_)
          refine q_goto C 53 dX7_getsBy_92 (by decide) ?_
          exact ih v23 v24 σ ls (lv_sub hl [2, 3, 4, 5, 1, 0] rfl)
        · refine q_aload_n C dX7_getsBy_75 rfl (lv_at hl 0 rfl) ?_
          refine g_7_22 C hk0 kf_X7_55 dX7_getsBy_76 ?_
          refine q_iload C dX7_getsBy_79 (lv_at hl 5 rfl) ?_
          refine a_ild C (yk_7_22 hk0) (yl_7_22 hk0) dX7_getsBy_81 (fun v25 => ?_)
          refine q_goto C 86 dX7_getsBy_82 (by decide) ?_
          refine q_iadd C dX7_getsBy_86 (fun v26 => ?_)
          refine q_istore C [(6, .int v26), (0, .ref (gad G k0)), (3, .int a3), (4, .int a4), (5, .int a5), (7, .int x13)] dX7_getsBy_87 hl (by decide) rfl (fun ls hl => ?_)
          refine q_iinc (k := 5) C (fun v27 => [(7, .int v27), (6, .int v26), (0, .ref (gad G k0)), (3, .int a3), (4, .int a4), (5, .int a5)]) dX7_getsBy_89 hl rfl (by decide) (by decide) (fun _ => rfl) (fun v27 ls hl => ?_)
          refine q_goto C 53 dX7_getsBy_92 (by decide) ?_
          exact ih v26 v27 σ ls (lv_sub hl [2, 3, 4, 5, 1, 0] rfl)
  have B19 : ∀  (x3 : Int32) (x4 : Int32) (x5 : Nat) (σ : St) (ls : Array Slot), lv_has ls 8 [(0, .ref (gad G k0)), (2, .int a2), (3, .int a3), (4, .int a4), (5, .int a5)] → kdX x5 = 11 → Sim G (AG G) 0 0 p l e { frames := 6, cells := 0, slots := 0, locals := 137 } s m args below meth c (fun r : Int × St => MQ below (QC G (vI r.1) (r.2)) args s 0 0 (AG G)) σ (f_X7_getsBy_J19 F k0 a1.toInt a2.toInt a3.toInt a4.toInt a5.toInt    x3.toInt x4.toInt x5 σ) (F0 m 19 ls [.int x3, .int x4, .ref (gad G x5)]) := by
    intro x3 x4 x5 σ ls hl hx5
    unfold f_X7_getsBy_J19
    refine a_zst C hx5 rfl dX7_getsBy_19 (q_sg (fun σ2 => ?_))
    refine q_aload_n C dX7_getsBy_20 rfl (lv_at hl 0 rfl) ?_
    refine g_7_15 C hk0 kf_X7_34 dX7_getsBy_21 ?_
    refine q_iload_n C dX7_getsBy_24 rfl (lv_at hl 1 rfl) ?_
    refine q_iload C dX7_getsBy_25 (lv_at hl 3 rfl) ?_
    refine q_iconst C dX7_getsBy_27 rfl (by decide) (fun v6 => ?_)
    refine q_icmp_ne C 35 dX7_getsBy_28 (by decide) ?_ ?_
    · refine q_iconst C dX7_getsBy_35 rfl (by decide) (fun v7 => ?_)
      refine a_zst C (yk_7_15 hk0) (yl_7_15 hk0) dX7_getsBy_36 (q_sg (fun σ3 => ?_))
      refine q_aload_n C dX7_getsBy_37 rfl (lv_at hl 0 rfl) ?_
      refine q_aload_n C dX7_getsBy_38 rfl (lv_at hl 0 rfl) ?_
      refine g_7_1 C hk0 kf_X7_9 dX7_getsBy_39 ?_
      refine q_iconst C dX7_getsBy_42 rfl (by decide) (fun v8 => ?_)
      refine a_ild C (yk_7_1 hk0) (yl_7_1 hk0) dX7_getsBy_43 (fun v9 => ?_)
      refine q_cv C (fun r h => cr_V (As := [.int v9]) (rest := []) C (m_X7_layAll l G F k0 v9 σ3 r h) cb_X7_layAll hk0 (by decide) rfl (cf_7 hk0 _) rfl kl_X7_313 ⟨Nat.le_of_ble_eq_true rfl, Nat.le_of_ble_eq_true rfl⟩ ⟨Nat.zero_le _, Nat.zero_le _⟩ hl.1 rfl (Nat.le_of_ble_eq_true rfl) dX7_getsBy_44 rfl) (fun σ4 => ?_)
      refine q_iconst C dX7_getsBy_47 rfl (by decide) (fun v10 => ?_)
      refine q_istore C [(6, .int v10), (0, .ref (gad G k0)), (2, .int a2), (3, .int a3), (4, .int a4), (5, .int a5)] dX7_getsBy_48 hl (by decide) rfl (fun ls hl => ?_)
      refine q_iconst C dX7_getsBy_50 rfl (by decide) (fun v11 => ?_)
      refine q_istore C [(7, .int v11), (6, .int v10), (0, .ref (gad G k0)), (2, .int a2), (3, .int a3), (4, .int a4), (5, .int a5)] dX7_getsBy_51 hl (by decide) rfl (fun ls hl => ?_)
      exact B53 F v10 v11 σ4 ls (lv_sub hl [2, 4, 5, 6, 1, 0] rfl)
    · refine q_iconst C dX7_getsBy_31 rfl (by decide) (fun v28 => ?_)
      refine q_goto C 36 dX7_getsBy_32 (by decide) ?_
      refine a_zst C (yk_7_15 hk0) (yl_7_15 hk0) dX7_getsBy_36 (q_sg (fun σ5 => ?_))
      refine q_aload_n C dX7_getsBy_37 rfl (lv_at hl 0 rfl) ?_
      refine q_aload_n C dX7_getsBy_38 rfl (lv_at hl 0 rfl) ?_
      refine g_7_1 C hk0 kf_X7_9 dX7_getsBy_39 ?_
      refine q_iconst C dX7_getsBy_42 rfl (by decide) (fun v29 => ?_)
      refine a_ild C (yk_7_1 hk0) (yl_7_1 hk0) dX7_getsBy_43 (fun v30 => ?_)
      refine q_cv C (fun r h => cr_V (As := [.int v30]) (rest := []) C (m_X7_layAll l G F k0 v30 σ5 r h) cb_X7_layAll hk0 (by decide) rfl (cf_7 hk0 _) rfl kl_X7_313 ⟨Nat.le_of_ble_eq_true rfl, Nat.le_of_ble_eq_true rfl⟩ ⟨Nat.zero_le _, Nat.zero_le _⟩ hl.1 rfl (Nat.le_of_ble_eq_true rfl) dX7_getsBy_44 rfl) (fun σ6 => ?_)
      refine q_iconst C dX7_getsBy_47 rfl (by decide) (fun v31 => ?_)
      refine q_istore C [(6, .int v31), (0, .ref (gad G k0)), (2, .int a2), (3, .int a3), (4, .int a4), (5, .int a5)] dX7_getsBy_48 hl (by decide) rfl (fun ls hl => ?_)
      refine q_iconst C dX7_getsBy_50 rfl (by decide) (fun v32 => ?_)
      refine q_istore C [(7, .int v32), (6, .int v31), (0, .ref (gad G k0)), (2, .int a2), (3, .int a3), (4, .int a4), (5, .int a5)] dX7_getsBy_51 hl (by decide) rfl (fun ls hl => ?_)
      exact B53 F v31 v32 σ6 ls (lv_sub hl [2, 4, 5, 6, 1, 0] rfl)
  refine q_aload_n C dX7_getsBy_0 rfl (lv_at hl 0 rfl) ?_
  refine q_cv C (fun r h => cr_V (As := []) (rest := []) C (m_X7_nothingGone l G F k0 σ r h) cb_X7_nothingGone hk0 (by decide) rfl (cf_7 hk0 _) rfl kl_X7_310 ⟨Nat.le_of_ble_eq_true rfl, Nat.le_of_ble_eq_true rfl⟩ ⟨Nat.zero_le _, Nat.zero_le _⟩ hl.1 rfl (Nat.le_of_ble_eq_true rfl) dX7_getsBy_1 rfl) (fun σ1 => ?_)
  refine q_aload_n C dX7_getsBy_4 rfl (lv_at hl 0 rfl) ?_
  refine g_7_15 C hk0 kf_X7_34 dX7_getsBy_5 ?_
  refine q_iload_n C dX7_getsBy_8 rfl (lv_at hl 1 rfl) ?_
  refine q_iload_n C dX7_getsBy_9 rfl (lv_at hl 3 rfl) ?_
  refine q_iconst C dX7_getsBy_10 rfl (by decide) (fun v1 => ?_)
  refine q_icmp_ne C 18 dX7_getsBy_11 (by decide) ?_ ?_
  · refine q_iconst C dX7_getsBy_18 rfl (by decide) (fun v2 => ?_)
    exact B19 v2 a1 (k0 + 7) σ1 ls (lv_sub hl [0, 2, 3, 4, 5] rfl) (yk_7_15 hk0)
  · refine q_iconst C dX7_getsBy_14 rfl (by decide) (fun v33 => ?_)
    refine q_goto C 19 dX7_getsBy_15 (by decide) ?_
    exact B19 v33 a1 (k0 + 7) σ1 ls (lv_sub hl [0, 2, 3, 4, 5] rfl) (yk_7_15 hk0)
def f_X7_areBoth (F : Nat) (k0 : Nat) (a1 : Int) (a2 : Int) (σ : St) : Option (Int) :=
  z_ob 7 k0 <| 
  z_gt a1 fun v1 =>
  z_c1 (f_X7_isTold F k0 v1 σ) fun v2 =>
  if v2 = 0 then (
    z_gt 0 fun v3 =>
    z_bo v3 <| some v3)
  else (
    z_gt a2 fun v4 =>
    z_c1 (f_X7_isTold F k0 v4 σ) fun v5 =>
    if v5 = 0 then (
      z_gt 0 fun v6 =>
      z_bo v6 <| some v6)
    else (
      if a1 = a2 then (
        z_gt 0 fun v7 =>
        z_bo v7 <| some v7)
      else (
        z_gt 1 fun v8 =>
        z_bo v8 <| some v8)))
theorem cb_X7_areBoth : CB yX7_areBoth cX7_areBoth 3 (some .boolean) 2 := ⟨ki_X7_areBoth, kq_X7_areBoth, kn_X7, kc_X7_areBoth, by decide +kernel, by decide +kernel, by decide +kernel⟩
set_option maxRecDepth 20000 in
set_option maxHeartbeats 4000000 in
theorem m_X7_areBoth (l : Launch) (G : GG) (F : Nat) (k0 : Nat) (a1 : Int32) (a2 : Int32) (σ : St) : ∀ r, f_X7_areBoth F k0 a1.toInt a2.toInt σ = some r → MC G l yX7_areBoth cX7_areBoth 3 (some .boolean) { frames := 2, cells := 0, slots := 0, locals := 47 } [.ref (gad G k0), .int a1, .int a2] σ (vI r) σ := by
  refine MC_of (own := RX7) (vI) (fun _ => σ) (by decide +kernel) rfl (Nat.le_of_ble_eq_true rfl) ?_
  intro p e s m args below meth c C hr hlo ls hl
  have hl : lv_has ls 3 [(0, .ref (gad G k0)), (1, .int a1), (2, .int a2)] := hl
  unfold f_X7_areBoth
  refine q_ob (fun hk0 => ?_)
  refine q_aload_n C dX7_areBoth_0 rfl (lv_at hl 0 rfl) ?_
  refine q_iload_n C dX7_areBoth_1 rfl (lv_at hl 1 rfl) ?_
  refine q_i2l C dX7_areBoth_2 (fun v1 => ?_)
  refine q_c1i C (fun r h => cr_V (As := [.long v1]) (rest := []) C (m_X7_isTold l G F k0 v1 σ r h) cb_X7_isTold hk0 (by decide) rfl (cf_7 hk0 _) rfl kl_X7_435 ⟨Nat.le_of_ble_eq_true rfl, Nat.le_of_ble_eq_true rfl⟩ ⟨Nat.zero_le _, Nat.zero_le _⟩ hl.1 rfl (Nat.le_of_ble_eq_true rfl) dX7_areBoth_3 rfl) (fun v2 => ?_)
  refine q_if_eq C 27 dX7_areBoth_6 (by decide) ?_ ?_
  · refine q_iconst C dX7_areBoth_27 rfl (by decide) (fun v3 => ?_)
    exact q_zret C hr hlo dX7_areBoth_28
  · refine q_aload_n C dX7_areBoth_9 rfl (lv_at hl 0 rfl) ?_
    refine q_iload_n C dX7_areBoth_10 rfl (lv_at hl 2 rfl) ?_
    refine q_i2l C dX7_areBoth_11 (fun v4 => ?_)
    refine q_c1i C (fun r h => cr_V (As := [.long v4]) (rest := []) C (m_X7_isTold l G F k0 v4 σ r h) cb_X7_isTold hk0 (by decide) rfl (cf_7 hk0 _) rfl kl_X7_435 ⟨Nat.le_of_ble_eq_true rfl, Nat.le_of_ble_eq_true rfl⟩ ⟨Nat.zero_le _, Nat.zero_le _⟩ hl.1 rfl (Nat.le_of_ble_eq_true rfl) dX7_areBoth_12 rfl) (fun v5 => ?_)
    refine q_if_eq C 27 dX7_areBoth_15 (by decide) ?_ ?_
    · refine q_iconst C dX7_areBoth_27 rfl (by decide) (fun v6 => ?_)
      exact q_zret C hr hlo dX7_areBoth_28
    · refine q_iload_n C dX7_areBoth_18 rfl (lv_at hl 1 rfl) ?_
      refine q_iload_n C dX7_areBoth_19 rfl (lv_at hl 2 rfl) ?_
      refine q_icmp_eq C 27 dX7_areBoth_20 (by decide) ?_ ?_
      · refine q_iconst C dX7_areBoth_27 rfl (by decide) (fun v7 => ?_)
        exact q_zret C hr hlo dX7_areBoth_28
      · refine q_iconst C dX7_areBoth_23 rfl (by decide) (fun v8 => ?_)
        refine q_goto C 28 dX7_areBoth_24 (by decide) ?_
        exact q_zret C hr hlo dX7_areBoth_28
def f_X7_rests_J94 (F : Nat) (k0 : Nat) (a1 : Int) (a2 : Int) (K17 : Int → Int → St → Option (Int × St))  (x18 : Int) (x19 : Int) (x20 : Int) (σ : St) : Option (Int × St) :=
  if x20 = 0 then (
    z_gt 0 fun v21 =>
    z_gt (z_or x18 v21) fun v22 =>
    z_ck (x19 + 1) fun v23 =>
    K17 v22 v23 σ)
  else (
    z_gt 1 fun v24 =>
    z_gt (z_shl v24 x19) fun v25 =>
    z_gt (z_or x18 v25) fun v26 =>
    z_ck (x19 + 1) fun v27 =>
    K17 v26 v27 σ)

def f_X7_rests_L17 (F : Nat) (k0 : Nat) (a1 : Int) (a2 : Int)   : Nat → Int → Int → St → Option (Int × St)
  | 0, _, _, _ => none
  | n + 1, x4, x5, σ =>
    z_gt 4 fun v6 =>
    if v6 ≤ x5 then (
      some (x4, σ))
    else (
      z_gt 1 fun v7 =>
      z_gt (z_and x5 v7) fun v8 =>
      z_gt 1 fun v9 =>
      z_gt (z_shr x5 v9) fun v10 =>
      z_gt 0 fun v11 =>
      z_c2 (f_X7_getsBy F k0 a1 a2 v8 v10 v11 σ) fun v12 σ1 =>
      z_gt 1 fun v13 =>
      z_ck (v13 - v8) fun v14 =>
      z_gt 0 fun v15 =>
      z_c2 (f_X7_getsBy F k0 a1 a2 v14 v10 v15 σ1) fun v16 σ2 =>
      if v12 < v16 then (
        z_gt 0 fun v17 =>
        f_X7_rests_J94 F k0 a1 a2 (f_X7_rests_L17 F k0 a1 a2 n) x4 x5 v17 σ2)
      else (
        z_gt 1 fun v28 =>
        z_c2 (f_X7_getsBy F k0 a1 a2 v8 v10 v28 σ2) fun v29 σ3 =>
        z_gt 1 fun v30 =>
        z_ck (v30 - v10) fun v31 =>
        z_gt 1 fun v32 =>
        z_c2 (f_X7_getsBy F k0 a1 a2 v8 v31 v32 σ3) fun v33 σ4 =>
        if v29 < v33 then (
          z_gt 0 fun v34 =>
          f_X7_rests_J94 F k0 a1 a2 (f_X7_rests_L17 F k0 a1 a2 n) x4 x5 v34 σ4)
        else (
          z_gt 1 fun v35 =>
          f_X7_rests_J94 F k0 a1 a2 (f_X7_rests_L17 F k0 a1 a2 n) x4 x5 v35 σ4)))

def f_X7_rests (F : Nat) (k0 : Nat) (a1 : Int) (a2 : Int) (σ : St) : Option (Int × St) :=
  z_ob 7 k0 <| 
  z_c1 (f_X7_areBoth F k0 a1 a2 σ) fun v1 =>
  if ¬ v1 = 0 then (
    z_gt 0 fun v2 =>
    z_gt 0 fun v3 =>
    f_X7_rests_L17 F k0 a1 a2 F v2 v3 σ)
  else (
    z_gt (-2) fun v36 =>
    some (v36, σ))
theorem cb_X7_rests : CB yX7_rests cX7_rests 8 (some .int) 2 := ⟨ki_X7_rests, kq_X7_rests, kn_X7, kc_X7_rests, by decide +kernel, by decide +kernel, by decide +kernel⟩
set_option maxRecDepth 20000 in
set_option maxHeartbeats 4000000 in
theorem m_X7_rests (l : Launch) (G : GG) (F : Nat) (k0 : Nat) (a1 : Int32) (a2 : Int32) (σ : St) : ∀ r, f_X7_rests F k0 a1.toInt a2.toInt σ = some r → MC G l yX7_rests cX7_rests 8 (some .int) { frames := 7, cells := 0, slots := 0, locals := 164 } [.ref (gad G k0), .int a1, .int a2] σ (vI r.1) r.2 := by
  refine MC_of (own := RX7) (fun r : Int × St => vI r.1) (fun r : Int × St => r.2) (by decide +kernel) rfl (Nat.le_of_ble_eq_true rfl) ?_
  intro p e s m args below meth c C hr hlo ls hl
  have hl : lv_has ls 8 [(0, .ref (gad G k0)), (1, .int a1), (2, .int a2)] := hl
  unfold f_X7_rests
  refine q_ob (fun hk0 => ?_)
  have B94 : ∀ (K17 : Int → Int → St → Option (Int × St)) (hK17 : ∀ (y0 : Int32) (y1 : Int32) (σ : St) (ls : Array Slot), lv_has ls 8 [(0, .ref (gad G k0)), (1, .int a1), (2, .int a2), (3, .int y0), (4, .int y1)] → Sim G (AG G) 0 0 p l e { frames := 7, cells := 0, slots := 0, locals := 164 } s m args below meth c (fun r : Int × St => MQ below (QC G (vI r.1) (r.2)) args s 0 0 (AG G)) σ (K17 y0.toInt y1.toInt σ) (F0 m 17 ls [])), ∀  (x18 : Int32) (x19 : Int32) (x20 : Int32) (σ : St) (ls : Array Slot), lv_has ls 8 [(0, .ref (gad G k0)), (1, .int a1), (2, .int a2), (3, .int x18), (4, .int x19)] → Sim G (AG G) 0 0 p l e { frames := 7, cells := 0, slots := 0, locals := 164 } s m args below meth c (fun r : Int × St => MQ below (QC G (vI r.1) (r.2)) args s 0 0 (AG G)) σ (f_X7_rests_J94 F k0 a1.toInt a2.toInt K17   x18.toInt x19.toInt x20.toInt σ) (F0 m 94 ls [.int x20]) := by
    intro K17 hK17
    intro x18 x19 x20 σ ls hl
    unfold f_X7_rests_J94
    refine q_istore C [(7, .int x20), (0, .ref (gad G k0)), (1, .int a1), (2, .int a2), (3, .int x18), (4, .int x19)] dX7_rests_94 hl (by decide) rfl (fun ls hl => ?_)
    refine q_iload_n C dX7_rests_96 rfl (lv_at hl 4 rfl) ?_
    refine q_iload C dX7_rests_97 (lv_at hl 0 rfl) ?_
    refine q_if_eq C 109 dX7_rests_99 (by decide) ?_ ?_
    · refine q_iconst C dX7_rests_109 rfl (by decide) (fun v21 => ?_)
      refine q_ior C dX7_rests_110 (fun v22 => ?_)
      refine q_istore_n C [(3, .int v22), (7, .int x20), (0, .ref (gad G k0)), (1, .int a1), (2, .int a2), (4, .int x19)] dX7_rests_111 rfl hl (by decide) rfl (fun ls hl => ?_)
      refine q_iinc (k := 5) C (fun v23 => [(4, .int v23), (3, .int v22), (7, .int x20), (0, .ref (gad G k0)), (1, .int a1), (2, .int a2)]) dX7_rests_112 hl rfl (by decide) (by decide) (fun _ => rfl) (fun v23 ls hl => ?_)
      refine q_goto C 17 dX7_rests_115 (by decide) ?_
      exact hK17 v22 v23 σ ls (lv_sub hl [3, 4, 5, 1, 0] rfl)
    · refine q_iconst C dX7_rests_102 rfl (by decide) (fun v24 => ?_)
      refine q_iload C dX7_rests_103 (lv_at hl 5 rfl) ?_
      refine q_ishl C dX7_rests_105 (fun v25 => ?_)
      refine q_goto C 110 dX7_rests_106 (by decide) ?_
      refine q_ior C dX7_rests_110 (fun v26 => ?_)
      refine q_istore_n C [(3, .int v26), (7, .int x20), (0, .ref (gad G k0)), (1, .int a1), (2, .int a2), (4, .int x19)] dX7_rests_111 rfl hl (by decide) rfl (fun ls hl => ?_)
      refine q_iinc (k := 5) C (fun v27 => [(4, .int v27), (3, .int v26), (7, .int x20), (0, .ref (gad G k0)), (1, .int a1), (2, .int a2)]) dX7_rests_112 hl rfl (by decide) (by decide) (fun _ => rfl) (fun v27 ls hl => ?_)
      refine q_goto C 17 dX7_rests_115 (by decide) ?_
      exact hK17 v26 v27 σ ls (lv_sub hl [3, 4, 5, 1, 0] rfl)
  have B17 : ∀ (n : Nat) (x4 : Int32) (x5 : Int32) (σ : St) (ls : Array Slot), lv_has ls 8 [(0, .ref (gad G k0)), (1, .int a1), (2, .int a2), (3, .int x4), (4, .int x5)] → Sim G (AG G) 0 0 p l e { frames := 7, cells := 0, slots := 0, locals := 164 } s m args below meth c (fun r : Int × St => MQ below (QC G (vI r.1) (r.2)) args s 0 0 (AG G)) σ (f_X7_rests_L17 F k0 a1.toInt a2.toInt   n x4.toInt x5.toInt σ) (F0 m 17 ls []) := by
    intro n
    induction n with
    | zero =>
      intro x4 x5 σ ls hl
      exact sim_none
    | succ n ih =>
      intro x4 x5 σ ls hl
      rw [f_X7_rests_L17]
      refine q_iload C dX7_rests_17 (lv_at hl 4 rfl) ?_
      refine q_iconst C dX7_rests_19 rfl (by decide) (fun v6 => ?_)
      refine q_icmp_ge C 118 dX7_rests_20 (by decide) ?_ ?_
      · refine q_iload_n C dX7_rests_118 rfl (lv_at hl 3 rfl) ?_
        exact q_iretE C hr hlo dX7_rests_119
      · refine q_iload C dX7_rests_23 (lv_at hl 4 rfl) ?_
        refine q_iconst C dX7_rests_25 rfl (by decide) (fun v7 => ?_)
        refine q_iand C dX7_rests_26 (fun v8 => ?_)
        refine q_istore C [(5, .int v8), (0, .ref (gad G k0)), (1, .int a1), (2, .int a2), (3, .int x4), (4, .int x5)] dX7_rests_27 hl (by decide) rfl (fun ls hl => ?_)
        refine q_iload C dX7_rests_29 (lv_at hl 5 rfl) ?_
        refine q_iconst C dX7_rests_31 rfl (by decide) (fun v9 => ?_)
        refine q_ishr C dX7_rests_32 (fun v10 => ?_)
        refine q_istore C [(6, .int v10), (5, .int v8), (0, .ref (gad G k0)), (1, .int a1), (2, .int a2), (3, .int x4), (4, .int x5)] dX7_rests_33 hl (by decide) rfl (fun ls hl => ?_)
        refine q_aload_n C dX7_rests_35 rfl (lv_at hl 2 rfl) ?_
        refine q_iload_n C dX7_rests_36 rfl (lv_at hl 3 rfl) ?_
        refine q_iload_n C dX7_rests_37 rfl (lv_at hl 4 rfl) ?_
        refine q_iload C dX7_rests_38 (lv_at hl 1 rfl) ?_
        refine q_iload C dX7_rests_40 (lv_at hl 0 rfl) ?_
        refine q_iconst C dX7_rests_42 rfl (by decide) (fun v11 => ?_)
        refine q_c2i C (fun r h => cr_V (As := [.int a1, .int a2, .int v8, .int v10, .int v11]) (rest := []) C (m_X7_getsBy l G F k0 a1 a2 v8 v10 v11 σ r h) cb_X7_getsBy hk0 (by decide) rfl (cf_7 hk0 _) rfl kl_X7_474 ⟨Nat.le_of_ble_eq_true rfl, Nat.le_of_ble_eq_true rfl⟩ ⟨Nat.zero_le _, Nat.zero_le _⟩ hl.1 rfl (Nat.le_of_ble_eq_true rfl) dX7_rests_43 rfl) (fun v12 σ1 => ?_)
        refine q_aload_n C dX7_rests_46 rfl (lv_at hl 2 rfl) ?_
        refine q_iload_n C dX7_rests_47 rfl (lv_at hl 3 rfl) ?_
        refine q_iload_n C dX7_rests_48 rfl (lv_at hl 4 rfl) ?_
        refine q_iconst C dX7_rests_49 rfl (by decide) (fun v13 => ?_)
        refine q_iload C dX7_rests_50 (lv_at hl 1 rfl) ?_
        refine q_isub C dX7_rests_52 (fun v14 => ?_)
        refine q_iload C dX7_rests_53 (lv_at hl 0 rfl) ?_
        refine q_iconst C dX7_rests_55 rfl (by decide) (fun v15 => ?_)
        refine q_c2i C (fun r h => cr_V (As := [.int a1, .int a2, .int v14, .int v10, .int v15]) (rest := [.int v12]) C (m_X7_getsBy l G F k0 a1 a2 v14 v10 v15 σ1 r h) cb_X7_getsBy hk0 (by decide) rfl (cf_7 hk0 _) rfl kl_X7_474 ⟨Nat.le_of_ble_eq_true rfl, Nat.le_of_ble_eq_true rfl⟩ ⟨Nat.zero_le _, Nat.zero_le _⟩ hl.1 rfl (Nat.le_of_ble_eq_true rfl) dX7_rests_56 rfl) (fun v16 σ2 => ?_)
        refine q_icmp_lt C 93 dX7_rests_59 (by decide) ?_ ?_
        · refine q_iconst C dX7_rests_93 rfl (by decide) (fun v17 => ?_)
          exact B94 (f_X7_rests_L17 F k0 a1.toInt a2.toInt n) ih x4 x5 v17 σ2 ls (lv_sub hl [2, 3, 4, 5, 6] rfl)
        · refine q_aload_n C dX7_rests_62 rfl (lv_at hl 2 rfl) ?_
          refine q_iload_n C dX7_rests_63 rfl (lv_at hl 3 rfl) ?_
          refine q_iload_n C dX7_rests_64 rfl (lv_at hl 4 rfl) ?_
          refine q_iload C dX7_rests_65 (lv_at hl 1 rfl) ?_
          refine q_iload C dX7_rests_67 (lv_at hl 0 rfl) ?_
          refine q_iconst C dX7_rests_69 rfl (by decide) (fun v28 => ?_)
          refine q_c2i C (fun r h => cr_V (As := [.int a1, .int a2, .int v8, .int v10, .int v28]) (rest := []) C (m_X7_getsBy l G F k0 a1 a2 v8 v10 v28 σ2 r h) cb_X7_getsBy hk0 (by decide) rfl (cf_7 hk0 _) rfl kl_X7_474 ⟨Nat.le_of_ble_eq_true rfl, Nat.le_of_ble_eq_true rfl⟩ ⟨Nat.zero_le _, Nat.zero_le _⟩ hl.1 rfl (Nat.le_of_ble_eq_true rfl) dX7_rests_70 rfl) (fun v29 σ3 => ?_)
          refine q_aload_n C dX7_rests_73 rfl (lv_at hl 2 rfl) ?_
          refine q_iload_n C dX7_rests_74 rfl (lv_at hl 3 rfl) ?_
          refine q_iload_n C dX7_rests_75 rfl (lv_at hl 4 rfl) ?_
          refine q_iload C dX7_rests_76 (lv_at hl 1 rfl) ?_
          refine q_iconst C dX7_rests_78 rfl (by decide) (fun v30 => ?_)
          refine q_iload C dX7_rests_79 (lv_at hl 0 rfl) ?_
          refine q_isub C dX7_rests_81 (fun v31 => ?_)
          refine q_iconst C dX7_rests_82 rfl (by decide) (fun v32 => ?_)
          refine q_c2i C (fun r h => cr_V (As := [.int a1, .int a2, .int v8, .int v31, .int v32]) (rest := [.int v29]) C (m_X7_getsBy l G F k0 a1 a2 v8 v31 v32 σ3 r h) cb_X7_getsBy hk0 (by decide) rfl (cf_7 hk0 _) rfl kl_X7_474 ⟨Nat.le_of_ble_eq_true rfl, Nat.le_of_ble_eq_true rfl⟩ ⟨Nat.zero_le _, Nat.zero_le _⟩ hl.1 rfl (Nat.le_of_ble_eq_true rfl) dX7_rests_83 rfl) (fun v33 σ4 => ?_)
          refine q_icmp_lt C 93 dX7_rests_86 (by decide) ?_ ?_
          · refine q_iconst C dX7_rests_93 rfl (by decide) (fun v34 => ?_)
            exact B94 (f_X7_rests_L17 F k0 a1.toInt a2.toInt n) ih x4 x5 v34 σ4 ls (lv_sub hl [2, 3, 4, 5, 6] rfl)
          · refine q_iconst C dX7_rests_89 rfl (by decide) (fun v35 => ?_)
            refine q_goto C 94 dX7_rests_90 (by decide) ?_
            exact B94 (f_X7_rests_L17 F k0 a1.toInt a2.toInt n) ih x4 x5 v35 σ4 ls (lv_sub hl [2, 3, 4, 5, 6] rfl)
  refine q_aload_n C dX7_rests_0 rfl (lv_at hl 0 rfl) ?_
  refine q_iload_n C dX7_rests_1 rfl (lv_at hl 1 rfl) ?_
  refine q_iload_n C dX7_rests_2 rfl (lv_at hl 2 rfl) ?_
  refine q_c1i C (fun r h => cr_V (As := [.int a1, .int a2]) (rest := []) C (m_X7_areBoth l G F k0 a1 a2 σ r h) cb_X7_areBoth hk0 (by decide) rfl (cf_7 hk0 _) rfl kl_X7_471 ⟨Nat.le_of_ble_eq_true rfl, Nat.le_of_ble_eq_true rfl⟩ ⟨Nat.zero_le _, Nat.zero_le _⟩ hl.1 rfl (Nat.le_of_ble_eq_true rfl) dX7_rests_3 rfl) (fun v1 => ?_)
  refine q_if_ne C 12 dX7_rests_6 (by decide) ?_ ?_
  · refine q_iconst C dX7_rests_12 rfl (by decide) (fun v2 => ?_)
    refine q_istore_n C [(3, .int v2), (0, .ref (gad G k0)), (1, .int a1), (2, .int a2)] dX7_rests_13 rfl hl (by decide) rfl (fun ls hl => ?_)
    refine q_iconst C dX7_rests_14 rfl (by decide) (fun v3 => ?_)
    refine q_istore C [(4, .int v3), (3, .int v2), (0, .ref (gad G k0)), (1, .int a1), (2, .int a2)] dX7_rests_15 hl (by decide) rfl (fun ls hl => ?_)
    exact B17 F v2 v3 σ ls (lv_sub hl [2, 3, 4, 1, 0] rfl)
  · refine q_bipush C dX7_rests_9 rfl (by decide) (fun v36 => ?_)
    exact q_iretE C hr hlo dX7_rests_11
def f_X7_gets (F : Nat) (k0 : Nat) (a1 : Int) (a2 : Int) (a3 : Int) (a4 : Int) (σ : St) : Option (Int × St) :=
  z_ob 7 k0 <| 
  z_c1 (f_X7_areBoth F k0 a1 a2 σ) fun v1 =>
  if v1 = 0 then (
    z_gt (-1000) fun v2 =>
    some (v2, σ))
  else (
    z_gt a3 fun v3 =>
    z_gt 0 fun v4 =>
    z_gt 1 fun v5 =>
    z_c1 (f_X7_in F v3 v4 v5 σ) fun v6 =>
    if v6 = 0 then (
      z_gt (-1000) fun v7 =>
      some (v7, σ))
    else (
      z_gt a4 fun v8 =>
      z_gt 0 fun v9 =>
      z_gt 1 fun v10 =>
      z_c1 (f_X7_in F v8 v9 v10 σ) fun v11 =>
      if v11 = 0 then (
        z_gt (-1000) fun v12 =>
        some (v12, σ))
      else (
        z_gt 0 fun v13 =>
        z_c2 (f_X7_getsBy F k0 a1 a2 a3 a4 v13 σ) fun v14 σ1 =>
        some (v14, σ1))))
theorem cb_X7_gets : CB yX7_gets cX7_gets 5 (some .int) 4 := ⟨ki_X7_gets, kq_X7_gets, kn_X7, kc_X7_gets, by decide +kernel, by decide +kernel, by decide +kernel⟩
set_option maxRecDepth 20000 in
set_option maxHeartbeats 4000000 in
theorem m_X7_gets (l : Launch) (G : GG) (F : Nat) (k0 : Nat) (a1 : Int32) (a2 : Int32) (a3 : Int32) (a4 : Int32) (σ : St) : ∀ r, f_X7_gets F k0 a1.toInt a2.toInt a3.toInt a4.toInt σ = some r → MC G l yX7_gets cX7_gets 5 (some .int) { frames := 7, cells := 0, slots := 0, locals := 164 } [.ref (gad G k0), .int a1, .int a2, .int a3, .int a4] σ (vI r.1) r.2 := by
  refine MC_of (own := RX7) (fun r : Int × St => vI r.1) (fun r : Int × St => r.2) (by decide +kernel) rfl (Nat.le_of_ble_eq_true rfl) ?_
  intro p e s m args below meth c C hr hlo ls hl
  have hl : lv_has ls 5 [(0, .ref (gad G k0)), (1, .int a1), (2, .int a2), (3, .int a3), (4, .int a4)] := hl
  unfold f_X7_gets
  refine q_ob (fun hk0 => ?_)
  refine q_aload_n C dX7_gets_0 rfl (lv_at hl 0 rfl) ?_
  refine q_iload_n C dX7_gets_1 rfl (lv_at hl 1 rfl) ?_
  refine q_iload_n C dX7_gets_2 rfl (lv_at hl 2 rfl) ?_
  refine q_c1i C (fun r h => cr_V (As := [.int a1, .int a2]) (rest := []) C (m_X7_areBoth l G F k0 a1 a2 σ r h) cb_X7_areBoth hk0 (by decide) rfl (cf_7 hk0 _) rfl kl_X7_471 ⟨Nat.le_of_ble_eq_true rfl, Nat.le_of_ble_eq_true rfl⟩ ⟨Nat.zero_le _, Nat.zero_le _⟩ hl.1 rfl (Nat.le_of_ble_eq_true rfl) dX7_gets_3 rfl) (fun v1 => ?_)
  refine q_if_eq C 43 dX7_gets_6 (by decide) ?_ ?_
  · refine q_sipush C dX7_gets_43 rfl (by decide) (fun v2 => ?_)
    exact q_iretE C hr hlo dX7_gets_46
  · refine q_iload_n C dX7_gets_9 rfl (lv_at hl 3 rfl) ?_
    refine q_i2l C dX7_gets_10 (fun v3 => ?_)
    refine q_lconst C dX7_gets_11 rfl (by decide) (fun v4 => ?_)
    refine q_lconst C dX7_gets_12 rfl (by decide) (fun v5 => ?_)
    refine q_c1i C (fun r h => cr_S (As := [.long v3, .long v4, .long v5]) (rest := []) C (m_X7_in l G F v3 v4 v5 σ r h) sb_X7_in kl_X7_103 ⟨Nat.le_of_ble_eq_true rfl, Nat.le_of_ble_eq_true rfl⟩ ⟨Nat.zero_le _, Nat.zero_le _⟩ hl.1 rfl (Nat.le_of_ble_eq_true rfl) dX7_gets_13 rfl) (fun v6 => ?_)
    refine q_if_eq C 43 dX7_gets_16 (by decide) ?_ ?_
    · refine q_sipush C dX7_gets_43 rfl (by decide) (fun v7 => ?_)
      exact q_iretE C hr hlo dX7_gets_46
    · refine q_iload C dX7_gets_19 (lv_at hl 4 rfl) ?_
      refine q_i2l C dX7_gets_21 (fun v8 => ?_)
      refine q_lconst C dX7_gets_22 rfl (by decide) (fun v9 => ?_)
      refine q_lconst C dX7_gets_23 rfl (by decide) (fun v10 => ?_)
      refine q_c1i C (fun r h => cr_S (As := [.long v8, .long v9, .long v10]) (rest := []) C (m_X7_in l G F v8 v9 v10 σ r h) sb_X7_in kl_X7_103 ⟨Nat.le_of_ble_eq_true rfl, Nat.le_of_ble_eq_true rfl⟩ ⟨Nat.zero_le _, Nat.zero_le _⟩ hl.1 rfl (Nat.le_of_ble_eq_true rfl) dX7_gets_24 rfl) (fun v11 => ?_)
      refine q_if_eq C 43 dX7_gets_27 (by decide) ?_ ?_
      · refine q_sipush C dX7_gets_43 rfl (by decide) (fun v12 => ?_)
        exact q_iretE C hr hlo dX7_gets_46
      · refine q_aload_n C dX7_gets_30 rfl (lv_at hl 0 rfl) ?_
        refine q_iload_n C dX7_gets_31 rfl (lv_at hl 1 rfl) ?_
        refine q_iload_n C dX7_gets_32 rfl (lv_at hl 2 rfl) ?_
        refine q_iload_n C dX7_gets_33 rfl (lv_at hl 3 rfl) ?_
        refine q_iload C dX7_gets_34 (lv_at hl 4 rfl) ?_
        refine q_iconst C dX7_gets_36 rfl (by decide) (fun v13 => ?_)
        refine q_c2i C (fun r h => cr_V (As := [.int a1, .int a2, .int a3, .int a4, .int v13]) (rest := []) C (m_X7_getsBy l G F k0 a1 a2 a3 a4 v13 σ r h) cb_X7_getsBy hk0 (by decide) rfl (cf_7 hk0 _) rfl kl_X7_474 ⟨Nat.le_of_ble_eq_true rfl, Nat.le_of_ble_eq_true rfl⟩ ⟨Nat.zero_le _, Nat.zero_le _⟩ hl.1 rfl (Nat.le_of_ble_eq_true rfl) dX7_gets_37 rfl) (fun v14 σ1 => ?_)
        refine q_goto C 46 dX7_gets_40 (by decide) ?_
        exact q_iretE C hr hlo dX7_gets_46
def f_X7_layChance_J164 (F : Nat) (k0 : Nat) (a1 : Int) (a2 : Int) (K17 : Int → St → Option (St))  (x23 : Int) (x24 : Int) (x25 : Int) (x26 : Int) (x27 : Nat) (σ : St) : Option (St) :=
  z_lk (x26 + x25) fun v28 =>
  z_ck v28 fun _ => z_sg (z_up σ x27 38 v28) fun σ7 =>
  z_gt (σ7 k0 39) fun v29 =>
  z_gt 0 fun v30 =>
  z_gt 32 fun v31 =>
  z_c1 (f_X7_events F k0 σ7) fun v32 =>
  z_c1 (f_X7_dirtyFrom F k0 v30 v31 v32 σ7) fun v33 =>
  z_gt v33 fun v34 =>
  z_lk (x24 * v34) fun v35 =>
  z_lk (v29 + v35) fun v36 =>
  z_ck v36 fun _ => z_sg (z_up σ7 k0 39 v36) fun σ8 =>
  z_ck (x23 + 1) fun v37 =>
  K17 v37 σ8

def f_X7_layChance_J68 (F : Nat) (k0 : Nat) (a1 : Int) (a2 : Int) (K17 : Int → St → Option (St)) (K34 : Int → Int → Int → St → Option (St))  (x46 : Int) (x47 : Int) (x48 : Int) (x49 : Int) (x50 : Int) (x51 : Nat) (σ : St) : Option (St) :=
  z_ix x50 (lnX x51) <| z_bo x49 <| z_sg (z_up σ x51 x50 x49) fun σ9 =>
  z_c1 (f_X7_bit F x46 x48 σ9) fun v52 =>
  z_gt 1 fun v53 =>
  if ¬ v52 = v53 then (
    z_gt 10 fun v54 =>
    z_gt 2 fun v55 =>
    z_ix v55 246 <| z_gt (σ9 (k0 + 1) v55) fun v56 =>
    z_ck (v54 - v56) fun v57 =>
    z_gt v57 fun v58 =>
    z_lk (x47 * v58) fun v59 =>
    z_ck (x48 + 1) fun v60 =>
    K34 x46 v59 v60 σ9)
  else (
    z_gt 2 fun v61 =>
    z_ix v61 246 <| z_gt (σ9 (k0 + 1) v61) fun v62 =>
    z_gt v62 fun v63 =>
    z_lk (x47 * v63) fun v64 =>
    z_ck (x48 + 1) fun v65 =>
    K34 x46 v64 v65 σ9)

def f_X7_layChance_L34 (F : Nat) (k0 : Nat) (a1 : Int) (a2 : Int) (K17 : Int → St → Option (St))  : Nat → Int → Int → Int → St → Option (St)
  | 0, _, _, _, _ => none
  | n + 1, x10, x11, x12, σ =>
    if a1 ≤ x12 then (
      z_gt 0 fun v13 =>
      z_gt (z_cmp x11 v13) fun v14 =>
      if ¬ v14 = 0 then (
        z_gt 1 fun v15 =>
        z_ix v15 246 <| z_gt (σ (k0 + 1) v15) fun v16 =>
        z_c1 (f_X7_layAll F k0 v16 σ) fun σ5 =>
        z_gt (σ5 k0 37) fun v17 =>
        z_lk (v17 + x11) fun v18 =>
        z_ck v18 fun _ => z_sg (z_up σ5 k0 37 v18) fun σ6 =>
        z_gt (σ6 k0 38) fun v19 =>
        z_c1 (f_X7_events F k0 σ6) fun v20 =>
        z_c1 (f_X7_isDirtyAt F k0 a2 v20 σ6) fun v21 =>
        if v21 = 0 then (
          z_gt 0 fun v22 =>
          f_X7_layChance_J164 F k0 a1 a2 K17 x10 x11 v22 v19 k0 σ6)
        else (
          f_X7_layChance_J164 F k0 a1 a2 K17 x10 x11 x11 v19 k0 σ6))
      else (
        z_ck (x10 + 1) fun v38 =>
        K17 v38 σ))
    else (
      z_c1 (f_X7_events F k0 σ) fun v39 =>
      z_gt 1 fun v40 =>
      z_ck (v39 - v40) fun v41 =>
      z_ck (v41 - x12) fun v42 =>
      z_c1 (f_X7_bit F x10 x12 σ) fun v43 =>
      z_gt 1 fun v44 =>
      if ¬ v43 = v44 then (
        z_gt 0 fun v45 =>
        f_X7_layChance_J68 F k0 a1 a2 K17 (f_X7_layChance_L34 F k0 a1 a2 K17 n) x10 x11 x12 v45 v42 (k0 + 7) σ)
      else (
        z_gt 1 fun v66 =>
        f_X7_layChance_J68 F k0 a1 a2 K17 (f_X7_layChance_L34 F k0 a1 a2 K17 n) x10 x11 x12 v66 v42 (k0 + 7) σ))

def f_X7_layChance_L17 (F : Nat) (k0 : Nat) (a1 : Int) (a2 : Int)   : Nat → Int → St → Option (St)
  | 0, _, _ => none
  | n + 1, x5, σ =>
    z_gt 1 fun v6 =>
    z_gt (z_shl v6 a1) fun v7 =>
    if v7 ≤ x5 then (
      some σ)
    else (
      z_gt 1 fun v8 =>
      z_c1 (f_X7_nothingGone F k0 σ) fun σ4 =>
      z_gt 0 fun v9 =>
      f_X7_layChance_L34 F k0 a1 a2 (f_X7_layChance_L17 F k0 a1 a2 n) F x5 v8 v9 σ4)

def f_X7_layChance (F : Nat) (k0 : Nat) (a1 : Int) (a2 : Int) (σ : St) : Option (St) :=
  z_ob 7 k0 <| 
  z_gt 0 fun v1 =>
  z_ck v1 fun _ => z_sg (z_up σ k0 37 v1) fun σ1 =>
  z_gt 0 fun v2 =>
  z_ck v2 fun _ => z_sg (z_up σ1 k0 38 v2) fun σ2 =>
  z_gt 0 fun v3 =>
  z_ck v3 fun _ => z_sg (z_up σ2 k0 39 v3) fun σ3 =>
  z_gt 0 fun v4 =>
  f_X7_layChance_L17 F k0 a1 a2 F v4 σ3
theorem cb_X7_layChance : CB yX7_layChance cX7_layChance 7 none 2 := ⟨ki_X7_layChance, kq_X7_layChance, kn_X7, kc_X7_layChance, by decide +kernel, by decide +kernel, by decide +kernel⟩
set_option maxRecDepth 20000 in
set_option maxHeartbeats 4000000 in
theorem m_X7_layChance (l : Launch) (G : GG) (F : Nat) (k0 : Nat) (a1 : Int32) (a2 : Int32) (σ : St) : ∀ r, f_X7_layChance F k0 a1.toInt a2.toInt σ = some r → MC G l yX7_layChance cX7_layChance 7 none { frames := 6, cells := 0, slots := 0, locals := 137 } [.ref (gad G k0), .int a1, .int a2] σ vV r := by
  refine MC_of (own := RX7) (fun _ => vV) (fun r => r) (by decide +kernel) rfl (Nat.le_of_ble_eq_true rfl) ?_
  intro p e s m args below meth c C hr hlo ls hl
  have hl : lv_has ls 7 [(0, .ref (gad G k0)), (1, .int a1), (2, .int a2)] := hl
  unfold f_X7_layChance
  refine q_ob (fun hk0 => ?_)
  have B164 : ∀ (K17 : Int → St → Option (St)) (hK17 : ∀ (y0 : Int32) (σ : St) (ls : Array Slot), lv_has ls 7 [(0, .ref (gad G k0)), (1, .int a1), (2, .int a2), (3, .int y0)] → Sim G (AG G) 0 0 p l e { frames := 6, cells := 0, slots := 0, locals := 137 } s m args below meth c (fun r : St => MQ below (QC G (vV) (r)) args s 0 0 (AG G)) σ (K17 y0.toInt σ) (F0 m 17 ls [])), ∀  (x23 : Int32) (x24 : Int64) (x25 : Int64) (x26 : Int64) (x27 : Nat) (σ : St) (ls : Array Slot), lv_has ls 7 [(0, .ref (gad G k0)), (1, .int a1), (2, .int a2), (3, .int x23), (4, .long x24)] → kdX x27 = 7 → Sim G (AG G) 0 0 p l e { frames := 6, cells := 0, slots := 0, locals := 137 } s m args below meth c (fun r : St => MQ below (QC G (vV) (r)) args s 0 0 (AG G)) σ (f_X7_layChance_J164 F k0 a1.toInt a2.toInt K17   x23.toInt x24.toInt x25.toInt x26.toInt x27 σ) (F0 m 164 ls [.long x25, .long x26, .ref (gad G x27)]) := by
    intro K17 hK17
    intro x23 x24 x25 x26 x27 σ ls hl hx27
    unfold f_X7_layChance_J164
    refine q_ladd C dX7_layChance_164 (fun v28 => ?_)
    refine p_7_38 C hx27 kf_X7_482 dX7_layChance_165 (q_sg (fun σ7 => ?_))
    refine q_aload_n C dX7_layChance_168 rfl (lv_at hl 0 rfl) ?_
    refine q_dup C dX7_layChance_169 rfl ?_
    refine g_7_39 C hk0 kf_X7_485 dX7_layChance_170 (fun v29 => ?_)
    refine q_lload C dX7_layChance_173 (lv_at hl 4 rfl) ?_
    refine q_aload_n C dX7_layChance_175 rfl (lv_at hl 0 rfl) ?_
    refine q_iconst C dX7_layChance_176 rfl (by decide) (fun v30 => ?_)
    refine q_bipush C dX7_layChance_177 rfl (by decide) (fun v31 => ?_)
    refine q_aload_n C dX7_layChance_179 rfl (lv_at hl 0 rfl) ?_
    refine q_c1i C (fun r h => cr_V (As := []) (rest := [.int v31, .int v30, .ref (gad G k0), .long x24, .long v29, .ref (gad G k0)]) C (m_X7_events l G F k0 σ7 r h) cb_X7_events hk0 (by decide) rfl (cf_7 hk0 _) rfl kl_X7_111 ⟨Nat.le_of_ble_eq_true rfl, Nat.le_of_ble_eq_true rfl⟩ ⟨Nat.zero_le _, Nat.zero_le _⟩ hl.1 rfl (Nat.le_of_ble_eq_true rfl) dX7_layChance_180 rfl) (fun v32 => ?_)
    refine q_c1i C (fun r h => cr_V (As := [.int v30, .int v31, .int v32]) (rest := [.long x24, .long v29, .ref (gad G k0)]) C (m_X7_dirtyFrom l G F k0 v30 v31 v32 σ7 r h) cb_X7_dirtyFrom hk0 (by decide) rfl (cf_7 hk0 _) rfl kl_X7_340 ⟨Nat.le_of_ble_eq_true rfl, Nat.le_of_ble_eq_true rfl⟩ ⟨Nat.zero_le _, Nat.zero_le _⟩ hl.1 rfl (Nat.le_of_ble_eq_true rfl) dX7_layChance_183 rfl) (fun v33 => ?_)
    refine q_i2l C dX7_layChance_186 (fun v34 => ?_)
    refine q_lmul C dX7_layChance_187 (fun v35 => ?_)
    refine q_ladd C dX7_layChance_188 (fun v36 => ?_)
    refine p_7_39 C hk0 kf_X7_485 dX7_layChance_189 (q_sg (fun σ8 => ?_))
    refine q_iinc (k := 3) C (fun v37 => [(3, .int v37), (0, .ref (gad G k0)), (1, .int a1), (2, .int a2), (4, .long x24)]) dX7_layChance_192 hl rfl (by decide) (by decide) (fun _ => rfl) (fun v37 ls hl => ?_)
    refine q_goto C 17 dX7_layChance_195 (by decide) ?_
    exact hK17 v37 σ8 ls (lv_sub hl [1, 2, 3, 0] rfl)
  have B68 : ∀ (K17 : Int → St → Option (St)) (hK17 : ∀ (y0 : Int32) (σ : St) (ls : Array Slot), lv_has ls 7 [(0, .ref (gad G k0)), (1, .int a1), (2, .int a2), (3, .int y0)] → Sim G (AG G) 0 0 p l e { frames := 6, cells := 0, slots := 0, locals := 137 } s m args below meth c (fun r : St => MQ below (QC G (vV) (r)) args s 0 0 (AG G)) σ (K17 y0.toInt σ) (F0 m 17 ls [])) (K34 : Int → Int → Int → St → Option (St)) (hK34 : ∀ (y0 : Int32) (y1 : Int64) (y2 : Int32) (σ : St) (ls : Array Slot), lv_has ls 7 [(0, .ref (gad G k0)), (1, .int a1), (2, .int a2), (3, .int y0), (4, .long y1), (6, .int y2)] → Sim G (AG G) 0 0 p l e { frames := 6, cells := 0, slots := 0, locals := 137 } s m args below meth c (fun r : St => MQ below (QC G (vV) (r)) args s 0 0 (AG G)) σ (K34 y0.toInt y1.toInt y2.toInt σ) (F0 m 34 ls [])), ∀  (x46 : Int32) (x47 : Int64) (x48 : Int32) (x49 : Int32) (x50 : Int32) (x51 : Nat) (σ : St) (ls : Array Slot), lv_has ls 7 [(0, .ref (gad G k0)), (1, .int a1), (2, .int a2), (3, .int x46), (4, .long x47), (6, .int x48)] → kdX x51 = 11 → Sim G (AG G) 0 0 p l e { frames := 6, cells := 0, slots := 0, locals := 137 } s m args below meth c (fun r : St => MQ below (QC G (vV) (r)) args s 0 0 (AG G)) σ (f_X7_layChance_J68 F k0 a1.toInt a2.toInt K17 K34   x46.toInt x47.toInt x48.toInt x49.toInt x50.toInt x51 σ) (F0 m 68 ls [.int x49, .int x50, .ref (gad G x51)]) := by
    intro K17 hK17 K34 hK34
    intro x46 x47 x48 x49 x50 x51 σ ls hl hx51
    unfold f_X7_layChance_J68
    refine a_zst C hx51 rfl dX7_layChance_68 (q_sg (fun σ9 => ?_))
    refine q_lload C dX7_layChance_69 (lv_at hl 4 rfl) ?_
    refine q_iload_n C dX7_layChance_71 rfl (lv_at hl 3 rfl) ?_
    refine q_iload C dX7_layChance_72 (lv_at hl 5 rfl) ?_
    refine q_c1i C (fun r h => cr_S (As := [.int x46, .int x48]) (rest := [.long x47]) C (m_X7_bit l G F x46 x48 σ9 r h) sb_X7_bit kl_X7_443 ⟨Nat.le_of_ble_eq_true rfl, Nat.le_of_ble_eq_true rfl⟩ ⟨Nat.zero_le _, Nat.zero_le _⟩ hl.1 rfl (Nat.le_of_ble_eq_true rfl) dX7_layChance_74 rfl) (fun v52 => ?_)
    refine q_iconst C dX7_layChance_77 rfl (by decide) (fun v53 => ?_)
    refine q_icmp_ne C 91 dX7_layChance_78 (by decide) ?_ ?_
    · refine q_bipush C dX7_layChance_91 rfl (by decide) (fun v54 => ?_)
      refine q_aload_n C dX7_layChance_93 rfl (lv_at hl 0 rfl) ?_
      refine g_7_1 C hk0 kf_X7_9 dX7_layChance_94 ?_
      refine q_iconst C dX7_layChance_97 rfl (by decide) (fun v55 => ?_)
      refine a_ild C (yk_7_1 hk0) (yl_7_1 hk0) dX7_layChance_98 (fun v56 => ?_)
      refine q_isub C dX7_layChance_99 (fun v57 => ?_)
      refine q_i2l C dX7_layChance_100 (fun v58 => ?_)
      refine q_lmul C dX7_layChance_101 (fun v59 => ?_)
      refine q_lstore C [(4, .long v59), (0, .ref (gad G k0)), (1, .int a1), (2, .int a2), (3, .int x46), (6, .int x48)] dX7_layChance_102 hl (by decide) rfl (fun ls hl => ?_)
      refine q_iinc (k := 5) C (fun v60 => [(6, .int v60), (4, .long v59), (0, .ref (gad G k0)), (1, .int a1), (2, .int a2), (3, .int x46)]) dX7_layChance_104 hl rfl (by decide) (by decide) (fun _ => rfl) (fun v60 ls hl => ?_)
      refine q_goto C 34 dX7_layChance_107 (by decide) ?_
      exact hK34 x46 v59 v60 σ9 ls (lv_sub hl [2, 3, 4, 5, 1, 0] rfl)
    · refine q_aload_n C dX7_layChance_81 rfl (lv_at hl 0 rfl) ?_
      refine g_7_1 C hk0 kf_X7_9 dX7_layChance_82 ?_
      refine q_iconst C dX7_layChance_85 rfl (by decide) (fun v61 => ?_)
      refine a_ild C (yk_7_1 hk0) (yl_7_1 hk0) dX7_layChance_86 (fun v62 => ?_)
      refine q_i2l C dX7_layChance_87 (fun v63 => ?_)
      refine q_goto C 101 dX7_layChance_88 (by decide) ?_
      refine q_lmul C dX7_layChance_101 (fun v64 => ?_)
      refine q_lstore C [(4, .long v64), (0, .ref (gad G k0)), (1, .int a1), (2, .int a2), (3, .int x46), (6, .int x48)] dX7_layChance_102 hl (by decide) rfl (fun ls hl => ?_)
      refine q_iinc (k := 5) C (fun v65 => [(6, .int v65), (4, .long v64), (0, .ref (gad G k0)), (1, .int a1), (2, .int a2), (3, .int x46)]) dX7_layChance_104 hl rfl (by decide) (by decide) (fun _ => rfl) (fun v65 ls hl => ?_)
      refine q_goto C 34 dX7_layChance_107 (by decide) ?_
      exact hK34 x46 v64 v65 σ9 ls (lv_sub hl [2, 3, 4, 5, 1, 0] rfl)
  have B34 : ∀ (K17 : Int → St → Option (St)) (hK17 : ∀ (y0 : Int32) (σ : St) (ls : Array Slot), lv_has ls 7 [(0, .ref (gad G k0)), (1, .int a1), (2, .int a2), (3, .int y0)] → Sim G (AG G) 0 0 p l e { frames := 6, cells := 0, slots := 0, locals := 137 } s m args below meth c (fun r : St => MQ below (QC G (vV) (r)) args s 0 0 (AG G)) σ (K17 y0.toInt σ) (F0 m 17 ls [])), ∀ (n : Nat) (x10 : Int32) (x11 : Int64) (x12 : Int32) (σ : St) (ls : Array Slot), lv_has ls 7 [(0, .ref (gad G k0)), (1, .int a1), (2, .int a2), (3, .int x10), (4, .long x11), (6, .int x12)] → Sim G (AG G) 0 0 p l e { frames := 6, cells := 0, slots := 0, locals := 137 } s m args below meth c (fun r : St => MQ below (QC G (vV) (r)) args s 0 0 (AG G)) σ (f_X7_layChance_L34 F k0 a1.toInt a2.toInt K17  n x10.toInt x11.toInt x12.toInt σ) (F0 m 34 ls []) := by
    intro K17 hK17
    intro n
    induction n with
    | zero =>
      intro x10 x11 x12 σ ls hl
      exact sim_none
    | succ n ih =>
      intro x10 x11 x12 σ ls hl
      rw [f_X7_layChance_L34]
      refine q_iload C dX7_layChance_34 (lv_at hl 5 rfl) ?_
      refine q_iload_n C dX7_layChance_36 rfl (lv_at hl 1 rfl) ?_
      refine q_icmp_ge C 110 dX7_layChance_37 (by decide) ?_ ?_
      · refine q_lload C dX7_layChance_110 (lv_at hl 4 rfl) ?_
        refine q_lconst C dX7_layChance_112 rfl (by decide) (fun v13 => ?_)
        refine q_lcmp C dX7_layChance_113 (fun v14 => ?_)
        refine q_if_ne C 120 dX7_layChance_114 (by decide) ?_ ?_
        · refine q_aload_n C dX7_layChance_120 rfl (lv_at hl 0 rfl) ?_
          refine q_aload_n C dX7_layChance_121 rfl (lv_at hl 0 rfl) ?_
          refine g_7_1 C hk0 kf_X7_9 dX7_layChance_122 ?_
          refine q_iconst C dX7_layChance_125 rfl (by decide) (fun v15 => ?_)
          refine a_ild C (yk_7_1 hk0) (yl_7_1 hk0) dX7_layChance_126 (fun v16 => ?_)
          refine q_cv C (fun r h => cr_V (As := [.int v16]) (rest := []) C (m_X7_layAll l G F k0 v16 σ r h) cb_X7_layAll hk0 (by decide) rfl (cf_7 hk0 _) rfl kl_X7_313 ⟨Nat.le_of_ble_eq_true rfl, Nat.le_of_ble_eq_true rfl⟩ ⟨Nat.zero_le _, Nat.zero_le _⟩ hl.1 rfl (Nat.le_of_ble_eq_true rfl) dX7_layChance_127 rfl) (fun σ5 => ?_)
          refine q_aload_n C dX7_layChance_130 rfl (lv_at hl 0 rfl) ?_
          refine q_dup C dX7_layChance_131 rfl ?_
          refine g_7_37 C hk0 kf_X7_478 dX7_layChance_132 (fun v17 => ?_)
          refine q_lload C dX7_layChance_135 (lv_at hl 4 rfl) ?_
          refine q_ladd C dX7_layChance_137 (fun v18 => ?_)
          refine p_7_37 C hk0 kf_X7_478 dX7_layChance_138 (q_sg (fun σ6 => ?_))
          refine q_aload_n C dX7_layChance_141 rfl (lv_at hl 0 rfl) ?_
          refine q_dup C dX7_layChance_142 rfl ?_
          refine g_7_38 C hk0 kf_X7_482 dX7_layChance_143 (fun v19 => ?_)
          refine q_aload_n C dX7_layChance_146 rfl (lv_at hl 0 rfl) ?_
          refine q_iload_n C dX7_layChance_147 rfl (lv_at hl 2 rfl) ?_
          refine q_aload_n C dX7_layChance_148 rfl (lv_at hl 0 rfl) ?_
          refine q_c1i C (fun r h => cr_V (As := []) (rest := [.int a2, .ref (gad G k0), .long v19, .ref (gad G k0)]) C (m_X7_events l G F k0 σ6 r h) cb_X7_events hk0 (by decide) rfl (cf_7 hk0 _) rfl kl_X7_111 ⟨Nat.le_of_ble_eq_true rfl, Nat.le_of_ble_eq_true rfl⟩ ⟨Nat.zero_le _, Nat.zero_le _⟩ hl.1 rfl (Nat.le_of_ble_eq_true rfl) dX7_layChance_149 rfl) (fun v20 => ?_)
          refine q_c1i C (fun r h => cr_V (As := [.int a2, .int v20]) (rest := [.long v19, .ref (gad G k0)]) C (m_X7_isDirtyAt l G F k0 a2 v20 σ6 r h) cb_X7_isDirtyAt hk0 (by decide) rfl (cf_7 hk0 _) rfl kl_X7_283 ⟨Nat.le_of_ble_eq_true rfl, Nat.le_of_ble_eq_true rfl⟩ ⟨Nat.zero_le _, Nat.zero_le _⟩ hl.1 rfl (Nat.le_of_ble_eq_true rfl) dX7_layChance_152 rfl) (fun v21 => ?_)
          refine q_if_eq C 163 dX7_layChance_155 (by decide) ?_ ?_
          · refine q_lconst C dX7_layChance_163 rfl (by decide) (fun v22 => ?_)
            exact B164 K17 hK17 x10 x11 v22 v19 k0 σ6 ls (lv_sub hl [0, 1, 2, 3, 4] rfl) hk0
          · refine q_lload C dX7_layChance_158 (lv_at hl 4 rfl) ?_
            refine q_goto C 164 dX7_layChance_160 (by decide) ?_
            exact B164 K17 hK17 x10 x11 x11 v19 k0 σ6 ls (lv_sub hl [0, 1, 2, 3, 4] rfl) hk0
        · refine q_goto C 192 dX7_layChance_117 (by decide) ?_
          refine q_iinc (k := 3) C (fun v38 => [(3, .int v38), (0, .ref (gad G k0)), (1, .int a1), (2, .int a2), (4, .long x11), (6, .int x12)]) dX7_layChance_192 hl rfl (by decide) (by decide) (fun _ => rfl) (fun v38 ls hl => ?_)
          refine q_goto C 17 dX7_layChance_195 (by decide) ?_
          exact hK17 v38 σ ls (lv_sub hl [1, 2, 3, 0] rfl)
      · refine q_aload_n C dX7_layChance_40 rfl (lv_at hl 0 rfl) ?_
        refine g_7_15 C hk0 kf_X7_34 dX7_layChance_41 ?_
        refine q_aload_n C dX7_layChance_44 rfl (lv_at hl 0 rfl) ?_
        refine q_c1i C (fun r h => cr_V (As := []) (rest := [.ref (gad G (k0 + 7))]) C (m_X7_events l G F k0 σ r h) cb_X7_events hk0 (by decide) rfl (cf_7 hk0 _) rfl kl_X7_111 ⟨Nat.le_of_ble_eq_true rfl, Nat.le_of_ble_eq_true rfl⟩ ⟨Nat.zero_le _, Nat.zero_le _⟩ hl.1 rfl (Nat.le_of_ble_eq_true rfl) dX7_layChance_45 rfl) (fun v39 => ?_)
        refine q_iconst C dX7_layChance_48 rfl (by decide) (fun v40 => ?_)
        refine q_isub C dX7_layChance_49 (fun v41 => ?_)
        refine q_iload C dX7_layChance_50 (lv_at hl 5 rfl) ?_
        refine q_isub C dX7_layChance_52 (fun v42 => ?_)
        refine q_iload_n C dX7_layChance_53 rfl (lv_at hl 3 rfl) ?_
        refine q_iload C dX7_layChance_54 (lv_at hl 5 rfl) ?_
        refine q_c1i C (fun r h => cr_S (As := [.int x10, .int x12]) (rest := [.int v42, .ref (gad G (k0 + 7))]) C (m_X7_bit l G F x10 x12 σ r h) sb_X7_bit kl_X7_443 ⟨Nat.le_of_ble_eq_true rfl, Nat.le_of_ble_eq_true rfl⟩ ⟨Nat.zero_le _, Nat.zero_le _⟩ hl.1 rfl (Nat.le_of_ble_eq_true rfl) dX7_layChance_56 rfl) (fun v43 => ?_)
        refine q_iconst C dX7_layChance_59 rfl (by decide) (fun v44 => ?_)
        refine q_icmp_ne C 67 dX7_layChance_60 (by decide) ?_ ?_
        · refine q_iconst C dX7_layChance_67 rfl (by decide) (fun v45 => ?_)
          exact B68 K17 hK17 (f_X7_layChance_L34 F k0 a1.toInt a2.toInt K17 n) ih x10 x11 x12 v45 v42 (k0 + 7) σ ls (lv_sub hl [0, 1, 2, 3, 4, 5] rfl) (yk_7_15 hk0)
        · refine q_iconst C dX7_layChance_63 rfl (by decide) (fun v66 => ?_)
          refine q_goto C 68 dX7_layChance_64 (by decide) ?_
          exact B68 K17 hK17 (f_X7_layChance_L34 F k0 a1.toInt a2.toInt K17 n) ih x10 x11 x12 v66 v42 (k0 + 7) σ ls (lv_sub hl [0, 1, 2, 3, 4, 5] rfl) (yk_7_15 hk0)
  have B17 : ∀ (n : Nat) (x5 : Int32) (σ : St) (ls : Array Slot), lv_has ls 7 [(0, .ref (gad G k0)), (1, .int a1), (2, .int a2), (3, .int x5)] → Sim G (AG G) 0 0 p l e { frames := 6, cells := 0, slots := 0, locals := 137 } s m args below meth c (fun r : St => MQ below (QC G (vV) (r)) args s 0 0 (AG G)) σ (f_X7_layChance_L17 F k0 a1.toInt a2.toInt   n x5.toInt σ) (F0 m 17 ls []) := by
    intro n
    induction n with
    | zero =>
      intro x5 σ ls hl
      exact sim_none
    | succ n ih =>
      intro x5 σ ls hl
      rw [f_X7_layChance_L17]
      refine q_iload_n C dX7_layChance_17 rfl (lv_at hl 3 rfl) ?_
      refine q_iconst C dX7_layChance_18 rfl (by decide) (fun v6 => ?_)
      refine q_iload_n C dX7_layChance_19 rfl (lv_at hl 1 rfl) ?_
      refine q_ishl C dX7_layChance_20 (fun v7 => ?_)
      refine q_icmp_ge C 198 dX7_layChance_21 (by decide) ?_ ?_
      · exact q_vretE C hr hlo dX7_layChance_198
      · refine q_lconst C dX7_layChance_24 rfl (by decide) (fun v8 => ?_)
        refine q_lstore C [(4, .long v8), (0, .ref (gad G k0)), (1, .int a1), (2, .int a2), (3, .int x5)] dX7_layChance_25 hl (by decide) rfl (fun ls hl => ?_)
        refine q_aload_n C dX7_layChance_27 rfl (lv_at hl 1 rfl) ?_
        refine q_cv C (fun r h => cr_V (As := []) (rest := []) C (m_X7_nothingGone l G F k0 σ r h) cb_X7_nothingGone hk0 (by decide) rfl (cf_7 hk0 _) rfl kl_X7_310 ⟨Nat.le_of_ble_eq_true rfl, Nat.le_of_ble_eq_true rfl⟩ ⟨Nat.zero_le _, Nat.zero_le _⟩ hl.1 rfl (Nat.le_of_ble_eq_true rfl) dX7_layChance_28 rfl) (fun σ4 => ?_)
        refine q_iconst C dX7_layChance_31 rfl (by decide) (fun v9 => ?_)
        refine q_istore C [(6, .int v9), (4, .long v8), (0, .ref (gad G k0)), (1, .int a1), (2, .int a2), (3, .int x5)] dX7_layChance_32 hl (by decide) rfl (fun ls hl => ?_)
        exact B34 (f_X7_layChance_L17 F k0 a1.toInt a2.toInt n) ih F x5 v8 v9 σ4 ls (lv_sub hl [2, 3, 4, 5, 1, 0] rfl)
  refine q_aload_n C dX7_layChance_0 rfl (lv_at hl 0 rfl) ?_
  refine q_lconst C dX7_layChance_1 rfl (by decide) (fun v1 => ?_)
  refine p_7_37 C hk0 kf_X7_478 dX7_layChance_2 (q_sg (fun σ1 => ?_))
  refine q_aload_n C dX7_layChance_5 rfl (lv_at hl 0 rfl) ?_
  refine q_lconst C dX7_layChance_6 rfl (by decide) (fun v2 => ?_)
  refine p_7_38 C hk0 kf_X7_482 dX7_layChance_7 (q_sg (fun σ2 => ?_))
  refine q_aload_n C dX7_layChance_10 rfl (lv_at hl 0 rfl) ?_
  refine q_lconst C dX7_layChance_11 rfl (by decide) (fun v3 => ?_)
  refine p_7_39 C hk0 kf_X7_485 dX7_layChance_12 (q_sg (fun σ3 => ?_))
  refine q_iconst C dX7_layChance_15 rfl (by decide) (fun v4 => ?_)
  refine q_istore_n C [(3, .int v4), (0, .ref (gad G k0)), (1, .int a1), (2, .int a2)] dX7_layChance_16 rfl hl (by decide) rfl (fun ls hl => ?_)
  exact B17 F v4 σ3 ls (lv_sub hl [1, 2, 3, 0] rfl)
def f_X7_asksChance (F : Nat) (k0 : Nat) (a1 : Int) (a2 : Int) (a3 : Int) (σ : St) : Option (Int × St) :=
  z_ob 7 k0 <| 
  z_gt a1 fun v1 =>
  z_c1 (f_X7_isCell F k0 v1 σ) fun v2 =>
  if v2 = 0 then (
    z_gt 0 fun v3 =>
    z_bo v3 <| some (v3, σ))
  else (
    z_gt a2 fun v4 =>
    z_gt 0 fun v5 =>
    z_gt 6 fun v6 =>
    z_c1 (f_X7_in F v4 v5 v6 σ) fun v7 =>
    if v7 = 0 then (
      z_gt 0 fun v8 =>
      z_bo v8 <| some (v8, σ))
    else (
      z_c1 (f_X7_events F k0 σ) fun v9 =>
      if v9 < a2 then (
        z_gt 0 fun v10 =>
        z_bo v10 <| some (v10, σ))
      else (
        z_gt a3 fun v11 =>
        z_gt 0 fun v12 =>
        z_gt 1 fun v13 =>
        z_c1 (f_X7_in F v11 v12 v13 σ) fun v14 =>
        if ¬ v14 = 0 then (
          z_c1 (f_X7_layChance F k0 a2 a1 σ) fun σ1 =>
          z_gt 1 fun v15 =>
          z_bo v15 <| some (v15, σ1))
        else (
          z_gt 0 fun v16 =>
          z_bo v16 <| some (v16, σ)))))
theorem cb_X7_asksChance : CB yX7_asksChance cX7_asksChance 4 (some .boolean) 3 := ⟨ki_X7_asksChance, kq_X7_asksChance, kn_X7, kc_X7_asksChance, by decide +kernel, by decide +kernel, by decide +kernel⟩
set_option maxRecDepth 20000 in
set_option maxHeartbeats 4000000 in
theorem m_X7_asksChance (l : Launch) (G : GG) (F : Nat) (k0 : Nat) (a1 : Int32) (a2 : Int32) (a3 : Int32) (σ : St) : ∀ r, f_X7_asksChance F k0 a1.toInt a2.toInt a3.toInt σ = some r → MC G l yX7_asksChance cX7_asksChance 4 (some .boolean) { frames := 7, cells := 0, slots := 0, locals := 163 } [.ref (gad G k0), .int a1, .int a2, .int a3] σ (vI r.1) r.2 := by
  refine MC_of (own := RX7) (fun r : Int × St => vI r.1) (fun r : Int × St => r.2) (by decide +kernel) rfl (Nat.le_of_ble_eq_true rfl) ?_
  intro p e s m args below meth c C hr hlo ls hl
  have hl : lv_has ls 4 [(0, .ref (gad G k0)), (1, .int a1), (2, .int a2), (3, .int a3)] := hl
  unfold f_X7_asksChance
  refine q_ob (fun hk0 => ?_)
  refine q_aload_n C dX7_asksChance_0 rfl (lv_at hl 0 rfl) ?_
  refine q_iload_n C dX7_asksChance_1 rfl (lv_at hl 1 rfl) ?_
  refine q_i2l C dX7_asksChance_2 (fun v1 => ?_)
  refine q_c1i C (fun r h => cr_V (As := [.long v1]) (rest := []) C (m_X7_isCell l G F k0 v1 σ r h) cb_X7_isCell hk0 (by decide) rfl (cf_7 hk0 _) rfl kl_X7_326 ⟨Nat.le_of_ble_eq_true rfl, Nat.le_of_ble_eq_true rfl⟩ ⟨Nat.zero_le _, Nat.zero_le _⟩ hl.1 rfl (Nat.le_of_ble_eq_true rfl) dX7_asksChance_3 rfl) (fun v2 => ?_)
  refine q_if_eq C 39 dX7_asksChance_6 (by decide) ?_ ?_
  · refine q_iconst C dX7_asksChance_39 rfl (by decide) (fun v3 => ?_)
    exact q_zretE C hr hlo dX7_asksChance_40
  · refine q_iload_n C dX7_asksChance_9 rfl (lv_at hl 2 rfl) ?_
    refine q_i2l C dX7_asksChance_10 (fun v4 => ?_)
    refine q_lconst C dX7_asksChance_11 rfl (by decide) (fun v5 => ?_)
    refine q_ldc2 C kk_X7_488 dX7_asksChance_12 (by decide) (fun v6 => ?_)
    refine q_c1i C (fun r h => cr_S (As := [.long v4, .long v5, .long v6]) (rest := []) C (m_X7_in l G F v4 v5 v6 σ r h) sb_X7_in kl_X7_103 ⟨Nat.le_of_ble_eq_true rfl, Nat.le_of_ble_eq_true rfl⟩ ⟨Nat.zero_le _, Nat.zero_le _⟩ hl.1 rfl (Nat.le_of_ble_eq_true rfl) dX7_asksChance_15 rfl) (fun v7 => ?_)
    refine q_if_eq C 39 dX7_asksChance_18 (by decide) ?_ ?_
    · refine q_iconst C dX7_asksChance_39 rfl (by decide) (fun v8 => ?_)
      exact q_zretE C hr hlo dX7_asksChance_40
    · refine q_iload_n C dX7_asksChance_21 rfl (lv_at hl 2 rfl) ?_
      refine q_aload_n C dX7_asksChance_22 rfl (lv_at hl 0 rfl) ?_
      refine q_c1i C (fun r h => cr_V (As := []) (rest := [.int a2]) C (m_X7_events l G F k0 σ r h) cb_X7_events hk0 (by decide) rfl (cf_7 hk0 _) rfl kl_X7_111 ⟨Nat.le_of_ble_eq_true rfl, Nat.le_of_ble_eq_true rfl⟩ ⟨Nat.zero_le _, Nat.zero_le _⟩ hl.1 rfl (Nat.le_of_ble_eq_true rfl) dX7_asksChance_23 rfl) (fun v9 => ?_)
      refine q_icmp_gt C 39 dX7_asksChance_26 (by decide) ?_ ?_
      · refine q_iconst C dX7_asksChance_39 rfl (by decide) (fun v10 => ?_)
        exact q_zretE C hr hlo dX7_asksChance_40
      · refine q_iload_n C dX7_asksChance_29 rfl (lv_at hl 3 rfl) ?_
        refine q_i2l C dX7_asksChance_30 (fun v11 => ?_)
        refine q_lconst C dX7_asksChance_31 rfl (by decide) (fun v12 => ?_)
        refine q_lconst C dX7_asksChance_32 rfl (by decide) (fun v13 => ?_)
        refine q_c1i C (fun r h => cr_S (As := [.long v11, .long v12, .long v13]) (rest := []) C (m_X7_in l G F v11 v12 v13 σ r h) sb_X7_in kl_X7_103 ⟨Nat.le_of_ble_eq_true rfl, Nat.le_of_ble_eq_true rfl⟩ ⟨Nat.zero_le _, Nat.zero_le _⟩ hl.1 rfl (Nat.le_of_ble_eq_true rfl) dX7_asksChance_33 rfl) (fun v14 => ?_)
        refine q_if_ne C 41 dX7_asksChance_36 (by decide) ?_ ?_
        · refine q_aload_n C dX7_asksChance_41 rfl (lv_at hl 0 rfl) ?_
          refine q_iload_n C dX7_asksChance_42 rfl (lv_at hl 2 rfl) ?_
          refine q_iload_n C dX7_asksChance_43 rfl (lv_at hl 1 rfl) ?_
          refine q_cv C (fun r h => cr_V (As := [.int a2, .int a1]) (rest := []) C (m_X7_layChance l G F k0 a2 a1 σ r h) cb_X7_layChance hk0 (by decide) rfl (cf_7 hk0 _) rfl kl_X7_490 ⟨Nat.le_of_ble_eq_true rfl, Nat.le_of_ble_eq_true rfl⟩ ⟨Nat.zero_le _, Nat.zero_le _⟩ hl.1 rfl (Nat.le_of_ble_eq_true rfl) dX7_asksChance_44 rfl) (fun σ1 => ?_)
          refine q_iconst C dX7_asksChance_47 rfl (by decide) (fun v15 => ?_)
          exact q_zretE C hr hlo dX7_asksChance_48
        · refine q_iconst C dX7_asksChance_39 rfl (by decide) (fun v16 => ?_)
          exact q_zretE C hr hlo dX7_asksChance_40
def f_X7_chance (F : Nat) (k0 : Nat) (a1 : Int) (a2 : Int) (a3 : Int) (σ : St) : Option (Int × St) :=
  z_ob 7 k0 <| 
  z_c2 (f_X7_asksChance F k0 a1 a2 a3 σ) fun v1 σ1 =>
  if v1 = 0 then (
    z_gt (-2) fun v2 =>
    some (v2, σ1))
  else (
    z_gt (σ1 k0 38) fun v3 =>
    z_gt (σ1 k0 37) fun v4 =>
    z_c1 (f_X7_fraction F v3 v4 a3 σ1) fun v5 =>
    some (v5, σ1))
theorem cb_X7_chance : CB yX7_chance cX7_chance 4 (some .long) 3 := ⟨ki_X7_chance, kq_X7_chance, kn_X7, kc_X7_chance, by decide +kernel, by decide +kernel, by decide +kernel⟩
set_option maxRecDepth 20000 in
set_option maxHeartbeats 4000000 in
theorem m_X7_chance (l : Launch) (G : GG) (F : Nat) (k0 : Nat) (a1 : Int32) (a2 : Int32) (a3 : Int32) (σ : St) : ∀ r, f_X7_chance F k0 a1.toInt a2.toInt a3.toInt σ = some r → MC G l yX7_chance cX7_chance 4 (some .long) { frames := 8, cells := 0, slots := 0, locals := 186 } [.ref (gad G k0), .int a1, .int a2, .int a3] σ (vL r.1) r.2 := by
  refine MC_of (own := RX7) (fun r : Int × St => vL r.1) (fun r : Int × St => r.2) (by decide +kernel) rfl (Nat.le_of_ble_eq_true rfl) ?_
  intro p e s m args below meth c C hr hlo ls hl
  have hl : lv_has ls 4 [(0, .ref (gad G k0)), (1, .int a1), (2, .int a2), (3, .int a3)] := hl
  unfold f_X7_chance
  refine q_ob (fun hk0 => ?_)
  refine q_aload_n C dX7_chance_0 rfl (lv_at hl 0 rfl) ?_
  refine q_iload_n C dX7_chance_1 rfl (lv_at hl 1 rfl) ?_
  refine q_iload_n C dX7_chance_2 rfl (lv_at hl 2 rfl) ?_
  refine q_iload_n C dX7_chance_3 rfl (lv_at hl 3 rfl) ?_
  refine q_c2i C (fun r h => cr_V (As := [.int a1, .int a2, .int a3]) (rest := []) C (m_X7_asksChance l G F k0 a1 a2 a3 σ r h) cb_X7_asksChance hk0 (by decide) rfl (cf_7 hk0 _) rfl kl_X7_493 ⟨Nat.le_of_ble_eq_true rfl, Nat.le_of_ble_eq_true rfl⟩ ⟨Nat.zero_le _, Nat.zero_le _⟩ hl.1 rfl (Nat.le_of_ble_eq_true rfl) dX7_chance_4 rfl) (fun v1 σ1 => ?_)
  refine q_if_eq C 25 dX7_chance_7 (by decide) ?_ ?_
  · refine q_ldc2 C kk_X7_496 dX7_chance_25 (by decide) (fun v2 => ?_)
    exact q_lretE C hr hlo dX7_chance_28
  · refine q_aload_n C dX7_chance_10 rfl (lv_at hl 0 rfl) ?_
    refine g_7_38 C hk0 kf_X7_482 dX7_chance_11 (fun v3 => ?_)
    refine q_aload_n C dX7_chance_14 rfl (lv_at hl 0 rfl) ?_
    refine g_7_37 C hk0 kf_X7_478 dX7_chance_15 (fun v4 => ?_)
    refine q_iload_n C dX7_chance_18 rfl (lv_at hl 3 rfl) ?_
    refine q_c1l C (fun r h => cr_S (As := [.long v3, .long v4, .int a3]) (rest := []) C (m_X7_fraction l G F v3 v4 a3 σ1 r h) sb_X7_fraction kl_X7_467 ⟨Nat.le_of_ble_eq_true rfl, Nat.le_of_ble_eq_true rfl⟩ ⟨Nat.zero_le _, Nat.zero_le _⟩ hl.1 rfl (Nat.le_of_ble_eq_true rfl) dX7_chance_19 rfl) (fun v5 => ?_)
    refine q_goto C 28 dX7_chance_22 (by decide) ?_
    exact q_lretE C hr hlo dX7_chance_28
def f_X7_mean (F : Nat) (k0 : Nat) (a1 : Int) (a2 : Int) (σ : St) : Option (Int × St) :=
  z_ob 7 k0 <| 
  z_gt 0 fun v1 =>
  z_c2 (f_X7_asksChance F k0 v1 a1 a2 σ) fun v2 σ1 =>
  if v2 = 0 then (
    z_gt (-2) fun v3 =>
    some (v3, σ1))
  else (
    z_gt (σ1 k0 39) fun v4 =>
    z_gt (σ1 k0 37) fun v5 =>
    z_c1 (f_X7_fraction F v4 v5 a2 σ1) fun v6 =>
    some (v6, σ1))
theorem cb_X7_mean : CB yX7_mean cX7_mean 3 (some .long) 2 := ⟨ki_X7_mean, kq_X7_mean, kn_X7, kc_X7_mean, by decide +kernel, by decide +kernel, by decide +kernel⟩
set_option maxRecDepth 20000 in
set_option maxHeartbeats 4000000 in
theorem m_X7_mean (l : Launch) (G : GG) (F : Nat) (k0 : Nat) (a1 : Int32) (a2 : Int32) (σ : St) : ∀ r, f_X7_mean F k0 a1.toInt a2.toInt σ = some r → MC G l yX7_mean cX7_mean 3 (some .long) { frames := 8, cells := 0, slots := 0, locals := 186 } [.ref (gad G k0), .int a1, .int a2] σ (vL r.1) r.2 := by
  refine MC_of (own := RX7) (fun r : Int × St => vL r.1) (fun r : Int × St => r.2) (by decide +kernel) rfl (Nat.le_of_ble_eq_true rfl) ?_
  intro p e s m args below meth c C hr hlo ls hl
  have hl : lv_has ls 3 [(0, .ref (gad G k0)), (1, .int a1), (2, .int a2)] := hl
  unfold f_X7_mean
  refine q_ob (fun hk0 => ?_)
  refine q_aload_n C dX7_mean_0 rfl (lv_at hl 0 rfl) ?_
  refine q_iconst C dX7_mean_1 rfl (by decide) (fun v1 => ?_)
  refine q_iload_n C dX7_mean_2 rfl (lv_at hl 1 rfl) ?_
  refine q_iload_n C dX7_mean_3 rfl (lv_at hl 2 rfl) ?_
  refine q_c2i C (fun r h => cr_V (As := [.int v1, .int a1, .int a2]) (rest := []) C (m_X7_asksChance l G F k0 v1 a1 a2 σ r h) cb_X7_asksChance hk0 (by decide) rfl (cf_7 hk0 _) rfl kl_X7_493 ⟨Nat.le_of_ble_eq_true rfl, Nat.le_of_ble_eq_true rfl⟩ ⟨Nat.zero_le _, Nat.zero_le _⟩ hl.1 rfl (Nat.le_of_ble_eq_true rfl) dX7_mean_4 rfl) (fun v2 σ1 => ?_)
  refine q_if_eq C 25 dX7_mean_7 (by decide) ?_ ?_
  · refine q_ldc2 C kk_X7_496 dX7_mean_25 (by decide) (fun v3 => ?_)
    exact q_lretE C hr hlo dX7_mean_28
  · refine q_aload_n C dX7_mean_10 rfl (lv_at hl 0 rfl) ?_
    refine g_7_39 C hk0 kf_X7_485 dX7_mean_11 (fun v4 => ?_)
    refine q_aload_n C dX7_mean_14 rfl (lv_at hl 0 rfl) ?_
    refine g_7_37 C hk0 kf_X7_478 dX7_mean_15 (fun v5 => ?_)
    refine q_iload_n C dX7_mean_18 rfl (lv_at hl 2 rfl) ?_
    refine q_c1l C (fun r h => cr_S (As := [.long v4, .long v5, .int a2]) (rest := []) C (m_X7_fraction l G F v4 v5 a2 σ1 r h) sb_X7_fraction kl_X7_467 ⟨Nat.le_of_ble_eq_true rfl, Nat.le_of_ble_eq_true rfl⟩ ⟨Nat.zero_le _, Nat.zero_le _⟩ hl.1 rfl (Nat.le_of_ble_eq_true rfl) dX7_mean_19 rfl) (fun v6 => ?_)
    refine q_goto C 28 dX7_mean_22 (by decide) ?_
    exact q_lretE C hr hlo dX7_mean_28
def f_X7_isGood_J106 (F : Nat) (k0 : Nat) (a1 : Int) (a2 : Int) (a3 : Int) (a4 : Int)  (σ : St) (x10 : Int)  : Option (Int) :=
  z_gt 2 fun v11 =>
  if x10 ≤ v11 then (
    if a4 = 0 then (
      z_gt 2 fun v12 =>
      if ¬ a1 = v12 then (
        z_gt 1 fun v13 =>
        z_bo v13 <| some v13)
      else (
        if a2 = a3 then (
          z_gt 0 fun v14 =>
          z_bo v14 <| some v14)
        else (
          z_gt 1 fun v15 =>
          z_bo v15 <| some v15)))
    else (
      z_gt 0 fun v16 =>
      z_bo v16 <| some v16))
  else (
    z_gt a4 fun v17 =>
    z_gt 2 fun v18 =>
    z_c1 (f_X7_lowOf F a1 v18 a2 σ) fun v19 =>
    z_gt v19 fun v20 =>
    z_gt 2 fun v21 =>
    z_c1 (f_X7_cells F k0 σ) fun v22 =>
    z_c1 (f_X7_highOf F a1 v21 v22 σ) fun v23 =>
    z_gt v23 fun v24 =>
    z_c1 (f_X7_in F v17 v20 v24 σ) fun v25 =>
    if ¬ v25 = 0 then (
      z_gt 2 fun v26 =>
      if ¬ a1 = v26 then (
        z_gt 1 fun v27 =>
        z_bo v27 <| some v27)
      else (
        if a2 = a3 then (
          z_gt 0 fun v28 =>
          z_bo v28 <| some v28)
        else (
          z_gt 1 fun v29 =>
          z_bo v29 <| some v29)))
    else (
      z_gt 0 fun v30 =>
      z_bo v30 <| some v30))

def f_X7_isGood_J66 (F : Nat) (k0 : Nat) (a1 : Int) (a2 : Int) (a3 : Int) (a4 : Int)  (σ : St) (x8 : Int)  : Option (Int) :=
  z_gt 1 fun v9 =>
  if x8 ≤ v9 then (
    if a3 = 0 then (
      f_X7_isGood_J106 F k0 a1 a2 a3 a4 σ x8)
    else (
      z_gt 0 fun v31 =>
      z_bo v31 <| some v31))
  else (
    z_gt a3 fun v32 =>
    z_gt 1 fun v33 =>
    z_c1 (f_X7_lowOf F a1 v33 a2 σ) fun v34 =>
    z_gt v34 fun v35 =>
    z_gt 1 fun v36 =>
    z_c1 (f_X7_cells F k0 σ) fun v37 =>
    z_c1 (f_X7_highOf F a1 v36 v37 σ) fun v38 =>
    z_gt v38 fun v39 =>
    z_c1 (f_X7_in F v32 v35 v39 σ) fun v40 =>
    if ¬ v40 = 0 then (
      f_X7_isGood_J106 F k0 a1 a2 a3 a4 σ x8)
    else (
      z_gt 0 fun v41 =>
      z_bo v41 <| some v41))

def f_X7_isGood (F : Nat) (k0 : Nat) (a1 : Int) (a2 : Int) (a3 : Int) (a4 : Int) (σ : St) : Option (Int) :=
  z_ob 7 k0 <| 
  z_c1 (f_X7_isStore F k0 σ) fun v1 =>
  if v1 = 0 then (
    z_gt 0 fun v2 =>
    z_bo v2 <| some v2)
  else (
    z_gt a1 fun v3 =>
    z_gt 0 fun v4 =>
    z_gt 8 fun v5 =>
    z_c1 (f_X7_in F v3 v4 v5 σ) fun v6 =>
    if ¬ v6 = 0 then (
      z_c1 (f_X7_numbersOf F a1 σ) fun v7 =>
      if v7 ≤ 0 then (
        if a2 = 0 then (
          f_X7_isGood_J66 F k0 a1 a2 a3 a4 σ v7)
        else (
          z_gt 0 fun v42 =>
          z_bo v42 <| some v42))
      else (
        z_gt a2 fun v43 =>
        z_gt 0 fun v44 =>
        z_gt 0 fun v45 =>
        z_c1 (f_X7_lowOf F a1 v44 v45 σ) fun v46 =>
        z_gt v46 fun v47 =>
        z_gt 0 fun v48 =>
        z_c1 (f_X7_cells F k0 σ) fun v49 =>
        z_c1 (f_X7_highOf F a1 v48 v49 σ) fun v50 =>
        z_gt v50 fun v51 =>
        z_c1 (f_X7_in F v43 v47 v51 σ) fun v52 =>
        if ¬ v52 = 0 then (
          f_X7_isGood_J66 F k0 a1 a2 a3 a4 σ v7)
        else (
          z_gt 0 fun v53 =>
          z_bo v53 <| some v53)))
    else (
      z_gt 0 fun v54 =>
      z_bo v54 <| some v54))
theorem cb_X7_isGood : CB yX7_isGood cX7_isGood 6 (some .boolean) 4 := ⟨ki_X7_isGood, kq_X7_isGood, kn_X7, kc_X7_isGood, by decide +kernel, by decide +kernel, by decide +kernel⟩
set_option maxRecDepth 20000 in
set_option maxHeartbeats 4000000 in
theorem m_X7_isGood (l : Launch) (G : GG) (F : Nat) (k0 : Nat) (a1 : Int32) (a2 : Int32) (a3 : Int32) (a4 : Int32) (σ : St) : ∀ r, f_X7_isGood F k0 a1.toInt a2.toInt a3.toInt a4.toInt σ = some r → MC G l yX7_isGood cX7_isGood 6 (some .boolean) { frames := 1, cells := 0, slots := 0, locals := 25 } [.ref (gad G k0), .int a1, .int a2, .int a3, .int a4] σ (vI r) σ := by
  refine MC_of (own := RX7) (vI) (fun _ => σ) (by decide +kernel) rfl (Nat.le_of_ble_eq_true rfl) ?_
  intro p e s m args below meth c C hr hlo ls hl
  have hl : lv_has ls 6 [(0, .ref (gad G k0)), (1, .int a1), (2, .int a2), (3, .int a3), (4, .int a4)] := hl
  unfold f_X7_isGood
  refine q_ob (fun hk0 => ?_)
  have B106 : ∀  (x10 : Int32) (ls : Array Slot), lv_has ls 6 [(0, .ref (gad G k0)), (1, .int a1), (2, .int a2), (3, .int a3), (4, .int a4), (5, .int x10)] → Sim G (AG G) 0 0 p l e { frames := 1, cells := 0, slots := 0, locals := 25 } s m args below meth c (fun r : Int => MQ below (QC G (vI r) (σ)) args s 0 0 (AG G)) σ (f_X7_isGood_J106 F k0 a1.toInt a2.toInt a3.toInt a4.toInt  σ  x10.toInt) (F0 m 106 ls []) := by
    intro x10 ls hl
    unfold f_X7_isGood_J106
    refine q_iload C dX7_isGood_106 (lv_at hl 5 rfl) ?_
    refine q_iconst C dX7_isGood_108 rfl (by decide) (fun v11 => ?_)
    refine q_icmp_le C 141 dX7_isGood_109 (by decide) ?_ ?_
    · refine q_iload C dX7_isGood_141 (lv_at hl 4 rfl) ?_
      refine q_if_eq C 148 dX7_isGood_143 (by decide) ?_ ?_
      · refine q_iload_n C dX7_isGood_148 rfl (lv_at hl 1 rfl) ?_
        refine q_iconst C dX7_isGood_149 rfl (by decide) (fun v12 => ?_)
        refine q_icmp_ne C 158 dX7_isGood_150 (by decide) ?_ ?_
        · refine q_iconst C dX7_isGood_158 rfl (by decide) (fun v13 => ?_)
          refine q_goto C 163 dX7_isGood_159 (by decide) ?_
          exact q_zret C hr hlo dX7_isGood_163
        · refine q_iload_n C dX7_isGood_153 rfl (lv_at hl 2 rfl) ?_
          refine q_iload_n C dX7_isGood_154 rfl (lv_at hl 3 rfl) ?_
          refine q_icmp_eq C 162 dX7_isGood_155 (by decide) ?_ ?_
          · refine q_iconst C dX7_isGood_162 rfl (by decide) (fun v14 => ?_)
            exact q_zret C hr hlo dX7_isGood_163
          · refine q_iconst C dX7_isGood_158 rfl (by decide) (fun v15 => ?_)
            refine q_goto C 163 dX7_isGood_159 (by decide) ?_
            exact q_zret C hr hlo dX7_isGood_163
      · refine q_iconst C dX7_isGood_146 rfl (by decide) (fun v16 => ?_)
        exact q_zret C hr hlo dX7_isGood_147
    · refine q_iload C dX7_isGood_112 (lv_at hl 4 rfl) ?_
      refine q_i2l C dX7_isGood_114 (fun v17 => ?_)
      refine q_iload_n C dX7_isGood_115 rfl (lv_at hl 1 rfl) ?_
      refine q_iconst C dX7_isGood_116 rfl (by decide) (fun v18 => ?_)
      refine q_iload_n C dX7_isGood_117 rfl (lv_at hl 2 rfl) ?_
      refine q_c1i C (fun r h => cr_S (As := [.int a1, .int v18, .int a2]) (rest := [.long v17]) C (m_X7_lowOf l G F a1 v18 a2 σ r h) sb_X7_lowOf kl_X7_230 ⟨Nat.le_of_ble_eq_true rfl, Nat.le_of_ble_eq_true rfl⟩ ⟨Nat.zero_le _, Nat.zero_le _⟩ hl.1 rfl (Nat.le_of_ble_eq_true rfl) dX7_isGood_118 rfl) (fun v19 => ?_)
      refine q_i2l C dX7_isGood_121 (fun v20 => ?_)
      refine q_iload_n C dX7_isGood_122 rfl (lv_at hl 1 rfl) ?_
      refine q_iconst C dX7_isGood_123 rfl (by decide) (fun v21 => ?_)
      refine q_aload_n C dX7_isGood_124 rfl (lv_at hl 0 rfl) ?_
      refine q_c1i C (fun r h => cr_V (As := []) (rest := [.int v21, .int a1, .long v20, .long v17]) C (m_X7_cells l G F k0 σ r h) cb_X7_cells hk0 (by decide) rfl (cf_7 hk0 _) rfl kl_X7_107 ⟨Nat.le_of_ble_eq_true rfl, Nat.le_of_ble_eq_true rfl⟩ ⟨Nat.zero_le _, Nat.zero_le _⟩ hl.1 rfl (Nat.le_of_ble_eq_true rfl) dX7_isGood_125 rfl) (fun v22 => ?_)
      refine q_c1i C (fun r h => cr_S (As := [.int a1, .int v21, .int v22]) (rest := [.long v20, .long v17]) C (m_X7_highOf l G F a1 v21 v22 σ r h) sb_X7_highOf kl_X7_234 ⟨Nat.le_of_ble_eq_true rfl, Nat.le_of_ble_eq_true rfl⟩ ⟨Nat.zero_le _, Nat.zero_le _⟩ hl.1 rfl (Nat.le_of_ble_eq_true rfl) dX7_isGood_128 rfl) (fun v23 => ?_)
      refine q_i2l C dX7_isGood_131 (fun v24 => ?_)
      refine q_c1i C (fun r h => cr_S (As := [.long v17, .long v20, .long v24]) (rest := []) C (m_X7_in l G F v17 v20 v24 σ r h) sb_X7_in kl_X7_103 ⟨Nat.le_of_ble_eq_true rfl, Nat.le_of_ble_eq_true rfl⟩ ⟨Nat.zero_le _, Nat.zero_le _⟩ hl.1 rfl (Nat.le_of_ble_eq_true rfl) dX7_isGood_132 rfl) (fun v25 => ?_)
      refine q_if_ne C 148 dX7_isGood_135 (by decide) ?_ ?_
      · refine q_iload_n C dX7_isGood_148 rfl (lv_at hl 1 rfl) ?_
        refine q_iconst C dX7_isGood_149 rfl (by decide) (fun v26 => ?_)
        refine q_icmp_ne C 158 dX7_isGood_150 (by decide) ?_ ?_
        · refine q_iconst C dX7_isGood_158 rfl (by decide) (fun v27 => ?_)
          refine q_goto C 163 dX7_isGood_159 (by decide) ?_
          exact q_zret C hr hlo dX7_isGood_163
        · refine q_iload_n C dX7_isGood_153 rfl (lv_at hl 2 rfl) ?_
          refine q_iload_n C dX7_isGood_154 rfl (lv_at hl 3 rfl) ?_
          refine q_icmp_eq C 162 dX7_isGood_155 (by decide) ?_ ?_
          · refine q_iconst C dX7_isGood_162 rfl (by decide) (fun v28 => ?_)
            exact q_zret C hr hlo dX7_isGood_163
          · refine q_iconst C dX7_isGood_158 rfl (by decide) (fun v29 => ?_)
            refine q_goto C 163 dX7_isGood_159 (by decide) ?_
            exact q_zret C hr hlo dX7_isGood_163
      · refine q_goto C 146 dX7_isGood_138 (by decide) ?_
        refine q_iconst C dX7_isGood_146 rfl (by decide) (fun v30 => ?_)
        exact q_zret C hr hlo dX7_isGood_147
  have B66 : ∀  (x8 : Int32) (ls : Array Slot), lv_has ls 6 [(0, .ref (gad G k0)), (1, .int a1), (2, .int a2), (3, .int a3), (4, .int a4), (5, .int x8)] → Sim G (AG G) 0 0 p l e { frames := 1, cells := 0, slots := 0, locals := 25 } s m args below meth c (fun r : Int => MQ below (QC G (vI r) (σ)) args s 0 0 (AG G)) σ (f_X7_isGood_J66 F k0 a1.toInt a2.toInt a3.toInt a4.toInt  σ  x8.toInt) (F0 m 66 ls []) := by
    intro x8 ls hl
    unfold f_X7_isGood_J66
    refine q_iload C dX7_isGood_66 (lv_at hl 5 rfl) ?_
    refine q_iconst C dX7_isGood_68 rfl (by decide) (fun v9 => ?_)
    refine q_icmp_le C 100 dX7_isGood_69 (by decide) ?_ ?_
    · refine q_iload_n C dX7_isGood_100 rfl (lv_at hl 3 rfl) ?_
      refine q_if_eq C 106 dX7_isGood_101 (by decide) ?_ ?_
      · exact B106 x8 ls (lv_sub hl [0, 1, 2, 3, 4, 5] rfl)
      · refine q_iconst C dX7_isGood_104 rfl (by decide) (fun v31 => ?_)
        exact q_zret C hr hlo dX7_isGood_105
    · refine q_iload_n C dX7_isGood_72 rfl (lv_at hl 3 rfl) ?_
      refine q_i2l C dX7_isGood_73 (fun v32 => ?_)
      refine q_iload_n C dX7_isGood_74 rfl (lv_at hl 1 rfl) ?_
      refine q_iconst C dX7_isGood_75 rfl (by decide) (fun v33 => ?_)
      refine q_iload_n C dX7_isGood_76 rfl (lv_at hl 2 rfl) ?_
      refine q_c1i C (fun r h => cr_S (As := [.int a1, .int v33, .int a2]) (rest := [.long v32]) C (m_X7_lowOf l G F a1 v33 a2 σ r h) sb_X7_lowOf kl_X7_230 ⟨Nat.le_of_ble_eq_true rfl, Nat.le_of_ble_eq_true rfl⟩ ⟨Nat.zero_le _, Nat.zero_le _⟩ hl.1 rfl (Nat.le_of_ble_eq_true rfl) dX7_isGood_77 rfl) (fun v34 => ?_)
      refine q_i2l C dX7_isGood_80 (fun v35 => ?_)
      refine q_iload_n C dX7_isGood_81 rfl (lv_at hl 1 rfl) ?_
      refine q_iconst C dX7_isGood_82 rfl (by decide) (fun v36 => ?_)
      refine q_aload_n C dX7_isGood_83 rfl (lv_at hl 0 rfl) ?_
      refine q_c1i C (fun r h => cr_V (As := []) (rest := [.int v36, .int a1, .long v35, .long v32]) C (m_X7_cells l G F k0 σ r h) cb_X7_cells hk0 (by decide) rfl (cf_7 hk0 _) rfl kl_X7_107 ⟨Nat.le_of_ble_eq_true rfl, Nat.le_of_ble_eq_true rfl⟩ ⟨Nat.zero_le _, Nat.zero_le _⟩ hl.1 rfl (Nat.le_of_ble_eq_true rfl) dX7_isGood_84 rfl) (fun v37 => ?_)
      refine q_c1i C (fun r h => cr_S (As := [.int a1, .int v36, .int v37]) (rest := [.long v35, .long v32]) C (m_X7_highOf l G F a1 v36 v37 σ r h) sb_X7_highOf kl_X7_234 ⟨Nat.le_of_ble_eq_true rfl, Nat.le_of_ble_eq_true rfl⟩ ⟨Nat.zero_le _, Nat.zero_le _⟩ hl.1 rfl (Nat.le_of_ble_eq_true rfl) dX7_isGood_87 rfl) (fun v38 => ?_)
      refine q_i2l C dX7_isGood_90 (fun v39 => ?_)
      refine q_c1i C (fun r h => cr_S (As := [.long v32, .long v35, .long v39]) (rest := []) C (m_X7_in l G F v32 v35 v39 σ r h) sb_X7_in kl_X7_103 ⟨Nat.le_of_ble_eq_true rfl, Nat.le_of_ble_eq_true rfl⟩ ⟨Nat.zero_le _, Nat.zero_le _⟩ hl.1 rfl (Nat.le_of_ble_eq_true rfl) dX7_isGood_91 rfl) (fun v40 => ?_)
      refine q_if_ne C 106 dX7_isGood_94 (by decide) ?_ ?_
      · exact B106 x8 ls (lv_sub hl [0, 1, 2, 3, 4, 5] rfl)
      · refine q_goto C 104 dX7_isGood_97 (by decide) ?_
        refine q_iconst C dX7_isGood_104 rfl (by decide) (fun v41 => ?_)
        exact q_zret C hr hlo dX7_isGood_105
  refine q_aload_n C dX7_isGood_0 rfl (lv_at hl 0 rfl) ?_
  refine q_c1i C (fun r h => cr_V (As := []) (rest := []) C (m_X7_isStore l G F k0 σ r h) cb_X7_isStore hk0 (by decide) rfl (cf_7 hk0 _) rfl kl_X7_114 ⟨Nat.le_of_ble_eq_true rfl, Nat.le_of_ble_eq_true rfl⟩ ⟨Nat.zero_le _, Nat.zero_le _⟩ hl.1 rfl (Nat.le_of_ble_eq_true rfl) dX7_isGood_1 rfl) (fun v1 => ?_)
  refine q_if_eq C 19 dX7_isGood_4 (by decide) ?_ ?_
  · refine q_iconst C dX7_isGood_19 rfl (by decide) (fun v2 => ?_)
    exact q_zret C hr hlo dX7_isGood_20
  · refine q_iload_n C dX7_isGood_7 rfl (lv_at hl 1 rfl) ?_
    refine q_i2l C dX7_isGood_8 (fun v3 => ?_)
    refine q_lconst C dX7_isGood_9 rfl (by decide) (fun v4 => ?_)
    refine q_ldc2 C kk_X7_438 dX7_isGood_10 (by decide) (fun v5 => ?_)
    refine q_c1i C (fun r h => cr_S (As := [.long v3, .long v4, .long v5]) (rest := []) C (m_X7_in l G F v3 v4 v5 σ r h) sb_X7_in kl_X7_103 ⟨Nat.le_of_ble_eq_true rfl, Nat.le_of_ble_eq_true rfl⟩ ⟨Nat.zero_le _, Nat.zero_le _⟩ hl.1 rfl (Nat.le_of_ble_eq_true rfl) dX7_isGood_13 rfl) (fun v6 => ?_)
    refine q_if_ne C 21 dX7_isGood_16 (by decide) ?_ ?_
    · refine q_iload_n C dX7_isGood_21 rfl (lv_at hl 1 rfl) ?_
      refine q_c1i C (fun r h => cr_S (As := [.int a1]) (rest := []) C (m_X7_numbersOf l G F a1 σ r h) sb_X7_numbersOf kl_X7_227 ⟨Nat.le_of_ble_eq_true rfl, Nat.le_of_ble_eq_true rfl⟩ ⟨Nat.zero_le _, Nat.zero_le _⟩ hl.1 rfl (Nat.le_of_ble_eq_true rfl) dX7_isGood_22 rfl) (fun v7 => ?_)
      refine q_istore C [(5, .int v7), (0, .ref (gad G k0)), (1, .int a1), (2, .int a2), (3, .int a3), (4, .int a4)] dX7_isGood_25 hl (by decide) rfl (fun ls hl => ?_)
      refine q_iload C dX7_isGood_27 (lv_at hl 0 rfl) ?_
      refine q_if_le C 60 dX7_isGood_29 (by decide) ?_ ?_
      · refine q_iload_n C dX7_isGood_60 rfl (lv_at hl 3 rfl) ?_
        refine q_if_eq C 66 dX7_isGood_61 (by decide) ?_ ?_
        · exact B66 v7 ls (lv_sub hl [1, 2, 3, 4, 5, 0] rfl)
        · refine q_iconst C dX7_isGood_64 rfl (by decide) (fun v42 => ?_)
          exact q_zret C hr hlo dX7_isGood_65
      · refine q_iload_n C dX7_isGood_32 rfl (lv_at hl 3 rfl) ?_
        refine q_i2l C dX7_isGood_33 (fun v43 => ?_)
        refine q_iload_n C dX7_isGood_34 rfl (lv_at hl 2 rfl) ?_
        refine q_iconst C dX7_isGood_35 rfl (by decide) (fun v44 => ?_)
        refine q_iconst C dX7_isGood_36 rfl (by decide) (fun v45 => ?_)
        refine q_c1i C (fun r h => cr_S (As := [.int a1, .int v44, .int v45]) (rest := [.long v43]) C (m_X7_lowOf l G F a1 v44 v45 σ r h) sb_X7_lowOf kl_X7_230 ⟨Nat.le_of_ble_eq_true rfl, Nat.le_of_ble_eq_true rfl⟩ ⟨Nat.zero_le _, Nat.zero_le _⟩ hl.1 rfl (Nat.le_of_ble_eq_true rfl) dX7_isGood_37 rfl) (fun v46 => ?_)
        refine q_i2l C dX7_isGood_40 (fun v47 => ?_)
        refine q_iload_n C dX7_isGood_41 rfl (lv_at hl 2 rfl) ?_
        refine q_iconst C dX7_isGood_42 rfl (by decide) (fun v48 => ?_)
        refine q_aload_n C dX7_isGood_43 rfl (lv_at hl 1 rfl) ?_
        refine q_c1i C (fun r h => cr_V (As := []) (rest := [.int v48, .int a1, .long v47, .long v43]) C (m_X7_cells l G F k0 σ r h) cb_X7_cells hk0 (by decide) rfl (cf_7 hk0 _) rfl kl_X7_107 ⟨Nat.le_of_ble_eq_true rfl, Nat.le_of_ble_eq_true rfl⟩ ⟨Nat.zero_le _, Nat.zero_le _⟩ hl.1 rfl (Nat.le_of_ble_eq_true rfl) dX7_isGood_44 rfl) (fun v49 => ?_)
        refine q_c1i C (fun r h => cr_S (As := [.int a1, .int v48, .int v49]) (rest := [.long v47, .long v43]) C (m_X7_highOf l G F a1 v48 v49 σ r h) sb_X7_highOf kl_X7_234 ⟨Nat.le_of_ble_eq_true rfl, Nat.le_of_ble_eq_true rfl⟩ ⟨Nat.zero_le _, Nat.zero_le _⟩ hl.1 rfl (Nat.le_of_ble_eq_true rfl) dX7_isGood_47 rfl) (fun v50 => ?_)
        refine q_i2l C dX7_isGood_50 (fun v51 => ?_)
        refine q_c1i C (fun r h => cr_S (As := [.long v43, .long v47, .long v51]) (rest := []) C (m_X7_in l G F v43 v47 v51 σ r h) sb_X7_in kl_X7_103 ⟨Nat.le_of_ble_eq_true rfl, Nat.le_of_ble_eq_true rfl⟩ ⟨Nat.zero_le _, Nat.zero_le _⟩ hl.1 rfl (Nat.le_of_ble_eq_true rfl) dX7_isGood_51 rfl) (fun v52 => ?_)
        refine q_if_ne C 66 dX7_isGood_54 (by decide) ?_ ?_
        · exact B66 v7 ls (lv_sub hl [1, 2, 3, 4, 5, 0] rfl)
        · refine q_goto C 64 dX7_isGood_57 (by decide) ?_
          refine q_iconst C dX7_isGood_64 rfl (by decide) (fun v53 => ?_)
          exact q_zret C hr hlo dX7_isGood_65
    · refine q_iconst C dX7_isGood_19 rfl (by decide) (fun v54 => ?_)
      exact q_zret C hr hlo dX7_isGood_20
def f_X7_does_J113 (F : Nat) (k0 : Nat) (a1 : Int) (a2 : Int) (a3 : Int) (a4 : Int)   (x27 : Int) (x28 : Int) (x29 : Nat) (σ : St) : Option (Int × St) :=
  z_ix x28 (lnX x29) <| z_sg (z_up σ x29 x28 x27) fun σ4 =>
  z_gt 4 fun v30 =>
  z_ix v30 246 <| z_gt (σ4 (k0 + 1) v30) fun v31 =>
  z_gt 1 fun v32 =>
  z_ck (v31 + v32) fun v33 =>
  z_ix v30 246 <| z_sg (z_up σ4 (k0 + 1) v30 v33) fun σ5 =>
  z_c2 (f_X7_asks F k0 σ5) fun v34 σ6 =>
  z_c1 (f_X7_events F k0 σ6) fun v35 =>
  z_gt 1 fun v36 =>
  z_ck (v35 - v36) fun v37 =>
  z_ix v37 60 <| z_gt (σ6 (k0 + 19) v37) fun v38 =>
  some (v38, σ6)

def f_X7_does_J72 (F : Nat) (k0 : Nat) (a1 : Int) (a2 : Int) (a3 : Int) (a4 : Int)   (x14 : Int) (x15 : Int) (x16 : Int) (x17 : Int) (x18 : Nat) (σ : St) : Option (Int × St) :=
  z_ix x17 (lnX x18) <| z_sg (z_up σ x18 x17 x16) fun σ2 =>
  z_gt 2 fun v19 =>
  z_ck (x14 + v19) fun v20 =>
  z_gt 1 fun v21 =>
  if x15 ≤ v21 then (
    z_gt (-1) fun v22 =>
    z_ix v20 246 <| z_sg (z_up σ2 (k0 + 1) v20 v22) fun σ3 =>
    z_gt 3 fun v23 =>
    z_ck (x14 + v23) fun v24 =>
    z_gt 2 fun v25 =>
    if x15 ≤ v25 then (
      z_gt (-1) fun v26 =>
      f_X7_does_J113 F k0 a1 a2 a3 a4 v26 v24 (k0 + 1) σ3)
    else (
      f_X7_does_J113 F k0 a1 a2 a3 a4 a4 v24 (k0 + 1) σ3))
  else (
    z_ix v20 246 <| z_sg (z_up σ2 (k0 + 1) v20 a3) fun σ7 =>
    z_gt 3 fun v39 =>
    z_ck (x14 + v39) fun v40 =>
    z_gt 2 fun v41 =>
    if x15 ≤ v41 then (
      z_gt (-1) fun v42 =>
      f_X7_does_J113 F k0 a1 a2 a3 a4 v42 v40 (k0 + 1) σ7)
    else (
      f_X7_does_J113 F k0 a1 a2 a3 a4 a4 v40 (k0 + 1) σ7))

def f_X7_does (F : Nat) (k0 : Nat) (a1 : Int) (a2 : Int) (a3 : Int) (a4 : Int) (σ : St) : Option (Int × St) :=
  z_ob 7 k0 <| 
  z_c1 (f_X7_isGood F k0 a1 a2 a3 a4 σ) fun v1 =>
  if ¬ v1 = 0 then (
    z_gt 4 fun v2 =>
    z_ix v2 246 <| z_gt (σ (k0 + 1) v2) fun v3 =>
    z_gt 20 fun v4 =>
    if ¬ v3 = v4 then (
      z_gt 6 fun v5 =>
      z_gt 4 fun v6 =>
      z_c1 (f_X7_events F k0 σ) fun v7 =>
      z_ck (v6 * v7) fun v8 =>
      z_ck (v5 + v8) fun v9 =>
      z_c1 (f_X7_numbersOf F a1 σ) fun v10 =>
      z_ix v9 246 <| z_sg (z_up σ (k0 + 1) v9 a1) fun σ1 =>
      z_gt 1 fun v11 =>
      z_ck (v9 + v11) fun v12 =>
      if v10 ≤ 0 then (
        z_gt (-1) fun v13 =>
        f_X7_does_J72 F k0 a1 a2 a3 a4 v9 v10 v13 v12 (k0 + 1) σ1)
      else (
        f_X7_does_J72 F k0 a1 a2 a3 a4 v9 v10 a2 v12 (k0 + 1) σ1))
    else (
      z_gt (-5) fun v43 =>
      some (v43, σ)))
  else (
    z_gt (-2) fun v44 =>
    some (v44, σ))
theorem cb_X7_does : CB yX7_does cX7_does 7 (some .int) 4 := ⟨ki_X7_does, kq_X7_does, kn_X7, kc_X7_does, by decide +kernel, by decide +kernel, by decide +kernel⟩
set_option maxRecDepth 20000 in
set_option maxHeartbeats 4000000 in
theorem m_X7_does (l : Launch) (G : GG) (F : Nat) (k0 : Nat) (a1 : Int32) (a2 : Int32) (a3 : Int32) (a4 : Int32) (σ : St) : ∀ r, f_X7_does F k0 a1.toInt a2.toInt a3.toInt a4.toInt σ = some r → MC G l yX7_does cX7_does 7 (some .int) { frames := 7, cells := 0, slots := 0, locals := 157 } [.ref (gad G k0), .int a1, .int a2, .int a3, .int a4] σ (vI r.1) r.2 := by
  refine MC_of (own := RX7) (fun r : Int × St => vI r.1) (fun r : Int × St => r.2) (by decide +kernel) rfl (Nat.le_of_ble_eq_true rfl) ?_
  intro p e s m args below meth c C hr hlo ls hl
  have hl : lv_has ls 7 [(0, .ref (gad G k0)), (1, .int a1), (2, .int a2), (3, .int a3), (4, .int a4)] := hl
  unfold f_X7_does
  refine q_ob (fun hk0 => ?_)
  have B113 : ∀  (x27 : Int32) (x28 : Int32) (x29 : Nat) (σ : St) (ls : Array Slot), lv_has ls 7 [(0, .ref (gad G k0))] → kdX x29 = 9 → Sim G (AG G) 0 0 p l e { frames := 7, cells := 0, slots := 0, locals := 157 } s m args below meth c (fun r : Int × St => MQ below (QC G (vI r.1) (r.2)) args s 0 0 (AG G)) σ (f_X7_does_J113 F k0 a1.toInt a2.toInt a3.toInt a4.toInt    x27.toInt x28.toInt x29 σ) (F0 m 113 ls [.int x27, .int x28, .ref (gad G x29)]) := by
    intro x27 x28 x29 σ ls hl hx29
    unfold f_X7_does_J113
    refine a_ist C hx29 rfl dX7_does_113 (q_sg (fun σ4 => ?_))
    refine q_aload_n C dX7_does_114 rfl (lv_at hl 0 rfl) ?_
    refine g_7_1 C hk0 kf_X7_9 dX7_does_115 ?_
    refine q_iconst C dX7_does_118 rfl (by decide) (fun v30 => ?_)
    refine q_dup2 C dX7_does_119 rfl rfl ?_
    refine a_ild C (yk_7_1 hk0) (yl_7_1 hk0) dX7_does_120 (fun v31 => ?_)
    refine q_iconst C dX7_does_121 rfl (by decide) (fun v32 => ?_)
    refine q_iadd C dX7_does_122 (fun v33 => ?_)
    refine a_ist C (yk_7_1 hk0) (yl_7_1 hk0) dX7_does_123 (q_sg (fun σ5 => ?_))
    refine q_aload_n C dX7_does_124 rfl (lv_at hl 0 rfl) ?_
    refine q_c2i C (fun r h => cr_V (As := []) (rest := []) C (m_X7_asks l G F k0 σ5 r h) cb_X7_asks hk0 (by decide) rfl (cf_7 hk0 _) rfl kl_X7_316 ⟨Nat.le_of_ble_eq_true rfl, Nat.le_of_ble_eq_true rfl⟩ ⟨Nat.zero_le _, Nat.zero_le _⟩ hl.1 rfl (Nat.le_of_ble_eq_true rfl) dX7_does_125 rfl) (fun v34 σ6 => ?_)
    refine q_pop C dX7_does_128 rfl ?_
    refine q_aload_n C dX7_does_129 rfl (lv_at hl 0 rfl) ?_
    refine g_7_27 C hk0 kf_X7_70 dX7_does_130 ?_
    refine q_aload_n C dX7_does_133 rfl (lv_at hl 0 rfl) ?_
    refine q_c1i C (fun r h => cr_V (As := []) (rest := [.ref (gad G (k0 + 19))]) C (m_X7_events l G F k0 σ6 r h) cb_X7_events hk0 (by decide) rfl (cf_7 hk0 _) rfl kl_X7_111 ⟨Nat.le_of_ble_eq_true rfl, Nat.le_of_ble_eq_true rfl⟩ ⟨Nat.zero_le _, Nat.zero_le _⟩ hl.1 rfl (Nat.le_of_ble_eq_true rfl) dX7_does_134 rfl) (fun v35 => ?_)
    refine q_iconst C dX7_does_137 rfl (by decide) (fun v36 => ?_)
    refine q_isub C dX7_does_138 (fun v37 => ?_)
    refine a_ild C (yk_7_27 hk0) (yl_7_27 hk0) dX7_does_139 (fun v38 => ?_)
    exact q_iretE C hr hlo dX7_does_140
  have B72 : ∀  (x14 : Int32) (x15 : Int32) (x16 : Int32) (x17 : Int32) (x18 : Nat) (σ : St) (ls : Array Slot), lv_has ls 7 [(0, .ref (gad G k0)), (3, .int a3), (4, .int a4), (5, .int x14), (6, .int x15)] → kdX x18 = 9 → Sim G (AG G) 0 0 p l e { frames := 7, cells := 0, slots := 0, locals := 157 } s m args below meth c (fun r : Int × St => MQ below (QC G (vI r.1) (r.2)) args s 0 0 (AG G)) σ (f_X7_does_J72 F k0 a1.toInt a2.toInt a3.toInt a4.toInt    x14.toInt x15.toInt x16.toInt x17.toInt x18 σ) (F0 m 72 ls [.int x16, .int x17, .ref (gad G x18)]) := by
    intro x14 x15 x16 x17 x18 σ ls hl hx18
    unfold f_X7_does_J72
    refine a_ist C hx18 rfl dX7_does_72 (q_sg (fun σ2 => ?_))
    refine q_aload_n C dX7_does_73 rfl (lv_at hl 0 rfl) ?_
    refine g_7_1 C hk0 kf_X7_9 dX7_does_74 ?_
    refine q_iload C dX7_does_77 (lv_at hl 3 rfl) ?_
    refine q_iconst C dX7_does_79 rfl (by decide) (fun v19 => ?_)
    refine q_iadd C dX7_does_80 (fun v20 => ?_)
    refine q_iload C dX7_does_81 (lv_at hl 4 rfl) ?_
    refine q_iconst C dX7_does_83 rfl (by decide) (fun v21 => ?_)
    refine q_icmp_le C 91 dX7_does_84 (by decide) ?_ ?_
    · refine q_iconst C dX7_does_91 rfl (by decide) (fun v22 => ?_)
      refine a_ist C (yk_7_1 hk0) (yl_7_1 hk0) dX7_does_92 (q_sg (fun σ3 => ?_))
      refine q_aload_n C dX7_does_93 rfl (lv_at hl 0 rfl) ?_
      refine g_7_1 C hk0 kf_X7_9 dX7_does_94 ?_
      refine q_iload C dX7_does_97 (lv_at hl 3 rfl) ?_
      refine q_iconst C dX7_does_99 rfl (by decide) (fun v23 => ?_)
      refine q_iadd C dX7_does_100 (fun v24 => ?_)
      refine q_iload C dX7_does_101 (lv_at hl 4 rfl) ?_
      refine q_iconst C dX7_does_103 rfl (by decide) (fun v25 => ?_)
      refine q_icmp_le C 112 dX7_does_104 (by decide) ?_ ?_
      · refine q_iconst C dX7_does_112 rfl (by decide) (fun v26 => ?_)
        exact B113 v26 v24 (k0 + 1) σ3 ls (lv_sub hl [0] rfl) (yk_7_1 hk0)
      · refine q_iload C dX7_does_107 (lv_at hl 2 rfl) ?_
        refine q_goto C 113 dX7_does_109 (by decide) ?_
        exact B113 a4 v24 (k0 + 1) σ3 ls (lv_sub hl [0] rfl) (yk_7_1 hk0)
    · refine q_iload_n C dX7_does_87 rfl (lv_at hl 1 rfl) ?_
      refine q_goto C 92 dX7_does_88 (by decide) ?_
      refine a_ist C (yk_7_1 hk0) (yl_7_1 hk0) dX7_does_92 (q_sg (fun σ7 => ?_))
      refine q_aload_n C dX7_does_93 rfl (lv_at hl 0 rfl) ?_
      refine g_7_1 C hk0 kf_X7_9 dX7_does_94 ?_
      refine q_iload C dX7_does_97 (lv_at hl 3 rfl) ?_
      refine q_iconst C dX7_does_99 rfl (by decide) (fun v39 => ?_)
      refine q_iadd C dX7_does_100 (fun v40 => ?_)
      refine q_iload C dX7_does_101 (lv_at hl 4 rfl) ?_
      refine q_iconst C dX7_does_103 rfl (by decide) (fun v41 => ?_)
      refine q_icmp_le C 112 dX7_does_104 (by decide) ?_ ?_
      · refine q_iconst C dX7_does_112 rfl (by decide) (fun v42 => ?_)
        exact B113 v42 v40 (k0 + 1) σ7 ls (lv_sub hl [0] rfl) (yk_7_1 hk0)
      · refine q_iload C dX7_does_107 (lv_at hl 2 rfl) ?_
        refine q_goto C 113 dX7_does_109 (by decide) ?_
        exact B113 a4 v40 (k0 + 1) σ7 ls (lv_sub hl [0] rfl) (yk_7_1 hk0)
  refine q_aload_n C dX7_does_0 rfl (lv_at hl 0 rfl) ?_
  refine q_iload_n C dX7_does_1 rfl (lv_at hl 1 rfl) ?_
  refine q_iload_n C dX7_does_2 rfl (lv_at hl 2 rfl) ?_
  refine q_iload_n C dX7_does_3 rfl (lv_at hl 3 rfl) ?_
  refine q_iload C dX7_does_4 (lv_at hl 4 rfl) ?_
  refine q_c1i C (fun r h => cr_V (As := [.int a1, .int a2, .int a3, .int a4]) (rest := []) C (m_X7_isGood l G F k0 a1 a2 a3 a4 σ r h) cb_X7_isGood hk0 (by decide) rfl (cf_7 hk0 _) rfl kl_X7_498 ⟨Nat.le_of_ble_eq_true rfl, Nat.le_of_ble_eq_true rfl⟩ ⟨Nat.zero_le _, Nat.zero_le _⟩ hl.1 rfl (Nat.le_of_ble_eq_true rfl) dX7_does_6 rfl) (fun v1 => ?_)
  refine q_if_ne C 15 dX7_does_9 (by decide) ?_ ?_
  · refine q_aload_n C dX7_does_15 rfl (lv_at hl 0 rfl) ?_
    refine g_7_1 C hk0 kf_X7_9 dX7_does_16 ?_
    refine q_iconst C dX7_does_19 rfl (by decide) (fun v2 => ?_)
    refine a_ild C (yk_7_1 hk0) (yl_7_1 hk0) dX7_does_20 (fun v3 => ?_)
    refine q_bipush C dX7_does_21 rfl (by decide) (fun v4 => ?_)
    refine q_icmp_ne C 29 dX7_does_23 (by decide) ?_ ?_
    · refine q_bipush C dX7_does_29 rfl (by decide) (fun v5 => ?_)
      refine q_iconst C dX7_does_31 rfl (by decide) (fun v6 => ?_)
      refine q_aload_n C dX7_does_32 rfl (lv_at hl 0 rfl) ?_
      refine q_c1i C (fun r h => cr_V (As := []) (rest := [.int v6, .int v5]) C (m_X7_events l G F k0 σ r h) cb_X7_events hk0 (by decide) rfl (cf_7 hk0 _) rfl kl_X7_111 ⟨Nat.le_of_ble_eq_true rfl, Nat.le_of_ble_eq_true rfl⟩ ⟨Nat.zero_le _, Nat.zero_le _⟩ hl.1 rfl (Nat.le_of_ble_eq_true rfl) dX7_does_33 rfl) (fun v7 => ?_)
      refine q_imul C dX7_does_36 (fun v8 => ?_)
      refine q_iadd C dX7_does_37 (fun v9 => ?_)
      refine q_istore C [(5, .int v9), (0, .ref (gad G k0)), (1, .int a1), (2, .int a2), (3, .int a3), (4, .int a4)] dX7_does_38 hl (by decide) rfl (fun ls hl => ?_)
      refine q_iload_n C dX7_does_40 rfl (lv_at hl 2 rfl) ?_
      refine q_c1i C (fun r h => cr_S (As := [.int a1]) (rest := []) C (m_X7_numbersOf l G F a1 σ r h) sb_X7_numbersOf kl_X7_227 ⟨Nat.le_of_ble_eq_true rfl, Nat.le_of_ble_eq_true rfl⟩ ⟨Nat.zero_le _, Nat.zero_le _⟩ hl.1 rfl (Nat.le_of_ble_eq_true rfl) dX7_does_41 rfl) (fun v10 => ?_)
      refine q_istore C [(6, .int v10), (5, .int v9), (0, .ref (gad G k0)), (1, .int a1), (2, .int a2), (3, .int a3), (4, .int a4)] dX7_does_44 hl (by decide) rfl (fun ls hl => ?_)
      refine q_aload_n C dX7_does_46 rfl (lv_at hl 2 rfl) ?_
      refine g_7_1 C hk0 kf_X7_9 dX7_does_47 ?_
      refine q_iload C dX7_does_50 (lv_at hl 1 rfl) ?_
      refine q_iload_n C dX7_does_52 rfl (lv_at hl 3 rfl) ?_
      refine a_ist C (yk_7_1 hk0) (yl_7_1 hk0) dX7_does_53 (q_sg (fun σ1 => ?_))
      refine q_aload_n C dX7_does_54 rfl (lv_at hl 2 rfl) ?_
      refine g_7_1 C hk0 kf_X7_9 dX7_does_55 ?_
      refine q_iload C dX7_does_58 (lv_at hl 1 rfl) ?_
      refine q_iconst C dX7_does_60 rfl (by decide) (fun v11 => ?_)
      refine q_iadd C dX7_does_61 (fun v12 => ?_)
      refine q_iload C dX7_does_62 (lv_at hl 0 rfl) ?_
      refine q_if_le C 71 dX7_does_64 (by decide) ?_ ?_
      · refine q_iconst C dX7_does_71 rfl (by decide) (fun v13 => ?_)
        exact B72 v9 v10 v13 v12 (k0 + 1) σ1 ls (lv_sub hl [2, 5, 6, 1, 0] rfl) (yk_7_1 hk0)
      · refine q_iload_n C dX7_does_67 rfl (lv_at hl 4 rfl) ?_
        refine q_goto C 72 dX7_does_68 (by decide) ?_
        exact B72 v9 v10 a2 v12 (k0 + 1) σ1 ls (lv_sub hl [2, 5, 6, 1, 0] rfl) (yk_7_1 hk0)
    · refine q_bipush C dX7_does_26 rfl (by decide) (fun v43 => ?_)
      exact q_iretE C hr hlo dX7_does_28
  · refine q_bipush C dX7_does_12 rfl (by decide) (fun v44 => ?_)
    exact q_iretE C hr hlo dX7_does_14
def f_X7_undo (F : Nat) (k0 : Nat) (σ : St) : Option (Int × St) :=
  z_ob 7 k0 <| 
  z_c1 (f_X7_isStore F k0 σ) fun v1 =>
  if ¬ v1 = 0 then (
    z_gt 4 fun v2 =>
    z_ix v2 246 <| z_gt (σ (k0 + 1) v2) fun v3 =>
    if ¬ v3 = 0 then (
      z_gt 4 fun v4 =>
      z_ix v4 246 <| z_gt (σ (k0 + 1) v4) fun v5 =>
      z_gt 1 fun v6 =>
      z_ck (v5 - v6) fun v7 =>
      z_ix v4 246 <| z_sg (z_up σ (k0 + 1) v4 v7) fun σ1 =>
      z_gt 4 fun v8 =>
      z_ix v8 246 <| z_gt (σ1 (k0 + 1) v8) fun v9 =>
      some (v9, σ1))
    else (
      z_gt (-5) fun v10 =>
      some (v10, σ)))
  else (
    z_gt (-2) fun v11 =>
    some (v11, σ))
theorem cb_X7_undo : CB yX7_undo cX7_undo 1 (some .int) 0 := ⟨ki_X7_undo, kq_X7_undo, kn_X7, kc_X7_undo, by decide +kernel, by decide +kernel, by decide +kernel⟩
set_option maxRecDepth 20000 in
set_option maxHeartbeats 4000000 in
theorem m_X7_undo (l : Launch) (G : GG) (F : Nat) (k0 : Nat) (σ : St) : ∀ r, f_X7_undo F k0 σ = some r → MC G l yX7_undo cX7_undo 1 (some .int) { frames := 1, cells := 0, slots := 0, locals := 20 } [.ref (gad G k0)] σ (vI r.1) r.2 := by
  refine MC_of (own := RX7) (fun r : Int × St => vI r.1) (fun r : Int × St => r.2) (by decide +kernel) rfl (Nat.le_of_ble_eq_true rfl) ?_
  intro p e s m args below meth c C hr hlo ls hl
  have hl : lv_has ls 1 [(0, .ref (gad G k0))] := hl
  unfold f_X7_undo
  refine q_ob (fun hk0 => ?_)
  refine q_aload_n C dX7_undo_0 rfl (lv_at hl 0 rfl) ?_
  refine q_c1i C (fun r h => cr_V (As := []) (rest := []) C (m_X7_isStore l G F k0 σ r h) cb_X7_isStore hk0 (by decide) rfl (cf_7 hk0 _) rfl kl_X7_114 ⟨Nat.le_of_ble_eq_true rfl, Nat.le_of_ble_eq_true rfl⟩ ⟨Nat.zero_le _, Nat.zero_le _⟩ hl.1 rfl (Nat.le_of_ble_eq_true rfl) dX7_undo_1 rfl) (fun v1 => ?_)
  refine q_if_ne C 10 dX7_undo_4 (by decide) ?_ ?_
  · refine q_aload_n C dX7_undo_10 rfl (lv_at hl 0 rfl) ?_
    refine g_7_1 C hk0 kf_X7_9 dX7_undo_11 ?_
    refine q_iconst C dX7_undo_14 rfl (by decide) (fun v2 => ?_)
    refine a_ild C (yk_7_1 hk0) (yl_7_1 hk0) dX7_undo_15 (fun v3 => ?_)
    refine q_if_ne C 22 dX7_undo_16 (by decide) ?_ ?_
    · refine q_aload_n C dX7_undo_22 rfl (lv_at hl 0 rfl) ?_
      refine g_7_1 C hk0 kf_X7_9 dX7_undo_23 ?_
      refine q_iconst C dX7_undo_26 rfl (by decide) (fun v4 => ?_)
      refine q_dup2 C dX7_undo_27 rfl rfl ?_
      refine a_ild C (yk_7_1 hk0) (yl_7_1 hk0) dX7_undo_28 (fun v5 => ?_)
      refine q_iconst C dX7_undo_29 rfl (by decide) (fun v6 => ?_)
      refine q_isub C dX7_undo_30 (fun v7 => ?_)
      refine a_ist C (yk_7_1 hk0) (yl_7_1 hk0) dX7_undo_31 (q_sg (fun σ1 => ?_))
      refine q_aload_n C dX7_undo_32 rfl (lv_at hl 0 rfl) ?_
      refine g_7_1 C hk0 kf_X7_9 dX7_undo_33 ?_
      refine q_iconst C dX7_undo_36 rfl (by decide) (fun v8 => ?_)
      refine a_ild C (yk_7_1 hk0) (yl_7_1 hk0) dX7_undo_37 (fun v9 => ?_)
      exact q_iretE C hr hlo dX7_undo_38
    · refine q_bipush C dX7_undo_19 rfl (by decide) (fun v10 => ?_)
      exact q_iretE C hr hlo dX7_undo_21
  · refine q_bipush C dX7_undo_7 rfl (by decide) (fun v11 => ?_)
    exact q_iretE C hr hlo dX7_undo_9
def f_X7_anew (F : Nat) (k0 : Nat) (σ : St) : Option (Int × St) :=
  z_ob 7 k0 <| 
  z_c1 (f_X7_isStore F k0 σ) fun v1 =>
  if ¬ v1 = 0 then (
    z_gt 4 fun v2 =>
    z_ix v2 246 <| z_gt (σ (k0 + 1) v2) fun v3 =>
    z_gt 4 fun v4 =>
    z_gt 0 fun v5 =>
    z_ix v4 246 <| z_sg (z_up σ (k0 + 1) v4 v5) fun σ1 =>
    some (v3, σ1))
  else (
    z_gt (-2) fun v6 =>
    some (v6, σ))
theorem cb_X7_anew : CB yX7_anew cX7_anew 2 (some .int) 0 := ⟨ki_X7_anew, kq_X7_anew, kn_X7, kc_X7_anew, by decide +kernel, by decide +kernel, by decide +kernel⟩
set_option maxRecDepth 20000 in
set_option maxHeartbeats 4000000 in
theorem m_X7_anew (l : Launch) (G : GG) (F : Nat) (k0 : Nat) (σ : St) : ∀ r, f_X7_anew F k0 σ = some r → MC G l yX7_anew cX7_anew 2 (some .int) { frames := 1, cells := 0, slots := 0, locals := 20 } [.ref (gad G k0)] σ (vI r.1) r.2 := by
  refine MC_of (own := RX7) (fun r : Int × St => vI r.1) (fun r : Int × St => r.2) (by decide +kernel) rfl (Nat.le_of_ble_eq_true rfl) ?_
  intro p e s m args below meth c C hr hlo ls hl
  have hl : lv_has ls 2 [(0, .ref (gad G k0))] := hl
  unfold f_X7_anew
  refine q_ob (fun hk0 => ?_)
  refine q_aload_n C dX7_anew_0 rfl (lv_at hl 0 rfl) ?_
  refine q_c1i C (fun r h => cr_V (As := []) (rest := []) C (m_X7_isStore l G F k0 σ r h) cb_X7_isStore hk0 (by decide) rfl (cf_7 hk0 _) rfl kl_X7_114 ⟨Nat.le_of_ble_eq_true rfl, Nat.le_of_ble_eq_true rfl⟩ ⟨Nat.zero_le _, Nat.zero_le _⟩ hl.1 rfl (Nat.le_of_ble_eq_true rfl) dX7_anew_1 rfl) (fun v1 => ?_)
  refine q_if_ne C 10 dX7_anew_4 (by decide) ?_ ?_
  · refine q_aload_n C dX7_anew_10 rfl (lv_at hl 0 rfl) ?_
    refine g_7_1 C hk0 kf_X7_9 dX7_anew_11 ?_
    refine q_iconst C dX7_anew_14 rfl (by decide) (fun v2 => ?_)
    refine a_ild C (yk_7_1 hk0) (yl_7_1 hk0) dX7_anew_15 (fun v3 => ?_)
    refine q_istore_n C [(1, .int v3), (0, .ref (gad G k0))] dX7_anew_16 rfl hl (by decide) rfl (fun ls hl => ?_)
    refine q_aload_n C dX7_anew_17 rfl (lv_at hl 1 rfl) ?_
    refine g_7_1 C hk0 kf_X7_9 dX7_anew_18 ?_
    refine q_iconst C dX7_anew_21 rfl (by decide) (fun v4 => ?_)
    refine q_iconst C dX7_anew_22 rfl (by decide) (fun v5 => ?_)
    refine a_ist C (yk_7_1 hk0) (yl_7_1 hk0) dX7_anew_23 (q_sg (fun σ1 => ?_))
    refine q_iload_n C dX7_anew_24 rfl (lv_at hl 0 rfl) ?_
    exact q_iretE C hr hlo dX7_anew_25
  · refine q_bipush C dX7_anew_7 rfl (by decide) (fun v6 => ?_)
    exact q_iretE C hr hlo dX7_anew_9
def f_X7_goDrawn_J66 (F : Nat) (k0 : Nat) (a1 : Int) (K12 : Int → Int → Int → St → Option (Int × St))  (x24 : Int) (x25 : Int) (x26 : Int) (x27 : Int) (x28 : Int) (x29 : Nat) (σ : St) : Option (Int × St) :=
  z_ix x28 (lnX x29) <| z_bo x27 <| z_sg (z_up σ x29 x28 x27) fun σ3 =>
  z_ix x26 60 <| z_gt (σ3 (k0 + 7) x26) fun v30 =>
  if v30 = 0 then (
    z_gt 0 fun v31 =>
    z_ck (x25 + v31) fun v32 =>
    z_ck (x26 + 1) fun v33 =>
    K12 x24 v32 v33 σ3)
  else (
    z_gt 1 fun v34 =>
    z_ck (x25 + v34) fun v35 =>
    z_ck (x26 + 1) fun v36 =>
    K12 x24 v35 v36 σ3)

def f_X7_goDrawn_L12 (F : Nat) (k0 : Nat) (a1 : Int)   : Nat → Int → Int → Int → St → Option (Int × St)
  | 0, _, _, _, _ => none
  | n + 1, x3, x4, x5, σ =>
    z_c1 (f_X7_events F k0 σ) fun v6 =>
    if v6 ≤ x5 then (
      z_gt 1 fun v7 =>
      z_ix v7 246 <| z_gt (σ (k0 + 1) v7) fun v8 =>
      z_c1 (f_X7_layAll F k0 v8 σ) fun σ2 =>
      some (x4, σ2))
    else (
      z_gt 1103515245 fun v9 =>
      z_lk (v9 * x3) fun v10 =>
      z_gt 12345 fun v11 =>
      z_lk (v10 + v11) fun v12 =>
      z_gt 2147483648 fun v13 =>
      z_nz v13 <| z_gt (v12.tmod v13) fun v14 =>
      z_gt 65536 fun v15 =>
      z_nz v15 <| z_lk (v14.tdiv v15) fun v16 =>
      z_gt 10 fun v17 =>
      z_nz v17 <| z_gt (v16.tmod v17) fun v18 =>
      z_gt 2 fun v19 =>
      z_ix v19 246 <| z_gt (σ (k0 + 1) v19) fun v20 =>
      z_gt v20 fun v21 =>
      z_gt (z_cmp v18 v21) fun v22 =>
      if 0 ≤ v22 then (
        z_gt 0 fun v23 =>
        f_X7_goDrawn_J66 F k0 a1 (f_X7_goDrawn_L12 F k0 a1 n) v14 x4 x5 v23 x5 (k0 + 7) σ)
      else (
        z_gt 1 fun v37 =>
        f_X7_goDrawn_J66 F k0 a1 (f_X7_goDrawn_L12 F k0 a1 n) v14 x4 x5 v37 x5 (k0 + 7) σ))

def f_X7_goDrawn (F : Nat) (k0 : Nat) (a1 : Int) (σ : St) : Option (Int × St) :=
  z_ob 7 k0 <| 
  z_gt 0 fun v1 =>
  z_c1 (f_X7_nothingGone F k0 σ) fun σ1 =>
  z_gt 0 fun v2 =>
  f_X7_goDrawn_L12 F k0 a1 F a1 v1 v2 σ1
theorem cb_X7_goDrawn : CB yX7_goDrawn cX7_goDrawn 7 (some .int) 1 := ⟨ki_X7_goDrawn, kq_X7_goDrawn, kn_X7, kc_X7_goDrawn, by decide +kernel, by decide +kernel, by decide +kernel⟩
set_option maxRecDepth 20000 in
set_option maxHeartbeats 4000000 in
theorem m_X7_goDrawn (l : Launch) (G : GG) (F : Nat) (k0 : Nat) (a1 : Int64) (σ : St) : ∀ r, f_X7_goDrawn F k0 a1.toInt σ = some r → MC G l yX7_goDrawn cX7_goDrawn 7 (some .int) { frames := 6, cells := 0, slots := 0, locals := 137 } [.ref (gad G k0), .long a1] σ (vI r.1) r.2 := by
  refine MC_of (own := RX7) (fun r : Int × St => vI r.1) (fun r : Int × St => r.2) (by decide +kernel) rfl (Nat.le_of_ble_eq_true rfl) ?_
  intro p e s m args below meth c C hr hlo ls hl
  have hl : lv_has ls 7 [(0, .ref (gad G k0)), (1, .long a1)] := hl
  unfold f_X7_goDrawn
  refine q_ob (fun hk0 => ?_)
  have B66 : ∀ (K12 : Int → Int → Int → St → Option (Int × St)) (hK12 : ∀ (y0 : Int64) (y1 : Int32) (y2 : Int32) (σ : St) (ls : Array Slot), lv_has ls 7 [(0, .ref (gad G k0)), (3, .long y0), (5, .int y1), (6, .int y2)] → Sim G (AG G) 0 0 p l e { frames := 6, cells := 0, slots := 0, locals := 137 } s m args below meth c (fun r : Int × St => MQ below (QC G (vI r.1) (r.2)) args s 0 0 (AG G)) σ (K12 y0.toInt y1.toInt y2.toInt σ) (F0 m 12 ls [])), ∀  (x24 : Int64) (x25 : Int32) (x26 : Int32) (x27 : Int32) (x28 : Int32) (x29 : Nat) (σ : St) (ls : Array Slot), lv_has ls 7 [(0, .ref (gad G k0)), (3, .long x24), (5, .int x25), (6, .int x26)] → kdX x29 = 11 → Sim G (AG G) 0 0 p l e { frames := 6, cells := 0, slots := 0, locals := 137 } s m args below meth c (fun r : Int × St => MQ below (QC G (vI r.1) (r.2)) args s 0 0 (AG G)) σ (f_X7_goDrawn_J66 F k0 a1.toInt K12   x24.toInt x25.toInt x26.toInt x27.toInt x28.toInt x29 σ) (F0 m 66 ls [.int x27, .int x28, .ref (gad G x29)]) := by
    intro K12 hK12
    intro x24 x25 x26 x27 x28 x29 σ ls hl hx29
    unfold f_X7_goDrawn_J66
    refine a_zst C hx29 rfl dX7_goDrawn_66 (q_sg (fun σ3 => ?_))
    refine q_iload C dX7_goDrawn_67 (lv_at hl 2 rfl) ?_
    refine q_aload_n C dX7_goDrawn_69 rfl (lv_at hl 0 rfl) ?_
    refine g_7_15 C hk0 kf_X7_34 dX7_goDrawn_70 ?_
    refine q_iload C dX7_goDrawn_73 (lv_at hl 3 rfl) ?_
    refine a_zld C (yk_7_15 hk0) (yl_7_15 hk0) dX7_goDrawn_75 (fun v30 => ?_)
    refine q_if_eq C 83 dX7_goDrawn_76 (by decide) ?_ ?_
    · refine q_iconst C dX7_goDrawn_83 rfl (by decide) (fun v31 => ?_)
      refine q_iadd C dX7_goDrawn_84 (fun v32 => ?_)
      refine q_istore C [(5, .int v32), (0, .ref (gad G k0)), (3, .long x24), (6, .int x26)] dX7_goDrawn_85 hl (by decide) rfl (fun ls hl => ?_)
      refine q_iinc (k := 3) C (fun v33 => [(6, .int v33), (5, .int v32), (0, .ref (gad G k0)), (3, .long x24)]) dX7_goDrawn_87 hl rfl (by decide) (by decide) (fun _ => rfl) (fun v33 ls hl => ?_)
      refine q_goto C 12 dX7_goDrawn_90 (by decide) ?_
      exact hK12 x24 v32 v33 σ3 ls (lv_sub hl [2, 3, 1, 0] rfl)
    · refine q_iconst C dX7_goDrawn_79 rfl (by decide) (fun v34 => ?_)
      refine q_goto C 84 dX7_goDrawn_80 (by decide) ?_
      refine q_iadd C dX7_goDrawn_84 (fun v35 => ?_)
      refine q_istore C [(5, .int v35), (0, .ref (gad G k0)), (3, .long x24), (6, .int x26)] dX7_goDrawn_85 hl (by decide) rfl (fun ls hl => ?_)
      refine q_iinc (k := 3) C (fun v36 => [(6, .int v36), (5, .int v35), (0, .ref (gad G k0)), (3, .long x24)]) dX7_goDrawn_87 hl rfl (by decide) (by decide) (fun _ => rfl) (fun v36 ls hl => ?_)
      refine q_goto C 12 dX7_goDrawn_90 (by decide) ?_
      exact hK12 x24 v35 v36 σ3 ls (lv_sub hl [2, 3, 1, 0] rfl)
  have B12 : ∀ (n : Nat) (x3 : Int64) (x4 : Int32) (x5 : Int32) (σ : St) (ls : Array Slot), lv_has ls 7 [(0, .ref (gad G k0)), (3, .long x3), (5, .int x4), (6, .int x5)] → Sim G (AG G) 0 0 p l e { frames := 6, cells := 0, slots := 0, locals := 137 } s m args below meth c (fun r : Int × St => MQ below (QC G (vI r.1) (r.2)) args s 0 0 (AG G)) σ (f_X7_goDrawn_L12 F k0 a1.toInt   n x3.toInt x4.toInt x5.toInt σ) (F0 m 12 ls []) := by
    intro n
    induction n with
    | zero =>
      intro x3 x4 x5 σ ls hl
      exact sim_none
    | succ n ih =>
      intro x3 x4 x5 σ ls hl
      rw [f_X7_goDrawn_L12]
      refine q_iload C dX7_goDrawn_12 (lv_at hl 3 rfl) ?_
      refine q_aload_n C dX7_goDrawn_14 rfl (lv_at hl 0 rfl) ?_
      refine q_c1i C (fun r h => cr_V (As := []) (rest := [.int x5]) C (m_X7_events l G F k0 σ r h) cb_X7_events hk0 (by decide) rfl (cf_7 hk0 _) rfl kl_X7_111 ⟨Nat.le_of_ble_eq_true rfl, Nat.le_of_ble_eq_true rfl⟩ ⟨Nat.zero_le _, Nat.zero_le _⟩ hl.1 rfl (Nat.le_of_ble_eq_true rfl) dX7_goDrawn_15 rfl) (fun v6 => ?_)
      refine q_icmp_ge C 93 dX7_goDrawn_18 (by decide) ?_ ?_
      · refine q_aload_n C dX7_goDrawn_93 rfl (lv_at hl 0 rfl) ?_
        refine q_aload_n C dX7_goDrawn_94 rfl (lv_at hl 0 rfl) ?_
        refine g_7_1 C hk0 kf_X7_9 dX7_goDrawn_95 ?_
        refine q_iconst C dX7_goDrawn_98 rfl (by decide) (fun v7 => ?_)
        refine a_ild C (yk_7_1 hk0) (yl_7_1 hk0) dX7_goDrawn_99 (fun v8 => ?_)
        refine q_cv C (fun r h => cr_V (As := [.int v8]) (rest := []) C (m_X7_layAll l G F k0 v8 σ r h) cb_X7_layAll hk0 (by decide) rfl (cf_7 hk0 _) rfl kl_X7_313 ⟨Nat.le_of_ble_eq_true rfl, Nat.le_of_ble_eq_true rfl⟩ ⟨Nat.zero_le _, Nat.zero_le _⟩ hl.1 rfl (Nat.le_of_ble_eq_true rfl) dX7_goDrawn_100 rfl) (fun σ2 => ?_)
        refine q_iload C dX7_goDrawn_103 (lv_at hl 2 rfl) ?_
        exact q_iretE C hr hlo dX7_goDrawn_105
      · refine q_ldc2 C kk_X7_502 dX7_goDrawn_21 (by decide) (fun v9 => ?_)
        refine q_lload_n C dX7_goDrawn_24 rfl (lv_at hl 1 rfl) ?_
        refine q_lmul C dX7_goDrawn_25 (fun v10 => ?_)
        refine q_ldc2 C kk_X7_504 dX7_goDrawn_26 (by decide) (fun v11 => ?_)
        refine q_ladd C dX7_goDrawn_29 (fun v12 => ?_)
        refine q_ldc2 C kk_X7_506 dX7_goDrawn_30 (by decide) (fun v13 => ?_)
        refine q_lrem C dX7_goDrawn_33 (fun v14 => ?_)
        refine q_lstore_n C [(3, .long v14), (0, .ref (gad G k0)), (5, .int x4), (6, .int x5)] dX7_goDrawn_34 rfl hl (by decide) rfl (fun ls hl => ?_)
        refine q_aload_n C dX7_goDrawn_35 rfl (lv_at hl 1 rfl) ?_
        refine g_7_15 C hk0 kf_X7_34 dX7_goDrawn_36 ?_
        refine q_iload C dX7_goDrawn_39 (lv_at hl 3 rfl) ?_
        refine q_lload_n C dX7_goDrawn_41 rfl (lv_at hl 0 rfl) ?_
        refine q_ldc2 C kk_X7_508 dX7_goDrawn_42 (by decide) (fun v15 => ?_)
        refine q_ldiv C dX7_goDrawn_45 (fun v16 => ?_)
        refine q_ldc2 C kk_X7_510 dX7_goDrawn_46 (by decide) (fun v17 => ?_)
        refine q_lrem C dX7_goDrawn_49 (fun v18 => ?_)
        refine q_aload_n C dX7_goDrawn_50 rfl (lv_at hl 1 rfl) ?_
        refine g_7_1 C hk0 kf_X7_9 dX7_goDrawn_51 ?_
        refine q_iconst C dX7_goDrawn_54 rfl (by decide) (fun v19 => ?_)
        refine a_ild C (yk_7_1 hk0) (yl_7_1 hk0) dX7_goDrawn_55 (fun v20 => ?_)
        refine q_i2l C dX7_goDrawn_56 (fun v21 => ?_)
        refine q_lcmp C dX7_goDrawn_57 (fun v22 => ?_)
        refine q_if_ge C 65 dX7_goDrawn_58 (by decide) ?_ ?_
        · refine q_iconst C dX7_goDrawn_65 rfl (by decide) (fun v23 => ?_)
          exact B66 (f_X7_goDrawn_L12 F k0 a1.toInt n) ih v14 x4 x5 v23 x5 (k0 + 7) σ ls (lv_sub hl [1, 0, 2, 3] rfl) (yk_7_15 hk0)
        · refine q_iconst C dX7_goDrawn_61 rfl (by decide) (fun v37 => ?_)
          refine q_goto C 66 dX7_goDrawn_62 (by decide) ?_
          exact B66 (f_X7_goDrawn_L12 F k0 a1.toInt n) ih v14 x4 x5 v37 x5 (k0 + 7) σ ls (lv_sub hl [1, 0, 2, 3] rfl) (yk_7_15 hk0)
  refine q_lload_n C dX7_goDrawn_0 rfl (lv_at hl 1 rfl) ?_
  refine q_lstore_n C [(3, .long a1), (0, .ref (gad G k0)), (1, .long a1)] dX7_goDrawn_1 rfl hl (by decide) rfl (fun ls hl => ?_)
  refine q_iconst C dX7_goDrawn_2 rfl (by decide) (fun v1 => ?_)
  refine q_istore C [(5, .int v1), (3, .long a1), (0, .ref (gad G k0)), (1, .long a1)] dX7_goDrawn_3 hl (by decide) rfl (fun ls hl => ?_)
  refine q_aload_n C dX7_goDrawn_5 rfl (lv_at hl 2 rfl) ?_
  refine q_cv C (fun r h => cr_V (As := []) (rest := []) C (m_X7_nothingGone l G F k0 σ r h) cb_X7_nothingGone hk0 (by decide) rfl (cf_7 hk0 _) rfl kl_X7_310 ⟨Nat.le_of_ble_eq_true rfl, Nat.le_of_ble_eq_true rfl⟩ ⟨Nat.zero_le _, Nat.zero_le _⟩ hl.1 rfl (Nat.le_of_ble_eq_true rfl) dX7_goDrawn_6 rfl) (fun σ1 => ?_)
  refine q_iconst C dX7_goDrawn_9 rfl (by decide) (fun v2 => ?_)
  refine q_istore C [(6, .int v2), (5, .int v1), (3, .long a1), (0, .ref (gad G k0)), (1, .long a1)] dX7_goDrawn_10 hl (by decide) rfl (fun ls hl => ?_)
  exact B12 F a1 v1 v2 σ1 ls (lv_sub hl [3, 2, 1, 0] rfl)
def f_X7_isSeed (F : Nat) (a1 : Int) (σ : St) : Option (Int) :=
  
  z_gt a1 fun v1 =>
  z_gt 0 fun v2 =>
  z_gt 2000000000 fun v3 =>
  z_c1 (f_X7_in F v1 v2 v3 σ) fun v4 =>
  z_bo v4 <| some v4
theorem sb_X7_isSeed : SB yX7_isSeed cX7_isSeed 1 (some .boolean) 1 := ⟨ks_X7_isSeed, kn_X7, kc_X7_isSeed, by decide +kernel, by decide +kernel, by decide +kernel⟩
set_option maxRecDepth 20000 in
set_option maxHeartbeats 4000000 in
theorem m_X7_isSeed (l : Launch) (G : GG) (F : Nat) (a1 : Int32) (σ : St) : ∀ r, f_X7_isSeed F a1.toInt σ = some r → MC G l yX7_isSeed cX7_isSeed 1 (some .boolean) { frames := 1, cells := 0, slots := 0, locals := 25 } [.int a1] σ (vI r) σ := by
  refine MC_of (own := RX7) (vI) (fun _ => σ) (by decide +kernel) rfl (Nat.le_of_ble_eq_true rfl) ?_
  intro p e s m args below meth c C hr hlo ls hl
  have hl : lv_has ls 1 [(0, .int a1)] := hl
  unfold f_X7_isSeed
  refine q_iload_n C dX7_isSeed_0 rfl (lv_at hl 0 rfl) ?_
  refine q_i2l C dX7_isSeed_1 (fun v1 => ?_)
  refine q_lconst C dX7_isSeed_2 rfl (by decide) (fun v2 => ?_)
  refine q_ldc2 C kk_X7_512 dX7_isSeed_3 (by decide) (fun v3 => ?_)
  refine q_c1i C (fun r h => cr_S (As := [.long v1, .long v2, .long v3]) (rest := []) C (m_X7_in l G F v1 v2 v3 σ r h) sb_X7_in kl_X7_103 ⟨Nat.le_of_ble_eq_true rfl, Nat.le_of_ble_eq_true rfl⟩ ⟨Nat.zero_le _, Nat.zero_le _⟩ hl.1 rfl (Nat.le_of_ble_eq_true rfl) dX7_isSeed_6 rfl) (fun v4 => ?_)
  exact q_zret C hr hlo dX7_isSeed_9
def f_X7_drawn (F : Nat) (k0 : Nat) (a1 : Int) (a2 : Int) (σ : St) : Option (Int × St) :=
  z_ob 7 k0 <| 
  z_c1 (f_X7_isStore F k0 σ) fun v1 =>
  if v1 = 0 then (
    z_gt (-2) fun v2 =>
    some (v2, σ))
  else (
    z_c1 (f_X7_isSeed F a1 σ) fun v3 =>
    if v3 = 0 then (
      z_gt (-2) fun v4 =>
      some (v4, σ))
    else (
      z_gt a2 fun v5 =>
      z_gt 0 fun v6 =>
      z_gt 1 fun v7 =>
      z_c1 (f_X7_in F v5 v6 v7 σ) fun v8 =>
      if ¬ v8 = 0 then (
        z_gt a1 fun v9 =>
        z_c2 (f_X7_goDrawn F k0 v9 σ) fun v10 σ1 =>
        if ¬ a2 = 0 then (
          z_gt 0 fun v11 =>
          z_gt 32 fun v12 =>
          z_c1 (f_X7_events F k0 σ1) fun v13 =>
          z_c1 (f_X7_dirtyFrom F k0 v11 v12 v13 σ1) fun v14 =>
          some (v14, σ1))
        else (
          some (v10, σ1)))
      else (
        z_gt (-2) fun v15 =>
        some (v15, σ))))
theorem cb_X7_drawn : CB yX7_drawn cX7_drawn 4 (some .int) 2 := ⟨ki_X7_drawn, kq_X7_drawn, kn_X7, kc_X7_drawn, by decide +kernel, by decide +kernel, by decide +kernel⟩
set_option maxRecDepth 20000 in
set_option maxHeartbeats 4000000 in
theorem m_X7_drawn (l : Launch) (G : GG) (F : Nat) (k0 : Nat) (a1 : Int32) (a2 : Int32) (σ : St) : ∀ r, f_X7_drawn F k0 a1.toInt a2.toInt σ = some r → MC G l yX7_drawn cX7_drawn 4 (some .int) { frames := 7, cells := 0, slots := 0, locals := 163 } [.ref (gad G k0), .int a1, .int a2] σ (vI r.1) r.2 := by
  refine MC_of (own := RX7) (fun r : Int × St => vI r.1) (fun r : Int × St => r.2) (by decide +kernel) rfl (Nat.le_of_ble_eq_true rfl) ?_
  intro p e s m args below meth c C hr hlo ls hl
  have hl : lv_has ls 4 [(0, .ref (gad G k0)), (1, .int a1), (2, .int a2)] := hl
  unfold f_X7_drawn
  refine q_ob (fun hk0 => ?_)
  refine q_aload_n C dX7_drawn_0 rfl (lv_at hl 0 rfl) ?_
  refine q_c1i C (fun r h => cr_V (As := []) (rest := []) C (m_X7_isStore l G F k0 σ r h) cb_X7_isStore hk0 (by decide) rfl (cf_7 hk0 _) rfl kl_X7_114 ⟨Nat.le_of_ble_eq_true rfl, Nat.le_of_ble_eq_true rfl⟩ ⟨Nat.zero_le _, Nat.zero_le _⟩ hl.1 rfl (Nat.le_of_ble_eq_true rfl) dX7_drawn_1 rfl) (fun v1 => ?_)
  refine q_if_eq C 24 dX7_drawn_4 (by decide) ?_ ?_
  · refine q_bipush C dX7_drawn_24 rfl (by decide) (fun v2 => ?_)
    exact q_iretE C hr hlo dX7_drawn_26
  · refine q_iload_n C dX7_drawn_7 rfl (lv_at hl 1 rfl) ?_
    refine q_c1i C (fun r h => cr_S (As := [.int a1]) (rest := []) C (m_X7_isSeed l G F a1 σ r h) sb_X7_isSeed kl_X7_514 ⟨Nat.le_of_ble_eq_true rfl, Nat.le_of_ble_eq_true rfl⟩ ⟨Nat.zero_le _, Nat.zero_le _⟩ hl.1 rfl (Nat.le_of_ble_eq_true rfl) dX7_drawn_8 rfl) (fun v3 => ?_)
    refine q_if_eq C 24 dX7_drawn_11 (by decide) ?_ ?_
    · refine q_bipush C dX7_drawn_24 rfl (by decide) (fun v4 => ?_)
      exact q_iretE C hr hlo dX7_drawn_26
    · refine q_iload_n C dX7_drawn_14 rfl (lv_at hl 2 rfl) ?_
      refine q_i2l C dX7_drawn_15 (fun v5 => ?_)
      refine q_lconst C dX7_drawn_16 rfl (by decide) (fun v6 => ?_)
      refine q_lconst C dX7_drawn_17 rfl (by decide) (fun v7 => ?_)
      refine q_c1i C (fun r h => cr_S (As := [.long v5, .long v6, .long v7]) (rest := []) C (m_X7_in l G F v5 v6 v7 σ r h) sb_X7_in kl_X7_103 ⟨Nat.le_of_ble_eq_true rfl, Nat.le_of_ble_eq_true rfl⟩ ⟨Nat.zero_le _, Nat.zero_le _⟩ hl.1 rfl (Nat.le_of_ble_eq_true rfl) dX7_drawn_18 rfl) (fun v8 => ?_)
      refine q_if_ne C 27 dX7_drawn_21 (by decide) ?_ ?_
      · refine q_aload_n C dX7_drawn_27 rfl (lv_at hl 0 rfl) ?_
        refine q_iload_n C dX7_drawn_28 rfl (lv_at hl 1 rfl) ?_
        refine q_i2l C dX7_drawn_29 (fun v9 => ?_)
        refine q_c2i C (fun r h => cr_V (As := [.long v9]) (rest := []) C (m_X7_goDrawn l G F k0 v9 σ r h) cb_X7_goDrawn hk0 (by decide) rfl (cf_7 hk0 _) rfl kl_X7_517 ⟨Nat.le_of_ble_eq_true rfl, Nat.le_of_ble_eq_true rfl⟩ ⟨Nat.zero_le _, Nat.zero_le _⟩ hl.1 rfl (Nat.le_of_ble_eq_true rfl) dX7_drawn_30 rfl) (fun v10 σ1 => ?_)
        refine q_istore_n C [(3, .int v10), (0, .ref (gad G k0)), (1, .int a1), (2, .int a2)] dX7_drawn_33 rfl hl (by decide) rfl (fun ls hl => ?_)
        refine q_iload_n C dX7_drawn_34 rfl (lv_at hl 3 rfl) ?_
        refine q_if_ne C 42 dX7_drawn_35 (by decide) ?_ ?_
        · refine q_aload_n C dX7_drawn_42 rfl (lv_at hl 1 rfl) ?_
          refine q_iconst C dX7_drawn_43 rfl (by decide) (fun v11 => ?_)
          refine q_bipush C dX7_drawn_44 rfl (by decide) (fun v12 => ?_)
          refine q_aload_n C dX7_drawn_46 rfl (lv_at hl 1 rfl) ?_
          refine q_c1i C (fun r h => cr_V (As := []) (rest := [.int v12, .int v11, .ref (gad G k0)]) C (m_X7_events l G F k0 σ1 r h) cb_X7_events hk0 (by decide) rfl (cf_7 hk0 _) rfl kl_X7_111 ⟨Nat.le_of_ble_eq_true rfl, Nat.le_of_ble_eq_true rfl⟩ ⟨Nat.zero_le _, Nat.zero_le _⟩ hl.1 rfl (Nat.le_of_ble_eq_true rfl) dX7_drawn_47 rfl) (fun v13 => ?_)
          refine q_c1i C (fun r h => cr_V (As := [.int v11, .int v12, .int v13]) (rest := []) C (m_X7_dirtyFrom l G F k0 v11 v12 v13 σ1 r h) cb_X7_dirtyFrom hk0 (by decide) rfl (cf_7 hk0 _) rfl kl_X7_340 ⟨Nat.le_of_ble_eq_true rfl, Nat.le_of_ble_eq_true rfl⟩ ⟨Nat.zero_le _, Nat.zero_le _⟩ hl.1 rfl (Nat.le_of_ble_eq_true rfl) dX7_drawn_50 rfl) (fun v14 => ?_)
          exact q_iretE C hr hlo dX7_drawn_53
        · refine q_iload_n C dX7_drawn_38 rfl (lv_at hl 0 rfl) ?_
          refine q_goto C 53 dX7_drawn_39 (by decide) ?_
          exact q_iretE C hr hlo dX7_drawn_53
      · refine q_bipush C dX7_drawn_24 rfl (by decide) (fun v15 => ?_)
        exact q_iretE C hr hlo dX7_drawn_26
def f_X7_luck_L37 (F : Nat) (k0 : Nat) (a1 : Int) (a2 : Int) (a3 : Int)   : Nat → Int → Int → St → Option (Int × St)
  | 0, _, _, _ => none
  | n + 1, x12, x13, σ =>
    if a2 ≤ x13 then (
      some (x12, σ))
    else (
      z_gt a1 fun v14 =>
      z_gt x13 fun v15 =>
      z_lk (v14 + v15) fun v16 =>
      z_c2 (f_X7_goDrawn F k0 v16 σ) fun v17 σ1 =>
      z_c1 (f_X7_events F k0 σ1) fun v18 =>
      z_c1 (f_X7_isDirtyAt F k0 a3 v18 σ1) fun v19 =>
      if v19 = 0 then (
        z_gt 0 fun v20 =>
        z_ck (x12 + v20) fun v21 =>
        z_ck (x13 + 1) fun v22 =>
        f_X7_luck_L37 F k0 a1 a2 a3 n v21 v22 σ1)
      else (
        z_gt 1 fun v23 =>
        z_ck (x12 + v23) fun v24 =>
        z_ck (x13 + 1) fun v25 =>
        f_X7_luck_L37 F k0 a1 a2 a3 n v24 v25 σ1))

def f_X7_luck (F : Nat) (k0 : Nat) (a1 : Int) (a2 : Int) (a3 : Int) (σ : St) : Option (Int × St) :=
  z_ob 7 k0 <| 
  z_gt a3 fun v1 =>
  z_c1 (f_X7_isCell F k0 v1 σ) fun v2 =>
  if v2 = 0 then (
    z_gt (-2) fun v3 =>
    some (v3, σ))
  else (
    z_c1 (f_X7_isSeed F a1 σ) fun v4 =>
    if v4 = 0 then (
      z_gt (-2) fun v5 =>
      some (v5, σ))
    else (
      z_gt a2 fun v6 =>
      z_gt 1 fun v7 =>
      z_gt 20 fun v8 =>
      z_c1 (f_X7_in F v6 v7 v8 σ) fun v9 =>
      if ¬ v9 = 0 then (
        z_gt 0 fun v10 =>
        z_gt 0 fun v11 =>
        f_X7_luck_L37 F k0 a1 a2 a3 F v10 v11 σ)
      else (
        z_gt (-2) fun v26 =>
        some (v26, σ))))
theorem cb_X7_luck : CB yX7_luck cX7_luck 6 (some .int) 3 := ⟨ki_X7_luck, kq_X7_luck, kn_X7, kc_X7_luck, by decide +kernel, by decide +kernel, by decide +kernel⟩
set_option maxRecDepth 20000 in
set_option maxHeartbeats 4000000 in
theorem m_X7_luck (l : Launch) (G : GG) (F : Nat) (k0 : Nat) (a1 : Int32) (a2 : Int32) (a3 : Int32) (σ : St) : ∀ r, f_X7_luck F k0 a1.toInt a2.toInt a3.toInt σ = some r → MC G l yX7_luck cX7_luck 6 (some .int) { frames := 7, cells := 0, slots := 0, locals := 163 } [.ref (gad G k0), .int a1, .int a2, .int a3] σ (vI r.1) r.2 := by
  refine MC_of (own := RX7) (fun r : Int × St => vI r.1) (fun r : Int × St => r.2) (by decide +kernel) rfl (Nat.le_of_ble_eq_true rfl) ?_
  intro p e s m args below meth c C hr hlo ls hl
  have hl : lv_has ls 6 [(0, .ref (gad G k0)), (1, .int a1), (2, .int a2), (3, .int a3)] := hl
  unfold f_X7_luck
  refine q_ob (fun hk0 => ?_)
  have B37 : ∀ (n : Nat) (x12 : Int32) (x13 : Int32) (σ : St) (ls : Array Slot), lv_has ls 6 [(0, .ref (gad G k0)), (1, .int a1), (2, .int a2), (3, .int a3), (4, .int x12), (5, .int x13)] → Sim G (AG G) 0 0 p l e { frames := 7, cells := 0, slots := 0, locals := 163 } s m args below meth c (fun r : Int × St => MQ below (QC G (vI r.1) (r.2)) args s 0 0 (AG G)) σ (f_X7_luck_L37 F k0 a1.toInt a2.toInt a3.toInt   n x12.toInt x13.toInt σ) (F0 m 37 ls []) := by
    intro n
    induction n with
    | zero =>
      intro x12 x13 σ ls hl
      exact sim_none
    | succ n ih =>
      intro x12 x13 σ ls hl
      rw [f_X7_luck_L37]
      refine q_iload C dX7_luck_37 (lv_at hl 5 rfl) ?_
      refine q_iload_n C dX7_luck_39 rfl (lv_at hl 2 rfl) ?_
      refine q_icmp_ge C 82 dX7_luck_40 (by decide) ?_ ?_
      · refine q_iload C dX7_luck_82 (lv_at hl 4 rfl) ?_
        exact q_iretE C hr hlo dX7_luck_84
      · refine q_aload_n C dX7_luck_43 rfl (lv_at hl 0 rfl) ?_
        refine q_iload_n C dX7_luck_44 rfl (lv_at hl 1 rfl) ?_
        refine q_i2l C dX7_luck_45 (fun v14 => ?_)
        refine q_iload C dX7_luck_46 (lv_at hl 5 rfl) ?_
        refine q_i2l C dX7_luck_48 (fun v15 => ?_)
        refine q_ladd C dX7_luck_49 (fun v16 => ?_)
        refine q_c2i C (fun r h => cr_V (As := [.long v16]) (rest := []) C (m_X7_goDrawn l G F k0 v16 σ r h) cb_X7_goDrawn hk0 (by decide) rfl (cf_7 hk0 _) rfl kl_X7_517 ⟨Nat.le_of_ble_eq_true rfl, Nat.le_of_ble_eq_true rfl⟩ ⟨Nat.zero_le _, Nat.zero_le _⟩ hl.1 rfl (Nat.le_of_ble_eq_true rfl) dX7_luck_50 rfl) (fun v17 σ1 => ?_)
        refine q_pop C dX7_luck_53 rfl ?_
        refine q_iload C dX7_luck_54 (lv_at hl 4 rfl) ?_
        refine q_aload_n C dX7_luck_56 rfl (lv_at hl 0 rfl) ?_
        refine q_iload_n C dX7_luck_57 rfl (lv_at hl 3 rfl) ?_
        refine q_aload_n C dX7_luck_58 rfl (lv_at hl 0 rfl) ?_
        refine q_c1i C (fun r h => cr_V (As := []) (rest := [.int a3, .ref (gad G k0), .int x12]) C (m_X7_events l G F k0 σ1 r h) cb_X7_events hk0 (by decide) rfl (cf_7 hk0 _) rfl kl_X7_111 ⟨Nat.le_of_ble_eq_true rfl, Nat.le_of_ble_eq_true rfl⟩ ⟨Nat.zero_le _, Nat.zero_le _⟩ hl.1 rfl (Nat.le_of_ble_eq_true rfl) dX7_luck_59 rfl) (fun v18 => ?_)
        refine q_c1i C (fun r h => cr_V (As := [.int a3, .int v18]) (rest := [.int x12]) C (m_X7_isDirtyAt l G F k0 a3 v18 σ1 r h) cb_X7_isDirtyAt hk0 (by decide) rfl (cf_7 hk0 _) rfl kl_X7_283 ⟨Nat.le_of_ble_eq_true rfl, Nat.le_of_ble_eq_true rfl⟩ ⟨Nat.zero_le _, Nat.zero_le _⟩ hl.1 rfl (Nat.le_of_ble_eq_true rfl) dX7_luck_62 rfl) (fun v19 => ?_)
        refine q_if_eq C 72 dX7_luck_65 (by decide) ?_ ?_
        · refine q_iconst C dX7_luck_72 rfl (by decide) (fun v20 => ?_)
          refine q_iadd C dX7_luck_73 (fun v21 => ?_)
          refine q_istore C [(4, .int v21), (0, .ref (gad G k0)), (1, .int a1), (2, .int a2), (3, .int a3), (5, .int x13)] dX7_luck_74 hl (by decide) rfl (fun ls hl => ?_)
          refine q_iinc (k := 5) C (fun v22 => [(5, .int v22), (4, .int v21), (0, .ref (gad G k0)), (1, .int a1), (2, .int a2), (3, .int a3)]) dX7_luck_76 hl rfl (by decide) (by decide) (fun _ => rfl) (fun v22 ls hl => ?_)
          refine q_goto C 37 dX7_luck_79 (by decide) ?_
          exact ih v21 v22 σ1 ls (lv_sub hl [2, 3, 4, 5, 1, 0] rfl)
        · refine q_iconst C dX7_luck_68 rfl (by decide) (fun v23 => ?_)
          refine q_goto C 73 dX7_luck_69 (by decide) ?_
          refine q_iadd C dX7_luck_73 (fun v24 => ?_)
          refine q_istore C [(4, .int v24), (0, .ref (gad G k0)), (1, .int a1), (2, .int a2), (3, .int a3), (5, .int x13)] dX7_luck_74 hl (by decide) rfl (fun ls hl => ?_)
          refine q_iinc (k := 5) C (fun v25 => [(5, .int v25), (4, .int v24), (0, .ref (gad G k0)), (1, .int a1), (2, .int a2), (3, .int a3)]) dX7_luck_76 hl rfl (by decide) (by decide) (fun _ => rfl) (fun v25 ls hl => ?_)
          refine q_goto C 37 dX7_luck_79 (by decide) ?_
          exact ih v24 v25 σ1 ls (lv_sub hl [2, 3, 4, 5, 1, 0] rfl)
  refine q_aload_n C dX7_luck_0 rfl (lv_at hl 0 rfl) ?_
  refine q_iload_n C dX7_luck_1 rfl (lv_at hl 3 rfl) ?_
  refine q_i2l C dX7_luck_2 (fun v1 => ?_)
  refine q_c1i C (fun r h => cr_V (As := [.long v1]) (rest := []) C (m_X7_isCell l G F k0 v1 σ r h) cb_X7_isCell hk0 (by decide) rfl (cf_7 hk0 _) rfl kl_X7_326 ⟨Nat.le_of_ble_eq_true rfl, Nat.le_of_ble_eq_true rfl⟩ ⟨Nat.zero_le _, Nat.zero_le _⟩ hl.1 rfl (Nat.le_of_ble_eq_true rfl) dX7_luck_3 rfl) (fun v2 => ?_)
  refine q_if_eq C 28 dX7_luck_6 (by decide) ?_ ?_
  · refine q_bipush C dX7_luck_28 rfl (by decide) (fun v3 => ?_)
    exact q_iretE C hr hlo dX7_luck_30
  · refine q_iload_n C dX7_luck_9 rfl (lv_at hl 1 rfl) ?_
    refine q_c1i C (fun r h => cr_S (As := [.int a1]) (rest := []) C (m_X7_isSeed l G F a1 σ r h) sb_X7_isSeed kl_X7_514 ⟨Nat.le_of_ble_eq_true rfl, Nat.le_of_ble_eq_true rfl⟩ ⟨Nat.zero_le _, Nat.zero_le _⟩ hl.1 rfl (Nat.le_of_ble_eq_true rfl) dX7_luck_10 rfl) (fun v4 => ?_)
    refine q_if_eq C 28 dX7_luck_13 (by decide) ?_ ?_
    · refine q_bipush C dX7_luck_28 rfl (by decide) (fun v5 => ?_)
      exact q_iretE C hr hlo dX7_luck_30
    · refine q_iload_n C dX7_luck_16 rfl (lv_at hl 2 rfl) ?_
      refine q_i2l C dX7_luck_17 (fun v6 => ?_)
      refine q_lconst C dX7_luck_18 rfl (by decide) (fun v7 => ?_)
      refine q_ldc2 C kk_X7_394 dX7_luck_19 (by decide) (fun v8 => ?_)
      refine q_c1i C (fun r h => cr_S (As := [.long v6, .long v7, .long v8]) (rest := []) C (m_X7_in l G F v6 v7 v8 σ r h) sb_X7_in kl_X7_103 ⟨Nat.le_of_ble_eq_true rfl, Nat.le_of_ble_eq_true rfl⟩ ⟨Nat.zero_le _, Nat.zero_le _⟩ hl.1 rfl (Nat.le_of_ble_eq_true rfl) dX7_luck_22 rfl) (fun v9 => ?_)
      refine q_if_ne C 31 dX7_luck_25 (by decide) ?_ ?_
      · refine q_iconst C dX7_luck_31 rfl (by decide) (fun v10 => ?_)
        refine q_istore C [(4, .int v10), (0, .ref (gad G k0)), (1, .int a1), (2, .int a2), (3, .int a3)] dX7_luck_32 hl (by decide) rfl (fun ls hl => ?_)
        refine q_iconst C dX7_luck_34 rfl (by decide) (fun v11 => ?_)
        refine q_istore C [(5, .int v11), (4, .int v10), (0, .ref (gad G k0)), (1, .int a1), (2, .int a2), (3, .int a3)] dX7_luck_35 hl (by decide) rfl (fun ls hl => ?_)
        exact B37 F v10 v11 σ ls (lv_sub hl [2, 3, 4, 5, 1, 0] rfl)
      · refine q_bipush C dX7_luck_28 rfl (by decide) (fun v26 => ?_)
        exact q_iretE C hr hlo dX7_luck_30
def f_X7_count_L42 (F : Nat) (k0 : Nat) (a1 : Int)  (σ : St) : Nat → Int → Int → Option (Int)
  | 0, _, _ => none
  | n + 1, x9, x10 =>
    z_gt 4 fun v11 =>
    if v11 ≤ x10 then (
      some x9)
    else (
      z_ix x10 4 <| z_gt (σ (k0 + 24) x10) fun v12 =>
      z_gt (-1) fun v13 =>
      if ¬ v12 = v13 then (
        z_gt 1 fun v14 =>
        z_ck (x9 + v14) fun v15 =>
        z_ck (x10 + 1) fun v16 =>
        f_X7_count_L42 F k0 a1 σ n v15 v16)
      else (
        z_gt 0 fun v17 =>
        z_ck (x9 + v17) fun v18 =>
        z_ck (x10 + 1) fun v19 =>
        f_X7_count_L42 F k0 a1 σ n v18 v19))

def f_X7_count (F : Nat) (k0 : Nat) (a1 : Int) (σ : St) : Option (Int) :=
  z_ob 7 k0 <| 
  z_gt a1 fun v1 =>
  z_gt 0 fun v2 =>
  z_gt 5 fun v3 =>
  z_c1 (f_X7_in F v1 v2 v3 σ) fun v4 =>
  if v4 = 0 then (
    z_gt 6 fun v5 =>
    if ¬ a1 = v5 then (
      z_gt 7 fun v6 =>
      if a1 = v6 then (
        z_gt 0 fun v7 =>
        z_gt 0 fun v8 =>
        f_X7_count_L42 F k0 a1 σ F v7 v8)
      else (
        z_gt (-1) fun v20 =>
        some v20))
    else (
      z_gt (σ k0 5) fun v21 =>
      some v21))
  else (
    z_ix a1 246 <| z_gt (σ (k0 + 1) a1) fun v22 =>
    some v22)
theorem cb_X7_count : CB yX7_count cX7_count 4 (some .int) 1 := ⟨ki_X7_count, kq_X7_count, kn_X7, kc_X7_count, by decide +kernel, by decide +kernel, by decide +kernel⟩
set_option maxRecDepth 20000 in
set_option maxHeartbeats 4000000 in
theorem m_X7_count (l : Launch) (G : GG) (F : Nat) (k0 : Nat) (a1 : Int32) (σ : St) : ∀ r, f_X7_count F k0 a1.toInt σ = some r → MC G l yX7_count cX7_count 4 (some .int) { frames := 1, cells := 0, slots := 0, locals := 25 } [.ref (gad G k0), .int a1] σ (vI r) σ := by
  refine MC_of (own := RX7) (vI) (fun _ => σ) (by decide +kernel) rfl (Nat.le_of_ble_eq_true rfl) ?_
  intro p e s m args below meth c C hr hlo ls hl
  have hl : lv_has ls 4 [(0, .ref (gad G k0)), (1, .int a1)] := hl
  unfold f_X7_count
  refine q_ob (fun hk0 => ?_)
  have B42 : ∀ (n : Nat) (x9 : Int32) (x10 : Int32) (ls : Array Slot), lv_has ls 4 [(0, .ref (gad G k0)), (2, .int x9), (3, .int x10)] → Sim G (AG G) 0 0 p l e { frames := 1, cells := 0, slots := 0, locals := 25 } s m args below meth c (fun r : Int => MQ below (QC G (vI r) (σ)) args s 0 0 (AG G)) σ (f_X7_count_L42 F k0 a1.toInt  σ n x9.toInt x10.toInt) (F0 m 42 ls []) := by
    intro n
    induction n with
    | zero =>
      intro x9 x10 ls hl
      exact sim_none
    | succ n ih =>
      intro x9 x10 ls hl
      rw [f_X7_count_L42]
      refine q_iload_n C dX7_count_42 rfl (lv_at hl 2 rfl) ?_
      refine q_iconst C dX7_count_43 rfl (by decide) (fun v11 => ?_)
      refine q_icmp_ge C 71 dX7_count_44 (by decide) ?_ ?_
      · refine q_iload_n C dX7_count_71 rfl (lv_at hl 1 rfl) ?_
        exact q_iret C hr hlo dX7_count_72
      · refine q_iload_n C dX7_count_47 rfl (lv_at hl 1 rfl) ?_
        refine q_aload_n C dX7_count_48 rfl (lv_at hl 0 rfl) ?_
        refine g_7_40 C hk0 kf_X7_85 dX7_count_49 ?_
        refine q_iload_n C dX7_count_52 rfl (lv_at hl 2 rfl) ?_
        refine a_ild C (yk_7_40 hk0) (yl_7_40 hk0) dX7_count_53 (fun v12 => ?_)
        refine q_iconst C dX7_count_54 rfl (by decide) (fun v13 => ?_)
        refine q_icmp_ne C 62 dX7_count_55 (by decide) ?_ ?_
        · refine q_iconst C dX7_count_62 rfl (by decide) (fun v14 => ?_)
          refine q_iadd C dX7_count_63 (fun v15 => ?_)
          refine q_istore_n C [(2, .int v15), (0, .ref (gad G k0)), (3, .int x10)] dX7_count_64 rfl hl (by decide) rfl (fun ls hl => ?_)
          refine q_iinc (k := 2) C (fun v16 => [(3, .int v16), (2, .int v15), (0, .ref (gad G k0))]) dX7_count_65 hl rfl (by decide) (by decide) (fun _ => rfl) (fun v16 ls hl => ?_)
          refine q_goto C 42 dX7_count_68 (by decide) ?_
          exact ih v15 v16 ls (lv_sub hl [2, 1, 0] rfl)
        · refine q_iconst C dX7_count_58 rfl (by decide) (fun v17 => ?_)
          refine q_goto C 63 dX7_count_59 (by decide) ?_
          refine q_iadd C dX7_count_63 (fun v18 => ?_)
          refine q_istore_n C [(2, .int v18), (0, .ref (gad G k0)), (3, .int x10)] dX7_count_64 rfl hl (by decide) rfl (fun ls hl => ?_)
          refine q_iinc (k := 2) C (fun v19 => [(3, .int v19), (2, .int v18), (0, .ref (gad G k0))]) dX7_count_65 hl rfl (by decide) (by decide) (fun _ => rfl) (fun v19 ls hl => ?_)
          refine q_goto C 42 dX7_count_68 (by decide) ?_
          exact ih v18 v19 ls (lv_sub hl [2, 1, 0] rfl)
  refine q_iload_n C dX7_count_0 rfl (lv_at hl 1 rfl) ?_
  refine q_i2l C dX7_count_1 (fun v1 => ?_)
  refine q_lconst C dX7_count_2 rfl (by decide) (fun v2 => ?_)
  refine q_ldc2 C kk_X7_343 dX7_count_3 (by decide) (fun v3 => ?_)
  refine q_c1i C (fun r h => cr_S (As := [.long v1, .long v2, .long v3]) (rest := []) C (m_X7_in l G F v1 v2 v3 σ r h) sb_X7_in kl_X7_103 ⟨Nat.le_of_ble_eq_true rfl, Nat.le_of_ble_eq_true rfl⟩ ⟨Nat.zero_le _, Nat.zero_le _⟩ hl.1 rfl (Nat.le_of_ble_eq_true rfl) dX7_count_6 rfl) (fun v4 => ?_)
  refine q_if_eq C 19 dX7_count_9 (by decide) ?_ ?_
  · refine q_iload_n C dX7_count_19 rfl (lv_at hl 1 rfl) ?_
    refine q_bipush C dX7_count_20 rfl (by decide) (fun v5 => ?_)
    refine q_icmp_ne C 30 dX7_count_22 (by decide) ?_ ?_
    · refine q_iload_n C dX7_count_30 rfl (lv_at hl 1 rfl) ?_
      refine q_bipush C dX7_count_31 rfl (by decide) (fun v6 => ?_)
      refine q_icmp_eq C 38 dX7_count_33 (by decide) ?_ ?_
      · refine q_iconst C dX7_count_38 rfl (by decide) (fun v7 => ?_)
        refine q_istore_n C [(2, .int v7), (0, .ref (gad G k0)), (1, .int a1)] dX7_count_39 rfl hl (by decide) rfl (fun ls hl => ?_)
        refine q_iconst C dX7_count_40 rfl (by decide) (fun v8 => ?_)
        refine q_istore_n C [(3, .int v8), (2, .int v7), (0, .ref (gad G k0)), (1, .int a1)] dX7_count_41 rfl hl (by decide) rfl (fun ls hl => ?_)
        exact B42 F v7 v8 ls (lv_sub hl [2, 1, 0] rfl)
      · refine q_iconst C dX7_count_36 rfl (by decide) (fun v20 => ?_)
        exact q_iret C hr hlo dX7_count_37
    · refine q_aload_n C dX7_count_25 rfl (lv_at hl 0 rfl) ?_
      refine g_7_5 C hk0 kf_X7_140 dX7_count_26 (fun v21 => ?_)
      exact q_iret C hr hlo dX7_count_29
  · refine q_aload_n C dX7_count_12 rfl (lv_at hl 0 rfl) ?_
    refine g_7_1 C hk0 kf_X7_9 dX7_count_13 ?_
    refine q_iload_n C dX7_count_16 rfl (lv_at hl 1 rfl) ?_
    refine a_ild C (yk_7_1 hk0) (yl_7_1 hk0) dX7_count_17 (fun v22 => ?_)
    exact q_iret C hr hlo dX7_count_18
def f_X7_clipped (F : Nat) (a1 : Int) (a2 : Int) (σ : St) : Option (Int) :=
  
  z_gt 64 fun v1 =>
  z_gt 8 fun v2 =>
  z_gt (z_shl v2 a2) fun v3 =>
  z_ck (v1 - v3) fun v4 =>
  z_gt (z_lshl a1 v4) fun v5 =>
  z_gt (z_lshr v5 v4) fun v6 =>
  some v6
theorem sb_X7_clipped : SB yX7_clipped cX7_clipped 4 (some .long) 2 := ⟨ks_X7_clipped, kn_X7, kc_X7_clipped, by decide +kernel, by decide +kernel, by decide +kernel⟩
set_option maxRecDepth 20000 in
set_option maxHeartbeats 4000000 in
theorem m_X7_clipped (l : Launch) (G : GG) (F : Nat) (a1 : Int64) (a2 : Int32) (σ : St) : ∀ r, f_X7_clipped F a1.toInt a2.toInt σ = some r → MC G l yX7_clipped cX7_clipped 4 (some .long) { frames := 0, cells := 0, slots := 0, locals := 0 } [.long a1, .int a2] σ (vL r) σ := by
  refine MC_of (own := RX7) (vL) (fun _ => σ) (by decide +kernel) rfl (Nat.le_of_ble_eq_true rfl) ?_
  intro p e s m args below meth c C hr hlo ls hl
  have hl : lv_has ls 4 [(0, .long a1), (2, .int a2)] := hl
  unfold f_X7_clipped
  refine q_bipush C dX7_clipped_0 rfl (by decide) (fun v1 => ?_)
  refine q_bipush C dX7_clipped_2 rfl (by decide) (fun v2 => ?_)
  refine q_iload_n C dX7_clipped_4 rfl (lv_at hl 1 rfl) ?_
  refine q_ishl C dX7_clipped_5 (fun v3 => ?_)
  refine q_isub C dX7_clipped_6 (fun v4 => ?_)
  refine q_istore_n C [(3, .int v4), (0, .long a1), (2, .int a2)] dX7_clipped_7 rfl hl (by decide) rfl (fun ls hl => ?_)
  refine q_lload_n C dX7_clipped_8 rfl (lv_at hl 1 rfl) ?_
  refine q_iload_n C dX7_clipped_9 rfl (lv_at hl 0 rfl) ?_
  refine q_lshl C dX7_clipped_10 (fun v5 => ?_)
  refine q_iload_n C dX7_clipped_11 rfl (lv_at hl 0 rfl) ?_
  refine q_lshr C dX7_clipped_12 (fun v6 => ?_)
  exact q_lret C hr hlo dX7_clipped_13
def f_X7_row_L52 (F : Nat) (k0 : Nat) (a1 : Int) (a2 : Int) (a3 : Int)   : Nat → Int → St → Option (Int × St)
  | 0, _, _ => none
  | n + 1, x10, σ =>
    z_gt 60 fun v11 =>
    if v11 ≤ x10 then (
      z_gt 0 fun v12 =>
      some (v12, σ))
    else (
      z_gt 60 fun v13 =>
      z_ck (v13 * a1) fun v14 =>
      z_ck (v14 + x10) fun v15 =>
      z_gt 0 fun v16 =>
      z_ix v15 240 <| z_sg (z_up σ (k0 + 26) v15 v16) fun σ3 =>
      z_ck (x10 + 1) fun v17 =>
      f_X7_row_L52 F k0 a1 a2 a3 n v17 σ3)

def f_X7_row (F : Nat) (k0 : Nat) (a1 : Int) (a2 : Int) (a3 : Int) (σ : St) : Option (Int × St) :=
  z_ob 7 k0 <| 
  z_c1 (f_X7_isSlot F a1 σ) fun v1 =>
  if v1 = 0 then (
    z_gt (-2) fun v2 =>
    some (v2, σ))
  else (
    z_gt a2 fun v3 =>
    z_gt 0 fun v4 =>
    z_gt 3 fun v5 =>
    z_c1 (f_X7_in F v3 v4 v5 σ) fun v6 =>
    if v6 = 0 then (
      z_gt (-2) fun v7 =>
      some (v7, σ))
    else (
      z_gt 60 fun v8 =>
      if a3 ≤ v8 then (
        if 0 ≤ a3 then (
          z_ix a1 4 <| z_sg (z_up σ (k0 + 24) a1 a3) fun σ1 =>
          z_ix a1 4 <| z_sg (z_up σ1 (k0 + 25) a1 a2) fun σ2 =>
          z_gt 0 fun v9 =>
          f_X7_row_L52 F k0 a1 a2 a3 F v9 σ2)
        else (
          z_gt (-3) fun v18 =>
          some (v18, σ)))
      else (
        z_gt (-2) fun v19 =>
        some (v19, σ))))
theorem cb_X7_row : CB yX7_row cX7_row 5 (some .int) 3 := ⟨ki_X7_row, kq_X7_row, kn_X7, kc_X7_row, by decide +kernel, by decide +kernel, by decide +kernel⟩
set_option maxRecDepth 20000 in
set_option maxHeartbeats 4000000 in
theorem m_X7_row (l : Launch) (G : GG) (F : Nat) (k0 : Nat) (a1 : Int32) (a2 : Int32) (a3 : Int32) (σ : St) : ∀ r, f_X7_row F k0 a1.toInt a2.toInt a3.toInt σ = some r → MC G l yX7_row cX7_row 5 (some .int) { frames := 2, cells := 0, slots := 0, locals := 45 } [.ref (gad G k0), .int a1, .int a2, .int a3] σ (vI r.1) r.2 := by
  refine MC_of (own := RX7) (fun r : Int × St => vI r.1) (fun r : Int × St => r.2) (by decide +kernel) rfl (Nat.le_of_ble_eq_true rfl) ?_
  intro p e s m args below meth c C hr hlo ls hl
  have hl : lv_has ls 5 [(0, .ref (gad G k0)), (1, .int a1), (2, .int a2), (3, .int a3)] := hl
  unfold f_X7_row
  refine q_ob (fun hk0 => ?_)
  have B52 : ∀ (n : Nat) (x10 : Int32) (σ : St) (ls : Array Slot), lv_has ls 5 [(0, .ref (gad G k0)), (1, .int a1), (4, .int x10)] → Sim G (AG G) 0 0 p l e { frames := 2, cells := 0, slots := 0, locals := 45 } s m args below meth c (fun r : Int × St => MQ below (QC G (vI r.1) (r.2)) args s 0 0 (AG G)) σ (f_X7_row_L52 F k0 a1.toInt a2.toInt a3.toInt   n x10.toInt σ) (F0 m 52 ls []) := by
    intro n
    induction n with
    | zero =>
      intro x10 σ ls hl
      exact sim_none
    | succ n ih =>
      intro x10 σ ls hl
      rw [f_X7_row_L52]
      refine q_iload C dX7_row_52 (lv_at hl 2 rfl) ?_
      refine q_bipush C dX7_row_54 rfl (by decide) (fun v11 => ?_)
      refine q_icmp_ge C 78 dX7_row_56 (by decide) ?_ ?_
      · refine q_iconst C dX7_row_78 rfl (by decide) (fun v12 => ?_)
        exact q_iretE C hr hlo dX7_row_79
      · refine q_aload_n C dX7_row_59 rfl (lv_at hl 0 rfl) ?_
        refine g_7_42 C hk0 kf_X7_91 dX7_row_60 ?_
        refine q_bipush C dX7_row_63 rfl (by decide) (fun v13 => ?_)
        refine q_iload_n C dX7_row_65 rfl (lv_at hl 1 rfl) ?_
        refine q_imul C dX7_row_66 (fun v14 => ?_)
        refine q_iload C dX7_row_67 (lv_at hl 2 rfl) ?_
        refine q_iadd C dX7_row_69 (fun v15 => ?_)
        refine q_lconst C dX7_row_70 rfl (by decide) (fun v16 => ?_)
        refine a_lst C (yk_7_42 hk0) (yl_7_42 hk0) dX7_row_71 (q_sg (fun σ3 => ?_))
        refine q_iinc (k := 2) C (fun v17 => [(4, .int v17), (0, .ref (gad G k0)), (1, .int a1)]) dX7_row_72 hl rfl (by decide) (by decide) (fun _ => rfl) (fun v17 ls hl => ?_)
        refine q_goto C 52 dX7_row_75 (by decide) ?_
        exact ih v17 σ3 ls (lv_sub hl [1, 2, 0] rfl)
  refine q_iload_n C dX7_row_0 rfl (lv_at hl 1 rfl) ?_
  refine q_c1i C (fun r h => cr_S (As := [.int a1]) (rest := []) C (m_X7_isSlot l G F a1 σ r h) sb_X7_isSlot kl_X7_412 ⟨Nat.le_of_ble_eq_true rfl, Nat.le_of_ble_eq_true rfl⟩ ⟨Nat.zero_le _, Nat.zero_le _⟩ hl.1 rfl (Nat.le_of_ble_eq_true rfl) dX7_row_1 rfl) (fun v1 => ?_)
  refine q_if_eq C 25 dX7_row_4 (by decide) ?_ ?_
  · refine q_bipush C dX7_row_25 rfl (by decide) (fun v2 => ?_)
    exact q_iretE C hr hlo dX7_row_27
  · refine q_iload_n C dX7_row_7 rfl (lv_at hl 2 rfl) ?_
    refine q_i2l C dX7_row_8 (fun v3 => ?_)
    refine q_lconst C dX7_row_9 rfl (by decide) (fun v4 => ?_)
    refine q_ldc2 C kk_X7_332 dX7_row_10 (by decide) (fun v5 => ?_)
    refine q_c1i C (fun r h => cr_S (As := [.long v3, .long v4, .long v5]) (rest := []) C (m_X7_in l G F v3 v4 v5 σ r h) sb_X7_in kl_X7_103 ⟨Nat.le_of_ble_eq_true rfl, Nat.le_of_ble_eq_true rfl⟩ ⟨Nat.zero_le _, Nat.zero_le _⟩ hl.1 rfl (Nat.le_of_ble_eq_true rfl) dX7_row_13 rfl) (fun v6 => ?_)
    refine q_if_eq C 25 dX7_row_16 (by decide) ?_ ?_
    · refine q_bipush C dX7_row_25 rfl (by decide) (fun v7 => ?_)
      exact q_iretE C hr hlo dX7_row_27
    · refine q_iload_n C dX7_row_19 rfl (lv_at hl 3 rfl) ?_
      refine q_bipush C dX7_row_20 rfl (by decide) (fun v8 => ?_)
      refine q_icmp_le C 28 dX7_row_22 (by decide) ?_ ?_
      · refine q_iload_n C dX7_row_28 rfl (lv_at hl 3 rfl) ?_
        refine q_if_ge C 35 dX7_row_29 (by decide) ?_ ?_
        · refine q_aload_n C dX7_row_35 rfl (lv_at hl 0 rfl) ?_
          refine g_7_40 C hk0 kf_X7_85 dX7_row_36 ?_
          refine q_iload_n C dX7_row_39 rfl (lv_at hl 1 rfl) ?_
          refine q_iload_n C dX7_row_40 rfl (lv_at hl 3 rfl) ?_
          refine a_ist C (yk_7_40 hk0) (yl_7_40 hk0) dX7_row_41 (q_sg (fun σ1 => ?_))
          refine q_aload_n C dX7_row_42 rfl (lv_at hl 0 rfl) ?_
          refine g_7_41 C hk0 kf_X7_88 dX7_row_43 ?_
          refine q_iload_n C dX7_row_46 rfl (lv_at hl 1 rfl) ?_
          refine q_iload_n C dX7_row_47 rfl (lv_at hl 2 rfl) ?_
          refine a_ist C (yk_7_41 hk0) (yl_7_41 hk0) dX7_row_48 (q_sg (fun σ2 => ?_))
          refine q_iconst C dX7_row_49 rfl (by decide) (fun v9 => ?_)
          refine q_istore C [(4, .int v9), (0, .ref (gad G k0)), (1, .int a1), (2, .int a2), (3, .int a3)] dX7_row_50 hl (by decide) rfl (fun ls hl => ?_)
          exact B52 F v9 σ2 ls (lv_sub hl [1, 2, 0] rfl)
        · refine q_bipush C dX7_row_32 rfl (by decide) (fun v18 => ?_)
          exact q_iretE C hr hlo dX7_row_34
      · refine q_bipush C dX7_row_25 rfl (by decide) (fun v19 => ?_)
        exact q_iretE C hr hlo dX7_row_27
def f_X7_write (F : Nat) (k0 : Nat) (a1 : Int) (a2 : Int) (a3 : Int) (σ : St) : Option (Int × St) :=
  z_ob 7 k0 <| 
  z_c1 (f_X7_isSlot F a1 σ) fun v1 =>
  if ¬ v1 = 0 then (
    z_ix a1 4 <| z_gt (σ (k0 + 24) a1) fun v2 =>
    z_gt (-1) fun v3 =>
    if ¬ v2 = v3 then (
      z_gt a2 fun v4 =>
      z_gt 0 fun v5 =>
      z_ix a1 4 <| z_gt (σ (k0 + 24) a1) fun v6 =>
      z_gt 1 fun v7 =>
      z_ck (v6 - v7) fun v8 =>
      z_gt v8 fun v9 =>
      z_c1 (f_X7_in F v4 v5 v9 σ) fun v10 =>
      if ¬ v10 = 0 then (
        z_gt 60 fun v11 =>
        z_ck (v11 * a1) fun v12 =>
        z_ck (v12 + a2) fun v13 =>
        z_ix a1 4 <| z_gt (σ (k0 + 25) a1) fun v14 =>
        z_c1 (f_X7_clipped F a3 v14 σ) fun v15 =>
        z_ix v13 240 <| z_sg (z_up σ (k0 + 26) v13 v15) fun σ1 =>
        z_gt 0 fun v16 =>
        some (v16, σ1))
      else (
        z_gt (-7) fun v17 =>
        some (v17, σ)))
    else (
      z_gt (-6) fun v18 =>
      some (v18, σ)))
  else (
    z_gt (-2) fun v19 =>
    some (v19, σ))
theorem cb_X7_write : CB yX7_write cX7_write 5 (some .int) 3 := ⟨ki_X7_write, kq_X7_write, kn_X7, kc_X7_write, by decide +kernel, by decide +kernel, by decide +kernel⟩
set_option maxRecDepth 20000 in
set_option maxHeartbeats 4000000 in
theorem m_X7_write (l : Launch) (G : GG) (F : Nat) (k0 : Nat) (a1 : Int32) (a2 : Int32) (a3 : Int64) (σ : St) : ∀ r, f_X7_write F k0 a1.toInt a2.toInt a3.toInt σ = some r → MC G l yX7_write cX7_write 5 (some .int) { frames := 2, cells := 0, slots := 0, locals := 45 } [.ref (gad G k0), .int a1, .int a2, .long a3] σ (vI r.1) r.2 := by
  refine MC_of (own := RX7) (fun r : Int × St => vI r.1) (fun r : Int × St => r.2) (by decide +kernel) rfl (Nat.le_of_ble_eq_true rfl) ?_
  intro p e s m args below meth c C hr hlo ls hl
  have hl : lv_has ls 5 [(0, .ref (gad G k0)), (1, .int a1), (2, .int a2), (3, .long a3)] := hl
  unfold f_X7_write
  refine q_ob (fun hk0 => ?_)
  refine q_iload_n C dX7_write_0 rfl (lv_at hl 1 rfl) ?_
  refine q_c1i C (fun r h => cr_S (As := [.int a1]) (rest := []) C (m_X7_isSlot l G F a1 σ r h) sb_X7_isSlot kl_X7_412 ⟨Nat.le_of_ble_eq_true rfl, Nat.le_of_ble_eq_true rfl⟩ ⟨Nat.zero_le _, Nat.zero_le _⟩ hl.1 rfl (Nat.le_of_ble_eq_true rfl) dX7_write_1 rfl) (fun v1 => ?_)
  refine q_if_ne C 10 dX7_write_4 (by decide) ?_ ?_
  · refine q_aload_n C dX7_write_10 rfl (lv_at hl 0 rfl) ?_
    refine g_7_40 C hk0 kf_X7_85 dX7_write_11 ?_
    refine q_iload_n C dX7_write_14 rfl (lv_at hl 1 rfl) ?_
    refine a_ild C (yk_7_40 hk0) (yl_7_40 hk0) dX7_write_15 (fun v2 => ?_)
    refine q_iconst C dX7_write_16 rfl (by decide) (fun v3 => ?_)
    refine q_icmp_ne C 23 dX7_write_17 (by decide) ?_ ?_
    · refine q_iload_n C dX7_write_23 rfl (lv_at hl 2 rfl) ?_
      refine q_i2l C dX7_write_24 (fun v4 => ?_)
      refine q_lconst C dX7_write_25 rfl (by decide) (fun v5 => ?_)
      refine q_aload_n C dX7_write_26 rfl (lv_at hl 0 rfl) ?_
      refine g_7_40 C hk0 kf_X7_85 dX7_write_27 ?_
      refine q_iload_n C dX7_write_30 rfl (lv_at hl 1 rfl) ?_
      refine a_ild C (yk_7_40 hk0) (yl_7_40 hk0) dX7_write_31 (fun v6 => ?_)
      refine q_iconst C dX7_write_32 rfl (by decide) (fun v7 => ?_)
      refine q_isub C dX7_write_33 (fun v8 => ?_)
      refine q_i2l C dX7_write_34 (fun v9 => ?_)
      refine q_c1i C (fun r h => cr_S (As := [.long v4, .long v5, .long v9]) (rest := []) C (m_X7_in l G F v4 v5 v9 σ r h) sb_X7_in kl_X7_103 ⟨Nat.le_of_ble_eq_true rfl, Nat.le_of_ble_eq_true rfl⟩ ⟨Nat.zero_le _, Nat.zero_le _⟩ hl.1 rfl (Nat.le_of_ble_eq_true rfl) dX7_write_35 rfl) (fun v10 => ?_)
      refine q_if_ne C 44 dX7_write_38 (by decide) ?_ ?_
      · refine q_aload_n C dX7_write_44 rfl (lv_at hl 0 rfl) ?_
        refine g_7_42 C hk0 kf_X7_91 dX7_write_45 ?_
        refine q_bipush C dX7_write_48 rfl (by decide) (fun v11 => ?_)
        refine q_iload_n C dX7_write_50 rfl (lv_at hl 1 rfl) ?_
        refine q_imul C dX7_write_51 (fun v12 => ?_)
        refine q_iload_n C dX7_write_52 rfl (lv_at hl 2 rfl) ?_
        refine q_iadd C dX7_write_53 (fun v13 => ?_)
        refine q_lload_n C dX7_write_54 rfl (lv_at hl 3 rfl) ?_
        refine q_aload_n C dX7_write_55 rfl (lv_at hl 0 rfl) ?_
        refine g_7_41 C hk0 kf_X7_88 dX7_write_56 ?_
        refine q_iload_n C dX7_write_59 rfl (lv_at hl 1 rfl) ?_
        refine a_ild C (yk_7_41 hk0) (yl_7_41 hk0) dX7_write_60 (fun v14 => ?_)
        refine q_c1l C (fun r h => cr_S (As := [.long a3, .int v14]) (rest := [.int v13, .ref (gad G (k0 + 26))]) C (m_X7_clipped l G F a3 v14 σ r h) sb_X7_clipped kl_X7_521 ⟨Nat.le_of_ble_eq_true rfl, Nat.le_of_ble_eq_true rfl⟩ ⟨Nat.zero_le _, Nat.zero_le _⟩ hl.1 rfl (Nat.le_of_ble_eq_true rfl) dX7_write_61 rfl) (fun v15 => ?_)
        refine a_lst C (yk_7_42 hk0) (yl_7_42 hk0) dX7_write_64 (q_sg (fun σ1 => ?_))
        refine q_iconst C dX7_write_65 rfl (by decide) (fun v16 => ?_)
        exact q_iretE C hr hlo dX7_write_66
      · refine q_bipush C dX7_write_41 rfl (by decide) (fun v17 => ?_)
        exact q_iretE C hr hlo dX7_write_43
    · refine q_bipush C dX7_write_20 rfl (by decide) (fun v18 => ?_)
      exact q_iretE C hr hlo dX7_write_22
  · refine q_bipush C dX7_write_7 rfl (by decide) (fun v19 => ?_)
    exact q_iretE C hr hlo dX7_write_9
def f_X7_paste_L150 (F : Nat) (k0 : Nat) (a1 : Int) (a2 : Int) (a3 : Int) (a4 : Int) (a5 : Int)   : Nat → Int → St → Option (Int × St)
  | 0, _, _ => none
  | n + 1, x30, σ =>
    if a5 ≤ x30 then (
      z_gt 0 fun v31 =>
      some (v31, σ))
    else (
      z_gt 60 fun v32 =>
      z_ck (v32 * a3) fun v33 =>
      z_ck (v33 + a4) fun v34 =>
      z_ck (v34 + x30) fun v35 =>
      z_ix x30 60 <| z_gt (σ (k0 + 27) x30) fun v36 =>
      z_ix v35 240 <| z_sg (z_up σ (k0 + 26) v35 v36) fun σ1 =>
      z_ck (x30 + 1) fun v37 =>
      f_X7_paste_L150 F k0 a1 a2 a3 a4 a5 n v37 σ1)

def f_X7_paste_L113 (F : Nat) (k0 : Nat) (a1 : Int) (a2 : Int) (a3 : Int) (a4 : Int) (a5 : Int)   : Nat → Int → St → Option (Int × St)
  | 0, _, _ => none
  | n + 1, x28, σ =>
    if a5 ≤ x28 then (
      z_gt 0 fun v29 =>
      f_X7_paste_L150 F k0 a1 a2 a3 a4 a5 F v29 σ)
    else (
      z_gt 60 fun v38 =>
      z_ck (v38 * a1) fun v39 =>
      z_ck (v39 + a2) fun v40 =>
      z_ck (v40 + x28) fun v41 =>
      z_ix v41 240 <| z_gt (σ (k0 + 26) v41) fun v42 =>
      z_ix x28 60 <| z_sg (z_up σ (k0 + 27) x28 v42) fun σ2 =>
      z_ck (x28 + 1) fun v43 =>
      f_X7_paste_L113 F k0 a1 a2 a3 a4 a5 n v43 σ2)

def f_X7_paste (F : Nat) (k0 : Nat) (a1 : Int) (a2 : Int) (a3 : Int) (a4 : Int) (a5 : Int) (σ : St) : Option (Int × St) :=
  z_ob 7 k0 <| 
  z_c1 (f_X7_isSlot F a1 σ) fun v1 =>
  if v1 = 0 then (
    z_gt (-2) fun v2 =>
    some (v2, σ))
  else (
    z_c1 (f_X7_isSlot F a3 σ) fun v3 =>
    if ¬ v3 = 0 then (
      z_ix a1 4 <| z_gt (σ (k0 + 24) a1) fun v4 =>
      z_gt (-1) fun v5 =>
      if v4 = v5 then (
        z_gt (-6) fun v6 =>
        some (v6, σ))
      else (
        z_ix a3 4 <| z_gt (σ (k0 + 24) a3) fun v7 =>
        z_gt (-1) fun v8 =>
        if ¬ v7 = v8 then (
          z_ix a1 4 <| z_gt (σ (k0 + 25) a1) fun v9 =>
          z_ix a3 4 <| z_gt (σ (k0 + 25) a3) fun v10 =>
          if v9 = v10 then (
            if a2 < 0 then (
              z_gt (-7) fun v11 =>
              some (v11, σ))
            else (
              if a4 < 0 then (
                z_gt (-7) fun v12 =>
                some (v12, σ))
              else (
                if a5 < 0 then (
                  z_gt (-7) fun v13 =>
                  some (v13, σ))
                else (
                  z_gt a2 fun v14 =>
                  z_gt a5 fun v15 =>
                  z_lk (v14 + v15) fun v16 =>
                  z_ix a1 4 <| z_gt (σ (k0 + 24) a1) fun v17 =>
                  z_gt v17 fun v18 =>
                  z_gt (z_cmp v16 v18) fun v19 =>
                  if 0 < v19 then (
                    z_gt (-7) fun v20 =>
                    some (v20, σ))
                  else (
                    z_gt a4 fun v21 =>
                    z_gt a5 fun v22 =>
                    z_lk (v21 + v22) fun v23 =>
                    z_ix a3 4 <| z_gt (σ (k0 + 24) a3) fun v24 =>
                    z_gt v24 fun v25 =>
                    z_gt (z_cmp v23 v25) fun v26 =>
                    if v26 ≤ 0 then (
                      z_gt 0 fun v27 =>
                      f_X7_paste_L113 F k0 a1 a2 a3 a4 a5 F v27 σ)
                    else (
                      z_gt (-7) fun v44 =>
                      some (v44, σ)))))))
          else (
            z_gt (-8) fun v45 =>
            some (v45, σ)))
        else (
          z_gt (-6) fun v46 =>
          some (v46, σ))))
    else (
      z_gt (-2) fun v47 =>
      some (v47, σ)))
theorem cb_X7_paste : CB yX7_paste cX7_paste 7 (some .int) 5 := ⟨ki_X7_paste, kq_X7_paste, kn_X7, kc_X7_paste, by decide +kernel, by decide +kernel, by decide +kernel⟩
set_option maxRecDepth 20000 in
set_option maxHeartbeats 4000000 in
theorem m_X7_paste (l : Launch) (G : GG) (F : Nat) (k0 : Nat) (a1 : Int32) (a2 : Int32) (a3 : Int32) (a4 : Int32) (a5 : Int32) (σ : St) : ∀ r, f_X7_paste F k0 a1.toInt a2.toInt a3.toInt a4.toInt a5.toInt σ = some r → MC G l yX7_paste cX7_paste 7 (some .int) { frames := 2, cells := 0, slots := 0, locals := 45 } [.ref (gad G k0), .int a1, .int a2, .int a3, .int a4, .int a5] σ (vI r.1) r.2 := by
  refine MC_of (own := RX7) (fun r : Int × St => vI r.1) (fun r : Int × St => r.2) (by decide +kernel) rfl (Nat.le_of_ble_eq_true rfl) ?_
  intro p e s m args below meth c C hr hlo ls hl
  have hl : lv_has ls 7 [(0, .ref (gad G k0)), (1, .int a1), (2, .int a2), (3, .int a3), (4, .int a4), (5, .int a5)] := hl
  unfold f_X7_paste
  refine q_ob (fun hk0 => ?_)
  have B150 : ∀ (n : Nat) (x30 : Int32) (σ : St) (ls : Array Slot), lv_has ls 7 [(0, .ref (gad G k0)), (3, .int a3), (4, .int a4), (5, .int a5), (6, .int x30)] → Sim G (AG G) 0 0 p l e { frames := 2, cells := 0, slots := 0, locals := 45 } s m args below meth c (fun r : Int × St => MQ below (QC G (vI r.1) (r.2)) args s 0 0 (AG G)) σ (f_X7_paste_L150 F k0 a1.toInt a2.toInt a3.toInt a4.toInt a5.toInt   n x30.toInt σ) (F0 m 150 ls []) := by
    intro n
    induction n with
    | zero =>
      intro x30 σ ls hl
      exact sim_none
    | succ n ih =>
      intro x30 σ ls hl
      rw [f_X7_paste_L150]
      refine q_iload C dX7_paste_150 (lv_at hl 4 rfl) ?_
      refine q_iload C dX7_paste_152 (lv_at hl 3 rfl) ?_
      refine q_icmp_ge C 185 dX7_paste_154 (by decide) ?_ ?_
      · refine q_iconst C dX7_paste_185 rfl (by decide) (fun v31 => ?_)
        exact q_iretE C hr hlo dX7_paste_186
      · refine q_aload_n C dX7_paste_157 rfl (lv_at hl 0 rfl) ?_
        refine g_7_42 C hk0 kf_X7_91 dX7_paste_158 ?_
        refine q_bipush C dX7_paste_161 rfl (by decide) (fun v32 => ?_)
        refine q_iload_n C dX7_paste_163 rfl (lv_at hl 1 rfl) ?_
        refine q_imul C dX7_paste_164 (fun v33 => ?_)
        refine q_iload C dX7_paste_165 (lv_at hl 2 rfl) ?_
        refine q_iadd C dX7_paste_167 (fun v34 => ?_)
        refine q_iload C dX7_paste_168 (lv_at hl 4 rfl) ?_
        refine q_iadd C dX7_paste_170 (fun v35 => ?_)
        refine q_aload_n C dX7_paste_171 rfl (lv_at hl 0 rfl) ?_
        refine g_7_43 C hk0 kf_X7_95 dX7_paste_172 ?_
        refine q_iload C dX7_paste_175 (lv_at hl 4 rfl) ?_
        refine a_lld C (yk_7_43 hk0) (yl_7_43 hk0) dX7_paste_177 (fun v36 => ?_)
        refine a_lst C (yk_7_42 hk0) (yl_7_42 hk0) dX7_paste_178 (q_sg (fun σ1 => ?_))
        refine q_iinc (k := 4) C (fun v37 => [(6, .int v37), (0, .ref (gad G k0)), (3, .int a3), (4, .int a4), (5, .int a5)]) dX7_paste_179 hl rfl (by decide) (by decide) (fun _ => rfl) (fun v37 ls hl => ?_)
        refine q_goto C 150 dX7_paste_182 (by decide) ?_
        exact ih v37 σ1 ls (lv_sub hl [1, 2, 3, 4, 0] rfl)
  have B113 : ∀ (n : Nat) (x28 : Int32) (σ : St) (ls : Array Slot), lv_has ls 7 [(0, .ref (gad G k0)), (1, .int a1), (2, .int a2), (3, .int a3), (4, .int a4), (5, .int a5), (6, .int x28)] → Sim G (AG G) 0 0 p l e { frames := 2, cells := 0, slots := 0, locals := 45 } s m args below meth c (fun r : Int × St => MQ below (QC G (vI r.1) (r.2)) args s 0 0 (AG G)) σ (f_X7_paste_L113 F k0 a1.toInt a2.toInt a3.toInt a4.toInt a5.toInt   n x28.toInt σ) (F0 m 113 ls []) := by
    intro n
    induction n with
    | zero =>
      intro x28 σ ls hl
      exact sim_none
    | succ n ih =>
      intro x28 σ ls hl
      rw [f_X7_paste_L113]
      refine q_iload C dX7_paste_113 (lv_at hl 6 rfl) ?_
      refine q_iload C dX7_paste_115 (lv_at hl 5 rfl) ?_
      refine q_icmp_ge C 147 dX7_paste_117 (by decide) ?_ ?_
      · refine q_iconst C dX7_paste_147 rfl (by decide) (fun v29 => ?_)
        refine q_istore C [(6, .int v29), (0, .ref (gad G k0)), (1, .int a1), (2, .int a2), (3, .int a3), (4, .int a4), (5, .int a5)] dX7_paste_148 hl (by decide) rfl (fun ls hl => ?_)
        exact B150 F v29 σ ls (lv_sub hl [1, 4, 5, 6, 0] rfl)
      · refine q_aload_n C dX7_paste_120 rfl (lv_at hl 0 rfl) ?_
        refine g_7_43 C hk0 kf_X7_95 dX7_paste_121 ?_
        refine q_iload C dX7_paste_124 (lv_at hl 6 rfl) ?_
        refine q_aload_n C dX7_paste_126 rfl (lv_at hl 0 rfl) ?_
        refine g_7_42 C hk0 kf_X7_91 dX7_paste_127 ?_
        refine q_bipush C dX7_paste_130 rfl (by decide) (fun v38 => ?_)
        refine q_iload_n C dX7_paste_132 rfl (lv_at hl 1 rfl) ?_
        refine q_imul C dX7_paste_133 (fun v39 => ?_)
        refine q_iload_n C dX7_paste_134 rfl (lv_at hl 2 rfl) ?_
        refine q_iadd C dX7_paste_135 (fun v40 => ?_)
        refine q_iload C dX7_paste_136 (lv_at hl 6 rfl) ?_
        refine q_iadd C dX7_paste_138 (fun v41 => ?_)
        refine a_lld C (yk_7_42 hk0) (yl_7_42 hk0) dX7_paste_139 (fun v42 => ?_)
        refine a_lst C (yk_7_43 hk0) (yl_7_43 hk0) dX7_paste_140 (q_sg (fun σ2 => ?_))
        refine q_iinc (k := 6) C (fun v43 => [(6, .int v43), (0, .ref (gad G k0)), (1, .int a1), (2, .int a2), (3, .int a3), (4, .int a4), (5, .int a5)]) dX7_paste_141 hl rfl (by decide) (by decide) (fun _ => rfl) (fun v43 ls hl => ?_)
        refine q_goto C 113 dX7_paste_144 (by decide) ?_
        exact ih v43 σ2 ls (lv_sub hl [1, 2, 3, 4, 5, 6, 0] rfl)
  refine q_iload_n C dX7_paste_0 rfl (lv_at hl 1 rfl) ?_
  refine q_c1i C (fun r h => cr_S (As := [.int a1]) (rest := []) C (m_X7_isSlot l G F a1 σ r h) sb_X7_isSlot kl_X7_412 ⟨Nat.le_of_ble_eq_true rfl, Nat.le_of_ble_eq_true rfl⟩ ⟨Nat.zero_le _, Nat.zero_le _⟩ hl.1 rfl (Nat.le_of_ble_eq_true rfl) dX7_paste_1 rfl) (fun v1 => ?_)
  refine q_if_eq C 14 dX7_paste_4 (by decide) ?_ ?_
  · refine q_bipush C dX7_paste_14 rfl (by decide) (fun v2 => ?_)
    exact q_iretE C hr hlo dX7_paste_16
  · refine q_iload_n C dX7_paste_7 rfl (lv_at hl 3 rfl) ?_
    refine q_c1i C (fun r h => cr_S (As := [.int a3]) (rest := []) C (m_X7_isSlot l G F a3 σ r h) sb_X7_isSlot kl_X7_412 ⟨Nat.le_of_ble_eq_true rfl, Nat.le_of_ble_eq_true rfl⟩ ⟨Nat.zero_le _, Nat.zero_le _⟩ hl.1 rfl (Nat.le_of_ble_eq_true rfl) dX7_paste_8 rfl) (fun v3 => ?_)
    refine q_if_ne C 17 dX7_paste_11 (by decide) ?_ ?_
    · refine q_aload_n C dX7_paste_17 rfl (lv_at hl 0 rfl) ?_
      refine g_7_40 C hk0 kf_X7_85 dX7_paste_18 ?_
      refine q_iload_n C dX7_paste_21 rfl (lv_at hl 1 rfl) ?_
      refine a_ild C (yk_7_40 hk0) (yl_7_40 hk0) dX7_paste_22 (fun v4 => ?_)
      refine q_iconst C dX7_paste_23 rfl (by decide) (fun v5 => ?_)
      refine q_icmp_eq C 37 dX7_paste_24 (by decide) ?_ ?_
      · refine q_bipush C dX7_paste_37 rfl (by decide) (fun v6 => ?_)
        exact q_iretE C hr hlo dX7_paste_39
      · refine q_aload_n C dX7_paste_27 rfl (lv_at hl 0 rfl) ?_
        refine g_7_40 C hk0 kf_X7_85 dX7_paste_28 ?_
        refine q_iload_n C dX7_paste_31 rfl (lv_at hl 3 rfl) ?_
        refine a_ild C (yk_7_40 hk0) (yl_7_40 hk0) dX7_paste_32 (fun v7 => ?_)
        refine q_iconst C dX7_paste_33 rfl (by decide) (fun v8 => ?_)
        refine q_icmp_ne C 40 dX7_paste_34 (by decide) ?_ ?_
        · refine q_aload_n C dX7_paste_40 rfl (lv_at hl 0 rfl) ?_
          refine g_7_41 C hk0 kf_X7_88 dX7_paste_41 ?_
          refine q_iload_n C dX7_paste_44 rfl (lv_at hl 1 rfl) ?_
          refine a_ild C (yk_7_41 hk0) (yl_7_41 hk0) dX7_paste_45 (fun v9 => ?_)
          refine q_aload_n C dX7_paste_46 rfl (lv_at hl 0 rfl) ?_
          refine g_7_41 C hk0 kf_X7_88 dX7_paste_47 ?_
          refine q_iload_n C dX7_paste_50 rfl (lv_at hl 3 rfl) ?_
          refine a_ild C (yk_7_41 hk0) (yl_7_41 hk0) dX7_paste_51 (fun v10 => ?_)
          refine q_icmp_eq C 58 dX7_paste_52 (by decide) ?_ ?_
          · refine q_iload_n C dX7_paste_58 rfl (lv_at hl 2 rfl) ?_
            refine q_if_lt C 107 dX7_paste_59 (by decide) ?_ ?_
            · refine q_bipush C dX7_paste_107 rfl (by decide) (fun v11 => ?_)
              exact q_iretE C hr hlo dX7_paste_109
            · refine q_iload C dX7_paste_62 (lv_at hl 4 rfl) ?_
              refine q_if_lt C 107 dX7_paste_64 (by decide) ?_ ?_
              · refine q_bipush C dX7_paste_107 rfl (by decide) (fun v12 => ?_)
                exact q_iretE C hr hlo dX7_paste_109
              · refine q_iload C dX7_paste_67 (lv_at hl 5 rfl) ?_
                refine q_if_lt C 107 dX7_paste_69 (by decide) ?_ ?_
                · refine q_bipush C dX7_paste_107 rfl (by decide) (fun v13 => ?_)
                  exact q_iretE C hr hlo dX7_paste_109
                · refine q_iload_n C dX7_paste_72 rfl (lv_at hl 2 rfl) ?_
                  refine q_i2l C dX7_paste_73 (fun v14 => ?_)
                  refine q_iload C dX7_paste_74 (lv_at hl 5 rfl) ?_
                  refine q_i2l C dX7_paste_76 (fun v15 => ?_)
                  refine q_ladd C dX7_paste_77 (fun v16 => ?_)
                  refine q_aload_n C dX7_paste_78 rfl (lv_at hl 0 rfl) ?_
                  refine g_7_40 C hk0 kf_X7_85 dX7_paste_79 ?_
                  refine q_iload_n C dX7_paste_82 rfl (lv_at hl 1 rfl) ?_
                  refine a_ild C (yk_7_40 hk0) (yl_7_40 hk0) dX7_paste_83 (fun v17 => ?_)
                  refine q_i2l C dX7_paste_84 (fun v18 => ?_)
                  refine q_lcmp C dX7_paste_85 (fun v19 => ?_)
                  refine q_if_gt C 107 dX7_paste_86 (by decide) ?_ ?_
                  · refine q_bipush C dX7_paste_107 rfl (by decide) (fun v20 => ?_)
                    exact q_iretE C hr hlo dX7_paste_109
                  · refine q_iload C dX7_paste_89 (lv_at hl 4 rfl) ?_
                    refine q_i2l C dX7_paste_91 (fun v21 => ?_)
                    refine q_iload C dX7_paste_92 (lv_at hl 5 rfl) ?_
                    refine q_i2l C dX7_paste_94 (fun v22 => ?_)
                    refine q_ladd C dX7_paste_95 (fun v23 => ?_)
                    refine q_aload_n C dX7_paste_96 rfl (lv_at hl 0 rfl) ?_
                    refine g_7_40 C hk0 kf_X7_85 dX7_paste_97 ?_
                    refine q_iload_n C dX7_paste_100 rfl (lv_at hl 3 rfl) ?_
                    refine a_ild C (yk_7_40 hk0) (yl_7_40 hk0) dX7_paste_101 (fun v24 => ?_)
                    refine q_i2l C dX7_paste_102 (fun v25 => ?_)
                    refine q_lcmp C dX7_paste_103 (fun v26 => ?_)
                    refine q_if_le C 110 dX7_paste_104 (by decide) ?_ ?_
                    · refine q_iconst C dX7_paste_110 rfl (by decide) (fun v27 => ?_)
                      refine q_istore C [(6, .int v27), (0, .ref (gad G k0)), (1, .int a1), (2, .int a2), (3, .int a3), (4, .int a4), (5, .int a5)] dX7_paste_111 hl (by decide) rfl (fun ls hl => ?_)
                      exact B113 F v27 σ ls (lv_sub hl [1, 2, 3, 4, 5, 6, 0] rfl)
                    · refine q_bipush C dX7_paste_107 rfl (by decide) (fun v44 => ?_)
                      exact q_iretE C hr hlo dX7_paste_109
          · refine q_bipush C dX7_paste_55 rfl (by decide) (fun v45 => ?_)
            exact q_iretE C hr hlo dX7_paste_57
        · refine q_bipush C dX7_paste_37 rfl (by decide) (fun v46 => ?_)
          exact q_iretE C hr hlo dX7_paste_39
    · refine q_bipush C dX7_paste_14 rfl (by decide) (fun v47 => ?_)
      exact q_iretE C hr hlo dX7_paste_16
